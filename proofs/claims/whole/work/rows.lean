section
-- ===== PART A: goes FIRST, ahead of the names: the tables' words, and 'selects' of the private methods out of them =====
/-- a private method of a class that the tables say can be made, by its rows of tables_1 -/
def lw_okq (q : MethodName × Nat) : Prop := (q.1.cls ≠ "java/lang/invoke/MethodHandle" ∧ q.1.cls ≠ "java/lang/invoke/VarHandle") ∧ Cond.instantiable q.1.cls q.2 ∈ tables_1 ∧ Cond.privateMethod q.1 ∈ tables_1 ∧ Cond.instanceMethod q.1 ∈ tables_1
theorem lw_p0 : lw_okq (⟨"StealingArms", "isArm", "(I)Z"⟩, 6) := ⟨⟨by decide +kernel, by decide +kernel⟩, List.mem_of_getElem? (i := 13) (by decide +kernel), List.mem_of_getElem? (i := 316) (by decide +kernel), List.mem_of_getElem? (i := 317) (by decide +kernel)⟩
theorem lw_p1 : lw_okq (⟨"StealingArms$Text", "goesOn", "(I)Z"⟩, 10) := ⟨⟨by decide +kernel, by decide +kernel⟩, List.mem_of_getElem? (i := 198) (by decide +kernel), List.mem_of_getElem? (i := 324) (by decide +kernel), List.mem_of_getElem? (i := 325) (by decide +kernel)⟩
theorem lw_p2 : lw_okq (⟨"StealingArms$Text", "begin", "(I)Z"⟩, 10) := ⟨⟨by decide +kernel, by decide +kernel⟩, List.mem_of_getElem? (i := 198) (by decide +kernel), List.mem_of_getElem? (i := 328) (by decide +kernel), List.mem_of_getElem? (i := 329) (by decide +kernel)⟩
theorem lw_p3 : lw_okq (⟨"StealingArms$Text", "marks", "(I)Z"⟩, 10) := ⟨⟨by decide +kernel, by decide +kernel⟩, List.mem_of_getElem? (i := 198) (by decide +kernel), List.mem_of_getElem? (i := 332) (by decide +kernel), List.mem_of_getElem? (i := 333) (by decide +kernel)⟩
theorem lw_p4 : lw_okq (⟨"StealingArms$Text", "opens", "()Z"⟩, 10) := ⟨⟨by decide +kernel, by decide +kernel⟩, List.mem_of_getElem? (i := 198) (by decide +kernel), List.mem_of_getElem? (i := 336) (by decide +kernel), List.mem_of_getElem? (i := 337) (by decide +kernel)⟩
theorem lw_p5 : lw_okq (⟨"StealingArms$Text", "separates", "()Z"⟩, 10) := ⟨⟨by decide +kernel, by decide +kernel⟩, List.mem_of_getElem? (i := 198) (by decide +kernel), List.mem_of_getElem? (i := 340) (by decide +kernel), List.mem_of_getElem? (i := 341) (by decide +kernel)⟩
theorem lw_p6 : lw_okq (⟨"StealingArms$Text", "closes", "()Z"⟩, 10) := ⟨⟨by decide +kernel, by decide +kernel⟩, List.mem_of_getElem? (i := 198) (by decide +kernel), List.mem_of_getElem? (i := 344) (by decide +kernel), List.mem_of_getElem? (i := 345) (by decide +kernel)⟩
theorem lw_p7 : lw_okq (⟨"StealingArms$World", "takeOne", "(I)V"⟩, 9) := ⟨⟨by decide +kernel, by decide +kernel⟩, List.mem_of_getElem? (i := 21) (by decide +kernel), List.mem_of_getElem? (i := 416) (by decide +kernel), List.mem_of_getElem? (i := 417) (by decide +kernel)⟩
theorem lw_p8 : lw_okq (⟨"StealingArms$World", "drawnArm", "(I)I"⟩, 9) := ⟨⟨by decide +kernel, by decide +kernel⟩, List.mem_of_getElem? (i := 21) (by decide +kernel), List.mem_of_getElem? (i := 425) (by decide +kernel), List.mem_of_getElem? (i := 426) (by decide +kernel)⟩
theorem lw_p9 : lw_okq (⟨"StealingArms$World", "endsByItself", "(II)Z"⟩, 9) := ⟨⟨by decide +kernel, by decide +kernel⟩, List.mem_of_getElem? (i := 21) (by decide +kernel), List.mem_of_getElem? (i := 446) (by decide +kernel), List.mem_of_getElem? (i := 447) (by decide +kernel)⟩
theorem lw_p10 : lw_okq (⟨"StealingArms$World", "tellUpward", "(I)V"⟩, 9) := ⟨⟨by decide +kernel, by decide +kernel⟩, List.mem_of_getElem? (i := 21) (by decide +kernel), List.mem_of_getElem? (i := 462) (by decide +kernel), List.mem_of_getElem? (i := 463) (by decide +kernel)⟩
theorem lw_p11 : lw_okq (⟨"StealingArms$World", "cancelFrom", "(II)I"⟩, 9) := ⟨⟨by decide +kernel, by decide +kernel⟩, List.mem_of_getElem? (i := 21) (by decide +kernel), List.mem_of_getElem? (i := 470) (by decide +kernel), List.mem_of_getElem? (i := 471) (by decide +kernel)⟩
theorem lw_p12 : lw_okq (⟨"StealingArms", "roundsTillOver", "(I)I"⟩, 6) := ⟨⟨by decide +kernel, by decide +kernel⟩, List.mem_of_getElem? (i := 13) (by decide +kernel), List.mem_of_getElem? (i := 493) (by decide +kernel), List.mem_of_getElem? (i := 494) (by decide +kernel)⟩
theorem lw_p13 : lw_okq (⟨"StealingArms", "bestArms", "()I"⟩, 6) := ⟨⟨by decide +kernel, by decide +kernel⟩, List.mem_of_getElem? (i := 13) (by decide +kernel), List.mem_of_getElem? (i := 527) (by decide +kernel), List.mem_of_getElem? (i := 528) (by decide +kernel)⟩
theorem lw_p14 : lw_okq (⟨"StealingArms", "isAsSeen", "(I)Z"⟩, 6) := ⟨⟨by decide +kernel, by decide +kernel⟩, List.mem_of_getElem? (i := 13) (by decide +kernel), List.mem_of_getElem? (i := 579) (by decide +kernel), List.mem_of_getElem? (i := 580) (by decide +kernel)⟩
theorem lw_p15 : lw_okq (⟨"StealingArms", "isTape", "(I)Z"⟩, 6) := ⟨⟨by decide +kernel, by decide +kernel⟩, List.mem_of_getElem? (i := 13) (by decide +kernel), List.mem_of_getElem? (i := 637) (by decide +kernel), List.mem_of_getElem? (i := 638) (by decide +kernel)⟩
def lw_privs_1 : List (MethodName × Nat) := [(⟨"StealingArms", "isArm", "(I)Z"⟩, 6), (⟨"StealingArms$Text", "goesOn", "(I)Z"⟩, 10), (⟨"StealingArms$Text", "begin", "(I)Z"⟩, 10), (⟨"StealingArms$Text", "marks", "(I)Z"⟩, 10), (⟨"StealingArms$Text", "opens", "()Z"⟩, 10), (⟨"StealingArms$Text", "separates", "()Z"⟩, 10), (⟨"StealingArms$Text", "closes", "()Z"⟩, 10), (⟨"StealingArms$World", "takeOne", "(I)V"⟩, 9), (⟨"StealingArms$World", "drawnArm", "(I)I"⟩, 9), (⟨"StealingArms$World", "endsByItself", "(II)Z"⟩, 9), (⟨"StealingArms$World", "tellUpward", "(I)V"⟩, 9), (⟨"StealingArms$World", "cancelFrom", "(II)I"⟩, 9), (⟨"StealingArms", "roundsTillOver", "(I)I"⟩, 6), (⟨"StealingArms", "bestArms", "()I"⟩, 6), (⟨"StealingArms", "isAsSeen", "(I)Z"⟩, 6), (⟨"StealingArms", "isTape", "(I)Z"⟩, 6)]
theorem lw_r1 : ∀ q ∈ lw_privs_1, lw_okq q := List.forall_mem_cons.mpr ⟨lw_p0, List.forall_mem_cons.mpr ⟨lw_p1, List.forall_mem_cons.mpr ⟨lw_p2, List.forall_mem_cons.mpr ⟨lw_p3, List.forall_mem_cons.mpr ⟨lw_p4, List.forall_mem_cons.mpr ⟨lw_p5, List.forall_mem_cons.mpr ⟨lw_p6, List.forall_mem_cons.mpr ⟨lw_p7, List.forall_mem_cons.mpr ⟨lw_p8, List.forall_mem_cons.mpr ⟨lw_p9, List.forall_mem_cons.mpr ⟨lw_p10, List.forall_mem_cons.mpr ⟨lw_p11, List.forall_mem_cons.mpr ⟨lw_p12, List.forall_mem_cons.mpr ⟨lw_p13, List.forall_mem_cons.mpr ⟨lw_p14, List.forall_mem_cons.mpr ⟨lw_p15, fun _ h => absurd h List.not_mem_nil⟩⟩⟩⟩⟩⟩⟩⟩⟩⟩⟩⟩⟩⟩⟩⟩
theorem lw_p16 : lw_okq (⟨"StealingArmsModel", "carryAll", "([IZ)V"⟩, 55) := ⟨⟨by decide +kernel, by decide +kernel⟩, List.mem_of_getElem? (i := 678) (by decide +kernel), List.mem_of_getElem? (i := 855) (by decide +kernel), List.mem_of_getElem? (i := 856) (by decide +kernel)⟩
theorem lw_p17 : lw_okq (⟨"StealingArmsModel", "carry", "(I)I"⟩, 55) := ⟨⟨by decide +kernel, by decide +kernel⟩, List.mem_of_getElem? (i := 678) (by decide +kernel), List.mem_of_getElem? (i := 859) (by decide +kernel), List.mem_of_getElem? (i := 860) (by decide +kernel)⟩
theorem lw_p18 : lw_okq (⟨"StealingArmsModel", "carryTold", "()V"⟩, 55) := ⟨⟨by decide +kernel, by decide +kernel⟩, List.mem_of_getElem? (i := 678) (by decide +kernel), List.mem_of_getElem? (i := 863) (by decide +kernel), List.mem_of_getElem? (i := 864) (by decide +kernel)⟩
theorem lw_p19 : lw_okq (⟨"StealingArmsModel", "becomeArms", "(I)V"⟩, 55) := ⟨⟨by decide +kernel, by decide +kernel⟩, List.mem_of_getElem? (i := 678) (by decide +kernel), List.mem_of_getElem? (i := 879) (by decide +kernel), List.mem_of_getElem? (i := 880) (by decide +kernel)⟩
theorem lw_p20 : lw_okq (⟨"StealingArmsModel", "comesTo", "(II)V"⟩, 55) := ⟨⟨by decide +kernel, by decide +kernel⟩, List.mem_of_getElem? (i := 678) (by decide +kernel), List.mem_of_getElem? (i := 883) (by decide +kernel), List.mem_of_getElem? (i := 884) (by decide +kernel)⟩
theorem lw_p21 : lw_okq (⟨"StealingArmsModel", "isArm", "(I)Z"⟩, 55) := ⟨⟨by decide +kernel, by decide +kernel⟩, List.mem_of_getElem? (i := 678) (by decide +kernel), List.mem_of_getElem? (i := 900) (by decide +kernel), List.mem_of_getElem? (i := 901) (by decide +kernel)⟩
theorem lw_p22 : lw_okq (⟨"StealingArmsModel", "readTree", "()Z"⟩, 55) := ⟨⟨by decide +kernel, by decide +kernel⟩, List.mem_of_getElem? (i := 678) (by decide +kernel), List.mem_of_getElem? (i := 904) (by decide +kernel), List.mem_of_getElem? (i := 905) (by decide +kernel)⟩
theorem lw_p23 : lw_okq (⟨"StealingArmsModel", "readTask", "()V"⟩, 55) := ⟨⟨by decide +kernel, by decide +kernel⟩, List.mem_of_getElem? (i := 678) (by decide +kernel), List.mem_of_getElem? (i := 908) (by decide +kernel), List.mem_of_getElem? (i := 909) (by decide +kernel)⟩
theorem lw_p24 : lw_okq (⟨"StealingArmsModel", "here", "()I"⟩, 55) := ⟨⟨by decide +kernel, by decide +kernel⟩, List.mem_of_getElem? (i := 678) (by decide +kernel), List.mem_of_getElem? (i := 912) (by decide +kernel), List.mem_of_getElem? (i := 913) (by decide +kernel)⟩
theorem lw_p25 : lw_okq (⟨"StealingArmsModel", "goesOn", "()Z"⟩, 55) := ⟨⟨by decide +kernel, by decide +kernel⟩, List.mem_of_getElem? (i := 678) (by decide +kernel), List.mem_of_getElem? (i := 918) (by decide +kernel), List.mem_of_getElem? (i := 919) (by decide +kernel)⟩
theorem lw_p26 : lw_okq (⟨"StealingArmsModel", "isTask", "(I)Z"⟩, 55) := ⟨⟨by decide +kernel, by decide +kernel⟩, List.mem_of_getElem? (i := 678) (by decide +kernel), List.mem_of_getElem? (i := 926) (by decide +kernel), List.mem_of_getElem? (i := 927) (by decide +kernel)⟩
theorem lw_p27 : lw_okq (⟨"StealingArmsModel", "manyIn", "(I)I"⟩, 55) := ⟨⟨by decide +kernel, by decide +kernel⟩, List.mem_of_getElem? (i := 678) (by decide +kernel), List.mem_of_getElem? (i := 931) (by decide +kernel), List.mem_of_getElem? (i := 932) (by decide +kernel)⟩
theorem lw_p28 : lw_okq (⟨"StealingArmsModel", "treeOf", "(II)I"⟩, 55) := ⟨⟨by decide +kernel, by decide +kernel⟩, List.mem_of_getElem? (i := 678) (by decide +kernel), List.mem_of_getElem? (i := 935) (by decide +kernel), List.mem_of_getElem? (i := 936) (by decide +kernel)⟩
theorem lw_p29 : lw_okq (⟨"StealingArmsModel", "laySpans", "()V"⟩, 55) := ⟨⟨by decide +kernel, by decide +kernel⟩, List.mem_of_getElem? (i := 678) (by decide +kernel), List.mem_of_getElem? (i := 939) (by decide +kernel), List.mem_of_getElem? (i := 940) (by decide +kernel)⟩
theorem lw_p30 : lw_okq (⟨"StealingArmsModel", "depthOf", "(I)I"⟩, 55) := ⟨⟨by decide +kernel, by decide +kernel⟩, List.mem_of_getElem? (i := 678) (by decide +kernel), List.mem_of_getElem? (i := 943) (by decide +kernel), List.mem_of_getElem? (i := 944) (by decide +kernel)⟩
theorem lw_p31 : lw_okq (⟨"StealingArmsModel", "workedBy", "(I)I"⟩, 55) := ⟨⟨by decide +kernel, by decide +kernel⟩, List.mem_of_getElem? (i := 678) (by decide +kernel), List.mem_of_getElem? (i := 947) (by decide +kernel), List.mem_of_getElem? (i := 948) (by decide +kernel)⟩
def lw_privs_2 : List (MethodName × Nat) := [(⟨"StealingArmsModel", "carryAll", "([IZ)V"⟩, 55), (⟨"StealingArmsModel", "carry", "(I)I"⟩, 55), (⟨"StealingArmsModel", "carryTold", "()V"⟩, 55), (⟨"StealingArmsModel", "becomeArms", "(I)V"⟩, 55), (⟨"StealingArmsModel", "comesTo", "(II)V"⟩, 55), (⟨"StealingArmsModel", "isArm", "(I)Z"⟩, 55), (⟨"StealingArmsModel", "readTree", "()Z"⟩, 55), (⟨"StealingArmsModel", "readTask", "()V"⟩, 55), (⟨"StealingArmsModel", "here", "()I"⟩, 55), (⟨"StealingArmsModel", "goesOn", "()Z"⟩, 55), (⟨"StealingArmsModel", "isTask", "(I)Z"⟩, 55), (⟨"StealingArmsModel", "manyIn", "(I)I"⟩, 55), (⟨"StealingArmsModel", "treeOf", "(II)I"⟩, 55), (⟨"StealingArmsModel", "laySpans", "()V"⟩, 55), (⟨"StealingArmsModel", "depthOf", "(I)I"⟩, 55), (⟨"StealingArmsModel", "workedBy", "(I)I"⟩, 55)]
theorem lw_r2 : ∀ q ∈ lw_privs_2, lw_okq q := List.forall_mem_cons.mpr ⟨lw_p16, List.forall_mem_cons.mpr ⟨lw_p17, List.forall_mem_cons.mpr ⟨lw_p18, List.forall_mem_cons.mpr ⟨lw_p19, List.forall_mem_cons.mpr ⟨lw_p20, List.forall_mem_cons.mpr ⟨lw_p21, List.forall_mem_cons.mpr ⟨lw_p22, List.forall_mem_cons.mpr ⟨lw_p23, List.forall_mem_cons.mpr ⟨lw_p24, List.forall_mem_cons.mpr ⟨lw_p25, List.forall_mem_cons.mpr ⟨lw_p26, List.forall_mem_cons.mpr ⟨lw_p27, List.forall_mem_cons.mpr ⟨lw_p28, List.forall_mem_cons.mpr ⟨lw_p29, List.forall_mem_cons.mpr ⟨lw_p30, List.forall_mem_cons.mpr ⟨lw_p31, fun _ h => absurd h List.not_mem_nil⟩⟩⟩⟩⟩⟩⟩⟩⟩⟩⟩⟩⟩⟩⟩⟩
theorem lw_p32 : lw_okq (⟨"StealingArmsModel", "rowOf", "(I)I"⟩, 55) := ⟨⟨by decide +kernel, by decide +kernel⟩, List.mem_of_getElem? (i := 678) (by decide +kernel), List.mem_of_getElem? (i := 951) (by decide +kernel), List.mem_of_getElem? (i := 952) (by decide +kernel)⟩
theorem lw_p33 : lw_okq (⟨"StealingArmsModel", "goRounds", "(I)V"⟩, 55) := ⟨⟨by decide +kernel, by decide +kernel⟩, List.mem_of_getElem? (i := 678) (by decide +kernel), List.mem_of_getElem? (i := 969) (by decide +kernel), List.mem_of_getElem? (i := 970) (by decide +kernel)⟩
theorem lw_p34 : lw_okq (⟨"StealingArmsModel", "roundOn", "()V"⟩, 55) := ⟨⟨by decide +kernel, by decide +kernel⟩, List.mem_of_getElem? (i := 678) (by decide +kernel), List.mem_of_getElem? (i := 973) (by decide +kernel), List.mem_of_getElem? (i := 974) (by decide +kernel)⟩
theorem lw_p35 : lw_okq (⟨"StealingArmsModel", "armGoes", "(I)V"⟩, 55) := ⟨⟨by decide +kernel, by decide +kernel⟩, List.mem_of_getElem? (i := 678) (by decide +kernel), List.mem_of_getElem? (i := 977) (by decide +kernel), List.mem_of_getElem? (i := 978) (by decide +kernel)⟩
theorem lw_p36 : lw_okq (⟨"StealingArmsModel", "isThrough", "(II)V"⟩, 55) := ⟨⟨by decide +kernel, by decide +kernel⟩, List.mem_of_getElem? (i := 678) (by decide +kernel), List.mem_of_getElem? (i := 981) (by decide +kernel), List.mem_of_getElem? (i := 982) (by decide +kernel)⟩
theorem lw_p37 : lw_okq (⟨"StealingArmsModel", "entry", "(III)V"⟩, 55) := ⟨⟨by decide +kernel, by decide +kernel⟩, List.mem_of_getElem? (i := 678) (by decide +kernel), List.mem_of_getElem? (i := 985) (by decide +kernel), List.mem_of_getElem? (i := 986) (by decide +kernel)⟩
theorem lw_p38 : lw_okq (⟨"StealingArmsModel", "looksAt", "(I)V"⟩, 55) := ⟨⟨by decide +kernel, by decide +kernel⟩, List.mem_of_getElem? (i := 678) (by decide +kernel), List.mem_of_getElem? (i := 989) (by decide +kernel), List.mem_of_getElem? (i := 990) (by decide +kernel)⟩
theorem lw_p39 : lw_okq (⟨"StealingArmsModel", "goesUp", "(I)V"⟩, 55) := ⟨⟨by decide +kernel, by decide +kernel⟩, List.mem_of_getElem? (i := 678) (by decide +kernel), List.mem_of_getElem? (i := 993) (by decide +kernel), List.mem_of_getElem? (i := 994) (by decide +kernel)⟩
theorem lw_p40 : lw_okq (⟨"StealingArmsModel", "cancelIn", "(I)V"⟩, 55) := ⟨⟨by decide +kernel, by decide +kernel⟩, List.mem_of_getElem? (i := 678) (by decide +kernel), List.mem_of_getElem? (i := 997) (by decide +kernel), List.mem_of_getElem? (i := 998) (by decide +kernel)⟩
theorem lw_p41 : lw_okq (⟨"StealingArmsModel", "cancelMarked", "()I"⟩, 55) := ⟨⟨by decide +kernel, by decide +kernel⟩, List.mem_of_getElem? (i := 678) (by decide +kernel), List.mem_of_getElem? (i := 1001) (by decide +kernel), List.mem_of_getElem? (i := 1002) (by decide +kernel)⟩
theorem lw_p42 : lw_okq (⟨"StealingArmsModel", "isEnded", "(I)Z"⟩, 55) := ⟨⟨by decide +kernel, by decide +kernel⟩, List.mem_of_getElem? (i := 678) (by decide +kernel), List.mem_of_getElem? (i := 1005) (by decide +kernel), List.mem_of_getElem? (i := 1006) (by decide +kernel)⟩
theorem lw_p43 : lw_okq (⟨"StealingArmsModel", "leavesRows", "(I)V"⟩, 55) := ⟨⟨by decide +kernel, by decide +kernel⟩, List.mem_of_getElem? (i := 678) (by decide +kernel), List.mem_of_getElem? (i := 1009) (by decide +kernel), List.mem_of_getElem? (i := 1010) (by decide +kernel)⟩
theorem lw_p44 : lw_okq (⟨"StealingArmsModel", "allEnded", "(I)Z"⟩, 55) := ⟨⟨by decide +kernel, by decide +kernel⟩, List.mem_of_getElem? (i := 678) (by decide +kernel), List.mem_of_getElem? (i := 1013) (by decide +kernel), List.mem_of_getElem? (i := 1014) (by decide +kernel)⟩
theorem lw_p45 : lw_okq (⟨"StealingArmsModel", "worthIn", "(I)I"⟩, 55) := ⟨⟨by decide +kernel, by decide +kernel⟩, List.mem_of_getElem? (i := 678) (by decide +kernel), List.mem_of_getElem? (i := 1017) (by decide +kernel), List.mem_of_getElem? (i := 1018) (by decide +kernel)⟩
theorem lw_p46 : lw_okq (⟨"StealingArmsModel", "worksOn", "(III)V"⟩, 55) := ⟨⟨by decide +kernel, by decide +kernel⟩, List.mem_of_getElem? (i := 678) (by decide +kernel), List.mem_of_getElem? (i := 1021) (by decide +kernel), List.mem_of_getElem? (i := 1022) (by decide +kernel)⟩
theorem lw_p47 : lw_okq (⟨"StealingArmsModel", "fullOthers", "(I)I"⟩, 55) := ⟨⟨by decide +kernel, by decide +kernel⟩, List.mem_of_getElem? (i := 678) (by decide +kernel), List.mem_of_getElem? (i := 1025) (by decide +kernel), List.mem_of_getElem? (i := 1026) (by decide +kernel)⟩
def lw_privs_3 : List (MethodName × Nat) := [(⟨"StealingArmsModel", "rowOf", "(I)I"⟩, 55), (⟨"StealingArmsModel", "goRounds", "(I)V"⟩, 55), (⟨"StealingArmsModel", "roundOn", "()V"⟩, 55), (⟨"StealingArmsModel", "armGoes", "(I)V"⟩, 55), (⟨"StealingArmsModel", "isThrough", "(II)V"⟩, 55), (⟨"StealingArmsModel", "entry", "(III)V"⟩, 55), (⟨"StealingArmsModel", "looksAt", "(I)V"⟩, 55), (⟨"StealingArmsModel", "goesUp", "(I)V"⟩, 55), (⟨"StealingArmsModel", "cancelIn", "(I)V"⟩, 55), (⟨"StealingArmsModel", "cancelMarked", "()I"⟩, 55), (⟨"StealingArmsModel", "isEnded", "(I)Z"⟩, 55), (⟨"StealingArmsModel", "leavesRows", "(I)V"⟩, 55), (⟨"StealingArmsModel", "allEnded", "(I)Z"⟩, 55), (⟨"StealingArmsModel", "worthIn", "(I)I"⟩, 55), (⟨"StealingArmsModel", "worksOn", "(III)V"⟩, 55), (⟨"StealingArmsModel", "fullOthers", "(I)I"⟩, 55)]
theorem lw_r3 : ∀ q ∈ lw_privs_3, lw_okq q := List.forall_mem_cons.mpr ⟨lw_p32, List.forall_mem_cons.mpr ⟨lw_p33, List.forall_mem_cons.mpr ⟨lw_p34, List.forall_mem_cons.mpr ⟨lw_p35, List.forall_mem_cons.mpr ⟨lw_p36, List.forall_mem_cons.mpr ⟨lw_p37, List.forall_mem_cons.mpr ⟨lw_p38, List.forall_mem_cons.mpr ⟨lw_p39, List.forall_mem_cons.mpr ⟨lw_p40, List.forall_mem_cons.mpr ⟨lw_p41, List.forall_mem_cons.mpr ⟨lw_p42, List.forall_mem_cons.mpr ⟨lw_p43, List.forall_mem_cons.mpr ⟨lw_p44, List.forall_mem_cons.mpr ⟨lw_p45, List.forall_mem_cons.mpr ⟨lw_p46, List.forall_mem_cons.mpr ⟨lw_p47, fun _ h => absurd h List.not_mem_nil⟩⟩⟩⟩⟩⟩⟩⟩⟩⟩⟩⟩⟩⟩⟩⟩
theorem lw_p48 : lw_okq (⟨"StealingArmsModel", "steals", "(II)V"⟩, 55) := ⟨⟨by decide +kernel, by decide +kernel⟩, List.mem_of_getElem? (i := 678) (by decide +kernel), List.mem_of_getElem? (i := 1029) (by decide +kernel), List.mem_of_getElem? (i := 1030) (by decide +kernel)⟩
theorem lw_p49 : lw_okq (⟨"StealingArmsModel", "drawBelow", "(I)I"⟩, 55) := ⟨⟨by decide +kernel, by decide +kernel⟩, List.mem_of_getElem? (i := 678) (by decide +kernel), List.mem_of_getElem? (i := 1033) (by decide +kernel), List.mem_of_getElem? (i := 1034) (by decide +kernel)⟩
theorem lw_p50 : lw_okq (⟨"StealingArmsModel", "cancelOne", "(I)I"⟩, 55) := ⟨⟨by decide +kernel, by decide +kernel⟩, List.mem_of_getElem? (i := 678) (by decide +kernel), List.mem_of_getElem? (i := 1042) (by decide +kernel), List.mem_of_getElem? (i := 1043) (by decide +kernel)⟩
theorem lw_p51 : lw_okq (⟨"StealingArmsModel", "isOver", "()Z"⟩, 55) := ⟨⟨by decide +kernel, by decide +kernel⟩, List.mem_of_getElem? (i := 678) (by decide +kernel), List.mem_of_getElem? (i := 1050) (by decide +kernel), List.mem_of_getElem? (i := 1051) (by decide +kernel)⟩
theorem lw_p52 : lw_okq (⟨"StealingArmsModel", "tillBy", "(I)I"⟩, 55) := ⟨⟨by decide +kernel, by decide +kernel⟩, List.mem_of_getElem? (i := 678) (by decide +kernel), List.mem_of_getElem? (i := 1054) (by decide +kernel), List.mem_of_getElem? (i := 1055) (by decide +kernel)⟩
theorem lw_p53 : lw_okq (⟨"StealingArmsModel", "open", "()V"⟩, 55) := ⟨⟨by decide +kernel, by decide +kernel⟩, List.mem_of_getElem? (i := 678) (by decide +kernel), List.mem_of_getElem? (i := 1058) (by decide +kernel), List.mem_of_getElem? (i := 1059) (by decide +kernel)⟩
theorem lw_p54 : lw_okq (⟨"StealingArmsModel", "tillOver", "()I"⟩, 55) := ⟨⟨by decide +kernel, by decide +kernel⟩, List.mem_of_getElem? (i := 678) (by decide +kernel), List.mem_of_getElem? (i := 1062) (by decide +kernel), List.mem_of_getElem? (i := 1063) (by decide +kernel)⟩
theorem lw_p55 : lw_okq (⟨"StealingArmsModel", "again", "()V"⟩, 55) := ⟨⟨by decide +kernel, by decide +kernel⟩, List.mem_of_getElem? (i := 678) (by decide +kernel), List.mem_of_getElem? (i := 1066) (by decide +kernel), List.mem_of_getElem? (i := 1067) (by decide +kernel)⟩
theorem lw_p56 : lw_okq (⟨"StealingArmsModel", "bestArms", "()I"⟩, 55) := ⟨⟨by decide +kernel, by decide +kernel⟩, List.mem_of_getElem? (i := 678) (by decide +kernel), List.mem_of_getElem? (i := 1070) (by decide +kernel), List.mem_of_getElem? (i := 1071) (by decide +kernel)⟩
theorem lw_p57 : lw_okq (⟨"StealingArmsModel", "endedMany", "()I"⟩, 55) := ⟨⟨by decide +kernel, by decide +kernel⟩, List.mem_of_getElem? (i := 678) (by decide +kernel), List.mem_of_getElem? (i := 1082) (by decide +kernel), List.mem_of_getElem? (i := 1083) (by decide +kernel)⟩
theorem lw_p58 : lw_okq (⟨"StealingArmsModel", "doneMany", "()I"⟩, 55) := ⟨⟨by decide +kernel, by decide +kernel⟩, List.mem_of_getElem? (i := 678) (by decide +kernel), List.mem_of_getElem? (i := 1086) (by decide +kernel), List.mem_of_getElem? (i := 1087) (by decide +kernel)⟩
theorem lw_p59 : lw_okq (⟨"StealingArmsModel", "ofArms", "(I)I"⟩, 55) := ⟨⟨by decide +kernel, by decide +kernel⟩, List.mem_of_getElem? (i := 678) (by decide +kernel), List.mem_of_getElem? (i := 1090) (by decide +kernel), List.mem_of_getElem? (i := 1091) (by decide +kernel)⟩
theorem lw_p60 : lw_okq (⟨"StealingArmsModel", "allSeen", "(I)Z"⟩, 55) := ⟨⟨by decide +kernel, by decide +kernel⟩, List.mem_of_getElem? (i := 678) (by decide +kernel), List.mem_of_getElem? (i := 1107) (by decide +kernel), List.mem_of_getElem? (i := 1108) (by decide +kernel)⟩
theorem lw_p61 : lw_okq (⟨"StealingArmsModel", "worthAll", "()I"⟩, 55) := ⟨⟨by decide +kernel, by decide +kernel⟩, List.mem_of_getElem? (i := 678) (by decide +kernel), List.mem_of_getElem? (i := 1127) (by decide +kernel), List.mem_of_getElem? (i := 1128) (by decide +kernel)⟩
theorem lw_p62 : lw_okq (⟨"StealingArmsModel", "planned", "(I)V"⟩, 55) := ⟨⟨by decide +kernel, by decide +kernel⟩, List.mem_of_getElem? (i := 678) (by decide +kernel), List.mem_of_getElem? (i := 1140) (by decide +kernel), List.mem_of_getElem? (i := 1141) (by decide +kernel)⟩
theorem lw_p63 : lw_okq (⟨"StealingArmsModel", "isTape", "(I)Z"⟩, 55) := ⟨⟨by decide +kernel, by decide +kernel⟩, List.mem_of_getElem? (i := 678) (by decide +kernel), List.mem_of_getElem? (i := 1161) (by decide +kernel), List.mem_of_getElem? (i := 1162) (by decide +kernel)⟩
def lw_privs_4 : List (MethodName × Nat) := [(⟨"StealingArmsModel", "steals", "(II)V"⟩, 55), (⟨"StealingArmsModel", "drawBelow", "(I)I"⟩, 55), (⟨"StealingArmsModel", "cancelOne", "(I)I"⟩, 55), (⟨"StealingArmsModel", "isOver", "()Z"⟩, 55), (⟨"StealingArmsModel", "tillBy", "(I)I"⟩, 55), (⟨"StealingArmsModel", "open", "()V"⟩, 55), (⟨"StealingArmsModel", "tillOver", "()I"⟩, 55), (⟨"StealingArmsModel", "again", "()V"⟩, 55), (⟨"StealingArmsModel", "bestArms", "()I"⟩, 55), (⟨"StealingArmsModel", "endedMany", "()I"⟩, 55), (⟨"StealingArmsModel", "doneMany", "()I"⟩, 55), (⟨"StealingArmsModel", "ofArms", "(I)I"⟩, 55), (⟨"StealingArmsModel", "allSeen", "(I)Z"⟩, 55), (⟨"StealingArmsModel", "worthAll", "()I"⟩, 55), (⟨"StealingArmsModel", "planned", "(I)V"⟩, 55), (⟨"StealingArmsModel", "isTape", "(I)Z"⟩, 55)]
theorem lw_r4 : ∀ q ∈ lw_privs_4, lw_okq q := List.forall_mem_cons.mpr ⟨lw_p48, List.forall_mem_cons.mpr ⟨lw_p49, List.forall_mem_cons.mpr ⟨lw_p50, List.forall_mem_cons.mpr ⟨lw_p51, List.forall_mem_cons.mpr ⟨lw_p52, List.forall_mem_cons.mpr ⟨lw_p53, List.forall_mem_cons.mpr ⟨lw_p54, List.forall_mem_cons.mpr ⟨lw_p55, List.forall_mem_cons.mpr ⟨lw_p56, List.forall_mem_cons.mpr ⟨lw_p57, List.forall_mem_cons.mpr ⟨lw_p58, List.forall_mem_cons.mpr ⟨lw_p59, List.forall_mem_cons.mpr ⟨lw_p60, List.forall_mem_cons.mpr ⟨lw_p61, List.forall_mem_cons.mpr ⟨lw_p62, List.forall_mem_cons.mpr ⟨lw_p63, fun _ h => absurd h List.not_mem_nil⟩⟩⟩⟩⟩⟩⟩⟩⟩⟩⟩⟩⟩⟩⟩⟩
def lw_privs : List (MethodName × Nat) := lw_privs_1 ++ (lw_privs_2 ++ (lw_privs_3 ++ (lw_privs_4)))
def lw_tbl : List Cond := k2_sels lw_privs ++ tables_1
theorem lw_privs_ok : ∀ q ∈ lw_privs, lw_okq q := by
  show ∀ q ∈ lw_privs_1 ++ (lw_privs_2 ++ (lw_privs_3 ++ (lw_privs_4))), lw_okq q
  exact List.forall_mem_append.mpr ⟨lw_r1, List.forall_mem_append.mpr ⟨lw_r2, List.forall_mem_append.mpr ⟨lw_r3, lw_r4⟩⟩⟩
end
section
def RX0 : String := "StealingArms$Arm"
def TX0 : u_T := fun k => match k with
  | 0 => ("StealingArms$Arm", "row", "[I", true)
  | 1 => ("StealingArms$Arm", "length", "I", false)
  | 2 => ("StealingArms$Arm", "task", "I", false)
  | 3 => ("StealingArms$Arm", "idle", "I", false)
  | _ => ("StealingArms$Arm", "stole", "I", false)
def tyX0 : Nat → FieldType := fun k => match k with
  | 0 => .array .int
  | 1 => .int
  | 2 => .int
  | 3 => .int
  | _ => .int
abbrev wsX00 : List Cond := u_ws RX0 TX0 5
theorem nmX0 : ∀ a, a < 5 → ∀ b, b < 5 → a ≠ b → (TX0 a).2.1 ≠ (TX0 b).2.1 := by decide +kernel
theorem tyX0_ok : ∀ k, k < 5 → parseFieldDescriptor (TX0 k).2.2.1 = some (tyX0 k) := by decide +kernel
abbrev cX0_init : ByteArray := prog_2_method_1_code
def yX0_init : MethodName := ⟨RX0, "<init>", "()V"⟩
abbrev cX0_become : ByteArray := prog_2_method_2_code
def yX0_become : MethodName := ⟨RX0, "become", "(LStealingArms$Arm;)V"⟩
abbrev cX0_clear : ByteArray := prog_2_method_3_code
def yX0_clear : MethodName := ⟨RX0, "clear", "()V"⟩
abbrev cX0_taskAt : ByteArray := prog_2_method_4_code
def yX0_taskAt : MethodName := ⟨RX0, "taskAt", "(I)I"⟩
abbrev cX0_holds : ByteArray := prog_2_method_5_code
def yX0_holds : MethodName := ⟨RX0, "holds", "(I)Z"⟩
abbrev cX0_put : ByteArray := prog_2_method_6_code
def yX0_put : MethodName := ⟨RX0, "put", "(I)V"⟩
abbrev cX0_takeNear : ByteArray := prog_2_method_7_code
def yX0_takeNear : MethodName := ⟨RX0, "takeNear", "()I"⟩
abbrev cX0_takeFar : ByteArray := prog_2_method_8_code
def yX0_takeFar : MethodName := ⟨RX0, "takeFar", "()I"⟩
abbrev cX0_drop : ByteArray := prog_2_method_9_code
def yX0_drop : MethodName := ⟨RX0, "drop", "(I)V"⟩
def RX1 : String := "StealingArms$Entries"
def TX1 : u_T := fun k => match k with
  | 0 => ("StealingArms$Entries", "rounds", "[I", true)
  | 1 => ("StealingArms$Entries", "arms", "[I", true)
  | 2 => ("StealingArms$Entries", "kinds", "[I", true)
  | 3 => ("StealingArms$Entries", "tasks", "[I", true)
  | 4 => ("StealingArms$Entries", "watched", "[I", true)
  | 5 => ("StealingArms$Entries", "watchedMany", "I", false)
  | 6 => ("StealingArms$Entries", "oldest", "I", false)
  | _ => ("StealingArms$Entries", "many", "I", false)
def tyX1 : Nat → FieldType := fun k => match k with
  | 0 => .array .int
  | 1 => .array .int
  | 2 => .array .int
  | 3 => .array .int
  | 4 => .array .int
  | 5 => .int
  | 6 => .int
  | _ => .int
abbrev wsX10 : List Cond := u_ws RX1 TX1 8
theorem nmX1 : ∀ a, a < 8 → ∀ b, b < 8 → a ≠ b → (TX1 a).2.1 ≠ (TX1 b).2.1 := by decide +kernel
theorem tyX1_ok : ∀ k, k < 8 → parseFieldDescriptor (TX1 k).2.2.1 = some (tyX1 k) := by decide +kernel
abbrev cX1_init : ByteArray := prog_3_method_1_code
def yX1_init : MethodName := ⟨RX1, "<init>", "()V"⟩
abbrev cX1_become : ByteArray := prog_3_method_2_code
def yX1_become : MethodName := ⟨RX1, "become", "(LStealingArms$Entries;)V"⟩
abbrev cX1_add : ByteArray := prog_3_method_3_code
def yX1_add : MethodName := ⟨RX1, "add", "(IIII)V"⟩
abbrev cX1_entry : ByteArray := prog_3_method_4_code
def yX1_entry : MethodName := ⟨RX1, "entry", "(II)I"⟩
abbrev cX1_watch : ByteArray := prog_3_method_5_code
def yX1_watch : MethodName := ⟨RX1, "watch", "()V"⟩
abbrev cX1_watchedTask : ByteArray := prog_3_method_6_code
def yX1_watchedTask : MethodName := ⟨RX1, "watchedTask", "(I)I"⟩
def RX2 : String := "StealingArms$Pairs"
def TX2 : u_T := fun k => match k with
  | 0 => ("StealingArms$Pairs", "first", "[I", true)
  | 1 => ("StealingArms$Pairs", "second", "[I", true)
  | _ => ("StealingArms$Pairs", "many", "I", false)
def tyX2 : Nat → FieldType := fun k => match k with
  | 0 => .array .int
  | 1 => .array .int
  | _ => .int
abbrev wsX20 : List Cond := u_ws RX2 TX2 3
theorem nmX2 : ∀ a, a < 3 → ∀ b, b < 3 → a ≠ b → (TX2 a).2.1 ≠ (TX2 b).2.1 := by decide +kernel
theorem tyX2_ok : ∀ k, k < 3 → parseFieldDescriptor (TX2 k).2.2.1 = some (tyX2 k) := by decide +kernel
abbrev cX2_init : ByteArray := prog_4_method_1_code
def yX2_init : MethodName := ⟨RX2, "<init>", "(I)V"⟩
abbrev cX2_become : ByteArray := prog_4_method_2_code
def yX2_become : MethodName := ⟨RX2, "become", "(LStealingArms$Pairs;)V"⟩
abbrev cX2_clear : ByteArray := prog_4_method_3_code
def yX2_clear : MethodName := ⟨RX2, "clear", "()I"⟩
abbrev cX2_add : ByteArray := prog_4_method_4_code
def yX2_add : MethodName := ⟨RX2, "add", "(II)I"⟩
def RX3 : String := "StealingArms$Tape"
def TX3 : u_T := fun k => match k with
  | 0 => ("StealingArms$Tape", "items", "[J", true)
  | 1 => ("StealingArms$Tape", "sort", "I", false)
  | _ => ("StealingArms$Tape", "length", "I", false)
def tyX3 : Nat → FieldType := fun k => match k with
  | 0 => .array .long
  | 1 => .int
  | _ => .int
abbrev wsX30 : List Cond := u_ws RX3 TX3 3
theorem nmX3 : ∀ a, a < 3 → ∀ b, b < 3 → a ≠ b → (TX3 a).2.1 ≠ (TX3 b).2.1 := by decide +kernel
theorem tyX3_ok : ∀ k, k < 3 → parseFieldDescriptor (TX3 k).2.2.1 = some (tyX3 k) := by decide +kernel
abbrev cX3_init : ByteArray := prog_5_method_1_code
def yX3_init : MethodName := ⟨RX3, "<init>", "()V"⟩
abbrev cX3_becomeRow : ByteArray := prog_5_method_2_code
def yX3_becomeRow : MethodName := ⟨RX3, "becomeRow", "(II)V"⟩
abbrev cX3_cut : ByteArray := prog_5_method_3_code
def yX3_cut : MethodName := ⟨RX3, "cut", "(J)J"⟩
def RX4 : String := "StealingArms$Tasks"
def TX4 : u_T := fun k => match k with
  | 0 => ("StealingArms$Tasks", "work", "[I", true)
  | 1 => ("StealingArms$Tasks", "left", "[I", true)
  | 2 => ("StealingArms$Tasks", "worth", "[I", true)
  | 3 => ("StealingArms$Tasks", "state", "[I", true)
  | 4 => ("StealingArms$Tasks", "inside", "[I", true)
  | 5 => ("StealingArms$Tasks", "mark", "[I", true)
  | 6 => ("StealingArms$Tasks", "cause", "[I", true)
  | 7 => ("StealingArms$Tasks", "longest", "[I", true)
  | _ => ("StealingArms$Tasks", "many", "I", false)
def tyX4 : Nat → FieldType := fun k => match k with
  | 0 => .array .int
  | 1 => .array .int
  | 2 => .array .int
  | 3 => .array .int
  | 4 => .array .int
  | 5 => .array .int
  | 6 => .array .int
  | 7 => .array .int
  | _ => .int
abbrev wsX40 : List Cond := u_ws RX4 TX4 9
theorem nmX4 : ∀ a, a < 9 → ∀ b, b < 9 → a ≠ b → (TX4 a).2.1 ≠ (TX4 b).2.1 := by decide +kernel
theorem tyX4_ok : ∀ k, k < 9 → parseFieldDescriptor (TX4 k).2.2.1 = some (tyX4 k) := by decide +kernel
abbrev cX4_init : ByteArray := prog_6_method_1_code
def yX4_init : MethodName := ⟨RX4, "<init>", "()V"⟩
abbrev cX4_become : ByteArray := prog_6_method_2_code
def yX4_become : MethodName := ⟨RX4, "become", "(LStealingArms$Tasks;)V"⟩
abbrev cX4_add : ByteArray := prog_6_method_3_code
def yX4_add : MethodName := ⟨RX4, "add", "(III)V"⟩
abbrev cX4_has : ByteArray := prog_6_method_4_code
def yX4_has : MethodName := ⟨RX4, "has", "(I)Z"⟩
abbrev cX4_isEnded : ByteArray := prog_6_method_5_code
def yX4_isEnded : MethodName := ⟨RX4, "isEnded", "(I)Z"⟩
abbrev cX4_isJoining : ByteArray := prog_6_method_6_code
def yX4_isJoining : MethodName := ⟨RX4, "isJoining", "(I)Z"⟩
abbrev cX4_lessLeft : ByteArray := prog_6_method_7_code
def yX4_lessLeft : MethodName := ⟨RX4, "lessLeft", "(I)I"⟩
abbrev cX4_allInAreEnded : ByteArray := prog_6_method_8_code
def yX4_allInAreEnded : MethodName := ⟨RX4, "allInAreEnded", "(I)Z"⟩
abbrev cX4_finish : ByteArray := prog_6_method_9_code
def yX4_finish : MethodName := ⟨RX4, "finish", "(I)V"⟩
abbrev cX4_isBelow : ByteArray := prog_6_method_10_code
def yX4_isBelow : MethodName := ⟨RX4, "isBelow", "(II)Z"⟩
abbrev cX4_howManyIn : ByteArray := prog_6_method_11_code
def yX4_howManyIn : MethodName := ⟨RX4, "howManyIn", "(I)I"⟩
abbrev cX4_span : ByteArray := prog_6_method_12_code
def yX4_span : MethodName := ⟨RX4, "span", "(I)I"⟩
abbrev cX4_workOfAll : ByteArray := prog_6_method_13_code
def yX4_workOfAll : MethodName := ⟨RX4, "workOfAll", "(I)I"⟩
abbrev cX4_depth : ByteArray := prog_6_method_14_code
def yX4_depth : MethodName := ⟨RX4, "depth", "(I)I"⟩
abbrev cX4_howManyEnded : ByteArray := prog_6_method_15_code
def yX4_howManyEnded : MethodName := ⟨RX4, "howManyEnded", "()I"⟩
abbrev cX4_howManyDone : ByteArray := prog_6_method_16_code
def yX4_howManyDone : MethodName := ⟨RX4, "howManyDone", "()I"⟩
abbrev cX4_worthOfAllDone : ByteArray := prog_6_method_17_code
def yX4_worthOfAllDone : MethodName := ⟨RX4, "worthOfAllDone", "()I"⟩
def RX5 : String := "StealingArms$Text"
def TX5 : u_T := fun k => match k with
  | 0 => ("StealingArms$Text", "signs", "[I", true)
  | 1 => ("StealingArms$Text", "length", "I", false)
  | 2 => ("StealingArms$Text", "work", "[I", true)
  | 3 => ("StealingArms$Text", "mark", "[I", true)
  | 4 => ("StealingArms$Text", "inside", "[I", true)
  | 5 => ("StealingArms$Text", "many", "I", false)
  | 6 => ("StealingArms$Text", "opened", "[I", true)
  | 7 => ("StealingArms$Text", "members", "[I", true)
  | 8 => ("StealingArms$Text", "open", "I", false)
  | _ => ("StealingArms$Text", "reading", "I", false)
def tyX5 : Nat → FieldType := fun k => match k with
  | 0 => .array .int
  | 1 => .int
  | 2 => .array .int
  | 3 => .array .int
  | 4 => .array .int
  | 5 => .int
  | 6 => .array .int
  | 7 => .array .int
  | 8 => .int
  | _ => .int
abbrev wsX50 : List Cond := u_ws RX5 TX5 10
theorem nmX5 : ∀ a, a < 10 → ∀ b, b < 10 → a ≠ b → (TX5 a).2.1 ≠ (TX5 b).2.1 := by decide +kernel
theorem tyX5_ok : ∀ k, k < 10 → parseFieldDescriptor (TX5 k).2.2.1 = some (tyX5 k) := by decide +kernel
abbrev cX5_init : ByteArray := prog_7_method_1_code
def yX5_init : MethodName := ⟨RX5, "<init>", "()V"⟩
abbrev cX5_append : ByteArray := prog_7_method_2_code
def yX5_append : MethodName := ⟨RX5, "append", "(I)Z"⟩
abbrev cX5_parse : ByteArray := prog_7_method_3_code
def yX5_parse : MethodName := ⟨RX5, "parse", "()I"⟩
abbrev cX5_goesOn : ByteArray := prog_7_method_4_code
def yX5_goesOn : MethodName := ⟨RX5, "goesOn", "(I)Z"⟩
abbrev cX5_begin : ByteArray := prog_7_method_5_code
def yX5_begin : MethodName := ⟨RX5, "begin", "(I)Z"⟩
abbrev cX5_marks : ByteArray := prog_7_method_6_code
def yX5_marks : MethodName := ⟨RX5, "marks", "(I)Z"⟩
abbrev cX5_opens : ByteArray := prog_7_method_7_code
def yX5_opens : MethodName := ⟨RX5, "opens", "()Z"⟩
abbrev cX5_separates : ByteArray := prog_7_method_8_code
def yX5_separates : MethodName := ⟨RX5, "separates", "()Z"⟩
abbrev cX5_closes : ByteArray := prog_7_method_9_code
def yX5_closes : MethodName := ⟨RX5, "closes", "()Z"⟩
def RX6 : String := "StealingArms$World"
def TX6 : u_T := fun k => match k with
  | 0 => ("StealingArms$World", "arms", "[LStealingArms$Arm;", true)
  | 1 => ("StealingArms$World", "tasks", "LStealingArms$Tasks;", true)
  | 2 => ("StealingArms$World", "entries", "LStealingArms$Entries;", true)
  | 3 => ("StealingArms$World", "seen", "LStealingArms$Pairs;", true)
  | 4 => ("StealingArms$World", "plan", "LStealingArms$Pairs;", true)
  | 5 => ("StealingArms$World", "book", "LStealingArms$Pairs;", true)
  | 6 => ("StealingArms$World", "armsThere", "I", false)
  | 7 => ("StealingArms$World", "seed", "I", false)
  | _ => ("StealingArms$World", "round", "I", false)
def tyX6 : Nat → FieldType := fun k => match k with
  | 0 => .array (.object "StealingArms$Arm")
  | 1 => .object "StealingArms$Tasks"
  | 2 => .object "StealingArms$Entries"
  | 3 => .object "StealingArms$Pairs"
  | 4 => .object "StealingArms$Pairs"
  | 5 => .object "StealingArms$Pairs"
  | 6 => .int
  | 7 => .int
  | _ => .int
abbrev wsX60 : List Cond := u_ws RX6 TX6 9
theorem nmX6 : ∀ a, a < 9 → ∀ b, b < 9 → a ≠ b → (TX6 a).2.1 ≠ (TX6 b).2.1 := by decide +kernel
theorem tyX6_ok : ∀ k, k < 9 → parseFieldDescriptor (TX6 k).2.2.1 = some (tyX6 k) := by decide +kernel
abbrev cX6_init : ByteArray := prog_8_method_1_code
def yX6_init : MethodName := ⟨RX6, "<init>", "()V"⟩
abbrev cX6_become : ByteArray := prog_8_method_2_code
def yX6_become : MethodName := ⟨RX6, "become", "(LStealingArms$World;)V"⟩
abbrev cX6_changeArms : ByteArray := prog_8_method_3_code
def yX6_changeArms : MethodName := ⟨RX6, "changeArms", "(I)V"⟩
abbrev cX6_isOver : ByteArray := prog_8_method_4_code
def yX6_isOver : MethodName := ⟨RX6, "isOver", "()Z"⟩
abbrev cX6_goRounds : ByteArray := prog_8_method_5_code
def yX6_goRounds : MethodName := ⟨RX6, "goRounds", "(I)V"⟩
abbrev cX6_goRoundsTillOver : ByteArray := prog_8_method_6_code
def yX6_goRoundsTillOver : MethodName := ⟨RX6, "goRoundsTillOver", "(I)V"⟩
abbrev cX6_goAsPlanned : ByteArray := prog_8_method_7_code
def yX6_goAsPlanned : MethodName := ⟨RX6, "goAsPlanned", "(II)V"⟩
abbrev cX6_goRound : ByteArray := prog_8_method_8_code
def yX6_goRound : MethodName := ⟨RX6, "goRound", "()V"⟩
abbrev cX6_takeOne : ByteArray := prog_8_method_9_code
def yX6_takeOne : MethodName := ⟨RX6, "takeOne", "(I)V"⟩
abbrev cX6_drawnArm : ByteArray := prog_8_method_10_code
def yX6_drawnArm : MethodName := ⟨RX6, "drawnArm", "(I)I"⟩
abbrev cX6_endsByItself : ByteArray := prog_8_method_11_code
def yX6_endsByItself : MethodName := ⟨RX6, "endsByItself", "(II)Z"⟩
abbrev cX6_tellUpward : ByteArray := prog_8_method_12_code
def yX6_tellUpward : MethodName := ⟨RX6, "tellUpward", "(I)V"⟩
abbrev cX6_cancelByHand : ByteArray := prog_8_method_13_code
def yX6_cancelByHand : MethodName := ⟨RX6, "cancelByHand", "(I)I"⟩
abbrev cX6_cancelFrom : ByteArray := prog_8_method_14_code
def yX6_cancelFrom : MethodName := ⟨RX6, "cancelFrom", "(II)I"⟩
abbrev cX6_armAtWorkOn : ByteArray := prog_8_method_15_code
def yX6_armAtWorkOn : MethodName := ⟨RX6, "armAtWorkOn", "(I)I"⟩
abbrev cX6_armWithRowOf : ByteArray := prog_8_method_16_code
def yX6_armWithRowOf : MethodName := ⟨RX6, "armWithRowOf", "(I)I"⟩
abbrev cX6_idleOfAll : ByteArray := prog_8_method_17_code
def yX6_idleOfAll : MethodName := ⟨RX6, "idleOfAll", "()I"⟩
abbrev cX6_stoleOfAll : ByteArray := prog_8_method_18_code
def yX6_stoleOfAll : MethodName := ⟨RX6, "stoleOfAll", "()I"⟩
def RX7 : String := "StealingArms"
def TX7 : u_T := fun k => match k with
  | 0 => ("StealingArms", "now", "LStealingArms$World;", true)
  | 1 => ("StealingArms", "kept", "LStealingArms$World;", true)
  | 2 => ("StealingArms", "asked", "LStealingArms$World;", true)
  | 3 => ("StealingArms", "text", "LStealingArms$Text;", true)
  | 4 => ("StealingArms", "tapes", "[LStealingArms$Tape;", true)
  | _ => ("StealingArms", "hasImage", "Z", false)
def tyX7 : Nat → FieldType := fun k => match k with
  | 0 => .object "StealingArms$World"
  | 1 => .object "StealingArms$World"
  | 2 => .object "StealingArms$World"
  | 3 => .object "StealingArms$Text"
  | 4 => .array (.object "StealingArms$Tape")
  | _ => .boolean
abbrev wsX70 : List Cond := u_ws RX7 TX7 6
theorem nmX7 : ∀ a, a < 6 → ∀ b, b < 6 → a ≠ b → (TX7 a).2.1 ≠ (TX7 b).2.1 := by decide +kernel
theorem tyX7_ok : ∀ k, k < 6 → parseFieldDescriptor (TX7 k).2.2.1 = some (tyX7 k) := by decide +kernel
abbrev cX7_init : ByteArray := prog_1_method_1_code
def yX7_init : MethodName := ⟨RX7, "<init>", "()V"⟩
abbrev cX7_arms : ByteArray := prog_1_method_2_code
def yX7_arms : MethodName := ⟨RX7, "arms", "(I)I"⟩
abbrev cX7_seed : ByteArray := prog_1_method_3_code
def yX7_seed : MethodName := ⟨RX7, "seed", "(I)I"⟩
abbrev cX7_feed : ByteArray := prog_1_method_4_code
def yX7_feed : MethodName := ⟨RX7, "feed", "(I)I"⟩
abbrev cX7_tree : ByteArray := prog_1_method_5_code
def yX7_tree : MethodName := ⟨RX7, "tree", "(I)I"⟩
abbrev cX7_of : ByteArray := prog_1_method_6_code
def yX7_of : MethodName := ⟨RX7, "of", "(II)I"⟩
abbrev cX7_cause : ByteArray := prog_1_method_7_code
def yX7_cause : MethodName := ⟨RX7, "cause", "(II)I"⟩
abbrev cX7_arm : ByteArray := prog_1_method_8_code
def yX7_arm : MethodName := ⟨RX7, "arm", "(II)I"⟩
abbrev cX7_pass : ByteArray := prog_1_method_9_code
def yX7_pass : MethodName := ⟨RX7, "pass", "(I)I"⟩
abbrev cX7_cancel : ByteArray := prog_1_method_10_code
def yX7_cancel : MethodName := ⟨RX7, "cancel", "(I)I"⟩
abbrev cX7_told : ByteArray := prog_1_method_11_code
def yX7_told : MethodName := ⟨RX7, "told", "(I)I"⟩
abbrev cX7_trace : ByteArray := prog_1_method_12_code
def yX7_trace : MethodName := ⟨RX7, "trace", "(II)I"⟩
abbrev cX7_on : ByteArray := prog_1_method_13_code
def yX7_on : MethodName := ⟨RX7, "on", "(II)I"⟩
abbrev cX7_till : ByteArray := prog_1_method_14_code
def yX7_till : MethodName := ⟨RX7, "till", "(I)I"⟩
abbrev cX7_see : ByteArray := prog_1_method_15_code
def yX7_see : MethodName := ⟨RX7, "see", "(II)I"⟩
abbrev cX7_seeds : ByteArray := prog_1_method_16_code
def yX7_seeds : MethodName := ⟨RX7, "seeds", "()I"⟩
abbrev cX7_odds : ByteArray := prog_1_method_17_code
def yX7_odds : MethodName := ⟨RX7, "odds", "(II)J"⟩
abbrev cX7_mean : ByteArray := prog_1_method_18_code
def yX7_mean : MethodName := ⟨RX7, "mean", "(I)J"⟩
abbrev cX7_plan : ByteArray := prog_1_method_19_code
def yX7_plan : MethodName := ⟨RX7, "plan", "(II)I"⟩
abbrev cX7_ends : ByteArray := prog_1_method_20_code
def yX7_ends : MethodName := ⟨RX7, "ends", "(I)I"⟩
abbrev cX7_book : ByteArray := prog_1_method_21_code
def yX7_book : MethodName := ⟨RX7, "book", "(II)I"⟩
abbrev cX7_looked : ByteArray := prog_1_method_22_code
def yX7_looked : MethodName := ⟨RX7, "looked", "()I"⟩
abbrev cX7_judge : ByteArray := prog_1_method_23_code
def yX7_judge : MethodName := ⟨RX7, "judge", "(II)I"⟩
abbrev cX7_image : ByteArray := prog_1_method_24_code
def yX7_image : MethodName := ⟨RX7, "image", "()I"⟩
abbrev cX7_undo : ByteArray := prog_1_method_25_code
def yX7_undo : MethodName := ⟨RX7, "undo", "()I"⟩
abbrev cX7_count : ByteArray := prog_1_method_26_code
def yX7_count : MethodName := ⟨RX7, "count", "(I)I"⟩
abbrev cX7_tape : ByteArray := prog_1_method_27_code
def yX7_tape : MethodName := ⟨RX7, "tape", "(III)I"⟩
abbrev cX7_item : ByteArray := prog_1_method_28_code
def yX7_item : MethodName := ⟨RX7, "item", "(IIJ)I"⟩
abbrev cX7_read : ByteArray := prog_1_method_29_code
def yX7_read : MethodName := ⟨RX7, "read", "(II)J"⟩
abbrev cX7_shift : ByteArray := prog_1_method_30_code
def yX7_shift : MethodName := ⟨RX7, "shift", "(IIIII)I"⟩
abbrev cX7_isArm : ByteArray := prog_1_method_31_code
def yX7_isArm : MethodName := ⟨RX7, "isArm", "(I)Z"⟩
abbrev cX7_isTape : ByteArray := prog_1_method_32_code
def yX7_isTape : MethodName := ⟨RX7, "isTape", "(I)Z"⟩
abbrev cX7_roundsTillOver : ByteArray := prog_1_method_33_code
def yX7_roundsTillOver : MethodName := ⟨RX7, "roundsTillOver", "(I)I"⟩
abbrev cX7_bestArms : ByteArray := prog_1_method_34_code
def yX7_bestArms : MethodName := ⟨RX7, "bestArms", "()I"⟩
abbrev cX7_isAsSeen : ByteArray := prog_1_method_35_code
def yX7_isAsSeen : MethodName := ⟨RX7, "isAsSeen", "(I)Z"⟩
abbrev cX7_lowest : ByteArray := prog_1_method_36_code
def yX7_lowest : MethodName := ⟨RX7, "lowest", "(III)I"⟩
def RX8 : String := "StealingArmsModel"
def TX8 : u_T := fun k => match k with
  | 0 => ("StealingArmsModel", "armMany", "I", false)
  | 1 => ("StealingArmsModel", "rowMany", "[I", true)
  | 2 => ("StealingArmsModel", "rowTasks", "[I", true)
  | 3 => ("StealingArmsModel", "works", "[I", true)
  | 4 => ("StealingArmsModel", "idle", "[I", true)
  | 5 => ("StealingArmsModel", "stole", "[I", true)
  | 6 => ("StealingArmsModel", "tasks", "I", false)
  | 7 => ("StealingArmsModel", "states", "[I", true)
  | 8 => ("StealingArmsModel", "workOf", "[I", true)
  | 9 => ("StealingArmsModel", "left", "[I", true)
  | 10 => ("StealingArmsModel", "worths", "[I", true)
  | 11 => ("StealingArmsModel", "isIn", "[I", true)
  | 12 => ("StealingArmsModel", "marks", "[I", true)
  | 13 => ("StealingArmsModel", "causes", "[I", true)
  | 14 => ("StealingArmsModel", "seedNow", "I", false)
  | 15 => ("StealingArmsModel", "round", "I", false)
  | 16 => ("StealingArmsModel", "traced", "I", false)
  | 17 => ("StealingArmsModel", "trace0", "[I", true)
  | 18 => ("StealingArmsModel", "seenMany", "I", false)
  | 19 => ("StealingArmsModel", "seenWhat", "[I", true)
  | 20 => ("StealingArmsModel", "seenAt", "[I", true)
  | 21 => ("StealingArmsModel", "planMany", "I", false)
  | 22 => ("StealingArmsModel", "planWhat", "[I", true)
  | 23 => ("StealingArmsModel", "planN", "[I", true)
  | 24 => ("StealingArmsModel", "bookMany", "I", false)
  | 25 => ("StealingArmsModel", "bookTask", "[I", true)
  | 26 => ("StealingArmsModel", "bookWhat", "[I", true)
  | 27 => ("StealingArmsModel", "came", "I", false)
  | 28 => ("StealingArmsModel", "isOtherwise", "Z", false)
  | 29 => ("StealingArmsModel", "thrown", "I", false)
  | 30 => ("StealingArmsModel", "kept", "[I", true)
  | 31 => ("StealingArmsModel", "imaged", "[I", true)
  | 32 => ("StealingArmsModel", "hasImage", "Z", false)
  | 33 => ("StealingArmsModel", "place0", "I", false)
  | 34 => ("StealingArmsModel", "isTaking", "Z", false)
  | 35 => ("StealingArmsModel", "keptIn", "[I", false)
  | 36 => ("StealingArmsModel", "below", "[Z", true)
  | 37 => ("StealingArmsModel", "text", "[I", true)
  | 38 => ("StealingArmsModel", "size", "I", false)
  | 39 => ("StealingArmsModel", "place", "I", false)
  | 40 => ("StealingArmsModel", "isBad", "Z", false)
  | 41 => ("StealingArmsModel", "readMany", "I", false)
  | 42 => ("StealingArmsModel", "readWork", "[I", true)
  | 43 => ("StealingArmsModel", "readMark", "[I", true)
  | 44 => ("StealingArmsModel", "readIn", "[I", true)
  | 45 => ("StealingArmsModel", "deep", "I", false)
  | 46 => ("StealingArmsModel", "openOf", "[I", true)
  | 47 => ("StealingArmsModel", "openMany", "[I", true)
  | 48 => ("StealingArmsModel", "spans", "[I", true)
  | 49 => ("StealingArmsModel", "alls", "[I", true)
  | 50 => ("StealingArmsModel", "sortOf", "[I", true)
  | 51 => ("StealingArmsModel", "manyOf", "[I", true)
  | 52 => ("StealingArmsModel", "items", "[J", true)
  | 53 => ("StealingArmsModel", "copies", "[J", true)
  | _ => ("StealingArmsModel", "holdsRow", "[Z", true)
def tyX8 : Nat → FieldType := fun k => match k with
  | 0 => .int
  | 1 => .array .int
  | 2 => .array .int
  | 3 => .array .int
  | 4 => .array .int
  | 5 => .array .int
  | 6 => .int
  | 7 => .array .int
  | 8 => .array .int
  | 9 => .array .int
  | 10 => .array .int
  | 11 => .array .int
  | 12 => .array .int
  | 13 => .array .int
  | 14 => .int
  | 15 => .int
  | 16 => .int
  | 17 => .array .int
  | 18 => .int
  | 19 => .array .int
  | 20 => .array .int
  | 21 => .int
  | 22 => .array .int
  | 23 => .array .int
  | 24 => .int
  | 25 => .array .int
  | 26 => .array .int
  | 27 => .int
  | 28 => .boolean
  | 29 => .int
  | 30 => .array .int
  | 31 => .array .int
  | 32 => .boolean
  | 33 => .int
  | 34 => .boolean
  | 35 => .array .int
  | 36 => .array .boolean
  | 37 => .array .int
  | 38 => .int
  | 39 => .int
  | 40 => .boolean
  | 41 => .int
  | 42 => .array .int
  | 43 => .array .int
  | 44 => .array .int
  | 45 => .int
  | 46 => .array .int
  | 47 => .array .int
  | 48 => .array .int
  | 49 => .array .int
  | 50 => .array .int
  | 51 => .array .int
  | 52 => .array .long
  | 53 => .array .long
  | _ => .array .boolean
abbrev wsX80 : List Cond := u_ws RX8 TX8 55
theorem nmX8 : ∀ a, a < 55 → ∀ b, b < 55 → a ≠ b → (TX8 a).2.1 ≠ (TX8 b).2.1 := by decide +kernel
theorem tyX8_ok : ∀ k, k < 55 → parseFieldDescriptor (TX8 k).2.2.1 = some (tyX8 k) := by decide +kernel
abbrev cX8_init : ByteArray := prog_10_method_1_code
def yX8_init : MethodName := ⟨RX8, "<init>", "()V"⟩
abbrev cX8_in : ByteArray := prog_10_method_3_code
def yX8_in : MethodName := ⟨RX8, "in", "(JJJ)Z"⟩
abbrev cX8_isTask : ByteArray := prog_10_method_4_code
def yX8_isTask : MethodName := ⟨RX8, "isTask", "(I)Z"⟩
abbrev cX8_isArm : ByteArray := prog_10_method_5_code
def yX8_isArm : MethodName := ⟨RX8, "isArm", "(I)Z"⟩
abbrev cX8_isEnded : ByteArray := prog_10_method_6_code
def yX8_isEnded : MethodName := ⟨RX8, "isEnded", "(I)Z"⟩
abbrev cX8_carry : ByteArray := prog_10_method_7_code
def yX8_carry : MethodName := ⟨RX8, "carry", "(I)I"⟩
abbrev cX8_carryTold : ByteArray := prog_10_method_8_code
def yX8_carryTold : MethodName := ⟨RX8, "carryTold", "()V"⟩
abbrev cX8_carryAll : ByteArray := prog_10_method_9_code
def yX8_carryAll : MethodName := ⟨RX8, "carryAll", "([IZ)V"⟩
abbrev cX8_open : ByteArray := prog_10_method_10_code
def yX8_open : MethodName := ⟨RX8, "open", "()V"⟩
abbrev cX8_again : ByteArray := prog_10_method_11_code
def yX8_again : MethodName := ⟨RX8, "again", "()V"⟩
abbrev cX8_image : ByteArray := prog_10_method_12_code
def yX8_image : MethodName := ⟨RX8, "image", "()I"⟩
abbrev cX8_undo : ByteArray := prog_10_method_13_code
def yX8_undo : MethodName := ⟨RX8, "undo", "()I"⟩
abbrev cX8_looksAt : ByteArray := prog_10_method_14_code
def yX8_looksAt : MethodName := ⟨RX8, "looksAt", "(I)V"⟩
abbrev cX8_entry : ByteArray := prog_10_method_15_code
def yX8_entry : MethodName := ⟨RX8, "entry", "(III)V"⟩
abbrev cX8_leavesRows : ByteArray := prog_10_method_16_code
def yX8_leavesRows : MethodName := ⟨RX8, "leavesRows", "(I)V"⟩
abbrev cX8_cancelMarked : ByteArray := prog_10_method_17_code
def yX8_cancelMarked : MethodName := ⟨RX8, "cancelMarked", "()I"⟩
abbrev cX8_cancelIn : ByteArray := prog_10_method_18_code
def yX8_cancelIn : MethodName := ⟨RX8, "cancelIn", "(I)V"⟩
abbrev cX8_cancelOne : ByteArray := prog_10_method_19_code
def yX8_cancelOne : MethodName := ⟨RX8, "cancelOne", "(I)I"⟩
abbrev cX8_allEnded : ByteArray := prog_10_method_20_code
def yX8_allEnded : MethodName := ⟨RX8, "allEnded", "(I)Z"⟩
abbrev cX8_worthIn : ByteArray := prog_10_method_21_code
def yX8_worthIn : MethodName := ⟨RX8, "worthIn", "(I)I"⟩
abbrev cX8_goesUp : ByteArray := prog_10_method_22_code
def yX8_goesUp : MethodName := ⟨RX8, "goesUp", "(I)V"⟩
abbrev cX8_manyIn : ByteArray := prog_10_method_23_code
def yX8_manyIn : MethodName := ⟨RX8, "manyIn", "(I)I"⟩
abbrev cX8_comesTo : ByteArray := prog_10_method_24_code
def yX8_comesTo : MethodName := ⟨RX8, "comesTo", "(II)V"⟩
abbrev cX8_isThrough : ByteArray := prog_10_method_25_code
def yX8_isThrough : MethodName := ⟨RX8, "isThrough", "(II)V"⟩
abbrev cX8_drawBelow : ByteArray := prog_10_method_26_code
def yX8_drawBelow : MethodName := ⟨RX8, "drawBelow", "(I)I"⟩
abbrev cX8_fullOthers : ByteArray := prog_10_method_27_code
def yX8_fullOthers : MethodName := ⟨RX8, "fullOthers", "(I)I"⟩
abbrev cX8_worksOn : ByteArray := prog_10_method_28_code
def yX8_worksOn : MethodName := ⟨RX8, "worksOn", "(III)V"⟩
abbrev cX8_steals : ByteArray := prog_10_method_29_code
def yX8_steals : MethodName := ⟨RX8, "steals", "(II)V"⟩
abbrev cX8_armGoes : ByteArray := prog_10_method_30_code
def yX8_armGoes : MethodName := ⟨RX8, "armGoes", "(I)V"⟩
abbrev cX8_roundOn : ByteArray := prog_10_method_31_code
def yX8_roundOn : MethodName := ⟨RX8, "roundOn", "()V"⟩
abbrev cX8_goRounds : ByteArray := prog_10_method_32_code
def yX8_goRounds : MethodName := ⟨RX8, "goRounds", "(I)V"⟩
abbrev cX8_isOver : ByteArray := prog_10_method_33_code
def yX8_isOver : MethodName := ⟨RX8, "isOver", "()Z"⟩
abbrev cX8_becomeArms : ByteArray := prog_10_method_34_code
def yX8_becomeArms : MethodName := ⟨RX8, "becomeArms", "(I)V"⟩
abbrev cX8_arms : ByteArray := prog_10_method_35_code
def yX8_arms : MethodName := ⟨RX8, "arms", "(I)I"⟩
abbrev cX8_seed : ByteArray := prog_10_method_36_code
def yX8_seed : MethodName := ⟨RX8, "seed", "(I)I"⟩
abbrev cX8_feed : ByteArray := prog_10_method_37_code
def yX8_feed : MethodName := ⟨RX8, "feed", "(I)I"⟩
abbrev cX8_here : ByteArray := prog_10_method_38_code
def yX8_here : MethodName := ⟨RX8, "here", "()I"⟩
abbrev cX8_readTask : ByteArray := prog_10_method_39_code
def yX8_readTask : MethodName := ⟨RX8, "readTask", "()V"⟩
abbrev cX8_goesOn : ByteArray := prog_10_method_40_code
def yX8_goesOn : MethodName := ⟨RX8, "goesOn", "()Z"⟩
abbrev cX8_readTree : ByteArray := prog_10_method_41_code
def yX8_readTree : MethodName := ⟨RX8, "readTree", "()Z"⟩
abbrev cX8_tree : ByteArray := prog_10_method_42_code
def yX8_tree : MethodName := ⟨RX8, "tree", "(I)I"⟩
abbrev cX8_rowOf : ByteArray := prog_10_method_43_code
def yX8_rowOf : MethodName := ⟨RX8, "rowOf", "(I)I"⟩
abbrev cX8_workedBy : ByteArray := prog_10_method_44_code
def yX8_workedBy : MethodName := ⟨RX8, "workedBy", "(I)I"⟩
abbrev cX8_laySpans : ByteArray := prog_10_method_45_code
def yX8_laySpans : MethodName := ⟨RX8, "laySpans", "()V"⟩
abbrev cX8_depthOf : ByteArray := prog_10_method_46_code
def yX8_depthOf : MethodName := ⟨RX8, "depthOf", "(I)I"⟩
abbrev cX8_treeOf : ByteArray := prog_10_method_47_code
def yX8_treeOf : MethodName := ⟨RX8, "treeOf", "(II)I"⟩
abbrev cX8_of : ByteArray := prog_10_method_48_code
def yX8_of : MethodName := ⟨RX8, "of", "(II)I"⟩
abbrev cX8_cause : ByteArray := prog_10_method_49_code
def yX8_cause : MethodName := ⟨RX8, "cause", "(II)I"⟩
abbrev cX8_arm : ByteArray := prog_10_method_50_code
def yX8_arm : MethodName := ⟨RX8, "arm", "(II)I"⟩
abbrev cX8_pass : ByteArray := prog_10_method_51_code
def yX8_pass : MethodName := ⟨RX8, "pass", "(I)I"⟩
abbrev cX8_cancel : ByteArray := prog_10_method_52_code
def yX8_cancel : MethodName := ⟨RX8, "cancel", "(I)I"⟩
abbrev cX8_tillOver : ByteArray := prog_10_method_53_code
def yX8_tillOver : MethodName := ⟨RX8, "tillOver", "()I"⟩
abbrev cX8_tillBy : ByteArray := prog_10_method_54_code
def yX8_tillBy : MethodName := ⟨RX8, "tillBy", "(I)I"⟩
abbrev cX8_bestArms : ByteArray := prog_10_method_55_code
def yX8_bestArms : MethodName := ⟨RX8, "bestArms", "()I"⟩
abbrev cX8_told : ByteArray := prog_10_method_56_code
def yX8_told : MethodName := ⟨RX8, "told", "(I)I"⟩
abbrev cX8_trace : ByteArray := prog_10_method_57_code
def yX8_trace : MethodName := ⟨RX8, "trace", "(II)I"⟩
abbrev cX8_endedMany : ByteArray := prog_10_method_58_code
def yX8_endedMany : MethodName := ⟨RX8, "endedMany", "()I"⟩
abbrev cX8_doneMany : ByteArray := prog_10_method_59_code
def yX8_doneMany : MethodName := ⟨RX8, "doneMany", "()I"⟩
abbrev cX8_worthAll : ByteArray := prog_10_method_60_code
def yX8_worthAll : MethodName := ⟨RX8, "worthAll", "()I"⟩
abbrev cX8_ofArms : ByteArray := prog_10_method_61_code
def yX8_ofArms : MethodName := ⟨RX8, "ofArms", "(I)I"⟩
abbrev cX8_on : ByteArray := prog_10_method_62_code
def yX8_on : MethodName := ⟨RX8, "on", "(II)I"⟩
abbrev cX8_till : ByteArray := prog_10_method_63_code
def yX8_till : MethodName := ⟨RX8, "till", "(I)I"⟩
abbrev cX8_see : ByteArray := prog_10_method_64_code
def yX8_see : MethodName := ⟨RX8, "see", "(II)I"⟩
abbrev cX8_allSeen : ByteArray := prog_10_method_65_code
def yX8_allSeen : MethodName := ⟨RX8, "allSeen", "(I)Z"⟩
abbrev cX8_seeds : ByteArray := prog_10_method_66_code
def yX8_seeds : MethodName := ⟨RX8, "seeds", "()I"⟩
abbrev cX8_divisor : ByteArray := prog_10_method_67_code
def yX8_divisor : MethodName := ⟨RX8, "divisor", "(JJ)J"⟩
abbrev cX8_partOf : ByteArray := prog_10_method_68_code
def yX8_partOf : MethodName := ⟨RX8, "partOf", "(JJI)J"⟩
abbrev cX8_odds : ByteArray := prog_10_method_69_code
def yX8_odds : MethodName := ⟨RX8, "odds", "(II)J"⟩
abbrev cX8_mean : ByteArray := prog_10_method_70_code
def yX8_mean : MethodName := ⟨RX8, "mean", "(I)J"⟩
abbrev cX8_plan : ByteArray := prog_10_method_71_code
def yX8_plan : MethodName := ⟨RX8, "plan", "(II)I"⟩
abbrev cX8_planned : ByteArray := prog_10_method_72_code
def yX8_planned : MethodName := ⟨RX8, "planned", "(I)V"⟩
abbrev cX8_ends : ByteArray := prog_10_method_73_code
def yX8_ends : MethodName := ⟨RX8, "ends", "(I)I"⟩
abbrev cX8_book : ByteArray := prog_10_method_74_code
def yX8_book : MethodName := ⟨RX8, "book", "(II)I"⟩
abbrev cX8_looked : ByteArray := prog_10_method_75_code
def yX8_looked : MethodName := ⟨RX8, "looked", "()I"⟩
abbrev cX8_count : ByteArray := prog_10_method_76_code
def yX8_count : MethodName := ⟨RX8, "count", "(I)I"⟩
abbrev cX8_isTape : ByteArray := prog_10_method_77_code
def yX8_isTape : MethodName := ⟨RX8, "isTape", "(I)Z"⟩
abbrev cX8_tape : ByteArray := prog_10_method_78_code
def yX8_tape : MethodName := ⟨RX8, "tape", "(III)I"⟩
abbrev cX8_narrowed : ByteArray := prog_10_method_79_code
def yX8_narrowed : MethodName := ⟨RX8, "narrowed", "(JI)J"⟩
abbrev cX8_item : ByteArray := prog_10_method_80_code
def yX8_item : MethodName := ⟨RX8, "item", "(IIJ)I"⟩
abbrev cX8_read : ByteArray := prog_10_method_81_code
def yX8_read : MethodName := ⟨RX8, "read", "(II)J"⟩
abbrev cX8_shift : ByteArray := prog_10_method_82_code
def yX8_shift : MethodName := ⟨RX8, "shift", "(IIIII)I"⟩
abbrev cX8_judge : ByteArray := prog_10_method_83_code
def yX8_judge : MethodName := ⟨RX8, "judge", "(II)I"⟩
def RL : String := "StealingArmsLaw"
abbrev cL_law : ByteArray := code
def yL_law : MethodName := ⟨RL, "law", "([I)Z"⟩
abbrev vwCl : List vw_C := [(RX0, TX0, 5), (RX1, TX1, 8), (RX2, TX2, 3), (RX3, TX3, 3), (RX4, TX4, 9), (RX5, TX5, 10), (RX6, TX6, 9), (RX7, TX7, 6), (RX8, TX8, 55)]
end
section
theorem dX0_init_0 : decode cX0_init 0 = .ok (.aload_n 0, 1) := by decide +kernel
theorem dX0_init_1 : decode cX0_init 1 = .ok (.invokespecial 3, 3) := by decide +kernel
theorem dX0_init_4 : decode cX0_init 4 = .ok (.aload_n 0, 1) := by decide +kernel
theorem dX0_init_5 : decode cX0_init 5 = .ok (.bipush 32, 2) := by decide +kernel
theorem dX0_init_7 : decode cX0_init 7 = .ok (.newarray .int, 2) := by decide +kernel
theorem dX0_init_9 : decode cX0_init 9 = .ok (.putfield 9, 3) := by decide +kernel
theorem dX0_init_12 : decode cX0_init 12 = .ok (.aload_n 0, 1) := by decide +kernel
theorem dX0_init_13 : decode cX0_init 13 = .ok (.iconst 0, 1) := by decide +kernel
theorem dX0_init_14 : decode cX0_init 14 = .ok (.putfield 15, 3) := by decide +kernel
theorem dX0_init_17 : decode cX0_init 17 = .ok (.aload_n 0, 1) := by decide +kernel
theorem dX0_init_18 : decode cX0_init 18 = .ok (.bipush (-5), 2) := by decide +kernel
theorem dX0_init_20 : decode cX0_init 20 = .ok (.putfield 19, 3) := by decide +kernel
theorem dX0_init_23 : decode cX0_init 23 = .ok (.aload_n 0, 1) := by decide +kernel
theorem dX0_init_24 : decode cX0_init 24 = .ok (.iconst 0, 1) := by decide +kernel
theorem dX0_init_25 : decode cX0_init 25 = .ok (.putfield 22, 3) := by decide +kernel
theorem dX0_init_28 : decode cX0_init 28 = .ok (.aload_n 0, 1) := by decide +kernel
theorem dX0_init_29 : decode cX0_init 29 = .ok (.iconst 0, 1) := by decide +kernel
theorem dX0_init_30 : decode cX0_init 30 = .ok (.putfield 25, 3) := by decide +kernel
theorem dX0_init_33 : decode cX0_init 33 = .ok (.return_, 1) := by decide +kernel
theorem dX0_become_0 : decode cX0_become 0 = .ok (.aload_n 1, 1) := by decide +kernel
theorem dX0_become_1 : decode cX0_become 1 = .ok (.getfield 9, 3) := by decide +kernel
theorem dX0_become_4 : decode cX0_become 4 = .ok (.iconst 0, 1) := by decide +kernel
theorem dX0_become_5 : decode cX0_become 5 = .ok (.aload_n 0, 1) := by decide +kernel
theorem dX0_become_6 : decode cX0_become 6 = .ok (.getfield 9, 3) := by decide +kernel
theorem dX0_become_9 : decode cX0_become 9 = .ok (.iconst 0, 1) := by decide +kernel
theorem dX0_become_10 : decode cX0_become 10 = .ok (.aload_n 0, 1) := by decide +kernel
theorem dX0_become_11 : decode cX0_become 11 = .ok (.getfield 9, 3) := by decide +kernel
theorem dX0_become_14 : decode cX0_become 14 = .ok (.arraylength, 1) := by decide +kernel
theorem dX0_become_15 : decode cX0_become 15 = .ok (.invokestatic 28, 3) := by decide +kernel
theorem dX0_become_18 : decode cX0_become 18 = .ok (.aload_n 0, 1) := by decide +kernel
theorem dX0_become_19 : decode cX0_become 19 = .ok (.aload_n 1, 1) := by decide +kernel
theorem dX0_become_20 : decode cX0_become 20 = .ok (.getfield 15, 3) := by decide +kernel
theorem dX0_become_23 : decode cX0_become 23 = .ok (.putfield 15, 3) := by decide +kernel
theorem dX0_become_26 : decode cX0_become 26 = .ok (.aload_n 0, 1) := by decide +kernel
theorem dX0_become_27 : decode cX0_become 27 = .ok (.aload_n 1, 1) := by decide +kernel
theorem dX0_become_28 : decode cX0_become 28 = .ok (.getfield 19, 3) := by decide +kernel
theorem dX0_become_31 : decode cX0_become 31 = .ok (.putfield 19, 3) := by decide +kernel
theorem dX0_become_34 : decode cX0_become 34 = .ok (.aload_n 0, 1) := by decide +kernel
theorem dX0_become_35 : decode cX0_become 35 = .ok (.aload_n 1, 1) := by decide +kernel
theorem dX0_become_36 : decode cX0_become 36 = .ok (.getfield 22, 3) := by decide +kernel
theorem dX0_become_39 : decode cX0_become 39 = .ok (.putfield 22, 3) := by decide +kernel
theorem dX0_become_42 : decode cX0_become 42 = .ok (.aload_n 0, 1) := by decide +kernel
theorem dX0_become_43 : decode cX0_become 43 = .ok (.aload_n 1, 1) := by decide +kernel
theorem dX0_become_44 : decode cX0_become 44 = .ok (.getfield 25, 3) := by decide +kernel
theorem dX0_become_47 : decode cX0_become 47 = .ok (.putfield 25, 3) := by decide +kernel
theorem dX0_become_50 : decode cX0_become 50 = .ok (.return_, 1) := by decide +kernel
theorem dX0_clear_0 : decode cX0_clear 0 = .ok (.aload_n 0, 1) := by decide +kernel
theorem dX0_clear_1 : decode cX0_clear 1 = .ok (.iconst 0, 1) := by decide +kernel
theorem dX0_clear_2 : decode cX0_clear 2 = .ok (.putfield 15, 3) := by decide +kernel
theorem dX0_clear_5 : decode cX0_clear 5 = .ok (.aload_n 0, 1) := by decide +kernel
theorem dX0_clear_6 : decode cX0_clear 6 = .ok (.bipush (-5), 2) := by decide +kernel
theorem dX0_clear_8 : decode cX0_clear 8 = .ok (.putfield 19, 3) := by decide +kernel
theorem dX0_clear_11 : decode cX0_clear 11 = .ok (.aload_n 0, 1) := by decide +kernel
theorem dX0_clear_12 : decode cX0_clear 12 = .ok (.iconst 0, 1) := by decide +kernel
theorem dX0_clear_13 : decode cX0_clear 13 = .ok (.putfield 22, 3) := by decide +kernel
theorem dX0_clear_16 : decode cX0_clear 16 = .ok (.aload_n 0, 1) := by decide +kernel
theorem dX0_clear_17 : decode cX0_clear 17 = .ok (.iconst 0, 1) := by decide +kernel
theorem dX0_clear_18 : decode cX0_clear 18 = .ok (.putfield 25, 3) := by decide +kernel
theorem dX0_clear_21 : decode cX0_clear 21 = .ok (.return_, 1) := by decide +kernel
theorem dX0_taskAt_0 : decode cX0_taskAt 0 = .ok (.iload_n 1, 1) := by decide +kernel
theorem dX0_taskAt_1 : decode cX0_taskAt 1 = .ok (.ifCond .lt 20, 3) := by decide +kernel
theorem dX0_taskAt_4 : decode cX0_taskAt 4 = .ok (.iload_n 1, 1) := by decide +kernel
theorem dX0_taskAt_5 : decode cX0_taskAt 5 = .ok (.aload_n 0, 1) := by decide +kernel
theorem dX0_taskAt_6 : decode cX0_taskAt 6 = .ok (.getfield 15, 3) := by decide +kernel
theorem dX0_taskAt_9 : decode cX0_taskAt 9 = .ok (.if_icmp .ge 12, 3) := by decide +kernel
theorem dX0_taskAt_12 : decode cX0_taskAt 12 = .ok (.aload_n 0, 1) := by decide +kernel
theorem dX0_taskAt_13 : decode cX0_taskAt 13 = .ok (.getfield 9, 3) := by decide +kernel
theorem dX0_taskAt_16 : decode cX0_taskAt 16 = .ok (.iload_n 1, 1) := by decide +kernel
theorem dX0_taskAt_17 : decode cX0_taskAt 17 = .ok (.iaload, 1) := by decide +kernel
theorem dX0_taskAt_18 : decode cX0_taskAt 18 = .ok (.goto 5, 3) := by decide +kernel
theorem dX0_taskAt_21 : decode cX0_taskAt 21 = .ok (.bipush (-5), 2) := by decide +kernel
theorem dX0_taskAt_23 : decode cX0_taskAt 23 = .ok (.ireturn, 1) := by decide +kernel
theorem dX0_holds_0 : decode cX0_holds 0 = .ok (.iconst 0, 1) := by decide +kernel
theorem dX0_holds_1 : decode cX0_holds 1 = .ok (.istore_n 2, 1) := by decide +kernel
theorem dX0_holds_2 : decode cX0_holds 2 = .ok (.iload_n 2, 1) := by decide +kernel
theorem dX0_holds_3 : decode cX0_holds 3 = .ok (.aload_n 0, 1) := by decide +kernel
theorem dX0_holds_4 : decode cX0_holds 4 = .ok (.getfield 15, 3) := by decide +kernel
theorem dX0_holds_7 : decode cX0_holds 7 = .ok (.if_icmp .ge 21, 3) := by decide +kernel
theorem dX0_holds_10 : decode cX0_holds 10 = .ok (.aload_n 0, 1) := by decide +kernel
theorem dX0_holds_11 : decode cX0_holds 11 = .ok (.getfield 9, 3) := by decide +kernel
theorem dX0_holds_14 : decode cX0_holds 14 = .ok (.iload_n 2, 1) := by decide +kernel
theorem dX0_holds_15 : decode cX0_holds 15 = .ok (.iaload, 1) := by decide +kernel
theorem dX0_holds_16 : decode cX0_holds 16 = .ok (.iload_n 1, 1) := by decide +kernel
theorem dX0_holds_17 : decode cX0_holds 17 = .ok (.if_icmp .ne 5, 3) := by decide +kernel
theorem dX0_holds_20 : decode cX0_holds 20 = .ok (.iconst 1, 1) := by decide +kernel
theorem dX0_holds_21 : decode cX0_holds 21 = .ok (.ireturn, 1) := by decide +kernel
theorem dX0_holds_22 : decode cX0_holds 22 = .ok (.iinc 2 1, 3) := by decide +kernel
theorem dX0_holds_25 : decode cX0_holds 25 = .ok (.goto (-23), 3) := by decide +kernel
theorem dX0_holds_28 : decode cX0_holds 28 = .ok (.iconst 0, 1) := by decide +kernel
theorem dX0_holds_29 : decode cX0_holds 29 = .ok (.ireturn, 1) := by decide +kernel
theorem dX0_put_0 : decode cX0_put 0 = .ok (.aload_n 0, 1) := by decide +kernel
theorem dX0_put_1 : decode cX0_put 1 = .ok (.getfield 15, 3) := by decide +kernel
theorem dX0_put_4 : decode cX0_put 4 = .ok (.aload_n 0, 1) := by decide +kernel
theorem dX0_put_5 : decode cX0_put 5 = .ok (.getfield 9, 3) := by decide +kernel
theorem dX0_put_8 : decode cX0_put 8 = .ok (.arraylength, 1) := by decide +kernel
theorem dX0_put_9 : decode cX0_put 9 = .ok (.if_icmp .ge 23, 3) := by decide +kernel
theorem dX0_put_12 : decode cX0_put 12 = .ok (.aload_n 0, 1) := by decide +kernel
theorem dX0_put_13 : decode cX0_put 13 = .ok (.getfield 9, 3) := by decide +kernel
theorem dX0_put_16 : decode cX0_put 16 = .ok (.aload_n 0, 1) := by decide +kernel
theorem dX0_put_17 : decode cX0_put 17 = .ok (.getfield 15, 3) := by decide +kernel
theorem dX0_put_20 : decode cX0_put 20 = .ok (.iload_n 1, 1) := by decide +kernel
theorem dX0_put_21 : decode cX0_put 21 = .ok (.iastore, 1) := by decide +kernel
theorem dX0_put_22 : decode cX0_put 22 = .ok (.aload_n 0, 1) := by decide +kernel
theorem dX0_put_23 : decode cX0_put 23 = .ok (.dup, 1) := by decide +kernel
theorem dX0_put_24 : decode cX0_put 24 = .ok (.getfield 15, 3) := by decide +kernel
theorem dX0_put_27 : decode cX0_put 27 = .ok (.iconst 1, 1) := by decide +kernel
theorem dX0_put_28 : decode cX0_put 28 = .ok (.iadd, 1) := by decide +kernel
theorem dX0_put_29 : decode cX0_put 29 = .ok (.putfield 15, 3) := by decide +kernel
theorem dX0_put_32 : decode cX0_put 32 = .ok (.return_, 1) := by decide +kernel
theorem dX0_takeNear_0 : decode cX0_takeNear 0 = .ok (.aload_n 0, 1) := by decide +kernel
theorem dX0_takeNear_1 : decode cX0_takeNear 1 = .ok (.aload_n 0, 1) := by decide +kernel
theorem dX0_takeNear_2 : decode cX0_takeNear 2 = .ok (.getfield 15, 3) := by decide +kernel
theorem dX0_takeNear_5 : decode cX0_takeNear 5 = .ok (.iconst 1, 1) := by decide +kernel
theorem dX0_takeNear_6 : decode cX0_takeNear 6 = .ok (.isub, 1) := by decide +kernel
theorem dX0_takeNear_7 : decode cX0_takeNear 7 = .ok (.invokevirtual 34, 3) := by decide +kernel
theorem dX0_takeNear_10 : decode cX0_takeNear 10 = .ok (.istore_n 1, 1) := by decide +kernel
theorem dX0_takeNear_11 : decode cX0_takeNear 11 = .ok (.iload_n 1, 1) := by decide +kernel
theorem dX0_takeNear_12 : decode cX0_takeNear 12 = .ok (.bipush (-5), 2) := by decide +kernel
theorem dX0_takeNear_14 : decode cX0_takeNear 14 = .ok (.if_icmp .eq 13, 3) := by decide +kernel
theorem dX0_takeNear_17 : decode cX0_takeNear 17 = .ok (.aload_n 0, 1) := by decide +kernel
theorem dX0_takeNear_18 : decode cX0_takeNear 18 = .ok (.dup, 1) := by decide +kernel
theorem dX0_takeNear_19 : decode cX0_takeNear 19 = .ok (.getfield 15, 3) := by decide +kernel
theorem dX0_takeNear_22 : decode cX0_takeNear 22 = .ok (.iconst 1, 1) := by decide +kernel
theorem dX0_takeNear_23 : decode cX0_takeNear 23 = .ok (.isub, 1) := by decide +kernel
theorem dX0_takeNear_24 : decode cX0_takeNear 24 = .ok (.putfield 15, 3) := by decide +kernel
theorem dX0_takeNear_27 : decode cX0_takeNear 27 = .ok (.iload_n 1, 1) := by decide +kernel
theorem dX0_takeNear_28 : decode cX0_takeNear 28 = .ok (.ireturn, 1) := by decide +kernel
theorem dX0_takeFar_0 : decode cX0_takeFar 0 = .ok (.aload_n 0, 1) := by decide +kernel
theorem dX0_takeFar_1 : decode cX0_takeFar 1 = .ok (.iconst 0, 1) := by decide +kernel
theorem dX0_takeFar_2 : decode cX0_takeFar 2 = .ok (.invokevirtual 34, 3) := by decide +kernel
theorem dX0_takeFar_5 : decode cX0_takeFar 5 = .ok (.istore_n 1, 1) := by decide +kernel
theorem dX0_takeFar_6 : decode cX0_takeFar 6 = .ok (.iload_n 1, 1) := by decide +kernel
theorem dX0_takeFar_7 : decode cX0_takeFar 7 = .ok (.bipush (-5), 2) := by decide +kernel
theorem dX0_takeFar_9 : decode cX0_takeFar 9 = .ok (.if_icmp .eq 8, 3) := by decide +kernel
theorem dX0_takeFar_12 : decode cX0_takeFar 12 = .ok (.aload_n 0, 1) := by decide +kernel
theorem dX0_takeFar_13 : decode cX0_takeFar 13 = .ok (.iload_n 1, 1) := by decide +kernel
theorem dX0_takeFar_14 : decode cX0_takeFar 14 = .ok (.invokevirtual 38, 3) := by decide +kernel
theorem dX0_takeFar_17 : decode cX0_takeFar 17 = .ok (.iload_n 1, 1) := by decide +kernel
theorem dX0_takeFar_18 : decode cX0_takeFar 18 = .ok (.ireturn, 1) := by decide +kernel
theorem dX0_drop_0 : decode cX0_drop 0 = .ok (.aload_n 0, 1) := by decide +kernel
theorem dX0_drop_1 : decode cX0_drop 1 = .ok (.getfield 19, 3) := by decide +kernel
theorem dX0_drop_4 : decode cX0_drop 4 = .ok (.iload_n 1, 1) := by decide +kernel
theorem dX0_drop_5 : decode cX0_drop 5 = .ok (.if_icmp .ne 9, 3) := by decide +kernel
theorem dX0_drop_8 : decode cX0_drop 8 = .ok (.aload_n 0, 1) := by decide +kernel
theorem dX0_drop_9 : decode cX0_drop 9 = .ok (.bipush (-5), 2) := by decide +kernel
theorem dX0_drop_11 : decode cX0_drop 11 = .ok (.putfield 19, 3) := by decide +kernel
theorem dX0_drop_14 : decode cX0_drop 14 = .ok (.iconst 0, 1) := by decide +kernel
theorem dX0_drop_15 : decode cX0_drop 15 = .ok (.istore_n 2, 1) := by decide +kernel
theorem dX0_drop_16 : decode cX0_drop 16 = .ok (.iconst 0, 1) := by decide +kernel
theorem dX0_drop_17 : decode cX0_drop 17 = .ok (.istore_n 3, 1) := by decide +kernel
theorem dX0_drop_18 : decode cX0_drop 18 = .ok (.iload_n 3, 1) := by decide +kernel
theorem dX0_drop_19 : decode cX0_drop 19 = .ok (.aload_n 0, 1) := by decide +kernel
theorem dX0_drop_20 : decode cX0_drop 20 = .ok (.getfield 15, 3) := by decide +kernel
theorem dX0_drop_23 : decode cX0_drop 23 = .ok (.if_icmp .ge 34, 3) := by decide +kernel
theorem dX0_drop_26 : decode cX0_drop 26 = .ok (.aload_n 0, 1) := by decide +kernel
theorem dX0_drop_27 : decode cX0_drop 27 = .ok (.getfield 9, 3) := by decide +kernel
theorem dX0_drop_30 : decode cX0_drop 30 = .ok (.iload_n 3, 1) := by decide +kernel
theorem dX0_drop_31 : decode cX0_drop 31 = .ok (.iaload, 1) := by decide +kernel
theorem dX0_drop_32 : decode cX0_drop 32 = .ok (.iload_n 1, 1) := by decide +kernel
theorem dX0_drop_33 : decode cX0_drop 33 = .ok (.if_icmp .eq 18, 3) := by decide +kernel
theorem dX0_drop_36 : decode cX0_drop 36 = .ok (.aload_n 0, 1) := by decide +kernel
theorem dX0_drop_37 : decode cX0_drop 37 = .ok (.getfield 9, 3) := by decide +kernel
theorem dX0_drop_40 : decode cX0_drop 40 = .ok (.iload_n 2, 1) := by decide +kernel
theorem dX0_drop_41 : decode cX0_drop 41 = .ok (.aload_n 0, 1) := by decide +kernel
theorem dX0_drop_42 : decode cX0_drop 42 = .ok (.getfield 9, 3) := by decide +kernel
theorem dX0_drop_45 : decode cX0_drop 45 = .ok (.iload_n 3, 1) := by decide +kernel
theorem dX0_drop_46 : decode cX0_drop 46 = .ok (.iaload, 1) := by decide +kernel
theorem dX0_drop_47 : decode cX0_drop 47 = .ok (.iastore, 1) := by decide +kernel
theorem dX0_drop_48 : decode cX0_drop 48 = .ok (.iinc 2 1, 3) := by decide +kernel
theorem dX0_drop_51 : decode cX0_drop 51 = .ok (.iinc 3 1, 3) := by decide +kernel
theorem dX0_drop_54 : decode cX0_drop 54 = .ok (.goto (-36), 3) := by decide +kernel
theorem dX0_drop_57 : decode cX0_drop 57 = .ok (.aload_n 0, 1) := by decide +kernel
theorem dX0_drop_58 : decode cX0_drop 58 = .ok (.iload_n 2, 1) := by decide +kernel
theorem dX0_drop_59 : decode cX0_drop 59 = .ok (.putfield 15, 3) := by decide +kernel
theorem dX0_drop_62 : decode cX0_drop 62 = .ok (.return_, 1) := by decide +kernel
theorem dX1_init_0 : decode cX1_init 0 = .ok (.aload_n 0, 1) := by decide +kernel
theorem dX1_init_1 : decode cX1_init 1 = .ok (.invokespecial 3, 3) := by decide +kernel
theorem dX1_init_4 : decode cX1_init 4 = .ok (.aload_n 0, 1) := by decide +kernel
theorem dX1_init_5 : decode cX1_init 5 = .ok (.bipush 40, 2) := by decide +kernel
theorem dX1_init_7 : decode cX1_init 7 = .ok (.newarray .int, 2) := by decide +kernel
theorem dX1_init_9 : decode cX1_init 9 = .ok (.putfield 9, 3) := by decide +kernel
theorem dX1_init_12 : decode cX1_init 12 = .ok (.aload_n 0, 1) := by decide +kernel
theorem dX1_init_13 : decode cX1_init 13 = .ok (.bipush 40, 2) := by decide +kernel
theorem dX1_init_15 : decode cX1_init 15 = .ok (.newarray .int, 2) := by decide +kernel
theorem dX1_init_17 : decode cX1_init 17 = .ok (.putfield 15, 3) := by decide +kernel
theorem dX1_init_20 : decode cX1_init 20 = .ok (.aload_n 0, 1) := by decide +kernel
theorem dX1_init_21 : decode cX1_init 21 = .ok (.bipush 40, 2) := by decide +kernel
theorem dX1_init_23 : decode cX1_init 23 = .ok (.newarray .int, 2) := by decide +kernel
theorem dX1_init_25 : decode cX1_init 25 = .ok (.putfield 18, 3) := by decide +kernel
theorem dX1_init_28 : decode cX1_init 28 = .ok (.aload_n 0, 1) := by decide +kernel
theorem dX1_init_29 : decode cX1_init 29 = .ok (.bipush 40, 2) := by decide +kernel
theorem dX1_init_31 : decode cX1_init 31 = .ok (.newarray .int, 2) := by decide +kernel
theorem dX1_init_33 : decode cX1_init 33 = .ok (.putfield 21, 3) := by decide +kernel
theorem dX1_init_36 : decode cX1_init 36 = .ok (.aload_n 0, 1) := by decide +kernel
theorem dX1_init_37 : decode cX1_init 37 = .ok (.bipush 40, 2) := by decide +kernel
theorem dX1_init_39 : decode cX1_init 39 = .ok (.newarray .int, 2) := by decide +kernel
theorem dX1_init_41 : decode cX1_init 41 = .ok (.putfield 24, 3) := by decide +kernel
theorem dX1_init_44 : decode cX1_init 44 = .ok (.aload_n 0, 1) := by decide +kernel
theorem dX1_init_45 : decode cX1_init 45 = .ok (.iconst 0, 1) := by decide +kernel
theorem dX1_init_46 : decode cX1_init 46 = .ok (.putfield 27, 3) := by decide +kernel
theorem dX1_init_49 : decode cX1_init 49 = .ok (.aload_n 0, 1) := by decide +kernel
theorem dX1_init_50 : decode cX1_init 50 = .ok (.iconst 0, 1) := by decide +kernel
theorem dX1_init_51 : decode cX1_init 51 = .ok (.putfield 31, 3) := by decide +kernel
theorem dX1_init_54 : decode cX1_init 54 = .ok (.aload_n 0, 1) := by decide +kernel
theorem dX1_init_55 : decode cX1_init 55 = .ok (.iconst 0, 1) := by decide +kernel
theorem dX1_init_56 : decode cX1_init 56 = .ok (.putfield 34, 3) := by decide +kernel
theorem dX1_init_59 : decode cX1_init 59 = .ok (.return_, 1) := by decide +kernel
theorem dX1_become_0 : decode cX1_become 0 = .ok (.aload_n 1, 1) := by decide +kernel
theorem dX1_become_1 : decode cX1_become 1 = .ok (.getfield 9, 3) := by decide +kernel
theorem dX1_become_4 : decode cX1_become 4 = .ok (.iconst 0, 1) := by decide +kernel
theorem dX1_become_5 : decode cX1_become 5 = .ok (.aload_n 0, 1) := by decide +kernel
theorem dX1_become_6 : decode cX1_become 6 = .ok (.getfield 9, 3) := by decide +kernel
theorem dX1_become_9 : decode cX1_become 9 = .ok (.iconst 0, 1) := by decide +kernel
theorem dX1_become_10 : decode cX1_become 10 = .ok (.bipush 40, 2) := by decide +kernel
theorem dX1_become_12 : decode cX1_become 12 = .ok (.invokestatic 37, 3) := by decide +kernel
theorem dX1_become_15 : decode cX1_become 15 = .ok (.aload_n 1, 1) := by decide +kernel
theorem dX1_become_16 : decode cX1_become 16 = .ok (.getfield 15, 3) := by decide +kernel
theorem dX1_become_19 : decode cX1_become 19 = .ok (.iconst 0, 1) := by decide +kernel
theorem dX1_become_20 : decode cX1_become 20 = .ok (.aload_n 0, 1) := by decide +kernel
theorem dX1_become_21 : decode cX1_become 21 = .ok (.getfield 15, 3) := by decide +kernel
theorem dX1_become_24 : decode cX1_become 24 = .ok (.iconst 0, 1) := by decide +kernel
theorem dX1_become_25 : decode cX1_become 25 = .ok (.bipush 40, 2) := by decide +kernel
theorem dX1_become_27 : decode cX1_become 27 = .ok (.invokestatic 37, 3) := by decide +kernel
theorem dX1_become_30 : decode cX1_become 30 = .ok (.aload_n 1, 1) := by decide +kernel
theorem dX1_become_31 : decode cX1_become 31 = .ok (.getfield 18, 3) := by decide +kernel
theorem dX1_become_34 : decode cX1_become 34 = .ok (.iconst 0, 1) := by decide +kernel
theorem dX1_become_35 : decode cX1_become 35 = .ok (.aload_n 0, 1) := by decide +kernel
theorem dX1_become_36 : decode cX1_become 36 = .ok (.getfield 18, 3) := by decide +kernel
theorem dX1_become_39 : decode cX1_become 39 = .ok (.iconst 0, 1) := by decide +kernel
theorem dX1_become_40 : decode cX1_become 40 = .ok (.bipush 40, 2) := by decide +kernel
theorem dX1_become_42 : decode cX1_become 42 = .ok (.invokestatic 37, 3) := by decide +kernel
theorem dX1_become_45 : decode cX1_become 45 = .ok (.aload_n 1, 1) := by decide +kernel
theorem dX1_become_46 : decode cX1_become 46 = .ok (.getfield 21, 3) := by decide +kernel
theorem dX1_become_49 : decode cX1_become 49 = .ok (.iconst 0, 1) := by decide +kernel
theorem dX1_become_50 : decode cX1_become 50 = .ok (.aload_n 0, 1) := by decide +kernel
theorem dX1_become_51 : decode cX1_become 51 = .ok (.getfield 21, 3) := by decide +kernel
theorem dX1_become_54 : decode cX1_become 54 = .ok (.iconst 0, 1) := by decide +kernel
theorem dX1_become_55 : decode cX1_become 55 = .ok (.bipush 40, 2) := by decide +kernel
theorem dX1_become_57 : decode cX1_become 57 = .ok (.invokestatic 37, 3) := by decide +kernel
theorem dX1_become_60 : decode cX1_become 60 = .ok (.aload_n 0, 1) := by decide +kernel
theorem dX1_become_61 : decode cX1_become 61 = .ok (.aload_n 1, 1) := by decide +kernel
theorem dX1_become_62 : decode cX1_become 62 = .ok (.getfield 31, 3) := by decide +kernel
theorem dX1_become_65 : decode cX1_become 65 = .ok (.putfield 31, 3) := by decide +kernel
theorem dX1_become_68 : decode cX1_become 68 = .ok (.aload_n 0, 1) := by decide +kernel
theorem dX1_become_69 : decode cX1_become 69 = .ok (.aload_n 1, 1) := by decide +kernel
theorem dX1_become_70 : decode cX1_become 70 = .ok (.getfield 34, 3) := by decide +kernel
theorem dX1_become_73 : decode cX1_become 73 = .ok (.putfield 34, 3) := by decide +kernel
theorem dX1_become_76 : decode cX1_become 76 = .ok (.return_, 1) := by decide +kernel
theorem dX1_add_0 : decode cX1_add 0 = .ok (.aload_n 0, 1) := by decide +kernel
theorem dX1_add_1 : decode cX1_add 1 = .ok (.getfield 31, 3) := by decide +kernel
theorem dX1_add_4 : decode cX1_add 4 = .ok (.aload_n 0, 1) := by decide +kernel
theorem dX1_add_5 : decode cX1_add 5 = .ok (.getfield 34, 3) := by decide +kernel
theorem dX1_add_8 : decode cX1_add 8 = .ok (.iadd, 1) := by decide +kernel
theorem dX1_add_9 : decode cX1_add 9 = .ok (.bipush 40, 2) := by decide +kernel
theorem dX1_add_11 : decode cX1_add 11 = .ok (.irem, 1) := by decide +kernel
theorem dX1_add_12 : decode cX1_add 12 = .ok (.istore 5, 2) := by decide +kernel
theorem dX1_add_14 : decode cX1_add 14 = .ok (.aload_n 0, 1) := by decide +kernel
theorem dX1_add_15 : decode cX1_add 15 = .ok (.getfield 9, 3) := by decide +kernel
theorem dX1_add_18 : decode cX1_add 18 = .ok (.iload 5, 2) := by decide +kernel
theorem dX1_add_20 : decode cX1_add 20 = .ok (.iload_n 1, 1) := by decide +kernel
theorem dX1_add_21 : decode cX1_add 21 = .ok (.iastore, 1) := by decide +kernel
theorem dX1_add_22 : decode cX1_add 22 = .ok (.aload_n 0, 1) := by decide +kernel
theorem dX1_add_23 : decode cX1_add 23 = .ok (.getfield 15, 3) := by decide +kernel
theorem dX1_add_26 : decode cX1_add 26 = .ok (.iload 5, 2) := by decide +kernel
theorem dX1_add_28 : decode cX1_add 28 = .ok (.iload_n 2, 1) := by decide +kernel
theorem dX1_add_29 : decode cX1_add 29 = .ok (.iastore, 1) := by decide +kernel
theorem dX1_add_30 : decode cX1_add 30 = .ok (.aload_n 0, 1) := by decide +kernel
theorem dX1_add_31 : decode cX1_add 31 = .ok (.getfield 18, 3) := by decide +kernel
theorem dX1_add_34 : decode cX1_add 34 = .ok (.iload 5, 2) := by decide +kernel
theorem dX1_add_36 : decode cX1_add 36 = .ok (.iload_n 3, 1) := by decide +kernel
theorem dX1_add_37 : decode cX1_add 37 = .ok (.iastore, 1) := by decide +kernel
theorem dX1_add_38 : decode cX1_add 38 = .ok (.aload_n 0, 1) := by decide +kernel
theorem dX1_add_39 : decode cX1_add 39 = .ok (.getfield 21, 3) := by decide +kernel
theorem dX1_add_42 : decode cX1_add 42 = .ok (.iload 5, 2) := by decide +kernel
theorem dX1_add_44 : decode cX1_add 44 = .ok (.iload 4, 2) := by decide +kernel
theorem dX1_add_46 : decode cX1_add 46 = .ok (.iastore, 1) := by decide +kernel
theorem dX1_add_47 : decode cX1_add 47 = .ok (.aload_n 0, 1) := by decide +kernel
theorem dX1_add_48 : decode cX1_add 48 = .ok (.getfield 34, 3) := by decide +kernel
theorem dX1_add_51 : decode cX1_add 51 = .ok (.bipush 40, 2) := by decide +kernel
theorem dX1_add_53 : decode cX1_add 53 = .ok (.if_icmp .ge 16, 3) := by decide +kernel
theorem dX1_add_56 : decode cX1_add 56 = .ok (.aload_n 0, 1) := by decide +kernel
theorem dX1_add_57 : decode cX1_add 57 = .ok (.dup, 1) := by decide +kernel
theorem dX1_add_58 : decode cX1_add 58 = .ok (.getfield 34, 3) := by decide +kernel
theorem dX1_add_61 : decode cX1_add 61 = .ok (.iconst 1, 1) := by decide +kernel
theorem dX1_add_62 : decode cX1_add 62 = .ok (.iadd, 1) := by decide +kernel
theorem dX1_add_63 : decode cX1_add 63 = .ok (.putfield 34, 3) := by decide +kernel
theorem dX1_add_66 : decode cX1_add 66 = .ok (.goto 16, 3) := by decide +kernel
theorem dX1_add_69 : decode cX1_add 69 = .ok (.aload_n 0, 1) := by decide +kernel
theorem dX1_add_70 : decode cX1_add 70 = .ok (.aload_n 0, 1) := by decide +kernel
theorem dX1_add_71 : decode cX1_add 71 = .ok (.getfield 31, 3) := by decide +kernel
theorem dX1_add_74 : decode cX1_add 74 = .ok (.iconst 1, 1) := by decide +kernel
theorem dX1_add_75 : decode cX1_add 75 = .ok (.iadd, 1) := by decide +kernel
theorem dX1_add_76 : decode cX1_add 76 = .ok (.bipush 40, 2) := by decide +kernel
theorem dX1_add_78 : decode cX1_add 78 = .ok (.irem, 1) := by decide +kernel
theorem dX1_add_79 : decode cX1_add 79 = .ok (.putfield 31, 3) := by decide +kernel
theorem dX1_add_82 : decode cX1_add 82 = .ok (.aload_n 0, 1) := by decide +kernel
theorem dX1_add_83 : decode cX1_add 83 = .ok (.getfield 27, 3) := by decide +kernel
theorem dX1_add_86 : decode cX1_add 86 = .ok (.bipush 40, 2) := by decide +kernel
theorem dX1_add_88 : decode cX1_add 88 = .ok (.if_icmp .ge 24, 3) := by decide +kernel
theorem dX1_add_91 : decode cX1_add 91 = .ok (.aload_n 0, 1) := by decide +kernel
theorem dX1_add_92 : decode cX1_add 92 = .ok (.getfield 24, 3) := by decide +kernel
theorem dX1_add_95 : decode cX1_add 95 = .ok (.aload_n 0, 1) := by decide +kernel
theorem dX1_add_96 : decode cX1_add 96 = .ok (.getfield 27, 3) := by decide +kernel
theorem dX1_add_99 : decode cX1_add 99 = .ok (.iload 4, 2) := by decide +kernel
theorem dX1_add_101 : decode cX1_add 101 = .ok (.iastore, 1) := by decide +kernel
theorem dX1_add_102 : decode cX1_add 102 = .ok (.aload_n 0, 1) := by decide +kernel
theorem dX1_add_103 : decode cX1_add 103 = .ok (.dup, 1) := by decide +kernel
theorem dX1_add_104 : decode cX1_add 104 = .ok (.getfield 27, 3) := by decide +kernel
theorem dX1_add_107 : decode cX1_add 107 = .ok (.iconst 1, 1) := by decide +kernel
theorem dX1_add_108 : decode cX1_add 108 = .ok (.iadd, 1) := by decide +kernel
theorem dX1_add_109 : decode cX1_add 109 = .ok (.putfield 27, 3) := by decide +kernel
theorem dX1_add_112 : decode cX1_add 112 = .ok (.return_, 1) := by decide +kernel
theorem dX1_entry_0 : decode cX1_entry 0 = .ok (.iload_n 1, 1) := by decide +kernel
theorem dX1_entry_1 : decode cX1_entry 1 = .ok (.ifCond .lt 11, 3) := by decide +kernel
theorem dX1_entry_4 : decode cX1_entry 4 = .ok (.iload_n 1, 1) := by decide +kernel
theorem dX1_entry_5 : decode cX1_entry 5 = .ok (.aload_n 0, 1) := by decide +kernel
theorem dX1_entry_6 : decode cX1_entry 6 = .ok (.getfield 34, 3) := by decide +kernel
theorem dX1_entry_9 : decode cX1_entry 9 = .ok (.if_icmp .lt 5, 3) := by decide +kernel
theorem dX1_entry_12 : decode cX1_entry 12 = .ok (.iconst (-1), 1) := by decide +kernel
theorem dX1_entry_13 : decode cX1_entry 13 = .ok (.ireturn, 1) := by decide +kernel
theorem dX1_entry_14 : decode cX1_entry 14 = .ok (.aload_n 0, 1) := by decide +kernel
theorem dX1_entry_15 : decode cX1_entry 15 = .ok (.getfield 31, 3) := by decide +kernel
theorem dX1_entry_18 : decode cX1_entry 18 = .ok (.iload_n 1, 1) := by decide +kernel
theorem dX1_entry_19 : decode cX1_entry 19 = .ok (.iadd, 1) := by decide +kernel
theorem dX1_entry_20 : decode cX1_entry 20 = .ok (.bipush 40, 2) := by decide +kernel
theorem dX1_entry_22 : decode cX1_entry 22 = .ok (.irem, 1) := by decide +kernel
theorem dX1_entry_23 : decode cX1_entry 23 = .ok (.istore_n 3, 1) := by decide +kernel
theorem dX1_entry_24 : decode cX1_entry 24 = .ok (.iload_n 2, 1) := by decide +kernel
theorem dX1_entry_25 : decode cX1_entry 25 = .ok (.tableswitch 59 0 3 #[31, 38, 45, 52], 31) := by decide +kernel
theorem dX1_entry_56 : decode cX1_entry 56 = .ok (.aload_n 0, 1) := by decide +kernel
theorem dX1_entry_57 : decode cX1_entry 57 = .ok (.getfield 9, 3) := by decide +kernel
theorem dX1_entry_60 : decode cX1_entry 60 = .ok (.iload_n 3, 1) := by decide +kernel
theorem dX1_entry_61 : decode cX1_entry 61 = .ok (.iaload, 1) := by decide +kernel
theorem dX1_entry_62 : decode cX1_entry 62 = .ok (.ireturn, 1) := by decide +kernel
theorem dX1_entry_63 : decode cX1_entry 63 = .ok (.aload_n 0, 1) := by decide +kernel
theorem dX1_entry_64 : decode cX1_entry 64 = .ok (.getfield 15, 3) := by decide +kernel
theorem dX1_entry_67 : decode cX1_entry 67 = .ok (.iload_n 3, 1) := by decide +kernel
theorem dX1_entry_68 : decode cX1_entry 68 = .ok (.iaload, 1) := by decide +kernel
theorem dX1_entry_69 : decode cX1_entry 69 = .ok (.ireturn, 1) := by decide +kernel
theorem dX1_entry_70 : decode cX1_entry 70 = .ok (.aload_n 0, 1) := by decide +kernel
theorem dX1_entry_71 : decode cX1_entry 71 = .ok (.getfield 18, 3) := by decide +kernel
theorem dX1_entry_74 : decode cX1_entry 74 = .ok (.iload_n 3, 1) := by decide +kernel
theorem dX1_entry_75 : decode cX1_entry 75 = .ok (.iaload, 1) := by decide +kernel
theorem dX1_entry_76 : decode cX1_entry 76 = .ok (.ireturn, 1) := by decide +kernel
theorem dX1_entry_77 : decode cX1_entry 77 = .ok (.aload_n 0, 1) := by decide +kernel
theorem dX1_entry_78 : decode cX1_entry 78 = .ok (.getfield 21, 3) := by decide +kernel
theorem dX1_entry_81 : decode cX1_entry 81 = .ok (.iload_n 3, 1) := by decide +kernel
theorem dX1_entry_82 : decode cX1_entry 82 = .ok (.iaload, 1) := by decide +kernel
theorem dX1_entry_83 : decode cX1_entry 83 = .ok (.ireturn, 1) := by decide +kernel
theorem dX1_entry_84 : decode cX1_entry 84 = .ok (.iconst (-1), 1) := by decide +kernel
theorem dX1_entry_85 : decode cX1_entry 85 = .ok (.ireturn, 1) := by decide +kernel
theorem dX1_watch_0 : decode cX1_watch 0 = .ok (.aload_n 0, 1) := by decide +kernel
theorem dX1_watch_1 : decode cX1_watch 1 = .ok (.iconst 0, 1) := by decide +kernel
theorem dX1_watch_2 : decode cX1_watch 2 = .ok (.putfield 27, 3) := by decide +kernel
theorem dX1_watch_5 : decode cX1_watch 5 = .ok (.return_, 1) := by decide +kernel
theorem dX1_watchedTask_0 : decode cX1_watchedTask 0 = .ok (.iload_n 1, 1) := by decide +kernel
theorem dX1_watchedTask_1 : decode cX1_watchedTask 1 = .ok (.ifCond .lt 20, 3) := by decide +kernel
theorem dX1_watchedTask_4 : decode cX1_watchedTask 4 = .ok (.iload_n 1, 1) := by decide +kernel
theorem dX1_watchedTask_5 : decode cX1_watchedTask 5 = .ok (.aload_n 0, 1) := by decide +kernel
theorem dX1_watchedTask_6 : decode cX1_watchedTask 6 = .ok (.getfield 27, 3) := by decide +kernel
theorem dX1_watchedTask_9 : decode cX1_watchedTask 9 = .ok (.if_icmp .ge 12, 3) := by decide +kernel
theorem dX1_watchedTask_12 : decode cX1_watchedTask 12 = .ok (.aload_n 0, 1) := by decide +kernel
theorem dX1_watchedTask_13 : decode cX1_watchedTask 13 = .ok (.getfield 24, 3) := by decide +kernel
theorem dX1_watchedTask_16 : decode cX1_watchedTask 16 = .ok (.iload_n 1, 1) := by decide +kernel
theorem dX1_watchedTask_17 : decode cX1_watchedTask 17 = .ok (.iaload, 1) := by decide +kernel
theorem dX1_watchedTask_18 : decode cX1_watchedTask 18 = .ok (.goto 5, 3) := by decide +kernel
theorem dX1_watchedTask_21 : decode cX1_watchedTask 21 = .ok (.bipush (-5), 2) := by decide +kernel
theorem dX1_watchedTask_23 : decode cX1_watchedTask 23 = .ok (.ireturn, 1) := by decide +kernel
theorem dX2_init_0 : decode cX2_init 0 = .ok (.aload_n 0, 1) := by decide +kernel
theorem dX2_init_1 : decode cX2_init 1 = .ok (.invokespecial 3, 3) := by decide +kernel
theorem dX2_init_4 : decode cX2_init 4 = .ok (.aload_n 0, 1) := by decide +kernel
theorem dX2_init_5 : decode cX2_init 5 = .ok (.iconst 0, 1) := by decide +kernel
theorem dX2_init_6 : decode cX2_init 6 = .ok (.iload_n 1, 1) := by decide +kernel
theorem dX2_init_7 : decode cX2_init 7 = .ok (.invokestatic 9, 3) := by decide +kernel
theorem dX2_init_10 : decode cX2_init 10 = .ok (.newarray .int, 2) := by decide +kernel
theorem dX2_init_12 : decode cX2_init 12 = .ok (.putfield 15, 3) := by decide +kernel
theorem dX2_init_15 : decode cX2_init 15 = .ok (.aload_n 0, 1) := by decide +kernel
theorem dX2_init_16 : decode cX2_init 16 = .ok (.iconst 0, 1) := by decide +kernel
theorem dX2_init_17 : decode cX2_init 17 = .ok (.iload_n 1, 1) := by decide +kernel
theorem dX2_init_18 : decode cX2_init 18 = .ok (.invokestatic 9, 3) := by decide +kernel
theorem dX2_init_21 : decode cX2_init 21 = .ok (.newarray .int, 2) := by decide +kernel
theorem dX2_init_23 : decode cX2_init 23 = .ok (.putfield 21, 3) := by decide +kernel
theorem dX2_init_26 : decode cX2_init 26 = .ok (.aload_n 0, 1) := by decide +kernel
theorem dX2_init_27 : decode cX2_init 27 = .ok (.iconst 0, 1) := by decide +kernel
theorem dX2_init_28 : decode cX2_init 28 = .ok (.putfield 24, 3) := by decide +kernel
theorem dX2_init_31 : decode cX2_init 31 = .ok (.return_, 1) := by decide +kernel
theorem dX2_become_0 : decode cX2_become 0 = .ok (.aload_n 0, 1) := by decide +kernel
theorem dX2_become_1 : decode cX2_become 1 = .ok (.aload_n 1, 1) := by decide +kernel
theorem dX2_become_2 : decode cX2_become 2 = .ok (.getfield 24, 3) := by decide +kernel
theorem dX2_become_5 : decode cX2_become 5 = .ok (.aload_n 0, 1) := by decide +kernel
theorem dX2_become_6 : decode cX2_become 6 = .ok (.getfield 15, 3) := by decide +kernel
theorem dX2_become_9 : decode cX2_become 9 = .ok (.arraylength, 1) := by decide +kernel
theorem dX2_become_10 : decode cX2_become 10 = .ok (.invokestatic 28, 3) := by decide +kernel
theorem dX2_become_13 : decode cX2_become 13 = .ok (.putfield 24, 3) := by decide +kernel
theorem dX2_become_16 : decode cX2_become 16 = .ok (.aload_n 1, 1) := by decide +kernel
theorem dX2_become_17 : decode cX2_become 17 = .ok (.getfield 15, 3) := by decide +kernel
theorem dX2_become_20 : decode cX2_become 20 = .ok (.iconst 0, 1) := by decide +kernel
theorem dX2_become_21 : decode cX2_become 21 = .ok (.aload_n 0, 1) := by decide +kernel
theorem dX2_become_22 : decode cX2_become 22 = .ok (.getfield 15, 3) := by decide +kernel
theorem dX2_become_25 : decode cX2_become 25 = .ok (.iconst 0, 1) := by decide +kernel
theorem dX2_become_26 : decode cX2_become 26 = .ok (.aload_n 0, 1) := by decide +kernel
theorem dX2_become_27 : decode cX2_become 27 = .ok (.getfield 24, 3) := by decide +kernel
theorem dX2_become_30 : decode cX2_become 30 = .ok (.invokestatic 31, 3) := by decide +kernel
theorem dX2_become_33 : decode cX2_become 33 = .ok (.aload_n 1, 1) := by decide +kernel
theorem dX2_become_34 : decode cX2_become 34 = .ok (.getfield 21, 3) := by decide +kernel
theorem dX2_become_37 : decode cX2_become 37 = .ok (.iconst 0, 1) := by decide +kernel
theorem dX2_become_38 : decode cX2_become 38 = .ok (.aload_n 0, 1) := by decide +kernel
theorem dX2_become_39 : decode cX2_become 39 = .ok (.getfield 21, 3) := by decide +kernel
theorem dX2_become_42 : decode cX2_become 42 = .ok (.iconst 0, 1) := by decide +kernel
theorem dX2_become_43 : decode cX2_become 43 = .ok (.aload_n 0, 1) := by decide +kernel
theorem dX2_become_44 : decode cX2_become 44 = .ok (.getfield 24, 3) := by decide +kernel
theorem dX2_become_47 : decode cX2_become 47 = .ok (.invokestatic 31, 3) := by decide +kernel
theorem dX2_become_50 : decode cX2_become 50 = .ok (.return_, 1) := by decide +kernel
theorem dX2_clear_0 : decode cX2_clear 0 = .ok (.aload_n 0, 1) := by decide +kernel
theorem dX2_clear_1 : decode cX2_clear 1 = .ok (.iconst 0, 1) := by decide +kernel
theorem dX2_clear_2 : decode cX2_clear 2 = .ok (.putfield 24, 3) := by decide +kernel
theorem dX2_clear_5 : decode cX2_clear 5 = .ok (.iconst 0, 1) := by decide +kernel
theorem dX2_clear_6 : decode cX2_clear 6 = .ok (.ireturn, 1) := by decide +kernel
theorem dX2_add_0 : decode cX2_add 0 = .ok (.aload_n 0, 1) := by decide +kernel
theorem dX2_add_1 : decode cX2_add 1 = .ok (.getfield 24, 3) := by decide +kernel
theorem dX2_add_4 : decode cX2_add 4 = .ok (.aload_n 0, 1) := by decide +kernel
theorem dX2_add_5 : decode cX2_add 5 = .ok (.getfield 15, 3) := by decide +kernel
theorem dX2_add_8 : decode cX2_add 8 = .ok (.arraylength, 1) := by decide +kernel
theorem dX2_add_9 : decode cX2_add 9 = .ok (.if_icmp .lt 6, 3) := by decide +kernel
theorem dX2_add_12 : decode cX2_add 12 = .ok (.bipush (-4), 2) := by decide +kernel
theorem dX2_add_14 : decode cX2_add 14 = .ok (.ireturn, 1) := by decide +kernel
theorem dX2_add_15 : decode cX2_add 15 = .ok (.aload_n 0, 1) := by decide +kernel
theorem dX2_add_16 : decode cX2_add 16 = .ok (.getfield 15, 3) := by decide +kernel
theorem dX2_add_19 : decode cX2_add 19 = .ok (.aload_n 0, 1) := by decide +kernel
theorem dX2_add_20 : decode cX2_add 20 = .ok (.getfield 24, 3) := by decide +kernel
theorem dX2_add_23 : decode cX2_add 23 = .ok (.iload_n 1, 1) := by decide +kernel
theorem dX2_add_24 : decode cX2_add 24 = .ok (.iastore, 1) := by decide +kernel
theorem dX2_add_25 : decode cX2_add 25 = .ok (.aload_n 0, 1) := by decide +kernel
theorem dX2_add_26 : decode cX2_add 26 = .ok (.getfield 21, 3) := by decide +kernel
theorem dX2_add_29 : decode cX2_add 29 = .ok (.aload_n 0, 1) := by decide +kernel
theorem dX2_add_30 : decode cX2_add 30 = .ok (.getfield 24, 3) := by decide +kernel
theorem dX2_add_33 : decode cX2_add 33 = .ok (.iload_n 2, 1) := by decide +kernel
theorem dX2_add_34 : decode cX2_add 34 = .ok (.iastore, 1) := by decide +kernel
theorem dX2_add_35 : decode cX2_add 35 = .ok (.aload_n 0, 1) := by decide +kernel
theorem dX2_add_36 : decode cX2_add 36 = .ok (.dup, 1) := by decide +kernel
theorem dX2_add_37 : decode cX2_add 37 = .ok (.getfield 24, 3) := by decide +kernel
theorem dX2_add_40 : decode cX2_add 40 = .ok (.iconst 1, 1) := by decide +kernel
theorem dX2_add_41 : decode cX2_add 41 = .ok (.iadd, 1) := by decide +kernel
theorem dX2_add_42 : decode cX2_add 42 = .ok (.putfield 24, 3) := by decide +kernel
theorem dX2_add_45 : decode cX2_add 45 = .ok (.aload_n 0, 1) := by decide +kernel
theorem dX2_add_46 : decode cX2_add 46 = .ok (.getfield 24, 3) := by decide +kernel
theorem dX2_add_49 : decode cX2_add 49 = .ok (.ireturn, 1) := by decide +kernel
theorem dX3_init_0 : decode cX3_init 0 = .ok (.aload_n 0, 1) := by decide +kernel
theorem dX3_init_1 : decode cX3_init 1 = .ok (.invokespecial 3, 3) := by decide +kernel
theorem dX3_init_4 : decode cX3_init 4 = .ok (.aload_n 0, 1) := by decide +kernel
theorem dX3_init_5 : decode cX3_init 5 = .ok (.bipush 60, 2) := by decide +kernel
theorem dX3_init_7 : decode cX3_init 7 = .ok (.newarray .long, 2) := by decide +kernel
theorem dX3_init_9 : decode cX3_init 9 = .ok (.putfield 9, 3) := by decide +kernel
theorem dX3_init_12 : decode cX3_init 12 = .ok (.aload_n 0, 1) := by decide +kernel
theorem dX3_init_13 : decode cX3_init 13 = .ok (.iconst (-1), 1) := by decide +kernel
theorem dX3_init_14 : decode cX3_init 14 = .ok (.putfield 15, 3) := by decide +kernel
theorem dX3_init_17 : decode cX3_init 17 = .ok (.aload_n 0, 1) := by decide +kernel
theorem dX3_init_18 : decode cX3_init 18 = .ok (.iconst 0, 1) := by decide +kernel
theorem dX3_init_19 : decode cX3_init 19 = .ok (.putfield 19, 3) := by decide +kernel
theorem dX3_init_22 : decode cX3_init 22 = .ok (.return_, 1) := by decide +kernel
theorem dX3_becomeRow_0 : decode cX3_becomeRow 0 = .ok (.iconst 0, 1) := by decide +kernel
theorem dX3_becomeRow_1 : decode cX3_becomeRow 1 = .ok (.istore_n 3, 1) := by decide +kernel
theorem dX3_becomeRow_2 : decode cX3_becomeRow 2 = .ok (.iload_n 3, 1) := by decide +kernel
theorem dX3_becomeRow_3 : decode cX3_becomeRow 3 = .ok (.aload_n 0, 1) := by decide +kernel
theorem dX3_becomeRow_4 : decode cX3_becomeRow 4 = .ok (.getfield 9, 3) := by decide +kernel
theorem dX3_becomeRow_7 : decode cX3_becomeRow 7 = .ok (.arraylength, 1) := by decide +kernel
theorem dX3_becomeRow_8 : decode cX3_becomeRow 8 = .ok (.if_icmp .ge 16, 3) := by decide +kernel
theorem dX3_becomeRow_11 : decode cX3_becomeRow 11 = .ok (.aload_n 0, 1) := by decide +kernel
theorem dX3_becomeRow_12 : decode cX3_becomeRow 12 = .ok (.getfield 9, 3) := by decide +kernel
theorem dX3_becomeRow_15 : decode cX3_becomeRow 15 = .ok (.iload_n 3, 1) := by decide +kernel
theorem dX3_becomeRow_16 : decode cX3_becomeRow 16 = .ok (.lconst 0, 1) := by decide +kernel
theorem dX3_becomeRow_17 : decode cX3_becomeRow 17 = .ok (.lastore, 1) := by decide +kernel
theorem dX3_becomeRow_18 : decode cX3_becomeRow 18 = .ok (.iinc 3 1, 3) := by decide +kernel
theorem dX3_becomeRow_21 : decode cX3_becomeRow 21 = .ok (.goto (-19), 3) := by decide +kernel
theorem dX3_becomeRow_24 : decode cX3_becomeRow 24 = .ok (.aload_n 0, 1) := by decide +kernel
theorem dX3_becomeRow_25 : decode cX3_becomeRow 25 = .ok (.iload_n 1, 1) := by decide +kernel
theorem dX3_becomeRow_26 : decode cX3_becomeRow 26 = .ok (.putfield 15, 3) := by decide +kernel
theorem dX3_becomeRow_29 : decode cX3_becomeRow 29 = .ok (.aload_n 0, 1) := by decide +kernel
theorem dX3_becomeRow_30 : decode cX3_becomeRow 30 = .ok (.iload_n 2, 1) := by decide +kernel
theorem dX3_becomeRow_31 : decode cX3_becomeRow 31 = .ok (.putfield 19, 3) := by decide +kernel
theorem dX3_becomeRow_34 : decode cX3_becomeRow 34 = .ok (.return_, 1) := by decide +kernel
theorem dX3_cut_0 : decode cX3_cut 0 = .ok (.aload_n 0, 1) := by decide +kernel
theorem dX3_cut_1 : decode cX3_cut 1 = .ok (.getfield 15, 3) := by decide +kernel
theorem dX3_cut_4 : decode cX3_cut 4 = .ok (.tableswitch 48 0 3 #[32, 37, 42, 46], 32) := by decide +kernel
theorem dX3_cut_36 : decode cX3_cut 36 = .ok (.lload_n 1, 1) := by decide +kernel
theorem dX3_cut_37 : decode cX3_cut 37 = .ok (.l2i, 1) := by decide +kernel
theorem dX3_cut_38 : decode cX3_cut 38 = .ok (.i2b, 1) := by decide +kernel
theorem dX3_cut_39 : decode cX3_cut 39 = .ok (.i2l, 1) := by decide +kernel
theorem dX3_cut_40 : decode cX3_cut 40 = .ok (.lreturn, 1) := by decide +kernel
theorem dX3_cut_41 : decode cX3_cut 41 = .ok (.lload_n 1, 1) := by decide +kernel
theorem dX3_cut_42 : decode cX3_cut 42 = .ok (.l2i, 1) := by decide +kernel
theorem dX3_cut_43 : decode cX3_cut 43 = .ok (.i2s, 1) := by decide +kernel
theorem dX3_cut_44 : decode cX3_cut 44 = .ok (.i2l, 1) := by decide +kernel
theorem dX3_cut_45 : decode cX3_cut 45 = .ok (.lreturn, 1) := by decide +kernel
theorem dX3_cut_46 : decode cX3_cut 46 = .ok (.lload_n 1, 1) := by decide +kernel
theorem dX3_cut_47 : decode cX3_cut 47 = .ok (.l2i, 1) := by decide +kernel
theorem dX3_cut_48 : decode cX3_cut 48 = .ok (.i2l, 1) := by decide +kernel
theorem dX3_cut_49 : decode cX3_cut 49 = .ok (.lreturn, 1) := by decide +kernel
theorem dX3_cut_50 : decode cX3_cut 50 = .ok (.lload_n 1, 1) := by decide +kernel
theorem dX3_cut_51 : decode cX3_cut 51 = .ok (.lreturn, 1) := by decide +kernel
theorem dX3_cut_52 : decode cX3_cut 52 = .ok (.lload_n 1, 1) := by decide +kernel
theorem dX3_cut_53 : decode cX3_cut 53 = .ok (.lconst 0, 1) := by decide +kernel
theorem dX3_cut_54 : decode cX3_cut 54 = .ok (.lcmp, 1) := by decide +kernel
theorem dX3_cut_55 : decode cX3_cut 55 = .ok (.ifCond .eq 7, 3) := by decide +kernel
theorem dX3_cut_58 : decode cX3_cut 58 = .ok (.lconst 1, 1) := by decide +kernel
theorem dX3_cut_59 : decode cX3_cut 59 = .ok (.goto 4, 3) := by decide +kernel
theorem dX3_cut_62 : decode cX3_cut 62 = .ok (.lconst 0, 1) := by decide +kernel
theorem dX3_cut_63 : decode cX3_cut 63 = .ok (.lreturn, 1) := by decide +kernel
theorem dX4_init_0 : decode cX4_init 0 = .ok (.aload_n 0, 1) := by decide +kernel
theorem dX4_init_1 : decode cX4_init 1 = .ok (.invokespecial 3, 3) := by decide +kernel
theorem dX4_init_4 : decode cX4_init 4 = .ok (.aload_n 0, 1) := by decide +kernel
theorem dX4_init_5 : decode cX4_init 5 = .ok (.bipush 32, 2) := by decide +kernel
theorem dX4_init_7 : decode cX4_init 7 = .ok (.newarray .int, 2) := by decide +kernel
theorem dX4_init_9 : decode cX4_init 9 = .ok (.putfield 9, 3) := by decide +kernel
theorem dX4_init_12 : decode cX4_init 12 = .ok (.aload_n 0, 1) := by decide +kernel
theorem dX4_init_13 : decode cX4_init 13 = .ok (.bipush 32, 2) := by decide +kernel
theorem dX4_init_15 : decode cX4_init 15 = .ok (.newarray .int, 2) := by decide +kernel
theorem dX4_init_17 : decode cX4_init 17 = .ok (.putfield 15, 3) := by decide +kernel
theorem dX4_init_20 : decode cX4_init 20 = .ok (.aload_n 0, 1) := by decide +kernel
theorem dX4_init_21 : decode cX4_init 21 = .ok (.bipush 32, 2) := by decide +kernel
theorem dX4_init_23 : decode cX4_init 23 = .ok (.newarray .int, 2) := by decide +kernel
theorem dX4_init_25 : decode cX4_init 25 = .ok (.putfield 18, 3) := by decide +kernel
theorem dX4_init_28 : decode cX4_init 28 = .ok (.aload_n 0, 1) := by decide +kernel
theorem dX4_init_29 : decode cX4_init 29 = .ok (.bipush 32, 2) := by decide +kernel
theorem dX4_init_31 : decode cX4_init 31 = .ok (.newarray .int, 2) := by decide +kernel
theorem dX4_init_33 : decode cX4_init 33 = .ok (.putfield 21, 3) := by decide +kernel
theorem dX4_init_36 : decode cX4_init 36 = .ok (.aload_n 0, 1) := by decide +kernel
theorem dX4_init_37 : decode cX4_init 37 = .ok (.bipush 32, 2) := by decide +kernel
theorem dX4_init_39 : decode cX4_init 39 = .ok (.newarray .int, 2) := by decide +kernel
theorem dX4_init_41 : decode cX4_init 41 = .ok (.putfield 24, 3) := by decide +kernel
theorem dX4_init_44 : decode cX4_init 44 = .ok (.aload_n 0, 1) := by decide +kernel
theorem dX4_init_45 : decode cX4_init 45 = .ok (.bipush 32, 2) := by decide +kernel
theorem dX4_init_47 : decode cX4_init 47 = .ok (.newarray .int, 2) := by decide +kernel
theorem dX4_init_49 : decode cX4_init 49 = .ok (.putfield 27, 3) := by decide +kernel
theorem dX4_init_52 : decode cX4_init 52 = .ok (.aload_n 0, 1) := by decide +kernel
theorem dX4_init_53 : decode cX4_init 53 = .ok (.bipush 32, 2) := by decide +kernel
theorem dX4_init_55 : decode cX4_init 55 = .ok (.newarray .int, 2) := by decide +kernel
theorem dX4_init_57 : decode cX4_init 57 = .ok (.putfield 30, 3) := by decide +kernel
theorem dX4_init_60 : decode cX4_init 60 = .ok (.aload_n 0, 1) := by decide +kernel
theorem dX4_init_61 : decode cX4_init 61 = .ok (.bipush 32, 2) := by decide +kernel
theorem dX4_init_63 : decode cX4_init 63 = .ok (.newarray .int, 2) := by decide +kernel
theorem dX4_init_65 : decode cX4_init 65 = .ok (.putfield 33, 3) := by decide +kernel
theorem dX4_init_68 : decode cX4_init 68 = .ok (.aload_n 0, 1) := by decide +kernel
theorem dX4_init_69 : decode cX4_init 69 = .ok (.iconst 0, 1) := by decide +kernel
theorem dX4_init_70 : decode cX4_init 70 = .ok (.putfield 36, 3) := by decide +kernel
theorem dX4_init_73 : decode cX4_init 73 = .ok (.return_, 1) := by decide +kernel
theorem dX4_become_0 : decode cX4_become 0 = .ok (.aload_n 0, 1) := by decide +kernel
theorem dX4_become_1 : decode cX4_become 1 = .ok (.aload_n 1, 1) := by decide +kernel
theorem dX4_become_2 : decode cX4_become 2 = .ok (.getfield 36, 3) := by decide +kernel
theorem dX4_become_5 : decode cX4_become 5 = .ok (.putfield 36, 3) := by decide +kernel
theorem dX4_become_8 : decode cX4_become 8 = .ok (.aload_n 1, 1) := by decide +kernel
theorem dX4_become_9 : decode cX4_become 9 = .ok (.getfield 9, 3) := by decide +kernel
theorem dX4_become_12 : decode cX4_become 12 = .ok (.iconst 0, 1) := by decide +kernel
theorem dX4_become_13 : decode cX4_become 13 = .ok (.aload_n 0, 1) := by decide +kernel
theorem dX4_become_14 : decode cX4_become 14 = .ok (.getfield 9, 3) := by decide +kernel
theorem dX4_become_17 : decode cX4_become 17 = .ok (.iconst 0, 1) := by decide +kernel
theorem dX4_become_18 : decode cX4_become 18 = .ok (.aload_n 0, 1) := by decide +kernel
theorem dX4_become_19 : decode cX4_become 19 = .ok (.getfield 36, 3) := by decide +kernel
theorem dX4_become_22 : decode cX4_become 22 = .ok (.invokestatic 40, 3) := by decide +kernel
theorem dX4_become_25 : decode cX4_become 25 = .ok (.aload_n 1, 1) := by decide +kernel
theorem dX4_become_26 : decode cX4_become 26 = .ok (.getfield 15, 3) := by decide +kernel
theorem dX4_become_29 : decode cX4_become 29 = .ok (.iconst 0, 1) := by decide +kernel
theorem dX4_become_30 : decode cX4_become 30 = .ok (.aload_n 0, 1) := by decide +kernel
theorem dX4_become_31 : decode cX4_become 31 = .ok (.getfield 15, 3) := by decide +kernel
theorem dX4_become_34 : decode cX4_become 34 = .ok (.iconst 0, 1) := by decide +kernel
theorem dX4_become_35 : decode cX4_become 35 = .ok (.aload_n 0, 1) := by decide +kernel
theorem dX4_become_36 : decode cX4_become 36 = .ok (.getfield 36, 3) := by decide +kernel
theorem dX4_become_39 : decode cX4_become 39 = .ok (.invokestatic 40, 3) := by decide +kernel
theorem dX4_become_42 : decode cX4_become 42 = .ok (.aload_n 1, 1) := by decide +kernel
theorem dX4_become_43 : decode cX4_become 43 = .ok (.getfield 18, 3) := by decide +kernel
theorem dX4_become_46 : decode cX4_become 46 = .ok (.iconst 0, 1) := by decide +kernel
theorem dX4_become_47 : decode cX4_become 47 = .ok (.aload_n 0, 1) := by decide +kernel
theorem dX4_become_48 : decode cX4_become 48 = .ok (.getfield 18, 3) := by decide +kernel
theorem dX4_become_51 : decode cX4_become 51 = .ok (.iconst 0, 1) := by decide +kernel
theorem dX4_become_52 : decode cX4_become 52 = .ok (.aload_n 0, 1) := by decide +kernel
theorem dX4_become_53 : decode cX4_become 53 = .ok (.getfield 36, 3) := by decide +kernel
theorem dX4_become_56 : decode cX4_become 56 = .ok (.invokestatic 40, 3) := by decide +kernel
theorem dX4_become_59 : decode cX4_become 59 = .ok (.aload_n 1, 1) := by decide +kernel
theorem dX4_become_60 : decode cX4_become 60 = .ok (.getfield 21, 3) := by decide +kernel
theorem dX4_become_63 : decode cX4_become 63 = .ok (.iconst 0, 1) := by decide +kernel
theorem dX4_become_64 : decode cX4_become 64 = .ok (.aload_n 0, 1) := by decide +kernel
theorem dX4_become_65 : decode cX4_become 65 = .ok (.getfield 21, 3) := by decide +kernel
theorem dX4_become_68 : decode cX4_become 68 = .ok (.iconst 0, 1) := by decide +kernel
theorem dX4_become_69 : decode cX4_become 69 = .ok (.aload_n 0, 1) := by decide +kernel
theorem dX4_become_70 : decode cX4_become 70 = .ok (.getfield 36, 3) := by decide +kernel
theorem dX4_become_73 : decode cX4_become 73 = .ok (.invokestatic 40, 3) := by decide +kernel
theorem dX4_become_76 : decode cX4_become 76 = .ok (.aload_n 1, 1) := by decide +kernel
theorem dX4_become_77 : decode cX4_become 77 = .ok (.getfield 24, 3) := by decide +kernel
theorem dX4_become_80 : decode cX4_become 80 = .ok (.iconst 0, 1) := by decide +kernel
theorem dX4_become_81 : decode cX4_become 81 = .ok (.aload_n 0, 1) := by decide +kernel
theorem dX4_become_82 : decode cX4_become 82 = .ok (.getfield 24, 3) := by decide +kernel
theorem dX4_become_85 : decode cX4_become 85 = .ok (.iconst 0, 1) := by decide +kernel
theorem dX4_become_86 : decode cX4_become 86 = .ok (.aload_n 0, 1) := by decide +kernel
theorem dX4_become_87 : decode cX4_become 87 = .ok (.getfield 36, 3) := by decide +kernel
theorem dX4_become_90 : decode cX4_become 90 = .ok (.invokestatic 40, 3) := by decide +kernel
theorem dX4_become_93 : decode cX4_become 93 = .ok (.aload_n 1, 1) := by decide +kernel
theorem dX4_become_94 : decode cX4_become 94 = .ok (.getfield 27, 3) := by decide +kernel
theorem dX4_become_97 : decode cX4_become 97 = .ok (.iconst 0, 1) := by decide +kernel
theorem dX4_become_98 : decode cX4_become 98 = .ok (.aload_n 0, 1) := by decide +kernel
theorem dX4_become_99 : decode cX4_become 99 = .ok (.getfield 27, 3) := by decide +kernel
theorem dX4_become_102 : decode cX4_become 102 = .ok (.iconst 0, 1) := by decide +kernel
theorem dX4_become_103 : decode cX4_become 103 = .ok (.aload_n 0, 1) := by decide +kernel
theorem dX4_become_104 : decode cX4_become 104 = .ok (.getfield 36, 3) := by decide +kernel
theorem dX4_become_107 : decode cX4_become 107 = .ok (.invokestatic 40, 3) := by decide +kernel
theorem dX4_become_110 : decode cX4_become 110 = .ok (.aload_n 1, 1) := by decide +kernel
theorem dX4_become_111 : decode cX4_become 111 = .ok (.getfield 30, 3) := by decide +kernel
theorem dX4_become_114 : decode cX4_become 114 = .ok (.iconst 0, 1) := by decide +kernel
theorem dX4_become_115 : decode cX4_become 115 = .ok (.aload_n 0, 1) := by decide +kernel
theorem dX4_become_116 : decode cX4_become 116 = .ok (.getfield 30, 3) := by decide +kernel
theorem dX4_become_119 : decode cX4_become 119 = .ok (.iconst 0, 1) := by decide +kernel
theorem dX4_become_120 : decode cX4_become 120 = .ok (.aload_n 0, 1) := by decide +kernel
theorem dX4_become_121 : decode cX4_become 121 = .ok (.getfield 36, 3) := by decide +kernel
theorem dX4_become_124 : decode cX4_become 124 = .ok (.invokestatic 40, 3) := by decide +kernel
theorem dX4_become_127 : decode cX4_become 127 = .ok (.return_, 1) := by decide +kernel
theorem dX4_add_0 : decode cX4_add 0 = .ok (.aload_n 0, 1) := by decide +kernel
theorem dX4_add_1 : decode cX4_add 1 = .ok (.getfield 36, 3) := by decide +kernel
theorem dX4_add_4 : decode cX4_add 4 = .ok (.bipush 32, 2) := by decide +kernel
theorem dX4_add_6 : decode cX4_add 6 = .ok (.if_icmp .ge 84, 3) := by decide +kernel
theorem dX4_add_9 : decode cX4_add 9 = .ok (.aload_n 0, 1) := by decide +kernel
theorem dX4_add_10 : decode cX4_add 10 = .ok (.getfield 9, 3) := by decide +kernel
theorem dX4_add_13 : decode cX4_add 13 = .ok (.aload_n 0, 1) := by decide +kernel
theorem dX4_add_14 : decode cX4_add 14 = .ok (.getfield 36, 3) := by decide +kernel
theorem dX4_add_17 : decode cX4_add 17 = .ok (.iload_n 1, 1) := by decide +kernel
theorem dX4_add_18 : decode cX4_add 18 = .ok (.iastore, 1) := by decide +kernel
theorem dX4_add_19 : decode cX4_add 19 = .ok (.aload_n 0, 1) := by decide +kernel
theorem dX4_add_20 : decode cX4_add 20 = .ok (.getfield 15, 3) := by decide +kernel
theorem dX4_add_23 : decode cX4_add 23 = .ok (.aload_n 0, 1) := by decide +kernel
theorem dX4_add_24 : decode cX4_add 24 = .ok (.getfield 36, 3) := by decide +kernel
theorem dX4_add_27 : decode cX4_add 27 = .ok (.iload_n 1, 1) := by decide +kernel
theorem dX4_add_28 : decode cX4_add 28 = .ok (.iastore, 1) := by decide +kernel
theorem dX4_add_29 : decode cX4_add 29 = .ok (.aload_n 0, 1) := by decide +kernel
theorem dX4_add_30 : decode cX4_add 30 = .ok (.getfield 18, 3) := by decide +kernel
theorem dX4_add_33 : decode cX4_add 33 = .ok (.aload_n 0, 1) := by decide +kernel
theorem dX4_add_34 : decode cX4_add 34 = .ok (.getfield 36, 3) := by decide +kernel
theorem dX4_add_37 : decode cX4_add 37 = .ok (.iconst 0, 1) := by decide +kernel
theorem dX4_add_38 : decode cX4_add 38 = .ok (.iastore, 1) := by decide +kernel
theorem dX4_add_39 : decode cX4_add 39 = .ok (.aload_n 0, 1) := by decide +kernel
theorem dX4_add_40 : decode cX4_add 40 = .ok (.getfield 21, 3) := by decide +kernel
theorem dX4_add_43 : decode cX4_add 43 = .ok (.aload_n 0, 1) := by decide +kernel
theorem dX4_add_44 : decode cX4_add 44 = .ok (.getfield 36, 3) := by decide +kernel
theorem dX4_add_47 : decode cX4_add 47 = .ok (.iconst 0, 1) := by decide +kernel
theorem dX4_add_48 : decode cX4_add 48 = .ok (.iastore, 1) := by decide +kernel
theorem dX4_add_49 : decode cX4_add 49 = .ok (.aload_n 0, 1) := by decide +kernel
theorem dX4_add_50 : decode cX4_add 50 = .ok (.getfield 24, 3) := by decide +kernel
theorem dX4_add_53 : decode cX4_add 53 = .ok (.aload_n 0, 1) := by decide +kernel
theorem dX4_add_54 : decode cX4_add 54 = .ok (.getfield 36, 3) := by decide +kernel
theorem dX4_add_57 : decode cX4_add 57 = .ok (.iload_n 3, 1) := by decide +kernel
theorem dX4_add_58 : decode cX4_add 58 = .ok (.iastore, 1) := by decide +kernel
theorem dX4_add_59 : decode cX4_add 59 = .ok (.aload_n 0, 1) := by decide +kernel
theorem dX4_add_60 : decode cX4_add 60 = .ok (.getfield 27, 3) := by decide +kernel
theorem dX4_add_63 : decode cX4_add 63 = .ok (.aload_n 0, 1) := by decide +kernel
theorem dX4_add_64 : decode cX4_add 64 = .ok (.getfield 36, 3) := by decide +kernel
theorem dX4_add_67 : decode cX4_add 67 = .ok (.iload_n 2, 1) := by decide +kernel
theorem dX4_add_68 : decode cX4_add 68 = .ok (.iastore, 1) := by decide +kernel
theorem dX4_add_69 : decode cX4_add 69 = .ok (.aload_n 0, 1) := by decide +kernel
theorem dX4_add_70 : decode cX4_add 70 = .ok (.getfield 30, 3) := by decide +kernel
theorem dX4_add_73 : decode cX4_add 73 = .ok (.aload_n 0, 1) := by decide +kernel
theorem dX4_add_74 : decode cX4_add 74 = .ok (.getfield 36, 3) := by decide +kernel
theorem dX4_add_77 : decode cX4_add 77 = .ok (.bipush (-5), 2) := by decide +kernel
theorem dX4_add_79 : decode cX4_add 79 = .ok (.iastore, 1) := by decide +kernel
theorem dX4_add_80 : decode cX4_add 80 = .ok (.aload_n 0, 1) := by decide +kernel
theorem dX4_add_81 : decode cX4_add 81 = .ok (.dup, 1) := by decide +kernel
theorem dX4_add_82 : decode cX4_add 82 = .ok (.getfield 36, 3) := by decide +kernel
theorem dX4_add_85 : decode cX4_add 85 = .ok (.iconst 1, 1) := by decide +kernel
theorem dX4_add_86 : decode cX4_add 86 = .ok (.iadd, 1) := by decide +kernel
theorem dX4_add_87 : decode cX4_add 87 = .ok (.putfield 36, 3) := by decide +kernel
theorem dX4_add_90 : decode cX4_add 90 = .ok (.return_, 1) := by decide +kernel
theorem dX4_has_0 : decode cX4_has 0 = .ok (.iload_n 1, 1) := by decide +kernel
theorem dX4_has_1 : decode cX4_has 1 = .ok (.ifCond .lt 15, 3) := by decide +kernel
theorem dX4_has_4 : decode cX4_has 4 = .ok (.iload_n 1, 1) := by decide +kernel
theorem dX4_has_5 : decode cX4_has 5 = .ok (.aload_n 0, 1) := by decide +kernel
theorem dX4_has_6 : decode cX4_has 6 = .ok (.getfield 36, 3) := by decide +kernel
theorem dX4_has_9 : decode cX4_has 9 = .ok (.if_icmp .ge 7, 3) := by decide +kernel
theorem dX4_has_12 : decode cX4_has 12 = .ok (.iconst 1, 1) := by decide +kernel
theorem dX4_has_13 : decode cX4_has 13 = .ok (.goto 4, 3) := by decide +kernel
theorem dX4_has_16 : decode cX4_has 16 = .ok (.iconst 0, 1) := by decide +kernel
theorem dX4_has_17 : decode cX4_has 17 = .ok (.ireturn, 1) := by decide +kernel
theorem dX4_isEnded_0 : decode cX4_isEnded 0 = .ok (.aload_n 0, 1) := by decide +kernel
theorem dX4_isEnded_1 : decode cX4_isEnded 1 = .ok (.iload_n 1, 1) := by decide +kernel
theorem dX4_isEnded_2 : decode cX4_isEnded 2 = .ok (.invokevirtual 46, 3) := by decide +kernel
theorem dX4_isEnded_5 : decode cX4_isEnded 5 = .ok (.ifCond .eq 17, 3) := by decide +kernel
theorem dX4_isEnded_8 : decode cX4_isEnded 8 = .ok (.aload_n 0, 1) := by decide +kernel
theorem dX4_isEnded_9 : decode cX4_isEnded 9 = .ok (.getfield 21, 3) := by decide +kernel
theorem dX4_isEnded_12 : decode cX4_isEnded 12 = .ok (.iload_n 1, 1) := by decide +kernel
theorem dX4_isEnded_13 : decode cX4_isEnded 13 = .ok (.iaload, 1) := by decide +kernel
theorem dX4_isEnded_14 : decode cX4_isEnded 14 = .ok (.iconst 3, 1) := by decide +kernel
theorem dX4_isEnded_15 : decode cX4_isEnded 15 = .ok (.if_icmp .lt 7, 3) := by decide +kernel
theorem dX4_isEnded_18 : decode cX4_isEnded 18 = .ok (.iconst 1, 1) := by decide +kernel
theorem dX4_isEnded_19 : decode cX4_isEnded 19 = .ok (.goto 4, 3) := by decide +kernel
theorem dX4_isEnded_22 : decode cX4_isEnded 22 = .ok (.iconst 0, 1) := by decide +kernel
theorem dX4_isEnded_23 : decode cX4_isEnded 23 = .ok (.ireturn, 1) := by decide +kernel
theorem dX4_isJoining_0 : decode cX4_isJoining 0 = .ok (.aload_n 0, 1) := by decide +kernel
theorem dX4_isJoining_1 : decode cX4_isJoining 1 = .ok (.iload_n 1, 1) := by decide +kernel
theorem dX4_isJoining_2 : decode cX4_isJoining 2 = .ok (.invokevirtual 46, 3) := by decide +kernel
theorem dX4_isJoining_5 : decode cX4_isJoining 5 = .ok (.ifCond .eq 17, 3) := by decide +kernel
theorem dX4_isJoining_8 : decode cX4_isJoining 8 = .ok (.aload_n 0, 1) := by decide +kernel
theorem dX4_isJoining_9 : decode cX4_isJoining 9 = .ok (.getfield 21, 3) := by decide +kernel
theorem dX4_isJoining_12 : decode cX4_isJoining 12 = .ok (.iload_n 1, 1) := by decide +kernel
theorem dX4_isJoining_13 : decode cX4_isJoining 13 = .ok (.iaload, 1) := by decide +kernel
theorem dX4_isJoining_14 : decode cX4_isJoining 14 = .ok (.iconst 2, 1) := by decide +kernel
theorem dX4_isJoining_15 : decode cX4_isJoining 15 = .ok (.if_icmp .ne 7, 3) := by decide +kernel
theorem dX4_isJoining_18 : decode cX4_isJoining 18 = .ok (.iconst 1, 1) := by decide +kernel
theorem dX4_isJoining_19 : decode cX4_isJoining 19 = .ok (.goto 4, 3) := by decide +kernel
theorem dX4_isJoining_22 : decode cX4_isJoining 22 = .ok (.iconst 0, 1) := by decide +kernel
theorem dX4_isJoining_23 : decode cX4_isJoining 23 = .ok (.ireturn, 1) := by decide +kernel
theorem dX4_lessLeft_0 : decode cX4_lessLeft 0 = .ok (.aload_n 0, 1) := by decide +kernel
theorem dX4_lessLeft_1 : decode cX4_lessLeft 1 = .ok (.getfield 15, 3) := by decide +kernel
theorem dX4_lessLeft_4 : decode cX4_lessLeft 4 = .ok (.iload_n 1, 1) := by decide +kernel
theorem dX4_lessLeft_5 : decode cX4_lessLeft 5 = .ok (.dup2, 1) := by decide +kernel
theorem dX4_lessLeft_6 : decode cX4_lessLeft 6 = .ok (.iaload, 1) := by decide +kernel
theorem dX4_lessLeft_7 : decode cX4_lessLeft 7 = .ok (.iconst 1, 1) := by decide +kernel
theorem dX4_lessLeft_8 : decode cX4_lessLeft 8 = .ok (.isub, 1) := by decide +kernel
theorem dX4_lessLeft_9 : decode cX4_lessLeft 9 = .ok (.iastore, 1) := by decide +kernel
theorem dX4_lessLeft_10 : decode cX4_lessLeft 10 = .ok (.aload_n 0, 1) := by decide +kernel
theorem dX4_lessLeft_11 : decode cX4_lessLeft 11 = .ok (.getfield 15, 3) := by decide +kernel
theorem dX4_lessLeft_14 : decode cX4_lessLeft 14 = .ok (.iload_n 1, 1) := by decide +kernel
theorem dX4_lessLeft_15 : decode cX4_lessLeft 15 = .ok (.iaload, 1) := by decide +kernel
theorem dX4_lessLeft_16 : decode cX4_lessLeft 16 = .ok (.ireturn, 1) := by decide +kernel
theorem dX4_allInAreEnded_0 : decode cX4_allInAreEnded 0 = .ok (.iload_n 1, 1) := by decide +kernel
theorem dX4_allInAreEnded_1 : decode cX4_allInAreEnded 1 = .ok (.iconst 1, 1) := by decide +kernel
theorem dX4_allInAreEnded_2 : decode cX4_allInAreEnded 2 = .ok (.iadd, 1) := by decide +kernel
theorem dX4_allInAreEnded_3 : decode cX4_allInAreEnded 3 = .ok (.istore_n 2, 1) := by decide +kernel
theorem dX4_allInAreEnded_4 : decode cX4_allInAreEnded 4 = .ok (.iload_n 2, 1) := by decide +kernel
theorem dX4_allInAreEnded_5 : decode cX4_allInAreEnded 5 = .ok (.aload_n 0, 1) := by decide +kernel
theorem dX4_allInAreEnded_6 : decode cX4_allInAreEnded 6 = .ok (.getfield 36, 3) := by decide +kernel
theorem dX4_allInAreEnded_9 : decode cX4_allInAreEnded 9 = .ok (.if_icmp .ge 31, 3) := by decide +kernel
theorem dX4_allInAreEnded_12 : decode cX4_allInAreEnded 12 = .ok (.aload_n 0, 1) := by decide +kernel
theorem dX4_allInAreEnded_13 : decode cX4_allInAreEnded 13 = .ok (.getfield 24, 3) := by decide +kernel
theorem dX4_allInAreEnded_16 : decode cX4_allInAreEnded 16 = .ok (.iload_n 2, 1) := by decide +kernel
theorem dX4_allInAreEnded_17 : decode cX4_allInAreEnded 17 = .ok (.iaload, 1) := by decide +kernel
theorem dX4_allInAreEnded_18 : decode cX4_allInAreEnded 18 = .ok (.iload_n 1, 1) := by decide +kernel
theorem dX4_allInAreEnded_19 : decode cX4_allInAreEnded 19 = .ok (.if_icmp .ne 15, 3) := by decide +kernel
theorem dX4_allInAreEnded_22 : decode cX4_allInAreEnded 22 = .ok (.aload_n 0, 1) := by decide +kernel
theorem dX4_allInAreEnded_23 : decode cX4_allInAreEnded 23 = .ok (.getfield 21, 3) := by decide +kernel
theorem dX4_allInAreEnded_26 : decode cX4_allInAreEnded 26 = .ok (.iload_n 2, 1) := by decide +kernel
theorem dX4_allInAreEnded_27 : decode cX4_allInAreEnded 27 = .ok (.iaload, 1) := by decide +kernel
theorem dX4_allInAreEnded_28 : decode cX4_allInAreEnded 28 = .ok (.iconst 3, 1) := by decide +kernel
theorem dX4_allInAreEnded_29 : decode cX4_allInAreEnded 29 = .ok (.if_icmp .ge 5, 3) := by decide +kernel
theorem dX4_allInAreEnded_32 : decode cX4_allInAreEnded 32 = .ok (.iconst 0, 1) := by decide +kernel
theorem dX4_allInAreEnded_33 : decode cX4_allInAreEnded 33 = .ok (.ireturn, 1) := by decide +kernel
theorem dX4_allInAreEnded_34 : decode cX4_allInAreEnded 34 = .ok (.iinc 2 1, 3) := by decide +kernel
theorem dX4_allInAreEnded_37 : decode cX4_allInAreEnded 37 = .ok (.goto (-33), 3) := by decide +kernel
theorem dX4_allInAreEnded_40 : decode cX4_allInAreEnded 40 = .ok (.iconst 1, 1) := by decide +kernel
theorem dX4_allInAreEnded_41 : decode cX4_allInAreEnded 41 = .ok (.ireturn, 1) := by decide +kernel
theorem dX4_finish_0 : decode cX4_finish 0 = .ok (.aload_n 0, 1) := by decide +kernel
theorem dX4_finish_1 : decode cX4_finish 1 = .ok (.getfield 9, 3) := by decide +kernel
theorem dX4_finish_4 : decode cX4_finish 4 = .ok (.iload_n 1, 1) := by decide +kernel
theorem dX4_finish_5 : decode cX4_finish 5 = .ok (.iaload, 1) := by decide +kernel
theorem dX4_finish_6 : decode cX4_finish 6 = .ok (.istore_n 2, 1) := by decide +kernel
theorem dX4_finish_7 : decode cX4_finish 7 = .ok (.iload_n 1, 1) := by decide +kernel
theorem dX4_finish_8 : decode cX4_finish 8 = .ok (.iconst 1, 1) := by decide +kernel
theorem dX4_finish_9 : decode cX4_finish 9 = .ok (.iadd, 1) := by decide +kernel
theorem dX4_finish_10 : decode cX4_finish 10 = .ok (.istore_n 3, 1) := by decide +kernel
theorem dX4_finish_11 : decode cX4_finish 11 = .ok (.iload_n 3, 1) := by decide +kernel
theorem dX4_finish_12 : decode cX4_finish 12 = .ok (.aload_n 0, 1) := by decide +kernel
theorem dX4_finish_13 : decode cX4_finish 13 = .ok (.getfield 36, 3) := by decide +kernel
theorem dX4_finish_16 : decode cX4_finish 16 = .ok (.if_icmp .ge 38, 3) := by decide +kernel
theorem dX4_finish_19 : decode cX4_finish 19 = .ok (.aload_n 0, 1) := by decide +kernel
theorem dX4_finish_20 : decode cX4_finish 20 = .ok (.getfield 24, 3) := by decide +kernel
theorem dX4_finish_23 : decode cX4_finish 23 = .ok (.iload_n 3, 1) := by decide +kernel
theorem dX4_finish_24 : decode cX4_finish 24 = .ok (.iaload, 1) := by decide +kernel
theorem dX4_finish_25 : decode cX4_finish 25 = .ok (.iload_n 1, 1) := by decide +kernel
theorem dX4_finish_26 : decode cX4_finish 26 = .ok (.if_icmp .ne 22, 3) := by decide +kernel
theorem dX4_finish_29 : decode cX4_finish 29 = .ok (.aload_n 0, 1) := by decide +kernel
theorem dX4_finish_30 : decode cX4_finish 30 = .ok (.getfield 21, 3) := by decide +kernel
theorem dX4_finish_33 : decode cX4_finish 33 = .ok (.iload_n 3, 1) := by decide +kernel
theorem dX4_finish_34 : decode cX4_finish 34 = .ok (.iaload, 1) := by decide +kernel
theorem dX4_finish_35 : decode cX4_finish 35 = .ok (.iconst 3, 1) := by decide +kernel
theorem dX4_finish_36 : decode cX4_finish 36 = .ok (.if_icmp .ne 12, 3) := by decide +kernel
theorem dX4_finish_39 : decode cX4_finish 39 = .ok (.iload_n 2, 1) := by decide +kernel
theorem dX4_finish_40 : decode cX4_finish 40 = .ok (.aload_n 0, 1) := by decide +kernel
theorem dX4_finish_41 : decode cX4_finish 41 = .ok (.getfield 18, 3) := by decide +kernel
theorem dX4_finish_44 : decode cX4_finish 44 = .ok (.iload_n 3, 1) := by decide +kernel
theorem dX4_finish_45 : decode cX4_finish 45 = .ok (.iaload, 1) := by decide +kernel
theorem dX4_finish_46 : decode cX4_finish 46 = .ok (.iadd, 1) := by decide +kernel
theorem dX4_finish_47 : decode cX4_finish 47 = .ok (.istore_n 2, 1) := by decide +kernel
theorem dX4_finish_48 : decode cX4_finish 48 = .ok (.iinc 3 1, 3) := by decide +kernel
theorem dX4_finish_51 : decode cX4_finish 51 = .ok (.goto (-40), 3) := by decide +kernel
theorem dX4_finish_54 : decode cX4_finish 54 = .ok (.aload_n 0, 1) := by decide +kernel
theorem dX4_finish_55 : decode cX4_finish 55 = .ok (.getfield 21, 3) := by decide +kernel
theorem dX4_finish_58 : decode cX4_finish 58 = .ok (.iload_n 1, 1) := by decide +kernel
theorem dX4_finish_59 : decode cX4_finish 59 = .ok (.iconst 3, 1) := by decide +kernel
theorem dX4_finish_60 : decode cX4_finish 60 = .ok (.iastore, 1) := by decide +kernel
theorem dX4_finish_61 : decode cX4_finish 61 = .ok (.aload_n 0, 1) := by decide +kernel
theorem dX4_finish_62 : decode cX4_finish 62 = .ok (.getfield 18, 3) := by decide +kernel
theorem dX4_finish_65 : decode cX4_finish 65 = .ok (.iload_n 1, 1) := by decide +kernel
theorem dX4_finish_66 : decode cX4_finish 66 = .ok (.iload_n 2, 1) := by decide +kernel
theorem dX4_finish_67 : decode cX4_finish 67 = .ok (.iastore, 1) := by decide +kernel
theorem dX4_finish_68 : decode cX4_finish 68 = .ok (.return_, 1) := by decide +kernel
theorem dX4_isBelow_0 : decode cX4_isBelow 0 = .ok (.aload_n 0, 1) := by decide +kernel
theorem dX4_isBelow_1 : decode cX4_isBelow 1 = .ok (.getfield 24, 3) := by decide +kernel
theorem dX4_isBelow_4 : decode cX4_isBelow 4 = .ok (.iload_n 1, 1) := by decide +kernel
theorem dX4_isBelow_5 : decode cX4_isBelow 5 = .ok (.iaload, 1) := by decide +kernel
theorem dX4_isBelow_6 : decode cX4_isBelow 6 = .ok (.istore_n 3, 1) := by decide +kernel
theorem dX4_isBelow_7 : decode cX4_isBelow 7 = .ok (.iconst 0, 1) := by decide +kernel
theorem dX4_isBelow_8 : decode cX4_isBelow 8 = .ok (.istore 4, 2) := by decide +kernel
theorem dX4_isBelow_10 : decode cX4_isBelow 10 = .ok (.iload 4, 2) := by decide +kernel
theorem dX4_isBelow_12 : decode cX4_isBelow 12 = .ok (.iconst 4, 1) := by decide +kernel
theorem dX4_isBelow_13 : decode cX4_isBelow 13 = .ok (.if_icmp .ge 21, 3) := by decide +kernel
theorem dX4_isBelow_16 : decode cX4_isBelow 16 = .ok (.iload_n 3, 1) := by decide +kernel
theorem dX4_isBelow_17 : decode cX4_isBelow 17 = .ok (.iload_n 2, 1) := by decide +kernel
theorem dX4_isBelow_18 : decode cX4_isBelow 18 = .ok (.if_icmp .le 16, 3) := by decide +kernel
theorem dX4_isBelow_21 : decode cX4_isBelow 21 = .ok (.aload_n 0, 1) := by decide +kernel
theorem dX4_isBelow_22 : decode cX4_isBelow 22 = .ok (.getfield 24, 3) := by decide +kernel
theorem dX4_isBelow_25 : decode cX4_isBelow 25 = .ok (.iload_n 3, 1) := by decide +kernel
theorem dX4_isBelow_26 : decode cX4_isBelow 26 = .ok (.iaload, 1) := by decide +kernel
theorem dX4_isBelow_27 : decode cX4_isBelow 27 = .ok (.istore_n 3, 1) := by decide +kernel
theorem dX4_isBelow_28 : decode cX4_isBelow 28 = .ok (.iinc 4 1, 3) := by decide +kernel
theorem dX4_isBelow_31 : decode cX4_isBelow 31 = .ok (.goto (-21), 3) := by decide +kernel
theorem dX4_isBelow_34 : decode cX4_isBelow 34 = .ok (.iload_n 3, 1) := by decide +kernel
theorem dX4_isBelow_35 : decode cX4_isBelow 35 = .ok (.iload_n 2, 1) := by decide +kernel
theorem dX4_isBelow_36 : decode cX4_isBelow 36 = .ok (.if_icmp .ne 7, 3) := by decide +kernel
theorem dX4_isBelow_39 : decode cX4_isBelow 39 = .ok (.iconst 1, 1) := by decide +kernel
theorem dX4_isBelow_40 : decode cX4_isBelow 40 = .ok (.goto 4, 3) := by decide +kernel
theorem dX4_isBelow_43 : decode cX4_isBelow 43 = .ok (.iconst 0, 1) := by decide +kernel
theorem dX4_isBelow_44 : decode cX4_isBelow 44 = .ok (.ireturn, 1) := by decide +kernel
theorem dX4_howManyIn_0 : decode cX4_howManyIn 0 = .ok (.iconst 0, 1) := by decide +kernel
theorem dX4_howManyIn_1 : decode cX4_howManyIn 1 = .ok (.istore_n 2, 1) := by decide +kernel
theorem dX4_howManyIn_2 : decode cX4_howManyIn 2 = .ok (.iload_n 1, 1) := by decide +kernel
theorem dX4_howManyIn_3 : decode cX4_howManyIn 3 = .ok (.iconst 1, 1) := by decide +kernel
theorem dX4_howManyIn_4 : decode cX4_howManyIn 4 = .ok (.iadd, 1) := by decide +kernel
theorem dX4_howManyIn_5 : decode cX4_howManyIn 5 = .ok (.istore_n 3, 1) := by decide +kernel
theorem dX4_howManyIn_6 : decode cX4_howManyIn 6 = .ok (.iload_n 3, 1) := by decide +kernel
theorem dX4_howManyIn_7 : decode cX4_howManyIn 7 = .ok (.aload_n 0, 1) := by decide +kernel
theorem dX4_howManyIn_8 : decode cX4_howManyIn 8 = .ok (.getfield 36, 3) := by decide +kernel
theorem dX4_howManyIn_11 : decode cX4_howManyIn 11 = .ok (.if_icmp .ge 22, 3) := by decide +kernel
theorem dX4_howManyIn_14 : decode cX4_howManyIn 14 = .ok (.aload_n 0, 1) := by decide +kernel
theorem dX4_howManyIn_15 : decode cX4_howManyIn 15 = .ok (.getfield 24, 3) := by decide +kernel
theorem dX4_howManyIn_18 : decode cX4_howManyIn 18 = .ok (.iload_n 3, 1) := by decide +kernel
theorem dX4_howManyIn_19 : decode cX4_howManyIn 19 = .ok (.iaload, 1) := by decide +kernel
theorem dX4_howManyIn_20 : decode cX4_howManyIn 20 = .ok (.iload_n 1, 1) := by decide +kernel
theorem dX4_howManyIn_21 : decode cX4_howManyIn 21 = .ok (.if_icmp .ne 6, 3) := by decide +kernel
theorem dX4_howManyIn_24 : decode cX4_howManyIn 24 = .ok (.iinc 2 1, 3) := by decide +kernel
theorem dX4_howManyIn_27 : decode cX4_howManyIn 27 = .ok (.iinc 3 1, 3) := by decide +kernel
theorem dX4_howManyIn_30 : decode cX4_howManyIn 30 = .ok (.goto (-24), 3) := by decide +kernel
theorem dX4_howManyIn_33 : decode cX4_howManyIn 33 = .ok (.iload_n 2, 1) := by decide +kernel
theorem dX4_howManyIn_34 : decode cX4_howManyIn 34 = .ok (.ireturn, 1) := by decide +kernel
theorem dX4_span_0 : decode cX4_span 0 = .ok (.iload_n 1, 1) := by decide +kernel
theorem dX4_span_1 : decode cX4_span 1 = .ok (.istore_n 2, 1) := by decide +kernel
theorem dX4_span_2 : decode cX4_span 2 = .ok (.iload_n 2, 1) := by decide +kernel
theorem dX4_span_3 : decode cX4_span 3 = .ok (.aload_n 0, 1) := by decide +kernel
theorem dX4_span_4 : decode cX4_span 4 = .ok (.getfield 36, 3) := by decide +kernel
theorem dX4_span_7 : decode cX4_span 7 = .ok (.if_icmp .ge 16, 3) := by decide +kernel
theorem dX4_span_10 : decode cX4_span 10 = .ok (.aload_n 0, 1) := by decide +kernel
theorem dX4_span_11 : decode cX4_span 11 = .ok (.getfield 33, 3) := by decide +kernel
theorem dX4_span_14 : decode cX4_span 14 = .ok (.iload_n 2, 1) := by decide +kernel
theorem dX4_span_15 : decode cX4_span 15 = .ok (.iconst 0, 1) := by decide +kernel
theorem dX4_span_16 : decode cX4_span 16 = .ok (.iastore, 1) := by decide +kernel
theorem dX4_span_17 : decode cX4_span 17 = .ok (.iinc 2 1, 3) := by decide +kernel
theorem dX4_span_20 : decode cX4_span 20 = .ok (.goto (-18), 3) := by decide +kernel
theorem dX4_span_23 : decode cX4_span 23 = .ok (.aload_n 0, 1) := by decide +kernel
theorem dX4_span_24 : decode cX4_span 24 = .ok (.getfield 36, 3) := by decide +kernel
theorem dX4_span_27 : decode cX4_span 27 = .ok (.iconst 1, 1) := by decide +kernel
theorem dX4_span_28 : decode cX4_span 28 = .ok (.isub, 1) := by decide +kernel
theorem dX4_span_29 : decode cX4_span 29 = .ok (.istore_n 2, 1) := by decide +kernel
theorem dX4_span_30 : decode cX4_span 30 = .ok (.iload_n 2, 1) := by decide +kernel
theorem dX4_span_31 : decode cX4_span 31 = .ok (.iload_n 1, 1) := by decide +kernel
theorem dX4_span_32 : decode cX4_span 32 = .ok (.if_icmp .le 49, 3) := by decide +kernel
theorem dX4_span_35 : decode cX4_span 35 = .ok (.aload_n 0, 1) := by decide +kernel
theorem dX4_span_36 : decode cX4_span 36 = .ok (.getfield 24, 3) := by decide +kernel
theorem dX4_span_39 : decode cX4_span 39 = .ok (.iload_n 2, 1) := by decide +kernel
theorem dX4_span_40 : decode cX4_span 40 = .ok (.iaload, 1) := by decide +kernel
theorem dX4_span_41 : decode cX4_span 41 = .ok (.istore_n 3, 1) := by decide +kernel
theorem dX4_span_42 : decode cX4_span 42 = .ok (.iload_n 3, 1) := by decide +kernel
theorem dX4_span_43 : decode cX4_span 43 = .ok (.iload_n 1, 1) := by decide +kernel
theorem dX4_span_44 : decode cX4_span 44 = .ok (.if_icmp .lt 31, 3) := by decide +kernel
theorem dX4_span_47 : decode cX4_span 47 = .ok (.aload_n 0, 1) := by decide +kernel
theorem dX4_span_48 : decode cX4_span 48 = .ok (.getfield 33, 3) := by decide +kernel
theorem dX4_span_51 : decode cX4_span 51 = .ok (.iload_n 3, 1) := by decide +kernel
theorem dX4_span_52 : decode cX4_span 52 = .ok (.aload_n 0, 1) := by decide +kernel
theorem dX4_span_53 : decode cX4_span 53 = .ok (.getfield 33, 3) := by decide +kernel
theorem dX4_span_56 : decode cX4_span 56 = .ok (.iload_n 3, 1) := by decide +kernel
theorem dX4_span_57 : decode cX4_span 57 = .ok (.iaload, 1) := by decide +kernel
theorem dX4_span_58 : decode cX4_span 58 = .ok (.aload_n 0, 1) := by decide +kernel
theorem dX4_span_59 : decode cX4_span 59 = .ok (.getfield 9, 3) := by decide +kernel
theorem dX4_span_62 : decode cX4_span 62 = .ok (.iload_n 2, 1) := by decide +kernel
theorem dX4_span_63 : decode cX4_span 63 = .ok (.iaload, 1) := by decide +kernel
theorem dX4_span_64 : decode cX4_span 64 = .ok (.aload_n 0, 1) := by decide +kernel
theorem dX4_span_65 : decode cX4_span 65 = .ok (.getfield 33, 3) := by decide +kernel
theorem dX4_span_68 : decode cX4_span 68 = .ok (.iload_n 2, 1) := by decide +kernel
theorem dX4_span_69 : decode cX4_span 69 = .ok (.iaload, 1) := by decide +kernel
theorem dX4_span_70 : decode cX4_span 70 = .ok (.iadd, 1) := by decide +kernel
theorem dX4_span_71 : decode cX4_span 71 = .ok (.invokestatic 50, 3) := by decide +kernel
theorem dX4_span_74 : decode cX4_span 74 = .ok (.iastore, 1) := by decide +kernel
theorem dX4_span_75 : decode cX4_span 75 = .ok (.iinc 2 (-1), 3) := by decide +kernel
theorem dX4_span_78 : decode cX4_span 78 = .ok (.goto (-48), 3) := by decide +kernel
theorem dX4_span_81 : decode cX4_span 81 = .ok (.aload_n 0, 1) := by decide +kernel
theorem dX4_span_82 : decode cX4_span 82 = .ok (.getfield 9, 3) := by decide +kernel
theorem dX4_span_85 : decode cX4_span 85 = .ok (.iload_n 1, 1) := by decide +kernel
theorem dX4_span_86 : decode cX4_span 86 = .ok (.iaload, 1) := by decide +kernel
theorem dX4_span_87 : decode cX4_span 87 = .ok (.aload_n 0, 1) := by decide +kernel
theorem dX4_span_88 : decode cX4_span 88 = .ok (.getfield 33, 3) := by decide +kernel
theorem dX4_span_91 : decode cX4_span 91 = .ok (.iload_n 1, 1) := by decide +kernel
theorem dX4_span_92 : decode cX4_span 92 = .ok (.iaload, 1) := by decide +kernel
theorem dX4_span_93 : decode cX4_span 93 = .ok (.iadd, 1) := by decide +kernel
theorem dX4_span_94 : decode cX4_span 94 = .ok (.ireturn, 1) := by decide +kernel
theorem dX4_workOfAll_0 : decode cX4_workOfAll 0 = .ok (.aload_n 0, 1) := by decide +kernel
theorem dX4_workOfAll_1 : decode cX4_workOfAll 1 = .ok (.getfield 9, 3) := by decide +kernel
theorem dX4_workOfAll_4 : decode cX4_workOfAll 4 = .ok (.iload_n 1, 1) := by decide +kernel
theorem dX4_workOfAll_5 : decode cX4_workOfAll 5 = .ok (.iaload, 1) := by decide +kernel
theorem dX4_workOfAll_6 : decode cX4_workOfAll 6 = .ok (.istore_n 2, 1) := by decide +kernel
theorem dX4_workOfAll_7 : decode cX4_workOfAll 7 = .ok (.iload_n 1, 1) := by decide +kernel
theorem dX4_workOfAll_8 : decode cX4_workOfAll 8 = .ok (.iconst 1, 1) := by decide +kernel
theorem dX4_workOfAll_9 : decode cX4_workOfAll 9 = .ok (.iadd, 1) := by decide +kernel
theorem dX4_workOfAll_10 : decode cX4_workOfAll 10 = .ok (.istore_n 3, 1) := by decide +kernel
theorem dX4_workOfAll_11 : decode cX4_workOfAll 11 = .ok (.iload_n 3, 1) := by decide +kernel
theorem dX4_workOfAll_12 : decode cX4_workOfAll 12 = .ok (.aload_n 0, 1) := by decide +kernel
theorem dX4_workOfAll_13 : decode cX4_workOfAll 13 = .ok (.getfield 36, 3) := by decide +kernel
theorem dX4_workOfAll_16 : decode cX4_workOfAll 16 = .ok (.if_icmp .ge 27, 3) := by decide +kernel
theorem dX4_workOfAll_19 : decode cX4_workOfAll 19 = .ok (.aload_n 0, 1) := by decide +kernel
theorem dX4_workOfAll_20 : decode cX4_workOfAll 20 = .ok (.iload_n 3, 1) := by decide +kernel
theorem dX4_workOfAll_21 : decode cX4_workOfAll 21 = .ok (.iload_n 1, 1) := by decide +kernel
theorem dX4_workOfAll_22 : decode cX4_workOfAll 22 = .ok (.invokevirtual 56, 3) := by decide +kernel
theorem dX4_workOfAll_25 : decode cX4_workOfAll 25 = .ok (.ifCond .eq 12, 3) := by decide +kernel
theorem dX4_workOfAll_28 : decode cX4_workOfAll 28 = .ok (.iload_n 2, 1) := by decide +kernel
theorem dX4_workOfAll_29 : decode cX4_workOfAll 29 = .ok (.aload_n 0, 1) := by decide +kernel
theorem dX4_workOfAll_30 : decode cX4_workOfAll 30 = .ok (.getfield 9, 3) := by decide +kernel
theorem dX4_workOfAll_33 : decode cX4_workOfAll 33 = .ok (.iload_n 3, 1) := by decide +kernel
theorem dX4_workOfAll_34 : decode cX4_workOfAll 34 = .ok (.iaload, 1) := by decide +kernel
theorem dX4_workOfAll_35 : decode cX4_workOfAll 35 = .ok (.iadd, 1) := by decide +kernel
theorem dX4_workOfAll_36 : decode cX4_workOfAll 36 = .ok (.istore_n 2, 1) := by decide +kernel
theorem dX4_workOfAll_37 : decode cX4_workOfAll 37 = .ok (.iinc 3 1, 3) := by decide +kernel
theorem dX4_workOfAll_40 : decode cX4_workOfAll 40 = .ok (.goto (-29), 3) := by decide +kernel
theorem dX4_workOfAll_43 : decode cX4_workOfAll 43 = .ok (.iload_n 2, 1) := by decide +kernel
theorem dX4_workOfAll_44 : decode cX4_workOfAll 44 = .ok (.ireturn, 1) := by decide +kernel
theorem dX4_depth_0 : decode cX4_depth 0 = .ok (.iconst 0, 1) := by decide +kernel
theorem dX4_depth_1 : decode cX4_depth 1 = .ok (.istore_n 2, 1) := by decide +kernel
theorem dX4_depth_2 : decode cX4_depth 2 = .ok (.aload_n 0, 1) := by decide +kernel
theorem dX4_depth_3 : decode cX4_depth 3 = .ok (.getfield 24, 3) := by decide +kernel
theorem dX4_depth_6 : decode cX4_depth 6 = .ok (.iload_n 1, 1) := by decide +kernel
theorem dX4_depth_7 : decode cX4_depth 7 = .ok (.iaload, 1) := by decide +kernel
theorem dX4_depth_8 : decode cX4_depth 8 = .ok (.istore_n 3, 1) := by decide +kernel
theorem dX4_depth_9 : decode cX4_depth 9 = .ok (.iload_n 2, 1) := by decide +kernel
theorem dX4_depth_10 : decode cX4_depth 10 = .ok (.iconst 4, 1) := by decide +kernel
theorem dX4_depth_11 : decode cX4_depth 11 = .ok (.if_icmp .ge 24, 3) := by decide +kernel
theorem dX4_depth_14 : decode cX4_depth 14 = .ok (.aload_n 0, 1) := by decide +kernel
theorem dX4_depth_15 : decode cX4_depth 15 = .ok (.iload_n 3, 1) := by decide +kernel
theorem dX4_depth_16 : decode cX4_depth 16 = .ok (.invokevirtual 46, 3) := by decide +kernel
theorem dX4_depth_19 : decode cX4_depth 19 = .ok (.ifCond .eq 16, 3) := by decide +kernel
theorem dX4_depth_22 : decode cX4_depth 22 = .ok (.aload_n 0, 1) := by decide +kernel
theorem dX4_depth_23 : decode cX4_depth 23 = .ok (.getfield 24, 3) := by decide +kernel
theorem dX4_depth_26 : decode cX4_depth 26 = .ok (.iload_n 3, 1) := by decide +kernel
theorem dX4_depth_27 : decode cX4_depth 27 = .ok (.iaload, 1) := by decide +kernel
theorem dX4_depth_28 : decode cX4_depth 28 = .ok (.istore_n 3, 1) := by decide +kernel
theorem dX4_depth_29 : decode cX4_depth 29 = .ok (.iinc 2 1, 3) := by decide +kernel
theorem dX4_depth_32 : decode cX4_depth 32 = .ok (.goto (-23), 3) := by decide +kernel
theorem dX4_depth_35 : decode cX4_depth 35 = .ok (.iload_n 2, 1) := by decide +kernel
theorem dX4_depth_36 : decode cX4_depth 36 = .ok (.ireturn, 1) := by decide +kernel
theorem dX4_howManyEnded_0 : decode cX4_howManyEnded 0 = .ok (.iconst 0, 1) := by decide +kernel
theorem dX4_howManyEnded_1 : decode cX4_howManyEnded 1 = .ok (.istore_n 1, 1) := by decide +kernel
theorem dX4_howManyEnded_2 : decode cX4_howManyEnded 2 = .ok (.iconst 0, 1) := by decide +kernel
theorem dX4_howManyEnded_3 : decode cX4_howManyEnded 3 = .ok (.istore_n 2, 1) := by decide +kernel
theorem dX4_howManyEnded_4 : decode cX4_howManyEnded 4 = .ok (.iload_n 2, 1) := by decide +kernel
theorem dX4_howManyEnded_5 : decode cX4_howManyEnded 5 = .ok (.aload_n 0, 1) := by decide +kernel
theorem dX4_howManyEnded_6 : decode cX4_howManyEnded 6 = .ok (.getfield 36, 3) := by decide +kernel
theorem dX4_howManyEnded_9 : decode cX4_howManyEnded 9 = .ok (.if_icmp .ge 22, 3) := by decide +kernel
theorem dX4_howManyEnded_12 : decode cX4_howManyEnded 12 = .ok (.aload_n 0, 1) := by decide +kernel
theorem dX4_howManyEnded_13 : decode cX4_howManyEnded 13 = .ok (.getfield 21, 3) := by decide +kernel
theorem dX4_howManyEnded_16 : decode cX4_howManyEnded 16 = .ok (.iload_n 2, 1) := by decide +kernel
theorem dX4_howManyEnded_17 : decode cX4_howManyEnded 17 = .ok (.iaload, 1) := by decide +kernel
theorem dX4_howManyEnded_18 : decode cX4_howManyEnded 18 = .ok (.iconst 3, 1) := by decide +kernel
theorem dX4_howManyEnded_19 : decode cX4_howManyEnded 19 = .ok (.if_icmp .lt 6, 3) := by decide +kernel
theorem dX4_howManyEnded_22 : decode cX4_howManyEnded 22 = .ok (.iinc 1 1, 3) := by decide +kernel
theorem dX4_howManyEnded_25 : decode cX4_howManyEnded 25 = .ok (.iinc 2 1, 3) := by decide +kernel
theorem dX4_howManyEnded_28 : decode cX4_howManyEnded 28 = .ok (.goto (-24), 3) := by decide +kernel
theorem dX4_howManyEnded_31 : decode cX4_howManyEnded 31 = .ok (.iload_n 1, 1) := by decide +kernel
theorem dX4_howManyEnded_32 : decode cX4_howManyEnded 32 = .ok (.ireturn, 1) := by decide +kernel
theorem dX4_howManyDone_0 : decode cX4_howManyDone 0 = .ok (.iconst 0, 1) := by decide +kernel
theorem dX4_howManyDone_1 : decode cX4_howManyDone 1 = .ok (.istore_n 1, 1) := by decide +kernel
theorem dX4_howManyDone_2 : decode cX4_howManyDone 2 = .ok (.iconst 0, 1) := by decide +kernel
theorem dX4_howManyDone_3 : decode cX4_howManyDone 3 = .ok (.istore_n 2, 1) := by decide +kernel
theorem dX4_howManyDone_4 : decode cX4_howManyDone 4 = .ok (.iload_n 2, 1) := by decide +kernel
theorem dX4_howManyDone_5 : decode cX4_howManyDone 5 = .ok (.aload_n 0, 1) := by decide +kernel
theorem dX4_howManyDone_6 : decode cX4_howManyDone 6 = .ok (.getfield 36, 3) := by decide +kernel
theorem dX4_howManyDone_9 : decode cX4_howManyDone 9 = .ok (.if_icmp .ge 22, 3) := by decide +kernel
theorem dX4_howManyDone_12 : decode cX4_howManyDone 12 = .ok (.aload_n 0, 1) := by decide +kernel
theorem dX4_howManyDone_13 : decode cX4_howManyDone 13 = .ok (.getfield 21, 3) := by decide +kernel
theorem dX4_howManyDone_16 : decode cX4_howManyDone 16 = .ok (.iload_n 2, 1) := by decide +kernel
theorem dX4_howManyDone_17 : decode cX4_howManyDone 17 = .ok (.iaload, 1) := by decide +kernel
theorem dX4_howManyDone_18 : decode cX4_howManyDone 18 = .ok (.iconst 3, 1) := by decide +kernel
theorem dX4_howManyDone_19 : decode cX4_howManyDone 19 = .ok (.if_icmp .ne 6, 3) := by decide +kernel
theorem dX4_howManyDone_22 : decode cX4_howManyDone 22 = .ok (.iinc 1 1, 3) := by decide +kernel
theorem dX4_howManyDone_25 : decode cX4_howManyDone 25 = .ok (.iinc 2 1, 3) := by decide +kernel
theorem dX4_howManyDone_28 : decode cX4_howManyDone 28 = .ok (.goto (-24), 3) := by decide +kernel
theorem dX4_howManyDone_31 : decode cX4_howManyDone 31 = .ok (.iload_n 1, 1) := by decide +kernel
theorem dX4_howManyDone_32 : decode cX4_howManyDone 32 = .ok (.ireturn, 1) := by decide +kernel
theorem dX4_worthOfAllDone_0 : decode cX4_worthOfAllDone 0 = .ok (.iconst 0, 1) := by decide +kernel
theorem dX4_worthOfAllDone_1 : decode cX4_worthOfAllDone 1 = .ok (.istore_n 1, 1) := by decide +kernel
theorem dX4_worthOfAllDone_2 : decode cX4_worthOfAllDone 2 = .ok (.iconst 0, 1) := by decide +kernel
theorem dX4_worthOfAllDone_3 : decode cX4_worthOfAllDone 3 = .ok (.istore_n 2, 1) := by decide +kernel
theorem dX4_worthOfAllDone_4 : decode cX4_worthOfAllDone 4 = .ok (.iload_n 2, 1) := by decide +kernel
theorem dX4_worthOfAllDone_5 : decode cX4_worthOfAllDone 5 = .ok (.aload_n 0, 1) := by decide +kernel
theorem dX4_worthOfAllDone_6 : decode cX4_worthOfAllDone 6 = .ok (.getfield 36, 3) := by decide +kernel
theorem dX4_worthOfAllDone_9 : decode cX4_worthOfAllDone 9 = .ok (.if_icmp .ge 28, 3) := by decide +kernel
theorem dX4_worthOfAllDone_12 : decode cX4_worthOfAllDone 12 = .ok (.aload_n 0, 1) := by decide +kernel
theorem dX4_worthOfAllDone_13 : decode cX4_worthOfAllDone 13 = .ok (.getfield 21, 3) := by decide +kernel
theorem dX4_worthOfAllDone_16 : decode cX4_worthOfAllDone 16 = .ok (.iload_n 2, 1) := by decide +kernel
theorem dX4_worthOfAllDone_17 : decode cX4_worthOfAllDone 17 = .ok (.iaload, 1) := by decide +kernel
theorem dX4_worthOfAllDone_18 : decode cX4_worthOfAllDone 18 = .ok (.iconst 3, 1) := by decide +kernel
theorem dX4_worthOfAllDone_19 : decode cX4_worthOfAllDone 19 = .ok (.if_icmp .ne 12, 3) := by decide +kernel
theorem dX4_worthOfAllDone_22 : decode cX4_worthOfAllDone 22 = .ok (.iload_n 1, 1) := by decide +kernel
theorem dX4_worthOfAllDone_23 : decode cX4_worthOfAllDone 23 = .ok (.aload_n 0, 1) := by decide +kernel
theorem dX4_worthOfAllDone_24 : decode cX4_worthOfAllDone 24 = .ok (.getfield 18, 3) := by decide +kernel
theorem dX4_worthOfAllDone_27 : decode cX4_worthOfAllDone 27 = .ok (.iload_n 2, 1) := by decide +kernel
theorem dX4_worthOfAllDone_28 : decode cX4_worthOfAllDone 28 = .ok (.iaload, 1) := by decide +kernel
theorem dX4_worthOfAllDone_29 : decode cX4_worthOfAllDone 29 = .ok (.iadd, 1) := by decide +kernel
theorem dX4_worthOfAllDone_30 : decode cX4_worthOfAllDone 30 = .ok (.istore_n 1, 1) := by decide +kernel
theorem dX4_worthOfAllDone_31 : decode cX4_worthOfAllDone 31 = .ok (.iinc 2 1, 3) := by decide +kernel
theorem dX4_worthOfAllDone_34 : decode cX4_worthOfAllDone 34 = .ok (.goto (-30), 3) := by decide +kernel
theorem dX4_worthOfAllDone_37 : decode cX4_worthOfAllDone 37 = .ok (.iload_n 1, 1) := by decide +kernel
theorem dX4_worthOfAllDone_38 : decode cX4_worthOfAllDone 38 = .ok (.ireturn, 1) := by decide +kernel
theorem dX5_init_0 : decode cX5_init 0 = .ok (.aload_n 0, 1) := by decide +kernel
theorem dX5_init_1 : decode cX5_init 1 = .ok (.invokespecial 3, 3) := by decide +kernel
theorem dX5_init_4 : decode cX5_init 4 = .ok (.aload_n 0, 1) := by decide +kernel
theorem dX5_init_5 : decode cX5_init 5 = .ok (.bipush 100, 2) := by decide +kernel
theorem dX5_init_7 : decode cX5_init 7 = .ok (.newarray .int, 2) := by decide +kernel
theorem dX5_init_9 : decode cX5_init 9 = .ok (.putfield 9, 3) := by decide +kernel
theorem dX5_init_12 : decode cX5_init 12 = .ok (.aload_n 0, 1) := by decide +kernel
theorem dX5_init_13 : decode cX5_init 13 = .ok (.iconst 0, 1) := by decide +kernel
theorem dX5_init_14 : decode cX5_init 14 = .ok (.putfield 15, 3) := by decide +kernel
theorem dX5_init_17 : decode cX5_init 17 = .ok (.aload_n 0, 1) := by decide +kernel
theorem dX5_init_18 : decode cX5_init 18 = .ok (.bipush 100, 2) := by decide +kernel
theorem dX5_init_20 : decode cX5_init 20 = .ok (.newarray .int, 2) := by decide +kernel
theorem dX5_init_22 : decode cX5_init 22 = .ok (.putfield 19, 3) := by decide +kernel
theorem dX5_init_25 : decode cX5_init 25 = .ok (.aload_n 0, 1) := by decide +kernel
theorem dX5_init_26 : decode cX5_init 26 = .ok (.bipush 100, 2) := by decide +kernel
theorem dX5_init_28 : decode cX5_init 28 = .ok (.newarray .int, 2) := by decide +kernel
theorem dX5_init_30 : decode cX5_init 30 = .ok (.putfield 22, 3) := by decide +kernel
theorem dX5_init_33 : decode cX5_init 33 = .ok (.aload_n 0, 1) := by decide +kernel
theorem dX5_init_34 : decode cX5_init 34 = .ok (.bipush 100, 2) := by decide +kernel
theorem dX5_init_36 : decode cX5_init 36 = .ok (.newarray .int, 2) := by decide +kernel
theorem dX5_init_38 : decode cX5_init 38 = .ok (.putfield 25, 3) := by decide +kernel
theorem dX5_init_41 : decode cX5_init 41 = .ok (.aload_n 0, 1) := by decide +kernel
theorem dX5_init_42 : decode cX5_init 42 = .ok (.iconst 0, 1) := by decide +kernel
theorem dX5_init_43 : decode cX5_init 43 = .ok (.putfield 28, 3) := by decide +kernel
theorem dX5_init_46 : decode cX5_init 46 = .ok (.aload_n 0, 1) := by decide +kernel
theorem dX5_init_47 : decode cX5_init 47 = .ok (.iconst 4, 1) := by decide +kernel
theorem dX5_init_48 : decode cX5_init 48 = .ok (.newarray .int, 2) := by decide +kernel
theorem dX5_init_50 : decode cX5_init 50 = .ok (.putfield 31, 3) := by decide +kernel
theorem dX5_init_53 : decode cX5_init 53 = .ok (.aload_n 0, 1) := by decide +kernel
theorem dX5_init_54 : decode cX5_init 54 = .ok (.iconst 4, 1) := by decide +kernel
theorem dX5_init_55 : decode cX5_init 55 = .ok (.newarray .int, 2) := by decide +kernel
theorem dX5_init_57 : decode cX5_init 57 = .ok (.putfield 34, 3) := by decide +kernel
theorem dX5_init_60 : decode cX5_init 60 = .ok (.aload_n 0, 1) := by decide +kernel
theorem dX5_init_61 : decode cX5_init 61 = .ok (.iconst 0, 1) := by decide +kernel
theorem dX5_init_62 : decode cX5_init 62 = .ok (.putfield 37, 3) := by decide +kernel
theorem dX5_init_65 : decode cX5_init 65 = .ok (.aload_n 0, 1) := by decide +kernel
theorem dX5_init_66 : decode cX5_init 66 = .ok (.iconst 0, 1) := by decide +kernel
theorem dX5_init_67 : decode cX5_init 67 = .ok (.putfield 40, 3) := by decide +kernel
theorem dX5_init_70 : decode cX5_init 70 = .ok (.return_, 1) := by decide +kernel
theorem dX5_append_0 : decode cX5_append 0 = .ok (.aload_n 0, 1) := by decide +kernel
theorem dX5_append_1 : decode cX5_append 1 = .ok (.getfield 15, 3) := by decide +kernel
theorem dX5_append_4 : decode cX5_append 4 = .ok (.aload_n 0, 1) := by decide +kernel
theorem dX5_append_5 : decode cX5_append 5 = .ok (.getfield 9, 3) := by decide +kernel
theorem dX5_append_8 : decode cX5_append 8 = .ok (.arraylength, 1) := by decide +kernel
theorem dX5_append_9 : decode cX5_append 9 = .ok (.if_icmp .lt 5, 3) := by decide +kernel
theorem dX5_append_12 : decode cX5_append 12 = .ok (.iconst 0, 1) := by decide +kernel
theorem dX5_append_13 : decode cX5_append 13 = .ok (.ireturn, 1) := by decide +kernel
theorem dX5_append_14 : decode cX5_append 14 = .ok (.aload_n 0, 1) := by decide +kernel
theorem dX5_append_15 : decode cX5_append 15 = .ok (.getfield 9, 3) := by decide +kernel
theorem dX5_append_18 : decode cX5_append 18 = .ok (.aload_n 0, 1) := by decide +kernel
theorem dX5_append_19 : decode cX5_append 19 = .ok (.getfield 15, 3) := by decide +kernel
theorem dX5_append_22 : decode cX5_append 22 = .ok (.iload_n 1, 1) := by decide +kernel
theorem dX5_append_23 : decode cX5_append 23 = .ok (.iastore, 1) := by decide +kernel
theorem dX5_append_24 : decode cX5_append 24 = .ok (.aload_n 0, 1) := by decide +kernel
theorem dX5_append_25 : decode cX5_append 25 = .ok (.dup, 1) := by decide +kernel
theorem dX5_append_26 : decode cX5_append 26 = .ok (.getfield 15, 3) := by decide +kernel
theorem dX5_append_29 : decode cX5_append 29 = .ok (.iconst 1, 1) := by decide +kernel
theorem dX5_append_30 : decode cX5_append 30 = .ok (.iadd, 1) := by decide +kernel
theorem dX5_append_31 : decode cX5_append 31 = .ok (.putfield 15, 3) := by decide +kernel
theorem dX5_append_34 : decode cX5_append 34 = .ok (.iconst 1, 1) := by decide +kernel
theorem dX5_append_35 : decode cX5_append 35 = .ok (.ireturn, 1) := by decide +kernel
theorem dX5_parse_0 : decode cX5_parse 0 = .ok (.aload_n 0, 1) := by decide +kernel
theorem dX5_parse_1 : decode cX5_parse 1 = .ok (.iconst 0, 1) := by decide +kernel
theorem dX5_parse_2 : decode cX5_parse 2 = .ok (.putfield 28, 3) := by decide +kernel
theorem dX5_parse_5 : decode cX5_parse 5 = .ok (.aload_n 0, 1) := by decide +kernel
theorem dX5_parse_6 : decode cX5_parse 6 = .ok (.iconst 0, 1) := by decide +kernel
theorem dX5_parse_7 : decode cX5_parse 7 = .ok (.putfield 37, 3) := by decide +kernel
theorem dX5_parse_10 : decode cX5_parse 10 = .ok (.aload_n 0, 1) := by decide +kernel
theorem dX5_parse_11 : decode cX5_parse 11 = .ok (.iconst 0, 1) := by decide +kernel
theorem dX5_parse_12 : decode cX5_parse 12 = .ok (.putfield 40, 3) := by decide +kernel
theorem dX5_parse_15 : decode cX5_parse 15 = .ok (.iconst 0, 1) := by decide +kernel
theorem dX5_parse_16 : decode cX5_parse 16 = .ok (.istore_n 1, 1) := by decide +kernel
theorem dX5_parse_17 : decode cX5_parse 17 = .ok (.iload_n 1, 1) := by decide +kernel
theorem dX5_parse_18 : decode cX5_parse 18 = .ok (.aload_n 0, 1) := by decide +kernel
theorem dX5_parse_19 : decode cX5_parse 19 = .ok (.getfield 15, 3) := by decide +kernel
theorem dX5_parse_22 : decode cX5_parse 22 = .ok (.if_icmp .ge 24, 3) := by decide +kernel
theorem dX5_parse_25 : decode cX5_parse 25 = .ok (.aload_n 0, 1) := by decide +kernel
theorem dX5_parse_26 : decode cX5_parse 26 = .ok (.aload_n 0, 1) := by decide +kernel
theorem dX5_parse_27 : decode cX5_parse 27 = .ok (.getfield 9, 3) := by decide +kernel
theorem dX5_parse_30 : decode cX5_parse 30 = .ok (.iload_n 1, 1) := by decide +kernel
theorem dX5_parse_31 : decode cX5_parse 31 = .ok (.iaload, 1) := by decide +kernel
theorem dX5_parse_32 : decode cX5_parse 32 = .ok (.invokevirtual 43, 3) := by decide +kernel
theorem dX5_parse_35 : decode cX5_parse 35 = .ok (.ifCond .ne 5, 3) := by decide +kernel
theorem dX5_parse_38 : decode cX5_parse 38 = .ok (.iload_n 1, 1) := by decide +kernel
theorem dX5_parse_39 : decode cX5_parse 39 = .ok (.ireturn, 1) := by decide +kernel
theorem dX5_parse_40 : decode cX5_parse 40 = .ok (.iinc 1 1, 3) := by decide +kernel
theorem dX5_parse_43 : decode cX5_parse 43 = .ok (.goto (-26), 3) := by decide +kernel
theorem dX5_parse_46 : decode cX5_parse 46 = .ok (.aload_n 0, 1) := by decide +kernel
theorem dX5_parse_47 : decode cX5_parse 47 = .ok (.getfield 40, 3) := by decide +kernel
theorem dX5_parse_50 : decode cX5_parse 50 = .ok (.ifCond .eq 10, 3) := by decide +kernel
theorem dX5_parse_53 : decode cX5_parse 53 = .ok (.aload_n 0, 1) := by decide +kernel
theorem dX5_parse_54 : decode cX5_parse 54 = .ok (.getfield 37, 3) := by decide +kernel
theorem dX5_parse_57 : decode cX5_parse 57 = .ok (.ifCond .le 10, 3) := by decide +kernel
theorem dX5_parse_60 : decode cX5_parse 60 = .ok (.aload_n 0, 1) := by decide +kernel
theorem dX5_parse_61 : decode cX5_parse 61 = .ok (.getfield 15, 3) := by decide +kernel
theorem dX5_parse_64 : decode cX5_parse 64 = .ok (.goto 5, 3) := by decide +kernel
theorem dX5_parse_67 : decode cX5_parse 67 = .ok (.bipush (-5), 2) := by decide +kernel
theorem dX5_parse_69 : decode cX5_parse 69 = .ok (.ireturn, 1) := by decide +kernel
theorem dX5_goesOn_0 : decode cX5_goesOn 0 = .ok (.aload_n 0, 1) := by decide +kernel
theorem dX5_goesOn_1 : decode cX5_goesOn 1 = .ok (.getfield 40, 3) := by decide +kernel
theorem dX5_goesOn_4 : decode cX5_goesOn 4 = .ok (.ifCond .ne 32, 3) := by decide +kernel
theorem dX5_goesOn_7 : decode cX5_goesOn 7 = .ok (.iload_n 1, 1) := by decide +kernel
theorem dX5_goesOn_8 : decode cX5_goesOn 8 = .ok (.bipush 49, 2) := by decide +kernel
theorem dX5_goesOn_10 : decode cX5_goesOn 10 = .ok (.if_icmp .lt 24, 3) := by decide +kernel
theorem dX5_goesOn_13 : decode cX5_goesOn 13 = .ok (.iload_n 1, 1) := by decide +kernel
theorem dX5_goesOn_14 : decode cX5_goesOn 14 = .ok (.bipush 57, 2) := by decide +kernel
theorem dX5_goesOn_16 : decode cX5_goesOn 16 = .ok (.if_icmp .gt 18, 3) := by decide +kernel
theorem dX5_goesOn_19 : decode cX5_goesOn 19 = .ok (.aload_n 0, 1) := by decide +kernel
theorem dX5_goesOn_20 : decode cX5_goesOn 20 = .ok (.iload_n 1, 1) := by decide +kernel
theorem dX5_goesOn_21 : decode cX5_goesOn 21 = .ok (.bipush 48, 2) := by decide +kernel
theorem dX5_goesOn_23 : decode cX5_goesOn 23 = .ok (.isub, 1) := by decide +kernel
theorem dX5_goesOn_24 : decode cX5_goesOn 24 = .ok (.invokevirtual 47, 3) := by decide +kernel
theorem dX5_goesOn_27 : decode cX5_goesOn 27 = .ok (.ifCond .eq 7, 3) := by decide +kernel
theorem dX5_goesOn_30 : decode cX5_goesOn 30 = .ok (.iconst 1, 1) := by decide +kernel
theorem dX5_goesOn_31 : decode cX5_goesOn 31 = .ok (.goto 4, 3) := by decide +kernel
theorem dX5_goesOn_34 : decode cX5_goesOn 34 = .ok (.iconst 0, 1) := by decide +kernel
theorem dX5_goesOn_35 : decode cX5_goesOn 35 = .ok (.ireturn, 1) := by decide +kernel
theorem dX5_goesOn_36 : decode cX5_goesOn 36 = .ok (.iload_n 1, 1) := by decide +kernel
theorem dX5_goesOn_37 : decode cX5_goesOn 37 = .ok (.lookupswitch 78 #[(33, 51), (40, 63), (41, 73), (44, 68), (63, 57)], 51) := by decide +kernel
theorem dX5_goesOn_88 : decode cX5_goesOn 88 = .ok (.aload_n 0, 1) := by decide +kernel
theorem dX5_goesOn_89 : decode cX5_goesOn 89 = .ok (.iconst 1, 1) := by decide +kernel
theorem dX5_goesOn_90 : decode cX5_goesOn 90 = .ok (.invokevirtual 50, 3) := by decide +kernel
theorem dX5_goesOn_93 : decode cX5_goesOn 93 = .ok (.ireturn, 1) := by decide +kernel
theorem dX5_goesOn_94 : decode cX5_goesOn 94 = .ok (.aload_n 0, 1) := by decide +kernel
theorem dX5_goesOn_95 : decode cX5_goesOn 95 = .ok (.iconst 2, 1) := by decide +kernel
theorem dX5_goesOn_96 : decode cX5_goesOn 96 = .ok (.invokevirtual 50, 3) := by decide +kernel
theorem dX5_goesOn_99 : decode cX5_goesOn 99 = .ok (.ireturn, 1) := by decide +kernel
theorem dX5_goesOn_100 : decode cX5_goesOn 100 = .ok (.aload_n 0, 1) := by decide +kernel
theorem dX5_goesOn_101 : decode cX5_goesOn 101 = .ok (.invokevirtual 53, 3) := by decide +kernel
theorem dX5_goesOn_104 : decode cX5_goesOn 104 = .ok (.ireturn, 1) := by decide +kernel
theorem dX5_goesOn_105 : decode cX5_goesOn 105 = .ok (.aload_n 0, 1) := by decide +kernel
theorem dX5_goesOn_106 : decode cX5_goesOn 106 = .ok (.invokevirtual 57, 3) := by decide +kernel
theorem dX5_goesOn_109 : decode cX5_goesOn 109 = .ok (.ireturn, 1) := by decide +kernel
theorem dX5_goesOn_110 : decode cX5_goesOn 110 = .ok (.aload_n 0, 1) := by decide +kernel
theorem dX5_goesOn_111 : decode cX5_goesOn 111 = .ok (.invokevirtual 60, 3) := by decide +kernel
theorem dX5_goesOn_114 : decode cX5_goesOn 114 = .ok (.ireturn, 1) := by decide +kernel
theorem dX5_goesOn_115 : decode cX5_goesOn 115 = .ok (.iconst 0, 1) := by decide +kernel
theorem dX5_goesOn_116 : decode cX5_goesOn 116 = .ok (.ireturn, 1) := by decide +kernel
theorem dX5_begin_0 : decode cX5_begin 0 = .ok (.aload_n 0, 1) := by decide +kernel
theorem dX5_begin_1 : decode cX5_begin 1 = .ok (.getfield 28, 3) := by decide +kernel
theorem dX5_begin_4 : decode cX5_begin 4 = .ok (.aload_n 0, 1) := by decide +kernel
theorem dX5_begin_5 : decode cX5_begin 5 = .ok (.getfield 19, 3) := by decide +kernel
theorem dX5_begin_8 : decode cX5_begin 8 = .ok (.arraylength, 1) := by decide +kernel
theorem dX5_begin_9 : decode cX5_begin 9 = .ok (.if_icmp .lt 5, 3) := by decide +kernel
theorem dX5_begin_12 : decode cX5_begin 12 = .ok (.iconst 0, 1) := by decide +kernel
theorem dX5_begin_13 : decode cX5_begin 13 = .ok (.ireturn, 1) := by decide +kernel
theorem dX5_begin_14 : decode cX5_begin 14 = .ok (.aload_n 0, 1) := by decide +kernel
theorem dX5_begin_15 : decode cX5_begin 15 = .ok (.getfield 19, 3) := by decide +kernel
theorem dX5_begin_18 : decode cX5_begin 18 = .ok (.aload_n 0, 1) := by decide +kernel
theorem dX5_begin_19 : decode cX5_begin 19 = .ok (.getfield 28, 3) := by decide +kernel
theorem dX5_begin_22 : decode cX5_begin 22 = .ok (.iload_n 1, 1) := by decide +kernel
theorem dX5_begin_23 : decode cX5_begin 23 = .ok (.iastore, 1) := by decide +kernel
theorem dX5_begin_24 : decode cX5_begin 24 = .ok (.aload_n 0, 1) := by decide +kernel
theorem dX5_begin_25 : decode cX5_begin 25 = .ok (.getfield 22, 3) := by decide +kernel
theorem dX5_begin_28 : decode cX5_begin 28 = .ok (.aload_n 0, 1) := by decide +kernel
theorem dX5_begin_29 : decode cX5_begin 29 = .ok (.getfield 28, 3) := by decide +kernel
theorem dX5_begin_32 : decode cX5_begin 32 = .ok (.iconst 0, 1) := by decide +kernel
theorem dX5_begin_33 : decode cX5_begin 33 = .ok (.iastore, 1) := by decide +kernel
theorem dX5_begin_34 : decode cX5_begin 34 = .ok (.aload_n 0, 1) := by decide +kernel
theorem dX5_begin_35 : decode cX5_begin 35 = .ok (.getfield 25, 3) := by decide +kernel
theorem dX5_begin_38 : decode cX5_begin 38 = .ok (.aload_n 0, 1) := by decide +kernel
theorem dX5_begin_39 : decode cX5_begin 39 = .ok (.getfield 28, 3) := by decide +kernel
theorem dX5_begin_42 : decode cX5_begin 42 = .ok (.bipush (-5), 2) := by decide +kernel
theorem dX5_begin_44 : decode cX5_begin 44 = .ok (.iastore, 1) := by decide +kernel
theorem dX5_begin_45 : decode cX5_begin 45 = .ok (.aload_n 0, 1) := by decide +kernel
theorem dX5_begin_46 : decode cX5_begin 46 = .ok (.getfield 37, 3) := by decide +kernel
theorem dX5_begin_49 : decode cX5_begin 49 = .ok (.ifCond .le 38, 3) := by decide +kernel
theorem dX5_begin_52 : decode cX5_begin 52 = .ok (.aload_n 0, 1) := by decide +kernel
theorem dX5_begin_53 : decode cX5_begin 53 = .ok (.getfield 25, 3) := by decide +kernel
theorem dX5_begin_56 : decode cX5_begin 56 = .ok (.aload_n 0, 1) := by decide +kernel
theorem dX5_begin_57 : decode cX5_begin 57 = .ok (.getfield 28, 3) := by decide +kernel
theorem dX5_begin_60 : decode cX5_begin 60 = .ok (.aload_n 0, 1) := by decide +kernel
theorem dX5_begin_61 : decode cX5_begin 61 = .ok (.getfield 31, 3) := by decide +kernel
theorem dX5_begin_64 : decode cX5_begin 64 = .ok (.aload_n 0, 1) := by decide +kernel
theorem dX5_begin_65 : decode cX5_begin 65 = .ok (.getfield 37, 3) := by decide +kernel
theorem dX5_begin_68 : decode cX5_begin 68 = .ok (.iconst 1, 1) := by decide +kernel
theorem dX5_begin_69 : decode cX5_begin 69 = .ok (.isub, 1) := by decide +kernel
theorem dX5_begin_70 : decode cX5_begin 70 = .ok (.iaload, 1) := by decide +kernel
theorem dX5_begin_71 : decode cX5_begin 71 = .ok (.iastore, 1) := by decide +kernel
theorem dX5_begin_72 : decode cX5_begin 72 = .ok (.aload_n 0, 1) := by decide +kernel
theorem dX5_begin_73 : decode cX5_begin 73 = .ok (.getfield 34, 3) := by decide +kernel
theorem dX5_begin_76 : decode cX5_begin 76 = .ok (.aload_n 0, 1) := by decide +kernel
theorem dX5_begin_77 : decode cX5_begin 77 = .ok (.getfield 37, 3) := by decide +kernel
theorem dX5_begin_80 : decode cX5_begin 80 = .ok (.iconst 1, 1) := by decide +kernel
theorem dX5_begin_81 : decode cX5_begin 81 = .ok (.isub, 1) := by decide +kernel
theorem dX5_begin_82 : decode cX5_begin 82 = .ok (.dup2, 1) := by decide +kernel
theorem dX5_begin_83 : decode cX5_begin 83 = .ok (.iaload, 1) := by decide +kernel
theorem dX5_begin_84 : decode cX5_begin 84 = .ok (.iconst 1, 1) := by decide +kernel
theorem dX5_begin_85 : decode cX5_begin 85 = .ok (.iadd, 1) := by decide +kernel
theorem dX5_begin_86 : decode cX5_begin 86 = .ok (.iastore, 1) := by decide +kernel
theorem dX5_begin_87 : decode cX5_begin 87 = .ok (.aload_n 0, 1) := by decide +kernel
theorem dX5_begin_88 : decode cX5_begin 88 = .ok (.dup, 1) := by decide +kernel
theorem dX5_begin_89 : decode cX5_begin 89 = .ok (.getfield 28, 3) := by decide +kernel
theorem dX5_begin_92 : decode cX5_begin 92 = .ok (.iconst 1, 1) := by decide +kernel
theorem dX5_begin_93 : decode cX5_begin 93 = .ok (.iadd, 1) := by decide +kernel
theorem dX5_begin_94 : decode cX5_begin 94 = .ok (.putfield 28, 3) := by decide +kernel
theorem dX5_begin_97 : decode cX5_begin 97 = .ok (.aload_n 0, 1) := by decide +kernel
theorem dX5_begin_98 : decode cX5_begin 98 = .ok (.iconst 1, 1) := by decide +kernel
theorem dX5_begin_99 : decode cX5_begin 99 = .ok (.putfield 40, 3) := by decide +kernel
theorem dX5_begin_102 : decode cX5_begin 102 = .ok (.iconst 1, 1) := by decide +kernel
theorem dX5_begin_103 : decode cX5_begin 103 = .ok (.ireturn, 1) := by decide +kernel
theorem dX5_marks_0 : decode cX5_marks 0 = .ok (.aload_n 0, 1) := by decide +kernel
theorem dX5_marks_1 : decode cX5_marks 1 = .ok (.getfield 40, 3) := by decide +kernel
theorem dX5_marks_4 : decode cX5_marks 4 = .ok (.iconst 1, 1) := by decide +kernel
theorem dX5_marks_5 : decode cX5_marks 5 = .ok (.if_icmp .ne 10, 3) := by decide +kernel
theorem dX5_marks_8 : decode cX5_marks 8 = .ok (.aload_n 0, 1) := by decide +kernel
theorem dX5_marks_9 : decode cX5_marks 9 = .ok (.getfield 28, 3) := by decide +kernel
theorem dX5_marks_12 : decode cX5_marks 12 = .ok (.ifCond .ne 5, 3) := by decide +kernel
theorem dX5_marks_15 : decode cX5_marks 15 = .ok (.iconst 0, 1) := by decide +kernel
theorem dX5_marks_16 : decode cX5_marks 16 = .ok (.ireturn, 1) := by decide +kernel
theorem dX5_marks_17 : decode cX5_marks 17 = .ok (.aload_n 0, 1) := by decide +kernel
theorem dX5_marks_18 : decode cX5_marks 18 = .ok (.getfield 22, 3) := by decide +kernel
theorem dX5_marks_21 : decode cX5_marks 21 = .ok (.aload_n 0, 1) := by decide +kernel
theorem dX5_marks_22 : decode cX5_marks 22 = .ok (.getfield 28, 3) := by decide +kernel
theorem dX5_marks_25 : decode cX5_marks 25 = .ok (.iconst 1, 1) := by decide +kernel
theorem dX5_marks_26 : decode cX5_marks 26 = .ok (.isub, 1) := by decide +kernel
theorem dX5_marks_27 : decode cX5_marks 27 = .ok (.iload_n 1, 1) := by decide +kernel
theorem dX5_marks_28 : decode cX5_marks 28 = .ok (.iastore, 1) := by decide +kernel
theorem dX5_marks_29 : decode cX5_marks 29 = .ok (.aload_n 0, 1) := by decide +kernel
theorem dX5_marks_30 : decode cX5_marks 30 = .ok (.iconst 2, 1) := by decide +kernel
theorem dX5_marks_31 : decode cX5_marks 31 = .ok (.putfield 40, 3) := by decide +kernel
theorem dX5_marks_34 : decode cX5_marks 34 = .ok (.iconst 1, 1) := by decide +kernel
theorem dX5_marks_35 : decode cX5_marks 35 = .ok (.ireturn, 1) := by decide +kernel
theorem dX5_opens_0 : decode cX5_opens 0 = .ok (.aload_n 0, 1) := by decide +kernel
theorem dX5_opens_1 : decode cX5_opens 1 = .ok (.getfield 40, 3) := by decide +kernel
theorem dX5_opens_4 : decode cX5_opens 4 = .ok (.iconst 3, 1) := by decide +kernel
theorem dX5_opens_5 : decode cX5_opens 5 = .ok (.if_icmp .eq 11, 3) := by decide +kernel
theorem dX5_opens_8 : decode cX5_opens 8 = .ok (.aload_n 0, 1) := by decide +kernel
theorem dX5_opens_9 : decode cX5_opens 9 = .ok (.getfield 37, 3) := by decide +kernel
theorem dX5_opens_12 : decode cX5_opens 12 = .ok (.iconst 4, 1) := by decide +kernel
theorem dX5_opens_13 : decode cX5_opens 13 = .ok (.if_icmp .lt 5, 3) := by decide +kernel
theorem dX5_opens_16 : decode cX5_opens 16 = .ok (.iconst 0, 1) := by decide +kernel
theorem dX5_opens_17 : decode cX5_opens 17 = .ok (.ireturn, 1) := by decide +kernel
theorem dX5_opens_18 : decode cX5_opens 18 = .ok (.aload_n 0, 1) := by decide +kernel
theorem dX5_opens_19 : decode cX5_opens 19 = .ok (.getfield 31, 3) := by decide +kernel
theorem dX5_opens_22 : decode cX5_opens 22 = .ok (.aload_n 0, 1) := by decide +kernel
theorem dX5_opens_23 : decode cX5_opens 23 = .ok (.getfield 37, 3) := by decide +kernel
theorem dX5_opens_26 : decode cX5_opens 26 = .ok (.aload_n 0, 1) := by decide +kernel
theorem dX5_opens_27 : decode cX5_opens 27 = .ok (.getfield 28, 3) := by decide +kernel
theorem dX5_opens_30 : decode cX5_opens 30 = .ok (.iconst 1, 1) := by decide +kernel
theorem dX5_opens_31 : decode cX5_opens 31 = .ok (.isub, 1) := by decide +kernel
theorem dX5_opens_32 : decode cX5_opens 32 = .ok (.iastore, 1) := by decide +kernel
theorem dX5_opens_33 : decode cX5_opens 33 = .ok (.aload_n 0, 1) := by decide +kernel
theorem dX5_opens_34 : decode cX5_opens 34 = .ok (.getfield 34, 3) := by decide +kernel
theorem dX5_opens_37 : decode cX5_opens 37 = .ok (.aload_n 0, 1) := by decide +kernel
theorem dX5_opens_38 : decode cX5_opens 38 = .ok (.getfield 37, 3) := by decide +kernel
theorem dX5_opens_41 : decode cX5_opens 41 = .ok (.iconst 0, 1) := by decide +kernel
theorem dX5_opens_42 : decode cX5_opens 42 = .ok (.iastore, 1) := by decide +kernel
theorem dX5_opens_43 : decode cX5_opens 43 = .ok (.aload_n 0, 1) := by decide +kernel
theorem dX5_opens_44 : decode cX5_opens 44 = .ok (.dup, 1) := by decide +kernel
theorem dX5_opens_45 : decode cX5_opens 45 = .ok (.getfield 37, 3) := by decide +kernel
theorem dX5_opens_48 : decode cX5_opens 48 = .ok (.iconst 1, 1) := by decide +kernel
theorem dX5_opens_49 : decode cX5_opens 49 = .ok (.iadd, 1) := by decide +kernel
theorem dX5_opens_50 : decode cX5_opens 50 = .ok (.putfield 37, 3) := by decide +kernel
theorem dX5_opens_53 : decode cX5_opens 53 = .ok (.aload_n 0, 1) := by decide +kernel
theorem dX5_opens_54 : decode cX5_opens 54 = .ok (.iconst 0, 1) := by decide +kernel
theorem dX5_opens_55 : decode cX5_opens 55 = .ok (.putfield 40, 3) := by decide +kernel
theorem dX5_opens_58 : decode cX5_opens 58 = .ok (.iconst 1, 1) := by decide +kernel
theorem dX5_opens_59 : decode cX5_opens 59 = .ok (.ireturn, 1) := by decide +kernel
theorem dX5_separates_0 : decode cX5_separates 0 = .ok (.aload_n 0, 1) := by decide +kernel
theorem dX5_separates_1 : decode cX5_separates 1 = .ok (.getfield 37, 3) := by decide +kernel
theorem dX5_separates_4 : decode cX5_separates 4 = .ok (.ifCond .eq 19, 3) := by decide +kernel
theorem dX5_separates_7 : decode cX5_separates 7 = .ok (.aload_n 0, 1) := by decide +kernel
theorem dX5_separates_8 : decode cX5_separates 8 = .ok (.getfield 34, 3) := by decide +kernel
theorem dX5_separates_11 : decode cX5_separates 11 = .ok (.aload_n 0, 1) := by decide +kernel
theorem dX5_separates_12 : decode cX5_separates 12 = .ok (.getfield 37, 3) := by decide +kernel
theorem dX5_separates_15 : decode cX5_separates 15 = .ok (.iconst 1, 1) := by decide +kernel
theorem dX5_separates_16 : decode cX5_separates 16 = .ok (.isub, 1) := by decide +kernel
theorem dX5_separates_17 : decode cX5_separates 17 = .ok (.iaload, 1) := by decide +kernel
theorem dX5_separates_18 : decode cX5_separates 18 = .ok (.bipush 6, 2) := by decide +kernel
theorem dX5_separates_20 : decode cX5_separates 20 = .ok (.if_icmp .lt 5, 3) := by decide +kernel
theorem dX5_separates_23 : decode cX5_separates 23 = .ok (.iconst 0, 1) := by decide +kernel
theorem dX5_separates_24 : decode cX5_separates 24 = .ok (.ireturn, 1) := by decide +kernel
theorem dX5_separates_25 : decode cX5_separates 25 = .ok (.aload_n 0, 1) := by decide +kernel
theorem dX5_separates_26 : decode cX5_separates 26 = .ok (.iconst 0, 1) := by decide +kernel
theorem dX5_separates_27 : decode cX5_separates 27 = .ok (.putfield 40, 3) := by decide +kernel
theorem dX5_separates_30 : decode cX5_separates 30 = .ok (.iconst 1, 1) := by decide +kernel
theorem dX5_separates_31 : decode cX5_separates 31 = .ok (.ireturn, 1) := by decide +kernel
theorem dX5_closes_0 : decode cX5_closes 0 = .ok (.aload_n 0, 1) := by decide +kernel
theorem dX5_closes_1 : decode cX5_closes 1 = .ok (.getfield 37, 3) := by decide +kernel
theorem dX5_closes_4 : decode cX5_closes 4 = .ok (.ifCond .ne 5, 3) := by decide +kernel
theorem dX5_closes_7 : decode cX5_closes 7 = .ok (.iconst 0, 1) := by decide +kernel
theorem dX5_closes_8 : decode cX5_closes 8 = .ok (.ireturn, 1) := by decide +kernel
theorem dX5_closes_9 : decode cX5_closes 9 = .ok (.aload_n 0, 1) := by decide +kernel
theorem dX5_closes_10 : decode cX5_closes 10 = .ok (.dup, 1) := by decide +kernel
theorem dX5_closes_11 : decode cX5_closes 11 = .ok (.getfield 37, 3) := by decide +kernel
theorem dX5_closes_14 : decode cX5_closes 14 = .ok (.iconst 1, 1) := by decide +kernel
theorem dX5_closes_15 : decode cX5_closes 15 = .ok (.isub, 1) := by decide +kernel
theorem dX5_closes_16 : decode cX5_closes 16 = .ok (.putfield 37, 3) := by decide +kernel
theorem dX5_closes_19 : decode cX5_closes 19 = .ok (.aload_n 0, 1) := by decide +kernel
theorem dX5_closes_20 : decode cX5_closes 20 = .ok (.iconst 3, 1) := by decide +kernel
theorem dX5_closes_21 : decode cX5_closes 21 = .ok (.putfield 40, 3) := by decide +kernel
theorem dX5_closes_24 : decode cX5_closes 24 = .ok (.iconst 1, 1) := by decide +kernel
theorem dX5_closes_25 : decode cX5_closes 25 = .ok (.ireturn, 1) := by decide +kernel
theorem dX6_init_0 : decode cX6_init 0 = .ok (.aload_n 0, 1) := by decide +kernel
theorem dX6_init_1 : decode cX6_init 1 = .ok (.invokespecial 3, 3) := by decide +kernel
theorem dX6_init_4 : decode cX6_init 4 = .ok (.aload_n 0, 1) := by decide +kernel
theorem dX6_init_5 : decode cX6_init 5 = .ok (.iconst 4, 1) := by decide +kernel
theorem dX6_init_6 : decode cX6_init 6 = .ok (.anewarray 9, 3) := by decide +kernel
theorem dX6_init_9 : decode cX6_init 9 = .ok (.putfield 11, 3) := by decide +kernel
theorem dX6_init_12 : decode cX6_init 12 = .ok (.iconst 0, 1) := by decide +kernel
theorem dX6_init_13 : decode cX6_init 13 = .ok (.istore_n 1, 1) := by decide +kernel
theorem dX6_init_14 : decode cX6_init 14 = .ok (.iload_n 1, 1) := by decide +kernel
theorem dX6_init_15 : decode cX6_init 15 = .ok (.aload_n 0, 1) := by decide +kernel
theorem dX6_init_16 : decode cX6_init 16 = .ok (.getfield 11, 3) := by decide +kernel
theorem dX6_init_19 : decode cX6_init 19 = .ok (.arraylength, 1) := by decide +kernel
theorem dX6_init_20 : decode cX6_init 20 = .ok (.if_icmp .ge 22, 3) := by decide +kernel
theorem dX6_init_23 : decode cX6_init 23 = .ok (.aload_n 0, 1) := by decide +kernel
theorem dX6_init_24 : decode cX6_init 24 = .ok (.getfield 11, 3) := by decide +kernel
theorem dX6_init_27 : decode cX6_init 27 = .ok (.iload_n 1, 1) := by decide +kernel
theorem dX6_init_28 : decode cX6_init 28 = .ok (.new 9, 3) := by decide +kernel
theorem dX6_init_31 : decode cX6_init 31 = .ok (.dup, 1) := by decide +kernel
theorem dX6_init_32 : decode cX6_init 32 = .ok (.invokespecial 17, 3) := by decide +kernel
theorem dX6_init_35 : decode cX6_init 35 = .ok (.aastore, 1) := by decide +kernel
theorem dX6_init_36 : decode cX6_init 36 = .ok (.iinc 1 1, 3) := by decide +kernel
theorem dX6_init_39 : decode cX6_init 39 = .ok (.goto (-25), 3) := by decide +kernel
theorem dX6_init_42 : decode cX6_init 42 = .ok (.aload_n 0, 1) := by decide +kernel
theorem dX6_init_43 : decode cX6_init 43 = .ok (.new 18, 3) := by decide +kernel
theorem dX6_init_46 : decode cX6_init 46 = .ok (.dup, 1) := by decide +kernel
theorem dX6_init_47 : decode cX6_init 47 = .ok (.invokespecial 20, 3) := by decide +kernel
theorem dX6_init_50 : decode cX6_init 50 = .ok (.putfield 21, 3) := by decide +kernel
theorem dX6_init_53 : decode cX6_init 53 = .ok (.aload_n 0, 1) := by decide +kernel
theorem dX6_init_54 : decode cX6_init 54 = .ok (.new 25, 3) := by decide +kernel
theorem dX6_init_57 : decode cX6_init 57 = .ok (.dup, 1) := by decide +kernel
theorem dX6_init_58 : decode cX6_init 58 = .ok (.invokespecial 27, 3) := by decide +kernel
theorem dX6_init_61 : decode cX6_init 61 = .ok (.putfield 28, 3) := by decide +kernel
theorem dX6_init_64 : decode cX6_init 64 = .ok (.aload_n 0, 1) := by decide +kernel
theorem dX6_init_65 : decode cX6_init 65 = .ok (.new 32, 3) := by decide +kernel
theorem dX6_init_68 : decode cX6_init 68 = .ok (.dup, 1) := by decide +kernel
theorem dX6_init_69 : decode cX6_init 69 = .ok (.iconst 5, 1) := by decide +kernel
theorem dX6_init_70 : decode cX6_init 70 = .ok (.invokespecial 34, 3) := by decide +kernel
theorem dX6_init_73 : decode cX6_init 73 = .ok (.putfield 37, 3) := by decide +kernel
theorem dX6_init_76 : decode cX6_init 76 = .ok (.aload_n 0, 1) := by decide +kernel
theorem dX6_init_77 : decode cX6_init 77 = .ok (.new 32, 3) := by decide +kernel
theorem dX6_init_80 : decode cX6_init 80 = .ok (.dup, 1) := by decide +kernel
theorem dX6_init_81 : decode cX6_init 81 = .ok (.bipush 10, 2) := by decide +kernel
theorem dX6_init_83 : decode cX6_init 83 = .ok (.invokespecial 34, 3) := by decide +kernel
theorem dX6_init_86 : decode cX6_init 86 = .ok (.putfield 41, 3) := by decide +kernel
theorem dX6_init_89 : decode cX6_init 89 = .ok (.aload_n 0, 1) := by decide +kernel
theorem dX6_init_90 : decode cX6_init 90 = .ok (.new 32, 3) := by decide +kernel
theorem dX6_init_93 : decode cX6_init 93 = .ok (.dup, 1) := by decide +kernel
theorem dX6_init_94 : decode cX6_init 94 = .ok (.bipush 8, 2) := by decide +kernel
theorem dX6_init_96 : decode cX6_init 96 = .ok (.invokespecial 34, 3) := by decide +kernel
theorem dX6_init_99 : decode cX6_init 99 = .ok (.putfield 44, 3) := by decide +kernel
theorem dX6_init_102 : decode cX6_init 102 = .ok (.aload_n 0, 1) := by decide +kernel
theorem dX6_init_103 : decode cX6_init 103 = .ok (.iconst 2, 1) := by decide +kernel
theorem dX6_init_104 : decode cX6_init 104 = .ok (.putfield 47, 3) := by decide +kernel
theorem dX6_init_107 : decode cX6_init 107 = .ok (.aload_n 0, 1) := by decide +kernel
theorem dX6_init_108 : decode cX6_init 108 = .ok (.iconst 1, 1) := by decide +kernel
theorem dX6_init_109 : decode cX6_init 109 = .ok (.putfield 51, 3) := by decide +kernel
theorem dX6_init_112 : decode cX6_init 112 = .ok (.aload_n 0, 1) := by decide +kernel
theorem dX6_init_113 : decode cX6_init 113 = .ok (.iconst 0, 1) := by decide +kernel
theorem dX6_init_114 : decode cX6_init 114 = .ok (.putfield 54, 3) := by decide +kernel
theorem dX6_init_117 : decode cX6_init 117 = .ok (.return_, 1) := by decide +kernel
theorem dX6_become_0 : decode cX6_become 0 = .ok (.iconst 0, 1) := by decide +kernel
theorem dX6_become_1 : decode cX6_become 1 = .ok (.istore_n 2, 1) := by decide +kernel
theorem dX6_become_2 : decode cX6_become 2 = .ok (.iload_n 2, 1) := by decide +kernel
theorem dX6_become_3 : decode cX6_become 3 = .ok (.aload_n 0, 1) := by decide +kernel
theorem dX6_become_4 : decode cX6_become 4 = .ok (.getfield 11, 3) := by decide +kernel
theorem dX6_become_7 : decode cX6_become 7 = .ok (.arraylength, 1) := by decide +kernel
theorem dX6_become_8 : decode cX6_become 8 = .ok (.if_icmp .ge 24, 3) := by decide +kernel
theorem dX6_become_11 : decode cX6_become 11 = .ok (.aload_n 0, 1) := by decide +kernel
theorem dX6_become_12 : decode cX6_become 12 = .ok (.getfield 11, 3) := by decide +kernel
theorem dX6_become_15 : decode cX6_become 15 = .ok (.iload_n 2, 1) := by decide +kernel
theorem dX6_become_16 : decode cX6_become 16 = .ok (.aaload, 1) := by decide +kernel
theorem dX6_become_17 : decode cX6_become 17 = .ok (.aload_n 1, 1) := by decide +kernel
theorem dX6_become_18 : decode cX6_become 18 = .ok (.getfield 11, 3) := by decide +kernel
theorem dX6_become_21 : decode cX6_become 21 = .ok (.iload_n 2, 1) := by decide +kernel
theorem dX6_become_22 : decode cX6_become 22 = .ok (.aaload, 1) := by decide +kernel
theorem dX6_become_23 : decode cX6_become 23 = .ok (.invokevirtual 57, 3) := by decide +kernel
theorem dX6_become_26 : decode cX6_become 26 = .ok (.iinc 2 1, 3) := by decide +kernel
theorem dX6_become_29 : decode cX6_become 29 = .ok (.goto (-27), 3) := by decide +kernel
theorem dX6_become_32 : decode cX6_become 32 = .ok (.aload_n 0, 1) := by decide +kernel
theorem dX6_become_33 : decode cX6_become 33 = .ok (.getfield 21, 3) := by decide +kernel
theorem dX6_become_36 : decode cX6_become 36 = .ok (.aload_n 1, 1) := by decide +kernel
theorem dX6_become_37 : decode cX6_become 37 = .ok (.getfield 21, 3) := by decide +kernel
theorem dX6_become_40 : decode cX6_become 40 = .ok (.invokevirtual 61, 3) := by decide +kernel
theorem dX6_become_43 : decode cX6_become 43 = .ok (.aload_n 0, 1) := by decide +kernel
theorem dX6_become_44 : decode cX6_become 44 = .ok (.getfield 28, 3) := by decide +kernel
theorem dX6_become_47 : decode cX6_become 47 = .ok (.aload_n 1, 1) := by decide +kernel
theorem dX6_become_48 : decode cX6_become 48 = .ok (.getfield 28, 3) := by decide +kernel
theorem dX6_become_51 : decode cX6_become 51 = .ok (.invokevirtual 64, 3) := by decide +kernel
theorem dX6_become_54 : decode cX6_become 54 = .ok (.aload_n 0, 1) := by decide +kernel
theorem dX6_become_55 : decode cX6_become 55 = .ok (.getfield 37, 3) := by decide +kernel
theorem dX6_become_58 : decode cX6_become 58 = .ok (.aload_n 1, 1) := by decide +kernel
theorem dX6_become_59 : decode cX6_become 59 = .ok (.getfield 37, 3) := by decide +kernel
theorem dX6_become_62 : decode cX6_become 62 = .ok (.invokevirtual 67, 3) := by decide +kernel
theorem dX6_become_65 : decode cX6_become 65 = .ok (.aload_n 0, 1) := by decide +kernel
theorem dX6_become_66 : decode cX6_become 66 = .ok (.getfield 41, 3) := by decide +kernel
theorem dX6_become_69 : decode cX6_become 69 = .ok (.aload_n 1, 1) := by decide +kernel
theorem dX6_become_70 : decode cX6_become 70 = .ok (.getfield 41, 3) := by decide +kernel
theorem dX6_become_73 : decode cX6_become 73 = .ok (.invokevirtual 67, 3) := by decide +kernel
theorem dX6_become_76 : decode cX6_become 76 = .ok (.aload_n 0, 1) := by decide +kernel
theorem dX6_become_77 : decode cX6_become 77 = .ok (.getfield 44, 3) := by decide +kernel
theorem dX6_become_80 : decode cX6_become 80 = .ok (.aload_n 1, 1) := by decide +kernel
theorem dX6_become_81 : decode cX6_become 81 = .ok (.getfield 44, 3) := by decide +kernel
theorem dX6_become_84 : decode cX6_become 84 = .ok (.invokevirtual 67, 3) := by decide +kernel
theorem dX6_become_87 : decode cX6_become 87 = .ok (.aload_n 0, 1) := by decide +kernel
theorem dX6_become_88 : decode cX6_become 88 = .ok (.aload_n 1, 1) := by decide +kernel
theorem dX6_become_89 : decode cX6_become 89 = .ok (.getfield 47, 3) := by decide +kernel
theorem dX6_become_92 : decode cX6_become 92 = .ok (.putfield 47, 3) := by decide +kernel
theorem dX6_become_95 : decode cX6_become 95 = .ok (.aload_n 0, 1) := by decide +kernel
theorem dX6_become_96 : decode cX6_become 96 = .ok (.aload_n 1, 1) := by decide +kernel
theorem dX6_become_97 : decode cX6_become 97 = .ok (.getfield 51, 3) := by decide +kernel
theorem dX6_become_100 : decode cX6_become 100 = .ok (.putfield 51, 3) := by decide +kernel
theorem dX6_become_103 : decode cX6_become 103 = .ok (.aload_n 0, 1) := by decide +kernel
theorem dX6_become_104 : decode cX6_become 104 = .ok (.aload_n 1, 1) := by decide +kernel
theorem dX6_become_105 : decode cX6_become 105 = .ok (.getfield 54, 3) := by decide +kernel
theorem dX6_become_108 : decode cX6_become 108 = .ok (.putfield 54, 3) := by decide +kernel
theorem dX6_become_111 : decode cX6_become 111 = .ok (.return_, 1) := by decide +kernel
theorem dX6_changeArms_0 : decode cX6_changeArms 0 = .ok (.iload_n 1, 1) := by decide +kernel
theorem dX6_changeArms_1 : decode cX6_changeArms 1 = .ok (.istore_n 2, 1) := by decide +kernel
theorem dX6_changeArms_2 : decode cX6_changeArms 2 = .ok (.iload_n 2, 1) := by decide +kernel
theorem dX6_changeArms_3 : decode cX6_changeArms 3 = .ok (.aload_n 0, 1) := by decide +kernel
theorem dX6_changeArms_4 : decode cX6_changeArms 4 = .ok (.getfield 47, 3) := by decide +kernel
theorem dX6_changeArms_7 : decode cX6_changeArms 7 = .ok (.if_icmp .ge 94, 3) := by decide +kernel
theorem dX6_changeArms_10 : decode cX6_changeArms 10 = .ok (.aload_n 0, 1) := by decide +kernel
theorem dX6_changeArms_11 : decode cX6_changeArms 11 = .ok (.getfield 11, 3) := by decide +kernel
theorem dX6_changeArms_14 : decode cX6_changeArms 14 = .ok (.iload_n 2, 1) := by decide +kernel
theorem dX6_changeArms_15 : decode cX6_changeArms 15 = .ok (.aaload, 1) := by decide +kernel
theorem dX6_changeArms_16 : decode cX6_changeArms 16 = .ok (.astore_n 3, 1) := by decide +kernel
theorem dX6_changeArms_17 : decode cX6_changeArms 17 = .ok (.aload_n 0, 1) := by decide +kernel
theorem dX6_changeArms_18 : decode cX6_changeArms 18 = .ok (.getfield 21, 3) := by decide +kernel
theorem dX6_changeArms_21 : decode cX6_changeArms 21 = .ok (.aload_n 3, 1) := by decide +kernel
theorem dX6_changeArms_22 : decode cX6_changeArms 22 = .ok (.getfield 70, 3) := by decide +kernel
theorem dX6_changeArms_25 : decode cX6_changeArms 25 = .ok (.invokevirtual 73, 3) := by decide +kernel
theorem dX6_changeArms_28 : decode cX6_changeArms 28 = .ok (.ifCond .eq 29, 3) := by decide +kernel
theorem dX6_changeArms_31 : decode cX6_changeArms 31 = .ok (.aload_n 0, 1) := by decide +kernel
theorem dX6_changeArms_32 : decode cX6_changeArms 32 = .ok (.getfield 21, 3) := by decide +kernel
theorem dX6_changeArms_35 : decode cX6_changeArms 35 = .ok (.getfield 77, 3) := by decide +kernel
theorem dX6_changeArms_38 : decode cX6_changeArms 38 = .ok (.aload_n 3, 1) := by decide +kernel
theorem dX6_changeArms_39 : decode cX6_changeArms 39 = .ok (.getfield 70, 3) := by decide +kernel
theorem dX6_changeArms_42 : decode cX6_changeArms 42 = .ok (.iconst 0, 1) := by decide +kernel
theorem dX6_changeArms_43 : decode cX6_changeArms 43 = .ok (.iastore, 1) := by decide +kernel
theorem dX6_changeArms_44 : decode cX6_changeArms 44 = .ok (.aload_n 0, 1) := by decide +kernel
theorem dX6_changeArms_45 : decode cX6_changeArms 45 = .ok (.getfield 11, 3) := by decide +kernel
theorem dX6_changeArms_48 : decode cX6_changeArms 48 = .ok (.iconst 0, 1) := by decide +kernel
theorem dX6_changeArms_49 : decode cX6_changeArms 49 = .ok (.aaload, 1) := by decide +kernel
theorem dX6_changeArms_50 : decode cX6_changeArms 50 = .ok (.aload_n 3, 1) := by decide +kernel
theorem dX6_changeArms_51 : decode cX6_changeArms 51 = .ok (.getfield 70, 3) := by decide +kernel
theorem dX6_changeArms_54 : decode cX6_changeArms 54 = .ok (.invokevirtual 81, 3) := by decide +kernel
theorem dX6_changeArms_57 : decode cX6_changeArms 57 = .ok (.iconst 0, 1) := by decide +kernel
theorem dX6_changeArms_58 : decode cX6_changeArms 58 = .ok (.istore 4, 2) := by decide +kernel
theorem dX6_changeArms_60 : decode cX6_changeArms 60 = .ok (.iload 4, 2) := by decide +kernel
theorem dX6_changeArms_62 : decode cX6_changeArms 62 = .ok (.aload_n 3, 1) := by decide +kernel
theorem dX6_changeArms_63 : decode cX6_changeArms 63 = .ok (.getfield 84, 3) := by decide +kernel
theorem dX6_changeArms_66 : decode cX6_changeArms 66 = .ok (.if_icmp .ge 25, 3) := by decide +kernel
theorem dX6_changeArms_69 : decode cX6_changeArms 69 = .ok (.aload_n 0, 1) := by decide +kernel
theorem dX6_changeArms_70 : decode cX6_changeArms 70 = .ok (.getfield 11, 3) := by decide +kernel
theorem dX6_changeArms_73 : decode cX6_changeArms 73 = .ok (.iconst 0, 1) := by decide +kernel
theorem dX6_changeArms_74 : decode cX6_changeArms 74 = .ok (.aaload, 1) := by decide +kernel
theorem dX6_changeArms_75 : decode cX6_changeArms 75 = .ok (.aload_n 3, 1) := by decide +kernel
theorem dX6_changeArms_76 : decode cX6_changeArms 76 = .ok (.getfield 87, 3) := by decide +kernel
theorem dX6_changeArms_79 : decode cX6_changeArms 79 = .ok (.iload 4, 2) := by decide +kernel
theorem dX6_changeArms_81 : decode cX6_changeArms 81 = .ok (.iaload, 1) := by decide +kernel
theorem dX6_changeArms_82 : decode cX6_changeArms 82 = .ok (.invokevirtual 81, 3) := by decide +kernel
theorem dX6_changeArms_85 : decode cX6_changeArms 85 = .ok (.iinc 4 1, 3) := by decide +kernel
theorem dX6_changeArms_88 : decode cX6_changeArms 88 = .ok (.goto (-28), 3) := by decide +kernel
theorem dX6_changeArms_91 : decode cX6_changeArms 91 = .ok (.aload_n 3, 1) := by decide +kernel
theorem dX6_changeArms_92 : decode cX6_changeArms 92 = .ok (.invokevirtual 90, 3) := by decide +kernel
theorem dX6_changeArms_95 : decode cX6_changeArms 95 = .ok (.iinc 2 1, 3) := by decide +kernel
theorem dX6_changeArms_98 : decode cX6_changeArms 98 = .ok (.goto (-96), 3) := by decide +kernel
theorem dX6_changeArms_101 : decode cX6_changeArms 101 = .ok (.aload_n 0, 1) := by decide +kernel
theorem dX6_changeArms_102 : decode cX6_changeArms 102 = .ok (.iload_n 1, 1) := by decide +kernel
theorem dX6_changeArms_103 : decode cX6_changeArms 103 = .ok (.putfield 47, 3) := by decide +kernel
theorem dX6_changeArms_106 : decode cX6_changeArms 106 = .ok (.return_, 1) := by decide +kernel
theorem dX6_isOver_0 : decode cX6_isOver 0 = .ok (.iconst 0, 1) := by decide +kernel
theorem dX6_isOver_1 : decode cX6_isOver 1 = .ok (.istore_n 1, 1) := by decide +kernel
theorem dX6_isOver_2 : decode cX6_isOver 2 = .ok (.iload_n 1, 1) := by decide +kernel
theorem dX6_isOver_3 : decode cX6_isOver 3 = .ok (.aload_n 0, 1) := by decide +kernel
theorem dX6_isOver_4 : decode cX6_isOver 4 = .ok (.getfield 47, 3) := by decide +kernel
theorem dX6_isOver_7 : decode cX6_isOver 7 = .ok (.if_icmp .ge 37, 3) := by decide +kernel
theorem dX6_isOver_10 : decode cX6_isOver 10 = .ok (.aload_n 0, 1) := by decide +kernel
theorem dX6_isOver_11 : decode cX6_isOver 11 = .ok (.getfield 11, 3) := by decide +kernel
theorem dX6_isOver_14 : decode cX6_isOver 14 = .ok (.iload_n 1, 1) := by decide +kernel
theorem dX6_isOver_15 : decode cX6_isOver 15 = .ok (.aaload, 1) := by decide +kernel
theorem dX6_isOver_16 : decode cX6_isOver 16 = .ok (.getfield 84, 3) := by decide +kernel
theorem dX6_isOver_19 : decode cX6_isOver 19 = .ok (.ifCond .gt 17, 3) := by decide +kernel
theorem dX6_isOver_22 : decode cX6_isOver 22 = .ok (.aload_n 0, 1) := by decide +kernel
theorem dX6_isOver_23 : decode cX6_isOver 23 = .ok (.getfield 11, 3) := by decide +kernel
theorem dX6_isOver_26 : decode cX6_isOver 26 = .ok (.iload_n 1, 1) := by decide +kernel
theorem dX6_isOver_27 : decode cX6_isOver 27 = .ok (.aaload, 1) := by decide +kernel
theorem dX6_isOver_28 : decode cX6_isOver 28 = .ok (.getfield 70, 3) := by decide +kernel
theorem dX6_isOver_31 : decode cX6_isOver 31 = .ok (.bipush (-5), 2) := by decide +kernel
theorem dX6_isOver_33 : decode cX6_isOver 33 = .ok (.if_icmp .eq 5, 3) := by decide +kernel
theorem dX6_isOver_36 : decode cX6_isOver 36 = .ok (.iconst 0, 1) := by decide +kernel
theorem dX6_isOver_37 : decode cX6_isOver 37 = .ok (.ireturn, 1) := by decide +kernel
theorem dX6_isOver_38 : decode cX6_isOver 38 = .ok (.iinc 1 1, 3) := by decide +kernel
theorem dX6_isOver_41 : decode cX6_isOver 41 = .ok (.goto (-39), 3) := by decide +kernel
theorem dX6_isOver_44 : decode cX6_isOver 44 = .ok (.iconst 0, 1) := by decide +kernel
theorem dX6_isOver_45 : decode cX6_isOver 45 = .ok (.istore_n 1, 1) := by decide +kernel
theorem dX6_isOver_46 : decode cX6_isOver 46 = .ok (.iload_n 1, 1) := by decide +kernel
theorem dX6_isOver_47 : decode cX6_isOver 47 = .ok (.aload_n 0, 1) := by decide +kernel
theorem dX6_isOver_48 : decode cX6_isOver 48 = .ok (.getfield 21, 3) := by decide +kernel
theorem dX6_isOver_51 : decode cX6_isOver 51 = .ok (.getfield 93, 3) := by decide +kernel
theorem dX6_isOver_54 : decode cX6_isOver 54 = .ok (.if_icmp .ge 24, 3) := by decide +kernel
theorem dX6_isOver_57 : decode cX6_isOver 57 = .ok (.aload_n 0, 1) := by decide +kernel
theorem dX6_isOver_58 : decode cX6_isOver 58 = .ok (.getfield 21, 3) := by decide +kernel
theorem dX6_isOver_61 : decode cX6_isOver 61 = .ok (.getfield 77, 3) := by decide +kernel
theorem dX6_isOver_64 : decode cX6_isOver 64 = .ok (.iload_n 1, 1) := by decide +kernel
theorem dX6_isOver_65 : decode cX6_isOver 65 = .ok (.iaload, 1) := by decide +kernel
theorem dX6_isOver_66 : decode cX6_isOver 66 = .ok (.iconst 2, 1) := by decide +kernel
theorem dX6_isOver_67 : decode cX6_isOver 67 = .ok (.if_icmp .ne 5, 3) := by decide +kernel
theorem dX6_isOver_70 : decode cX6_isOver 70 = .ok (.iconst 0, 1) := by decide +kernel
theorem dX6_isOver_71 : decode cX6_isOver 71 = .ok (.ireturn, 1) := by decide +kernel
theorem dX6_isOver_72 : decode cX6_isOver 72 = .ok (.iinc 1 1, 3) := by decide +kernel
theorem dX6_isOver_75 : decode cX6_isOver 75 = .ok (.goto (-29), 3) := by decide +kernel
theorem dX6_isOver_78 : decode cX6_isOver 78 = .ok (.iconst 1, 1) := by decide +kernel
theorem dX6_isOver_79 : decode cX6_isOver 79 = .ok (.ireturn, 1) := by decide +kernel
theorem dX6_goRounds_0 : decode cX6_goRounds 0 = .ok (.iconst 0, 1) := by decide +kernel
theorem dX6_goRounds_1 : decode cX6_goRounds 1 = .ok (.istore_n 2, 1) := by decide +kernel
theorem dX6_goRounds_2 : decode cX6_goRounds 2 = .ok (.iload_n 2, 1) := by decide +kernel
theorem dX6_goRounds_3 : decode cX6_goRounds 3 = .ok (.iload_n 1, 1) := by decide +kernel
theorem dX6_goRounds_4 : decode cX6_goRounds 4 = .ok (.if_icmp .ge 13, 3) := by decide +kernel
theorem dX6_goRounds_7 : decode cX6_goRounds 7 = .ok (.aload_n 0, 1) := by decide +kernel
theorem dX6_goRounds_8 : decode cX6_goRounds 8 = .ok (.invokevirtual 96, 3) := by decide +kernel
theorem dX6_goRounds_11 : decode cX6_goRounds 11 = .ok (.iinc 2 1, 3) := by decide +kernel
theorem dX6_goRounds_14 : decode cX6_goRounds 14 = .ok (.goto (-12), 3) := by decide +kernel
theorem dX6_goRounds_17 : decode cX6_goRounds 17 = .ok (.return_, 1) := by decide +kernel
theorem dX6_goRoundsTillOver_0 : decode cX6_goRoundsTillOver 0 = .ok (.iconst 0, 1) := by decide +kernel
theorem dX6_goRoundsTillOver_1 : decode cX6_goRoundsTillOver 1 = .ok (.istore_n 2, 1) := by decide +kernel
theorem dX6_goRoundsTillOver_2 : decode cX6_goRoundsTillOver 2 = .ok (.iload_n 2, 1) := by decide +kernel
theorem dX6_goRoundsTillOver_3 : decode cX6_goRoundsTillOver 3 = .ok (.iload_n 1, 1) := by decide +kernel
theorem dX6_goRoundsTillOver_4 : decode cX6_goRoundsTillOver 4 = .ok (.if_icmp .ge 20, 3) := by decide +kernel
theorem dX6_goRoundsTillOver_7 : decode cX6_goRoundsTillOver 7 = .ok (.aload_n 0, 1) := by decide +kernel
theorem dX6_goRoundsTillOver_8 : decode cX6_goRoundsTillOver 8 = .ok (.invokevirtual 99, 3) := by decide +kernel
theorem dX6_goRoundsTillOver_11 : decode cX6_goRoundsTillOver 11 = .ok (.ifCond .ne 13, 3) := by decide +kernel
theorem dX6_goRoundsTillOver_14 : decode cX6_goRoundsTillOver 14 = .ok (.aload_n 0, 1) := by decide +kernel
theorem dX6_goRoundsTillOver_15 : decode cX6_goRoundsTillOver 15 = .ok (.invokevirtual 96, 3) := by decide +kernel
theorem dX6_goRoundsTillOver_18 : decode cX6_goRoundsTillOver 18 = .ok (.iinc 2 1, 3) := by decide +kernel
theorem dX6_goRoundsTillOver_21 : decode cX6_goRoundsTillOver 21 = .ok (.goto (-19), 3) := by decide +kernel
theorem dX6_goRoundsTillOver_24 : decode cX6_goRoundsTillOver 24 = .ok (.return_, 1) := by decide +kernel
theorem dX6_goAsPlanned_0 : decode cX6_goAsPlanned 0 = .ok (.iload_n 1, 1) := by decide +kernel
theorem dX6_goAsPlanned_1 : decode cX6_goAsPlanned 1 = .ok (.ifCond .ne 10, 3) := by decide +kernel
theorem dX6_goAsPlanned_4 : decode cX6_goAsPlanned 4 = .ok (.aload_n 0, 1) := by decide +kernel
theorem dX6_goAsPlanned_5 : decode cX6_goAsPlanned 5 = .ok (.invokevirtual 96, 3) := by decide +kernel
theorem dX6_goAsPlanned_8 : decode cX6_goAsPlanned 8 = .ok (.goto 44, 3) := by decide +kernel
theorem dX6_goAsPlanned_11 : decode cX6_goAsPlanned 11 = .ok (.iload_n 1, 1) := by decide +kernel
theorem dX6_goAsPlanned_12 : decode cX6_goAsPlanned 12 = .ok (.iconst 2, 1) := by decide +kernel
theorem dX6_goAsPlanned_13 : decode cX6_goAsPlanned 13 = .ok (.if_icmp .ne 11, 3) := by decide +kernel
theorem dX6_goAsPlanned_16 : decode cX6_goAsPlanned 16 = .ok (.aload_n 0, 1) := by decide +kernel
theorem dX6_goAsPlanned_17 : decode cX6_goAsPlanned 17 = .ok (.iload_n 2, 1) := by decide +kernel
theorem dX6_goAsPlanned_18 : decode cX6_goAsPlanned 18 = .ok (.putfield 51, 3) := by decide +kernel
theorem dX6_goAsPlanned_21 : decode cX6_goAsPlanned 21 = .ok (.goto 31, 3) := by decide +kernel
theorem dX6_goAsPlanned_24 : decode cX6_goAsPlanned 24 = .ok (.aload_n 0, 1) := by decide +kernel
theorem dX6_goAsPlanned_25 : decode cX6_goAsPlanned 25 = .ok (.getfield 21, 3) := by decide +kernel
theorem dX6_goAsPlanned_28 : decode cX6_goAsPlanned 28 = .ok (.iload_n 2, 1) := by decide +kernel
theorem dX6_goAsPlanned_29 : decode cX6_goAsPlanned 29 = .ok (.invokevirtual 73, 3) := by decide +kernel
theorem dX6_goAsPlanned_32 : decode cX6_goAsPlanned 32 = .ok (.ifCond .eq 20, 3) := by decide +kernel
theorem dX6_goAsPlanned_35 : decode cX6_goAsPlanned 35 = .ok (.aload_n 0, 1) := by decide +kernel
theorem dX6_goAsPlanned_36 : decode cX6_goAsPlanned 36 = .ok (.getfield 21, 3) := by decide +kernel
theorem dX6_goAsPlanned_39 : decode cX6_goAsPlanned 39 = .ok (.iload_n 2, 1) := by decide +kernel
theorem dX6_goAsPlanned_40 : decode cX6_goAsPlanned 40 = .ok (.invokevirtual 103, 3) := by decide +kernel
theorem dX6_goAsPlanned_43 : decode cX6_goAsPlanned 43 = .ok (.ifCond .ne 9, 3) := by decide +kernel
theorem dX6_goAsPlanned_46 : decode cX6_goAsPlanned 46 = .ok (.aload_n 0, 1) := by decide +kernel
theorem dX6_goAsPlanned_47 : decode cX6_goAsPlanned 47 = .ok (.iload_n 2, 1) := by decide +kernel
theorem dX6_goAsPlanned_48 : decode cX6_goAsPlanned 48 = .ok (.invokevirtual 106, 3) := by decide +kernel
theorem dX6_goAsPlanned_51 : decode cX6_goAsPlanned 51 = .ok (.pop, 1) := by decide +kernel
theorem dX6_goAsPlanned_52 : decode cX6_goAsPlanned 52 = .ok (.return_, 1) := by decide +kernel
theorem dX6_goRound_0 : decode cX6_goRound 0 = .ok (.iconst 0, 1) := by decide +kernel
theorem dX6_goRound_1 : decode cX6_goRound 1 = .ok (.istore_n 1, 1) := by decide +kernel
theorem dX6_goRound_2 : decode cX6_goRound 2 = .ok (.iload_n 1, 1) := by decide +kernel
theorem dX6_goRound_3 : decode cX6_goRound 3 = .ok (.aload_n 0, 1) := by decide +kernel
theorem dX6_goRound_4 : decode cX6_goRound 4 = .ok (.getfield 47, 3) := by decide +kernel
theorem dX6_goRound_7 : decode cX6_goRound 7 = .ok (.if_icmp .ge 74, 3) := by decide +kernel
theorem dX6_goRound_10 : decode cX6_goRound 10 = .ok (.aload_n 0, 1) := by decide +kernel
theorem dX6_goRound_11 : decode cX6_goRound 11 = .ok (.getfield 11, 3) := by decide +kernel
theorem dX6_goRound_14 : decode cX6_goRound 14 = .ok (.iload_n 1, 1) := by decide +kernel
theorem dX6_goRound_15 : decode cX6_goRound 15 = .ok (.aaload, 1) := by decide +kernel
theorem dX6_goRound_16 : decode cX6_goRound 16 = .ok (.getfield 70, 3) := by decide +kernel
theorem dX6_goRound_19 : decode cX6_goRound 19 = .ok (.istore_n 2, 1) := by decide +kernel
theorem dX6_goRound_20 : decode cX6_goRound 20 = .ok (.aload_n 0, 1) := by decide +kernel
theorem dX6_goRound_21 : decode cX6_goRound 21 = .ok (.getfield 21, 3) := by decide +kernel
theorem dX6_goRound_24 : decode cX6_goRound 24 = .ok (.iload_n 2, 1) := by decide +kernel
theorem dX6_goRound_25 : decode cX6_goRound 25 = .ok (.invokevirtual 73, 3) := by decide +kernel
theorem dX6_goRound_28 : decode cX6_goRound 28 = .ok (.ifCond .ne 11, 3) := by decide +kernel
theorem dX6_goRound_31 : decode cX6_goRound 31 = .ok (.aload_n 0, 1) := by decide +kernel
theorem dX6_goRound_32 : decode cX6_goRound 32 = .ok (.iload_n 1, 1) := by decide +kernel
theorem dX6_goRound_33 : decode cX6_goRound 33 = .ok (.invokevirtual 110, 3) := by decide +kernel
theorem dX6_goRound_36 : decode cX6_goRound 36 = .ok (.goto 39, 3) := by decide +kernel
theorem dX6_goRound_39 : decode cX6_goRound 39 = .ok (.aload_n 0, 1) := by decide +kernel
theorem dX6_goRound_40 : decode cX6_goRound 40 = .ok (.getfield 21, 3) := by decide +kernel
theorem dX6_goRound_43 : decode cX6_goRound 43 = .ok (.iload_n 2, 1) := by decide +kernel
theorem dX6_goRound_44 : decode cX6_goRound 44 = .ok (.invokevirtual 113, 3) := by decide +kernel
theorem dX6_goRound_47 : decode cX6_goRound 47 = .ok (.ifCond .ne 28, 3) := by decide +kernel
theorem dX6_goRound_50 : decode cX6_goRound 50 = .ok (.aload_n 0, 1) := by decide +kernel
theorem dX6_goRound_51 : decode cX6_goRound 51 = .ok (.getfield 11, 3) := by decide +kernel
theorem dX6_goRound_54 : decode cX6_goRound 54 = .ok (.iload_n 1, 1) := by decide +kernel
theorem dX6_goRound_55 : decode cX6_goRound 55 = .ok (.aaload, 1) := by decide +kernel
theorem dX6_goRound_56 : decode cX6_goRound 56 = .ok (.bipush (-5), 2) := by decide +kernel
theorem dX6_goRound_58 : decode cX6_goRound 58 = .ok (.putfield 70, 3) := by decide +kernel
theorem dX6_goRound_61 : decode cX6_goRound 61 = .ok (.aload_n 0, 1) := by decide +kernel
theorem dX6_goRound_62 : decode cX6_goRound 62 = .ok (.iload_n 2, 1) := by decide +kernel
theorem dX6_goRound_63 : decode cX6_goRound 63 = .ok (.iload_n 1, 1) := by decide +kernel
theorem dX6_goRound_64 : decode cX6_goRound 64 = .ok (.invokevirtual 116, 3) := by decide +kernel
theorem dX6_goRound_67 : decode cX6_goRound 67 = .ok (.ifCond .eq 8, 3) := by decide +kernel
theorem dX6_goRound_70 : decode cX6_goRound 70 = .ok (.aload_n 0, 1) := by decide +kernel
theorem dX6_goRound_71 : decode cX6_goRound 71 = .ok (.iload_n 2, 1) := by decide +kernel
theorem dX6_goRound_72 : decode cX6_goRound 72 = .ok (.invokevirtual 120, 3) := by decide +kernel
theorem dX6_goRound_75 : decode cX6_goRound 75 = .ok (.iinc 1 1, 3) := by decide +kernel
theorem dX6_goRound_78 : decode cX6_goRound 78 = .ok (.goto (-76), 3) := by decide +kernel
theorem dX6_goRound_81 : decode cX6_goRound 81 = .ok (.aload_n 0, 1) := by decide +kernel
theorem dX6_goRound_82 : decode cX6_goRound 82 = .ok (.dup, 1) := by decide +kernel
theorem dX6_goRound_83 : decode cX6_goRound 83 = .ok (.getfield 54, 3) := by decide +kernel
theorem dX6_goRound_86 : decode cX6_goRound 86 = .ok (.iconst 1, 1) := by decide +kernel
theorem dX6_goRound_87 : decode cX6_goRound 87 = .ok (.iadd, 1) := by decide +kernel
theorem dX6_goRound_88 : decode cX6_goRound 88 = .ok (.putfield 54, 3) := by decide +kernel
theorem dX6_goRound_91 : decode cX6_goRound 91 = .ok (.return_, 1) := by decide +kernel
theorem dX6_takeOne_0 : decode cX6_takeOne 0 = .ok (.aload_n 0, 1) := by decide +kernel
theorem dX6_takeOne_1 : decode cX6_takeOne 1 = .ok (.getfield 11, 3) := by decide +kernel
theorem dX6_takeOne_4 : decode cX6_takeOne 4 = .ok (.iload_n 1, 1) := by decide +kernel
theorem dX6_takeOne_5 : decode cX6_takeOne 5 = .ok (.aaload, 1) := by decide +kernel
theorem dX6_takeOne_6 : decode cX6_takeOne 6 = .ok (.astore_n 2, 1) := by decide +kernel
theorem dX6_takeOne_7 : decode cX6_takeOne 7 = .ok (.aload_n 2, 1) := by decide +kernel
theorem dX6_takeOne_8 : decode cX6_takeOne 8 = .ok (.invokevirtual 123, 3) := by decide +kernel
theorem dX6_takeOne_11 : decode cX6_takeOne 11 = .ok (.istore_n 3, 1) := by decide +kernel
theorem dX6_takeOne_12 : decode cX6_takeOne 12 = .ok (.iconst 0, 1) := by decide +kernel
theorem dX6_takeOne_13 : decode cX6_takeOne 13 = .ok (.istore 4, 2) := by decide +kernel
theorem dX6_takeOne_15 : decode cX6_takeOne 15 = .ok (.iload_n 3, 1) := by decide +kernel
theorem dX6_takeOne_16 : decode cX6_takeOne 16 = .ok (.bipush (-5), 2) := by decide +kernel
theorem dX6_takeOne_18 : decode cX6_takeOne 18 = .ok (.if_icmp .ne 52, 3) := by decide +kernel
theorem dX6_takeOne_21 : decode cX6_takeOne 21 = .ok (.aload_n 0, 1) := by decide +kernel
theorem dX6_takeOne_22 : decode cX6_takeOne 22 = .ok (.iload_n 1, 1) := by decide +kernel
theorem dX6_takeOne_23 : decode cX6_takeOne 23 = .ok (.invokevirtual 127, 3) := by decide +kernel
theorem dX6_takeOne_26 : decode cX6_takeOne 26 = .ok (.istore 5, 2) := by decide +kernel
theorem dX6_takeOne_28 : decode cX6_takeOne 28 = .ok (.iload 5, 2) := by decide +kernel
theorem dX6_takeOne_30 : decode cX6_takeOne 30 = .ok (.bipush (-5), 2) := by decide +kernel
theorem dX6_takeOne_32 : decode cX6_takeOne 32 = .ok (.if_icmp .ne 14, 3) := by decide +kernel
theorem dX6_takeOne_35 : decode cX6_takeOne 35 = .ok (.aload_n 2, 1) := by decide +kernel
theorem dX6_takeOne_36 : decode cX6_takeOne 36 = .ok (.dup, 1) := by decide +kernel
theorem dX6_takeOne_37 : decode cX6_takeOne 37 = .ok (.getfield 130, 3) := by decide +kernel
theorem dX6_takeOne_40 : decode cX6_takeOne 40 = .ok (.iconst 1, 1) := by decide +kernel
theorem dX6_takeOne_41 : decode cX6_takeOne 41 = .ok (.iadd, 1) := by decide +kernel
theorem dX6_takeOne_42 : decode cX6_takeOne 42 = .ok (.putfield 130, 3) := by decide +kernel
theorem dX6_takeOne_45 : decode cX6_takeOne 45 = .ok (.return_, 1) := by decide +kernel
theorem dX6_takeOne_46 : decode cX6_takeOne 46 = .ok (.aload_n 0, 1) := by decide +kernel
theorem dX6_takeOne_47 : decode cX6_takeOne 47 = .ok (.getfield 11, 3) := by decide +kernel
theorem dX6_takeOne_50 : decode cX6_takeOne 50 = .ok (.iload 5, 2) := by decide +kernel
theorem dX6_takeOne_52 : decode cX6_takeOne 52 = .ok (.aaload, 1) := by decide +kernel
theorem dX6_takeOne_53 : decode cX6_takeOne 53 = .ok (.invokevirtual 133, 3) := by decide +kernel
theorem dX6_takeOne_56 : decode cX6_takeOne 56 = .ok (.istore_n 3, 1) := by decide +kernel
theorem dX6_takeOne_57 : decode cX6_takeOne 57 = .ok (.aload_n 2, 1) := by decide +kernel
theorem dX6_takeOne_58 : decode cX6_takeOne 58 = .ok (.dup, 1) := by decide +kernel
theorem dX6_takeOne_59 : decode cX6_takeOne 59 = .ok (.getfield 136, 3) := by decide +kernel
theorem dX6_takeOne_62 : decode cX6_takeOne 62 = .ok (.iconst 1, 1) := by decide +kernel
theorem dX6_takeOne_63 : decode cX6_takeOne 63 = .ok (.iadd, 1) := by decide +kernel
theorem dX6_takeOne_64 : decode cX6_takeOne 64 = .ok (.putfield 136, 3) := by decide +kernel
theorem dX6_takeOne_67 : decode cX6_takeOne 67 = .ok (.iconst 1, 1) := by decide +kernel
theorem dX6_takeOne_68 : decode cX6_takeOne 68 = .ok (.istore 4, 2) := by decide +kernel
theorem dX6_takeOne_70 : decode cX6_takeOne 70 = .ok (.aload_n 0, 1) := by decide +kernel
theorem dX6_takeOne_71 : decode cX6_takeOne 71 = .ok (.getfield 21, 3) := by decide +kernel
theorem dX6_takeOne_74 : decode cX6_takeOne 74 = .ok (.iload_n 3, 1) := by decide +kernel
theorem dX6_takeOne_75 : decode cX6_takeOne 75 = .ok (.invokevirtual 73, 3) := by decide +kernel
theorem dX6_takeOne_78 : decode cX6_takeOne 78 = .ok (.ifCond .eq 33, 3) := by decide +kernel
theorem dX6_takeOne_81 : decode cX6_takeOne 81 = .ok (.aload_n 2, 1) := by decide +kernel
theorem dX6_takeOne_82 : decode cX6_takeOne 82 = .ok (.iload_n 3, 1) := by decide +kernel
theorem dX6_takeOne_83 : decode cX6_takeOne 83 = .ok (.putfield 70, 3) := by decide +kernel
theorem dX6_takeOne_86 : decode cX6_takeOne 86 = .ok (.aload_n 0, 1) := by decide +kernel
theorem dX6_takeOne_87 : decode cX6_takeOne 87 = .ok (.getfield 21, 3) := by decide +kernel
theorem dX6_takeOne_90 : decode cX6_takeOne 90 = .ok (.getfield 77, 3) := by decide +kernel
theorem dX6_takeOne_93 : decode cX6_takeOne 93 = .ok (.iload_n 3, 1) := by decide +kernel
theorem dX6_takeOne_94 : decode cX6_takeOne 94 = .ok (.iconst 1, 1) := by decide +kernel
theorem dX6_takeOne_95 : decode cX6_takeOne 95 = .ok (.iastore, 1) := by decide +kernel
theorem dX6_takeOne_96 : decode cX6_takeOne 96 = .ok (.aload_n 0, 1) := by decide +kernel
theorem dX6_takeOne_97 : decode cX6_takeOne 97 = .ok (.getfield 28, 3) := by decide +kernel
theorem dX6_takeOne_100 : decode cX6_takeOne 100 = .ok (.aload_n 0, 1) := by decide +kernel
theorem dX6_takeOne_101 : decode cX6_takeOne 101 = .ok (.getfield 54, 3) := by decide +kernel
theorem dX6_takeOne_104 : decode cX6_takeOne 104 = .ok (.iload_n 1, 1) := by decide +kernel
theorem dX6_takeOne_105 : decode cX6_takeOne 105 = .ok (.iload 4, 2) := by decide +kernel
theorem dX6_takeOne_107 : decode cX6_takeOne 107 = .ok (.iload_n 3, 1) := by decide +kernel
theorem dX6_takeOne_108 : decode cX6_takeOne 108 = .ok (.invokevirtual 139, 3) := by decide +kernel
theorem dX6_takeOne_111 : decode cX6_takeOne 111 = .ok (.return_, 1) := by decide +kernel
theorem dX6_drawnArm_0 : decode cX6_drawnArm 0 = .ok (.iconst 0, 1) := by decide +kernel
theorem dX6_drawnArm_1 : decode cX6_drawnArm 1 = .ok (.istore_n 2, 1) := by decide +kernel
theorem dX6_drawnArm_2 : decode cX6_drawnArm 2 = .ok (.iconst 0, 1) := by decide +kernel
theorem dX6_drawnArm_3 : decode cX6_drawnArm 3 = .ok (.istore_n 3, 1) := by decide +kernel
theorem dX6_drawnArm_4 : decode cX6_drawnArm 4 = .ok (.iload_n 3, 1) := by decide +kernel
theorem dX6_drawnArm_5 : decode cX6_drawnArm 5 = .ok (.aload_n 0, 1) := by decide +kernel
theorem dX6_drawnArm_6 : decode cX6_drawnArm 6 = .ok (.getfield 47, 3) := by decide +kernel
theorem dX6_drawnArm_9 : decode cX6_drawnArm 9 = .ok (.if_icmp .ge 29, 3) := by decide +kernel
theorem dX6_drawnArm_12 : decode cX6_drawnArm 12 = .ok (.iload_n 3, 1) := by decide +kernel
theorem dX6_drawnArm_13 : decode cX6_drawnArm 13 = .ok (.iload_n 1, 1) := by decide +kernel
theorem dX6_drawnArm_14 : decode cX6_drawnArm 14 = .ok (.if_icmp .eq 18, 3) := by decide +kernel
theorem dX6_drawnArm_17 : decode cX6_drawnArm 17 = .ok (.aload_n 0, 1) := by decide +kernel
theorem dX6_drawnArm_18 : decode cX6_drawnArm 18 = .ok (.getfield 11, 3) := by decide +kernel
theorem dX6_drawnArm_21 : decode cX6_drawnArm 21 = .ok (.iload_n 3, 1) := by decide +kernel
theorem dX6_drawnArm_22 : decode cX6_drawnArm 22 = .ok (.aaload, 1) := by decide +kernel
theorem dX6_drawnArm_23 : decode cX6_drawnArm 23 = .ok (.getfield 84, 3) := by decide +kernel
theorem dX6_drawnArm_26 : decode cX6_drawnArm 26 = .ok (.ifCond .le 6, 3) := by decide +kernel
theorem dX6_drawnArm_29 : decode cX6_drawnArm 29 = .ok (.iinc 2 1, 3) := by decide +kernel
theorem dX6_drawnArm_32 : decode cX6_drawnArm 32 = .ok (.iinc 3 1, 3) := by decide +kernel
theorem dX6_drawnArm_35 : decode cX6_drawnArm 35 = .ok (.goto (-31), 3) := by decide +kernel
theorem dX6_drawnArm_38 : decode cX6_drawnArm 38 = .ok (.iload_n 2, 1) := by decide +kernel
theorem dX6_drawnArm_39 : decode cX6_drawnArm 39 = .ok (.ifCond .ne 6, 3) := by decide +kernel
theorem dX6_drawnArm_42 : decode cX6_drawnArm 42 = .ok (.bipush (-5), 2) := by decide +kernel
theorem dX6_drawnArm_44 : decode cX6_drawnArm 44 = .ok (.ireturn, 1) := by decide +kernel
theorem dX6_drawnArm_45 : decode cX6_drawnArm 45 = .ok (.aload_n 0, 1) := by decide +kernel
theorem dX6_drawnArm_46 : decode cX6_drawnArm 46 = .ok (.aload_n 0, 1) := by decide +kernel
theorem dX6_drawnArm_47 : decode cX6_drawnArm 47 = .ok (.getfield 51, 3) := by decide +kernel
theorem dX6_drawnArm_50 : decode cX6_drawnArm 50 = .ok (.ldc 143, 2) := by decide +kernel
theorem dX6_drawnArm_52 : decode cX6_drawnArm 52 = .ok (.imul, 1) := by decide +kernel
theorem dX6_drawnArm_53 : decode cX6_drawnArm 53 = .ok (.sipush 12345, 3) := by decide +kernel
theorem dX6_drawnArm_56 : decode cX6_drawnArm 56 = .ok (.iadd, 1) := by decide +kernel
theorem dX6_drawnArm_57 : decode cX6_drawnArm 57 = .ok (.putfield 51, 3) := by decide +kernel
theorem dX6_drawnArm_60 : decode cX6_drawnArm 60 = .ok (.aload_n 0, 1) := by decide +kernel
theorem dX6_drawnArm_61 : decode cX6_drawnArm 61 = .ok (.getfield 51, 3) := by decide +kernel
theorem dX6_drawnArm_64 : decode cX6_drawnArm 64 = .ok (.bipush 16, 2) := by decide +kernel
theorem dX6_drawnArm_66 : decode cX6_drawnArm 66 = .ok (.iushr, 1) := by decide +kernel
theorem dX6_drawnArm_67 : decode cX6_drawnArm 67 = .ok (.iload_n 2, 1) := by decide +kernel
theorem dX6_drawnArm_68 : decode cX6_drawnArm 68 = .ok (.irem, 1) := by decide +kernel
theorem dX6_drawnArm_69 : decode cX6_drawnArm 69 = .ok (.istore_n 3, 1) := by decide +kernel
theorem dX6_drawnArm_70 : decode cX6_drawnArm 70 = .ok (.iconst 0, 1) := by decide +kernel
theorem dX6_drawnArm_71 : decode cX6_drawnArm 71 = .ok (.istore 4, 2) := by decide +kernel
theorem dX6_drawnArm_73 : decode cX6_drawnArm 73 = .ok (.iload 4, 2) := by decide +kernel
theorem dX6_drawnArm_75 : decode cX6_drawnArm 75 = .ok (.aload_n 0, 1) := by decide +kernel
theorem dX6_drawnArm_76 : decode cX6_drawnArm 76 = .ok (.getfield 47, 3) := by decide +kernel
theorem dX6_drawnArm_79 : decode cX6_drawnArm 79 = .ok (.if_icmp .ge 38, 3) := by decide +kernel
theorem dX6_drawnArm_82 : decode cX6_drawnArm 82 = .ok (.iload 4, 2) := by decide +kernel
theorem dX6_drawnArm_84 : decode cX6_drawnArm 84 = .ok (.iload_n 1, 1) := by decide +kernel
theorem dX6_drawnArm_85 : decode cX6_drawnArm 85 = .ok (.if_icmp .eq 26, 3) := by decide +kernel
theorem dX6_drawnArm_88 : decode cX6_drawnArm 88 = .ok (.aload_n 0, 1) := by decide +kernel
theorem dX6_drawnArm_89 : decode cX6_drawnArm 89 = .ok (.getfield 11, 3) := by decide +kernel
theorem dX6_drawnArm_92 : decode cX6_drawnArm 92 = .ok (.iload 4, 2) := by decide +kernel
theorem dX6_drawnArm_94 : decode cX6_drawnArm 94 = .ok (.aaload, 1) := by decide +kernel
theorem dX6_drawnArm_95 : decode cX6_drawnArm 95 = .ok (.getfield 84, 3) := by decide +kernel
theorem dX6_drawnArm_98 : decode cX6_drawnArm 98 = .ok (.ifCond .le 13, 3) := by decide +kernel
theorem dX6_drawnArm_101 : decode cX6_drawnArm 101 = .ok (.iload_n 3, 1) := by decide +kernel
theorem dX6_drawnArm_102 : decode cX6_drawnArm 102 = .ok (.ifCond .ne 6, 3) := by decide +kernel
theorem dX6_drawnArm_105 : decode cX6_drawnArm 105 = .ok (.iload 4, 2) := by decide +kernel
theorem dX6_drawnArm_107 : decode cX6_drawnArm 107 = .ok (.ireturn, 1) := by decide +kernel
theorem dX6_drawnArm_108 : decode cX6_drawnArm 108 = .ok (.iinc 3 (-1), 3) := by decide +kernel
theorem dX6_drawnArm_111 : decode cX6_drawnArm 111 = .ok (.iinc 4 1, 3) := by decide +kernel
theorem dX6_drawnArm_114 : decode cX6_drawnArm 114 = .ok (.goto (-41), 3) := by decide +kernel
theorem dX6_drawnArm_117 : decode cX6_drawnArm 117 = .ok (.bipush (-5), 2) := by decide +kernel
theorem dX6_drawnArm_119 : decode cX6_drawnArm 119 = .ok (.ireturn, 1) := by decide +kernel
theorem dX6_endsByItself_0 : decode cX6_endsByItself 0 = .ok (.aload_n 0, 1) := by decide +kernel
theorem dX6_endsByItself_1 : decode cX6_endsByItself 1 = .ok (.getfield 21, 3) := by decide +kernel
theorem dX6_endsByItself_4 : decode cX6_endsByItself 4 = .ok (.getfield 144, 3) := by decide +kernel
theorem dX6_endsByItself_7 : decode cX6_endsByItself 7 = .ok (.iload_n 1, 1) := by decide +kernel
theorem dX6_endsByItself_8 : decode cX6_endsByItself 8 = .ok (.iaload, 1) := by decide +kernel
theorem dX6_endsByItself_9 : decode cX6_endsByItself 9 = .ok (.iconst 1, 1) := by decide +kernel
theorem dX6_endsByItself_10 : decode cX6_endsByItself 10 = .ok (.if_icmp .ne 29, 3) := by decide +kernel
theorem dX6_endsByItself_13 : decode cX6_endsByItself 13 = .ok (.aload_n 0, 1) := by decide +kernel
theorem dX6_endsByItself_14 : decode cX6_endsByItself 14 = .ok (.getfield 21, 3) := by decide +kernel
theorem dX6_endsByItself_17 : decode cX6_endsByItself 17 = .ok (.getfield 77, 3) := by decide +kernel
theorem dX6_endsByItself_20 : decode cX6_endsByItself 20 = .ok (.iload_n 1, 1) := by decide +kernel
theorem dX6_endsByItself_21 : decode cX6_endsByItself 21 = .ok (.iconst 4, 1) := by decide +kernel
theorem dX6_endsByItself_22 : decode cX6_endsByItself 22 = .ok (.iastore, 1) := by decide +kernel
theorem dX6_endsByItself_23 : decode cX6_endsByItself 23 = .ok (.aload_n 0, 1) := by decide +kernel
theorem dX6_endsByItself_24 : decode cX6_endsByItself 24 = .ok (.getfield 28, 3) := by decide +kernel
theorem dX6_endsByItself_27 : decode cX6_endsByItself 27 = .ok (.aload_n 0, 1) := by decide +kernel
theorem dX6_endsByItself_28 : decode cX6_endsByItself 28 = .ok (.getfield 54, 3) := by decide +kernel
theorem dX6_endsByItself_31 : decode cX6_endsByItself 31 = .ok (.iload_n 2, 1) := by decide +kernel
theorem dX6_endsByItself_32 : decode cX6_endsByItself 32 = .ok (.iconst 4, 1) := by decide +kernel
theorem dX6_endsByItself_33 : decode cX6_endsByItself 33 = .ok (.iload_n 1, 1) := by decide +kernel
theorem dX6_endsByItself_34 : decode cX6_endsByItself 34 = .ok (.invokevirtual 139, 3) := by decide +kernel
theorem dX6_endsByItself_37 : decode cX6_endsByItself 37 = .ok (.iconst 1, 1) := by decide +kernel
theorem dX6_endsByItself_38 : decode cX6_endsByItself 38 = .ok (.ireturn, 1) := by decide +kernel
theorem dX6_endsByItself_39 : decode cX6_endsByItself 39 = .ok (.aload_n 0, 1) := by decide +kernel
theorem dX6_endsByItself_40 : decode cX6_endsByItself 40 = .ok (.getfield 21, 3) := by decide +kernel
theorem dX6_endsByItself_43 : decode cX6_endsByItself 43 = .ok (.iload_n 1, 1) := by decide +kernel
theorem dX6_endsByItself_44 : decode cX6_endsByItself 44 = .ok (.invokevirtual 147, 3) := by decide +kernel
theorem dX6_endsByItself_47 : decode cX6_endsByItself 47 = .ok (.ifCond .eq 27, 3) := by decide +kernel
theorem dX6_endsByItself_50 : decode cX6_endsByItself 50 = .ok (.aload_n 0, 1) := by decide +kernel
theorem dX6_endsByItself_51 : decode cX6_endsByItself 51 = .ok (.getfield 21, 3) := by decide +kernel
theorem dX6_endsByItself_54 : decode cX6_endsByItself 54 = .ok (.iload_n 1, 1) := by decide +kernel
theorem dX6_endsByItself_55 : decode cX6_endsByItself 55 = .ok (.invokevirtual 150, 3) := by decide +kernel
theorem dX6_endsByItself_58 : decode cX6_endsByItself 58 = .ok (.aload_n 0, 1) := by decide +kernel
theorem dX6_endsByItself_59 : decode cX6_endsByItself 59 = .ok (.getfield 28, 3) := by decide +kernel
theorem dX6_endsByItself_62 : decode cX6_endsByItself 62 = .ok (.aload_n 0, 1) := by decide +kernel
theorem dX6_endsByItself_63 : decode cX6_endsByItself 63 = .ok (.getfield 54, 3) := by decide +kernel
theorem dX6_endsByItself_66 : decode cX6_endsByItself 66 = .ok (.iload_n 2, 1) := by decide +kernel
theorem dX6_endsByItself_67 : decode cX6_endsByItself 67 = .ok (.iconst 3, 1) := by decide +kernel
theorem dX6_endsByItself_68 : decode cX6_endsByItself 68 = .ok (.iload_n 1, 1) := by decide +kernel
theorem dX6_endsByItself_69 : decode cX6_endsByItself 69 = .ok (.invokevirtual 139, 3) := by decide +kernel
theorem dX6_endsByItself_72 : decode cX6_endsByItself 72 = .ok (.iconst 1, 1) := by decide +kernel
theorem dX6_endsByItself_73 : decode cX6_endsByItself 73 = .ok (.ireturn, 1) := by decide +kernel
theorem dX6_endsByItself_74 : decode cX6_endsByItself 74 = .ok (.aload_n 0, 1) := by decide +kernel
theorem dX6_endsByItself_75 : decode cX6_endsByItself 75 = .ok (.getfield 21, 3) := by decide +kernel
theorem dX6_endsByItself_78 : decode cX6_endsByItself 78 = .ok (.getfield 77, 3) := by decide +kernel
theorem dX6_endsByItself_81 : decode cX6_endsByItself 81 = .ok (.iload_n 1, 1) := by decide +kernel
theorem dX6_endsByItself_82 : decode cX6_endsByItself 82 = .ok (.iconst 2, 1) := by decide +kernel
theorem dX6_endsByItself_83 : decode cX6_endsByItself 83 = .ok (.iastore, 1) := by decide +kernel
theorem dX6_endsByItself_84 : decode cX6_endsByItself 84 = .ok (.iload_n 1, 1) := by decide +kernel
theorem dX6_endsByItself_85 : decode cX6_endsByItself 85 = .ok (.iconst 1, 1) := by decide +kernel
theorem dX6_endsByItself_86 : decode cX6_endsByItself 86 = .ok (.iadd, 1) := by decide +kernel
theorem dX6_endsByItself_87 : decode cX6_endsByItself 87 = .ok (.istore_n 3, 1) := by decide +kernel
theorem dX6_endsByItself_88 : decode cX6_endsByItself 88 = .ok (.iload_n 3, 1) := by decide +kernel
theorem dX6_endsByItself_89 : decode cX6_endsByItself 89 = .ok (.aload_n 0, 1) := by decide +kernel
theorem dX6_endsByItself_90 : decode cX6_endsByItself 90 = .ok (.getfield 21, 3) := by decide +kernel
theorem dX6_endsByItself_93 : decode cX6_endsByItself 93 = .ok (.getfield 93, 3) := by decide +kernel
theorem dX6_endsByItself_96 : decode cX6_endsByItself 96 = .ok (.if_icmp .ge 43, 3) := by decide +kernel
theorem dX6_endsByItself_99 : decode cX6_endsByItself 99 = .ok (.aload_n 0, 1) := by decide +kernel
theorem dX6_endsByItself_100 : decode cX6_endsByItself 100 = .ok (.getfield 21, 3) := by decide +kernel
theorem dX6_endsByItself_103 : decode cX6_endsByItself 103 = .ok (.getfield 153, 3) := by decide +kernel
theorem dX6_endsByItself_106 : decode cX6_endsByItself 106 = .ok (.iload_n 3, 1) := by decide +kernel
theorem dX6_endsByItself_107 : decode cX6_endsByItself 107 = .ok (.iaload, 1) := by decide +kernel
theorem dX6_endsByItself_108 : decode cX6_endsByItself 108 = .ok (.iload_n 1, 1) := by decide +kernel
theorem dX6_endsByItself_109 : decode cX6_endsByItself 109 = .ok (.if_icmp .ne 24, 3) := by decide +kernel
theorem dX6_endsByItself_112 : decode cX6_endsByItself 112 = .ok (.aload_n 0, 1) := by decide +kernel
theorem dX6_endsByItself_113 : decode cX6_endsByItself 113 = .ok (.getfield 21, 3) := by decide +kernel
theorem dX6_endsByItself_116 : decode cX6_endsByItself 116 = .ok (.iload_n 3, 1) := by decide +kernel
theorem dX6_endsByItself_117 : decode cX6_endsByItself 117 = .ok (.invokevirtual 103, 3) := by decide +kernel
theorem dX6_endsByItself_120 : decode cX6_endsByItself 120 = .ok (.ifCond .ne 13, 3) := by decide +kernel
theorem dX6_endsByItself_123 : decode cX6_endsByItself 123 = .ok (.aload_n 0, 1) := by decide +kernel
theorem dX6_endsByItself_124 : decode cX6_endsByItself 124 = .ok (.getfield 11, 3) := by decide +kernel
theorem dX6_endsByItself_127 : decode cX6_endsByItself 127 = .ok (.iload_n 2, 1) := by decide +kernel
theorem dX6_endsByItself_128 : decode cX6_endsByItself 128 = .ok (.aaload, 1) := by decide +kernel
theorem dX6_endsByItself_129 : decode cX6_endsByItself 129 = .ok (.iload_n 3, 1) := by decide +kernel
theorem dX6_endsByItself_130 : decode cX6_endsByItself 130 = .ok (.invokevirtual 81, 3) := by decide +kernel
theorem dX6_endsByItself_133 : decode cX6_endsByItself 133 = .ok (.iinc 3 1, 3) := by decide +kernel
theorem dX6_endsByItself_136 : decode cX6_endsByItself 136 = .ok (.goto (-48), 3) := by decide +kernel
theorem dX6_endsByItself_139 : decode cX6_endsByItself 139 = .ok (.iconst 0, 1) := by decide +kernel
theorem dX6_endsByItself_140 : decode cX6_endsByItself 140 = .ok (.ireturn, 1) := by decide +kernel
theorem dX6_tellUpward_0 : decode cX6_tellUpward 0 = .ok (.iload_n 1, 1) := by decide +kernel
theorem dX6_tellUpward_1 : decode cX6_tellUpward 1 = .ok (.istore_n 2, 1) := by decide +kernel
theorem dX6_tellUpward_2 : decode cX6_tellUpward 2 = .ok (.aload_n 0, 1) := by decide +kernel
theorem dX6_tellUpward_3 : decode cX6_tellUpward 3 = .ok (.getfield 21, 3) := by decide +kernel
theorem dX6_tellUpward_6 : decode cX6_tellUpward 6 = .ok (.getfield 153, 3) := by decide +kernel
theorem dX6_tellUpward_9 : decode cX6_tellUpward 9 = .ok (.iload_n 1, 1) := by decide +kernel
theorem dX6_tellUpward_10 : decode cX6_tellUpward 10 = .ok (.iaload, 1) := by decide +kernel
theorem dX6_tellUpward_11 : decode cX6_tellUpward 11 = .ok (.istore_n 3, 1) := by decide +kernel
theorem dX6_tellUpward_12 : decode cX6_tellUpward 12 = .ok (.iconst 0, 1) := by decide +kernel
theorem dX6_tellUpward_13 : decode cX6_tellUpward 13 = .ok (.istore 4, 2) := by decide +kernel
theorem dX6_tellUpward_15 : decode cX6_tellUpward 15 = .ok (.iload 4, 2) := by decide +kernel
theorem dX6_tellUpward_17 : decode cX6_tellUpward 17 = .ok (.iconst 4, 1) := by decide +kernel
theorem dX6_tellUpward_18 : decode cX6_tellUpward 18 = .ok (.if_icmp .ge 136, 3) := by decide +kernel
theorem dX6_tellUpward_21 : decode cX6_tellUpward 21 = .ok (.aload_n 0, 1) := by decide +kernel
theorem dX6_tellUpward_22 : decode cX6_tellUpward 22 = .ok (.getfield 21, 3) := by decide +kernel
theorem dX6_tellUpward_25 : decode cX6_tellUpward 25 = .ok (.iload_n 3, 1) := by decide +kernel
theorem dX6_tellUpward_26 : decode cX6_tellUpward 26 = .ok (.invokevirtual 156, 3) := by decide +kernel
theorem dX6_tellUpward_29 : decode cX6_tellUpward 29 = .ok (.ifCond .eq 125, 3) := by decide +kernel
theorem dX6_tellUpward_32 : decode cX6_tellUpward 32 = .ok (.aload_n 0, 1) := by decide +kernel
theorem dX6_tellUpward_33 : decode cX6_tellUpward 33 = .ok (.getfield 21, 3) := by decide +kernel
theorem dX6_tellUpward_36 : decode cX6_tellUpward 36 = .ok (.getfield 77, 3) := by decide +kernel
theorem dX6_tellUpward_39 : decode cX6_tellUpward 39 = .ok (.iload_n 2, 1) := by decide +kernel
theorem dX6_tellUpward_40 : decode cX6_tellUpward 40 = .ok (.iaload, 1) := by decide +kernel
theorem dX6_tellUpward_41 : decode cX6_tellUpward 41 = .ok (.iconst 4, 1) := by decide +kernel
theorem dX6_tellUpward_42 : decode cX6_tellUpward 42 = .ok (.if_icmp .ne 48, 3) := by decide +kernel
theorem dX6_tellUpward_45 : decode cX6_tellUpward 45 = .ok (.aload_n 0, 1) := by decide +kernel
theorem dX6_tellUpward_46 : decode cX6_tellUpward 46 = .ok (.getfield 21, 3) := by decide +kernel
theorem dX6_tellUpward_49 : decode cX6_tellUpward 49 = .ok (.getfield 144, 3) := by decide +kernel
theorem dX6_tellUpward_52 : decode cX6_tellUpward 52 = .ok (.iload_n 3, 1) := by decide +kernel
theorem dX6_tellUpward_53 : decode cX6_tellUpward 53 = .ok (.iaload, 1) := by decide +kernel
theorem dX6_tellUpward_54 : decode cX6_tellUpward 54 = .ok (.iconst 2, 1) := by decide +kernel
theorem dX6_tellUpward_55 : decode cX6_tellUpward 55 = .ok (.if_icmp .eq 35, 3) := by decide +kernel
theorem dX6_tellUpward_58 : decode cX6_tellUpward 58 = .ok (.aload_n 0, 1) := by decide +kernel
theorem dX6_tellUpward_59 : decode cX6_tellUpward 59 = .ok (.iload_n 3, 1) := by decide +kernel
theorem dX6_tellUpward_60 : decode cX6_tellUpward 60 = .ok (.iconst 1, 1) := by decide +kernel
theorem dX6_tellUpward_61 : decode cX6_tellUpward 61 = .ok (.iadd, 1) := by decide +kernel
theorem dX6_tellUpward_62 : decode cX6_tellUpward 62 = .ok (.iload_n 3, 1) := by decide +kernel
theorem dX6_tellUpward_63 : decode cX6_tellUpward 63 = .ok (.invokevirtual 159, 3) := by decide +kernel
theorem dX6_tellUpward_66 : decode cX6_tellUpward 66 = .ok (.pop, 1) := by decide +kernel
theorem dX6_tellUpward_67 : decode cX6_tellUpward 67 = .ok (.aload_n 0, 1) := by decide +kernel
theorem dX6_tellUpward_68 : decode cX6_tellUpward 68 = .ok (.getfield 21, 3) := by decide +kernel
theorem dX6_tellUpward_71 : decode cX6_tellUpward 71 = .ok (.getfield 77, 3) := by decide +kernel
theorem dX6_tellUpward_74 : decode cX6_tellUpward 74 = .ok (.iload_n 3, 1) := by decide +kernel
theorem dX6_tellUpward_75 : decode cX6_tellUpward 75 = .ok (.iconst 4, 1) := by decide +kernel
theorem dX6_tellUpward_76 : decode cX6_tellUpward 76 = .ok (.iastore, 1) := by decide +kernel
theorem dX6_tellUpward_77 : decode cX6_tellUpward 77 = .ok (.aload_n 0, 1) := by decide +kernel
theorem dX6_tellUpward_78 : decode cX6_tellUpward 78 = .ok (.getfield 21, 3) := by decide +kernel
theorem dX6_tellUpward_81 : decode cX6_tellUpward 81 = .ok (.getfield 163, 3) := by decide +kernel
theorem dX6_tellUpward_84 : decode cX6_tellUpward 84 = .ok (.iload_n 3, 1) := by decide +kernel
theorem dX6_tellUpward_85 : decode cX6_tellUpward 85 = .ok (.iload_n 2, 1) := by decide +kernel
theorem dX6_tellUpward_86 : decode cX6_tellUpward 86 = .ok (.iastore, 1) := by decide +kernel
theorem dX6_tellUpward_87 : decode cX6_tellUpward 87 = .ok (.goto 26, 3) := by decide +kernel
theorem dX6_tellUpward_90 : decode cX6_tellUpward 90 = .ok (.aload_n 0, 1) := by decide +kernel
theorem dX6_tellUpward_91 : decode cX6_tellUpward 91 = .ok (.getfield 21, 3) := by decide +kernel
theorem dX6_tellUpward_94 : decode cX6_tellUpward 94 = .ok (.iload_n 3, 1) := by decide +kernel
theorem dX6_tellUpward_95 : decode cX6_tellUpward 95 = .ok (.invokevirtual 147, 3) := by decide +kernel
theorem dX6_tellUpward_98 : decode cX6_tellUpward 98 = .ok (.ifCond .eq 14, 3) := by decide +kernel
theorem dX6_tellUpward_101 : decode cX6_tellUpward 101 = .ok (.aload_n 0, 1) := by decide +kernel
theorem dX6_tellUpward_102 : decode cX6_tellUpward 102 = .ok (.getfield 21, 3) := by decide +kernel
theorem dX6_tellUpward_105 : decode cX6_tellUpward 105 = .ok (.iload_n 3, 1) := by decide +kernel
theorem dX6_tellUpward_106 : decode cX6_tellUpward 106 = .ok (.invokevirtual 150, 3) := by decide +kernel
theorem dX6_tellUpward_109 : decode cX6_tellUpward 109 = .ok (.goto 4, 3) := by decide +kernel
theorem dX6_tellUpward_112 : decode cX6_tellUpward 112 = .ok (.return_, 1) := by decide +kernel
theorem dX6_tellUpward_113 : decode cX6_tellUpward 113 = .ok (.aload_n 0, 1) := by decide +kernel
theorem dX6_tellUpward_114 : decode cX6_tellUpward 114 = .ok (.getfield 28, 3) := by decide +kernel
theorem dX6_tellUpward_117 : decode cX6_tellUpward 117 = .ok (.aload_n 0, 1) := by decide +kernel
theorem dX6_tellUpward_118 : decode cX6_tellUpward 118 = .ok (.getfield 54, 3) := by decide +kernel
theorem dX6_tellUpward_121 : decode cX6_tellUpward 121 = .ok (.bipush (-5), 2) := by decide +kernel
theorem dX6_tellUpward_123 : decode cX6_tellUpward 123 = .ok (.aload_n 0, 1) := by decide +kernel
theorem dX6_tellUpward_124 : decode cX6_tellUpward 124 = .ok (.getfield 21, 3) := by decide +kernel
theorem dX6_tellUpward_127 : decode cX6_tellUpward 127 = .ok (.getfield 77, 3) := by decide +kernel
theorem dX6_tellUpward_130 : decode cX6_tellUpward 130 = .ok (.iload_n 3, 1) := by decide +kernel
theorem dX6_tellUpward_131 : decode cX6_tellUpward 131 = .ok (.iaload, 1) := by decide +kernel
theorem dX6_tellUpward_132 : decode cX6_tellUpward 132 = .ok (.iload_n 3, 1) := by decide +kernel
theorem dX6_tellUpward_133 : decode cX6_tellUpward 133 = .ok (.invokevirtual 139, 3) := by decide +kernel
theorem dX6_tellUpward_136 : decode cX6_tellUpward 136 = .ok (.iload_n 3, 1) := by decide +kernel
theorem dX6_tellUpward_137 : decode cX6_tellUpward 137 = .ok (.istore_n 2, 1) := by decide +kernel
theorem dX6_tellUpward_138 : decode cX6_tellUpward 138 = .ok (.aload_n 0, 1) := by decide +kernel
theorem dX6_tellUpward_139 : decode cX6_tellUpward 139 = .ok (.getfield 21, 3) := by decide +kernel
theorem dX6_tellUpward_142 : decode cX6_tellUpward 142 = .ok (.getfield 153, 3) := by decide +kernel
theorem dX6_tellUpward_145 : decode cX6_tellUpward 145 = .ok (.iload_n 3, 1) := by decide +kernel
theorem dX6_tellUpward_146 : decode cX6_tellUpward 146 = .ok (.iaload, 1) := by decide +kernel
theorem dX6_tellUpward_147 : decode cX6_tellUpward 147 = .ok (.istore_n 3, 1) := by decide +kernel
theorem dX6_tellUpward_148 : decode cX6_tellUpward 148 = .ok (.iinc 4 1, 3) := by decide +kernel
theorem dX6_tellUpward_151 : decode cX6_tellUpward 151 = .ok (.goto (-136), 3) := by decide +kernel
theorem dX6_tellUpward_154 : decode cX6_tellUpward 154 = .ok (.return_, 1) := by decide +kernel
theorem dX6_cancelByHand_0 : decode cX6_cancelByHand 0 = .ok (.aload_n 0, 1) := by decide +kernel
theorem dX6_cancelByHand_1 : decode cX6_cancelByHand 1 = .ok (.iload_n 1, 1) := by decide +kernel
theorem dX6_cancelByHand_2 : decode cX6_cancelByHand 2 = .ok (.iload_n 1, 1) := by decide +kernel
theorem dX6_cancelByHand_3 : decode cX6_cancelByHand 3 = .ok (.invokevirtual 159, 3) := by decide +kernel
theorem dX6_cancelByHand_6 : decode cX6_cancelByHand 6 = .ok (.istore_n 2, 1) := by decide +kernel
theorem dX6_cancelByHand_7 : decode cX6_cancelByHand 7 = .ok (.aload_n 0, 1) := by decide +kernel
theorem dX6_cancelByHand_8 : decode cX6_cancelByHand 8 = .ok (.iload_n 1, 1) := by decide +kernel
theorem dX6_cancelByHand_9 : decode cX6_cancelByHand 9 = .ok (.invokevirtual 120, 3) := by decide +kernel
theorem dX6_cancelByHand_12 : decode cX6_cancelByHand 12 = .ok (.iload_n 2, 1) := by decide +kernel
theorem dX6_cancelByHand_13 : decode cX6_cancelByHand 13 = .ok (.ireturn, 1) := by decide +kernel
theorem dX6_cancelFrom_0 : decode cX6_cancelFrom 0 = .ok (.iconst 0, 1) := by decide +kernel
theorem dX6_cancelFrom_1 : decode cX6_cancelFrom 1 = .ok (.istore_n 3, 1) := by decide +kernel
theorem dX6_cancelFrom_2 : decode cX6_cancelFrom 2 = .ok (.iload_n 1, 1) := by decide +kernel
theorem dX6_cancelFrom_3 : decode cX6_cancelFrom 3 = .ok (.istore 4, 2) := by decide +kernel
theorem dX6_cancelFrom_5 : decode cX6_cancelFrom 5 = .ok (.iload 4, 2) := by decide +kernel
theorem dX6_cancelFrom_7 : decode cX6_cancelFrom 7 = .ok (.aload_n 0, 1) := by decide +kernel
theorem dX6_cancelFrom_8 : decode cX6_cancelFrom 8 = .ok (.getfield 21, 3) := by decide +kernel
theorem dX6_cancelFrom_11 : decode cX6_cancelFrom 11 = .ok (.getfield 93, 3) := by decide +kernel
theorem dX6_cancelFrom_14 : decode cX6_cancelFrom 14 = .ok (.if_icmp .ge 102, 3) := by decide +kernel
theorem dX6_cancelFrom_17 : decode cX6_cancelFrom 17 = .ok (.aload_n 0, 1) := by decide +kernel
theorem dX6_cancelFrom_18 : decode cX6_cancelFrom 18 = .ok (.getfield 21, 3) := by decide +kernel
theorem dX6_cancelFrom_21 : decode cX6_cancelFrom 21 = .ok (.getfield 77, 3) := by decide +kernel
theorem dX6_cancelFrom_24 : decode cX6_cancelFrom 24 = .ok (.iload 4, 2) := by decide +kernel
theorem dX6_cancelFrom_26 : decode cX6_cancelFrom 26 = .ok (.iaload, 1) := by decide +kernel
theorem dX6_cancelFrom_27 : decode cX6_cancelFrom 27 = .ok (.iconst 3, 1) := by decide +kernel
theorem dX6_cancelFrom_28 : decode cX6_cancelFrom 28 = .ok (.if_icmp .ge 82, 3) := by decide +kernel
theorem dX6_cancelFrom_31 : decode cX6_cancelFrom 31 = .ok (.iload 4, 2) := by decide +kernel
theorem dX6_cancelFrom_33 : decode cX6_cancelFrom 33 = .ok (.iload_n 2, 1) := by decide +kernel
theorem dX6_cancelFrom_34 : decode cX6_cancelFrom 34 = .ok (.if_icmp .eq 16, 3) := by decide +kernel
theorem dX6_cancelFrom_37 : decode cX6_cancelFrom 37 = .ok (.aload_n 0, 1) := by decide +kernel
theorem dX6_cancelFrom_38 : decode cX6_cancelFrom 38 = .ok (.getfield 21, 3) := by decide +kernel
theorem dX6_cancelFrom_41 : decode cX6_cancelFrom 41 = .ok (.iload 4, 2) := by decide +kernel
theorem dX6_cancelFrom_43 : decode cX6_cancelFrom 43 = .ok (.iload_n 2, 1) := by decide +kernel
theorem dX6_cancelFrom_44 : decode cX6_cancelFrom 44 = .ok (.invokevirtual 166, 3) := by decide +kernel
theorem dX6_cancelFrom_47 : decode cX6_cancelFrom 47 = .ok (.ifCond .eq 63, 3) := by decide +kernel
theorem dX6_cancelFrom_50 : decode cX6_cancelFrom 50 = .ok (.iconst 0, 1) := by decide +kernel
theorem dX6_cancelFrom_51 : decode cX6_cancelFrom 51 = .ok (.istore 5, 2) := by decide +kernel
theorem dX6_cancelFrom_53 : decode cX6_cancelFrom 53 = .ok (.iload 5, 2) := by decide +kernel
theorem dX6_cancelFrom_55 : decode cX6_cancelFrom 55 = .ok (.aload_n 0, 1) := by decide +kernel
theorem dX6_cancelFrom_56 : decode cX6_cancelFrom 56 = .ok (.getfield 47, 3) := by decide +kernel
theorem dX6_cancelFrom_59 : decode cX6_cancelFrom 59 = .ok (.if_icmp .ge 21, 3) := by decide +kernel
theorem dX6_cancelFrom_62 : decode cX6_cancelFrom 62 = .ok (.aload_n 0, 1) := by decide +kernel
theorem dX6_cancelFrom_63 : decode cX6_cancelFrom 63 = .ok (.getfield 11, 3) := by decide +kernel
theorem dX6_cancelFrom_66 : decode cX6_cancelFrom 66 = .ok (.iload 5, 2) := by decide +kernel
theorem dX6_cancelFrom_68 : decode cX6_cancelFrom 68 = .ok (.aaload, 1) := by decide +kernel
theorem dX6_cancelFrom_69 : decode cX6_cancelFrom 69 = .ok (.iload 4, 2) := by decide +kernel
theorem dX6_cancelFrom_71 : decode cX6_cancelFrom 71 = .ok (.invokevirtual 169, 3) := by decide +kernel
theorem dX6_cancelFrom_74 : decode cX6_cancelFrom 74 = .ok (.iinc 5 1, 3) := by decide +kernel
theorem dX6_cancelFrom_77 : decode cX6_cancelFrom 77 = .ok (.goto (-24), 3) := by decide +kernel
theorem dX6_cancelFrom_80 : decode cX6_cancelFrom 80 = .ok (.aload_n 0, 1) := by decide +kernel
theorem dX6_cancelFrom_81 : decode cX6_cancelFrom 81 = .ok (.getfield 21, 3) := by decide +kernel
theorem dX6_cancelFrom_84 : decode cX6_cancelFrom 84 = .ok (.getfield 77, 3) := by decide +kernel
theorem dX6_cancelFrom_87 : decode cX6_cancelFrom 87 = .ok (.iload 4, 2) := by decide +kernel
theorem dX6_cancelFrom_89 : decode cX6_cancelFrom 89 = .ok (.iconst 5, 1) := by decide +kernel
theorem dX6_cancelFrom_90 : decode cX6_cancelFrom 90 = .ok (.iastore, 1) := by decide +kernel
theorem dX6_cancelFrom_91 : decode cX6_cancelFrom 91 = .ok (.aload_n 0, 1) := by decide +kernel
theorem dX6_cancelFrom_92 : decode cX6_cancelFrom 92 = .ok (.getfield 28, 3) := by decide +kernel
theorem dX6_cancelFrom_95 : decode cX6_cancelFrom 95 = .ok (.aload_n 0, 1) := by decide +kernel
theorem dX6_cancelFrom_96 : decode cX6_cancelFrom 96 = .ok (.getfield 54, 3) := by decide +kernel
theorem dX6_cancelFrom_99 : decode cX6_cancelFrom 99 = .ok (.bipush (-5), 2) := by decide +kernel
theorem dX6_cancelFrom_101 : decode cX6_cancelFrom 101 = .ok (.iconst 5, 1) := by decide +kernel
theorem dX6_cancelFrom_102 : decode cX6_cancelFrom 102 = .ok (.iload 4, 2) := by decide +kernel
theorem dX6_cancelFrom_104 : decode cX6_cancelFrom 104 = .ok (.invokevirtual 139, 3) := by decide +kernel
theorem dX6_cancelFrom_107 : decode cX6_cancelFrom 107 = .ok (.iinc 3 1, 3) := by decide +kernel
theorem dX6_cancelFrom_110 : decode cX6_cancelFrom 110 = .ok (.iinc 4 1, 3) := by decide +kernel
theorem dX6_cancelFrom_113 : decode cX6_cancelFrom 113 = .ok (.goto (-108), 3) := by decide +kernel
theorem dX6_cancelFrom_116 : decode cX6_cancelFrom 116 = .ok (.iload_n 3, 1) := by decide +kernel
theorem dX6_cancelFrom_117 : decode cX6_cancelFrom 117 = .ok (.ireturn, 1) := by decide +kernel
theorem dX6_armAtWorkOn_0 : decode cX6_armAtWorkOn 0 = .ok (.iconst 0, 1) := by decide +kernel
theorem dX6_armAtWorkOn_1 : decode cX6_armAtWorkOn 1 = .ok (.istore_n 2, 1) := by decide +kernel
theorem dX6_armAtWorkOn_2 : decode cX6_armAtWorkOn 2 = .ok (.iload_n 2, 1) := by decide +kernel
theorem dX6_armAtWorkOn_3 : decode cX6_armAtWorkOn 3 = .ok (.aload_n 0, 1) := by decide +kernel
theorem dX6_armAtWorkOn_4 : decode cX6_armAtWorkOn 4 = .ok (.getfield 47, 3) := by decide +kernel
theorem dX6_armAtWorkOn_7 : decode cX6_armAtWorkOn 7 = .ok (.if_icmp .ge 24, 3) := by decide +kernel
theorem dX6_armAtWorkOn_10 : decode cX6_armAtWorkOn 10 = .ok (.aload_n 0, 1) := by decide +kernel
theorem dX6_armAtWorkOn_11 : decode cX6_armAtWorkOn 11 = .ok (.getfield 11, 3) := by decide +kernel
theorem dX6_armAtWorkOn_14 : decode cX6_armAtWorkOn 14 = .ok (.iload_n 2, 1) := by decide +kernel
theorem dX6_armAtWorkOn_15 : decode cX6_armAtWorkOn 15 = .ok (.aaload, 1) := by decide +kernel
theorem dX6_armAtWorkOn_16 : decode cX6_armAtWorkOn 16 = .ok (.getfield 70, 3) := by decide +kernel
theorem dX6_armAtWorkOn_19 : decode cX6_armAtWorkOn 19 = .ok (.iload_n 1, 1) := by decide +kernel
theorem dX6_armAtWorkOn_20 : decode cX6_armAtWorkOn 20 = .ok (.if_icmp .ne 5, 3) := by decide +kernel
theorem dX6_armAtWorkOn_23 : decode cX6_armAtWorkOn 23 = .ok (.iload_n 2, 1) := by decide +kernel
theorem dX6_armAtWorkOn_24 : decode cX6_armAtWorkOn 24 = .ok (.ireturn, 1) := by decide +kernel
theorem dX6_armAtWorkOn_25 : decode cX6_armAtWorkOn 25 = .ok (.iinc 2 1, 3) := by decide +kernel
theorem dX6_armAtWorkOn_28 : decode cX6_armAtWorkOn 28 = .ok (.goto (-26), 3) := by decide +kernel
theorem dX6_armAtWorkOn_31 : decode cX6_armAtWorkOn 31 = .ok (.bipush (-5), 2) := by decide +kernel
theorem dX6_armAtWorkOn_33 : decode cX6_armAtWorkOn 33 = .ok (.ireturn, 1) := by decide +kernel
theorem dX6_armWithRowOf_0 : decode cX6_armWithRowOf 0 = .ok (.iconst 0, 1) := by decide +kernel
theorem dX6_armWithRowOf_1 : decode cX6_armWithRowOf 1 = .ok (.istore_n 2, 1) := by decide +kernel
theorem dX6_armWithRowOf_2 : decode cX6_armWithRowOf 2 = .ok (.iload_n 2, 1) := by decide +kernel
theorem dX6_armWithRowOf_3 : decode cX6_armWithRowOf 3 = .ok (.aload_n 0, 1) := by decide +kernel
theorem dX6_armWithRowOf_4 : decode cX6_armWithRowOf 4 = .ok (.getfield 47, 3) := by decide +kernel
theorem dX6_armWithRowOf_7 : decode cX6_armWithRowOf 7 = .ok (.if_icmp .ge 24, 3) := by decide +kernel
theorem dX6_armWithRowOf_10 : decode cX6_armWithRowOf 10 = .ok (.aload_n 0, 1) := by decide +kernel
theorem dX6_armWithRowOf_11 : decode cX6_armWithRowOf 11 = .ok (.getfield 11, 3) := by decide +kernel
theorem dX6_armWithRowOf_14 : decode cX6_armWithRowOf 14 = .ok (.iload_n 2, 1) := by decide +kernel
theorem dX6_armWithRowOf_15 : decode cX6_armWithRowOf 15 = .ok (.aaload, 1) := by decide +kernel
theorem dX6_armWithRowOf_16 : decode cX6_armWithRowOf 16 = .ok (.iload_n 1, 1) := by decide +kernel
theorem dX6_armWithRowOf_17 : decode cX6_armWithRowOf 17 = .ok (.invokevirtual 172, 3) := by decide +kernel
theorem dX6_armWithRowOf_20 : decode cX6_armWithRowOf 20 = .ok (.ifCond .eq 5, 3) := by decide +kernel
theorem dX6_armWithRowOf_23 : decode cX6_armWithRowOf 23 = .ok (.iload_n 2, 1) := by decide +kernel
theorem dX6_armWithRowOf_24 : decode cX6_armWithRowOf 24 = .ok (.ireturn, 1) := by decide +kernel
theorem dX6_armWithRowOf_25 : decode cX6_armWithRowOf 25 = .ok (.iinc 2 1, 3) := by decide +kernel
theorem dX6_armWithRowOf_28 : decode cX6_armWithRowOf 28 = .ok (.goto (-26), 3) := by decide +kernel
theorem dX6_armWithRowOf_31 : decode cX6_armWithRowOf 31 = .ok (.bipush (-5), 2) := by decide +kernel
theorem dX6_armWithRowOf_33 : decode cX6_armWithRowOf 33 = .ok (.ireturn, 1) := by decide +kernel
theorem dX6_idleOfAll_0 : decode cX6_idleOfAll 0 = .ok (.iconst 0, 1) := by decide +kernel
theorem dX6_idleOfAll_1 : decode cX6_idleOfAll 1 = .ok (.istore_n 1, 1) := by decide +kernel
theorem dX6_idleOfAll_2 : decode cX6_idleOfAll 2 = .ok (.iconst 0, 1) := by decide +kernel
theorem dX6_idleOfAll_3 : decode cX6_idleOfAll 3 = .ok (.istore_n 2, 1) := by decide +kernel
theorem dX6_idleOfAll_4 : decode cX6_idleOfAll 4 = .ok (.iload_n 2, 1) := by decide +kernel
theorem dX6_idleOfAll_5 : decode cX6_idleOfAll 5 = .ok (.aload_n 0, 1) := by decide +kernel
theorem dX6_idleOfAll_6 : decode cX6_idleOfAll 6 = .ok (.getfield 47, 3) := by decide +kernel
theorem dX6_idleOfAll_9 : decode cX6_idleOfAll 9 = .ok (.if_icmp .ge 21, 3) := by decide +kernel
theorem dX6_idleOfAll_12 : decode cX6_idleOfAll 12 = .ok (.iload_n 1, 1) := by decide +kernel
theorem dX6_idleOfAll_13 : decode cX6_idleOfAll 13 = .ok (.aload_n 0, 1) := by decide +kernel
theorem dX6_idleOfAll_14 : decode cX6_idleOfAll 14 = .ok (.getfield 11, 3) := by decide +kernel
theorem dX6_idleOfAll_17 : decode cX6_idleOfAll 17 = .ok (.iload_n 2, 1) := by decide +kernel
theorem dX6_idleOfAll_18 : decode cX6_idleOfAll 18 = .ok (.aaload, 1) := by decide +kernel
theorem dX6_idleOfAll_19 : decode cX6_idleOfAll 19 = .ok (.getfield 130, 3) := by decide +kernel
theorem dX6_idleOfAll_22 : decode cX6_idleOfAll 22 = .ok (.iadd, 1) := by decide +kernel
theorem dX6_idleOfAll_23 : decode cX6_idleOfAll 23 = .ok (.istore_n 1, 1) := by decide +kernel
theorem dX6_idleOfAll_24 : decode cX6_idleOfAll 24 = .ok (.iinc 2 1, 3) := by decide +kernel
theorem dX6_idleOfAll_27 : decode cX6_idleOfAll 27 = .ok (.goto (-23), 3) := by decide +kernel
theorem dX6_idleOfAll_30 : decode cX6_idleOfAll 30 = .ok (.iload_n 1, 1) := by decide +kernel
theorem dX6_idleOfAll_31 : decode cX6_idleOfAll 31 = .ok (.ireturn, 1) := by decide +kernel
theorem dX6_stoleOfAll_0 : decode cX6_stoleOfAll 0 = .ok (.iconst 0, 1) := by decide +kernel
theorem dX6_stoleOfAll_1 : decode cX6_stoleOfAll 1 = .ok (.istore_n 1, 1) := by decide +kernel
theorem dX6_stoleOfAll_2 : decode cX6_stoleOfAll 2 = .ok (.iconst 0, 1) := by decide +kernel
theorem dX6_stoleOfAll_3 : decode cX6_stoleOfAll 3 = .ok (.istore_n 2, 1) := by decide +kernel
theorem dX6_stoleOfAll_4 : decode cX6_stoleOfAll 4 = .ok (.iload_n 2, 1) := by decide +kernel
theorem dX6_stoleOfAll_5 : decode cX6_stoleOfAll 5 = .ok (.aload_n 0, 1) := by decide +kernel
theorem dX6_stoleOfAll_6 : decode cX6_stoleOfAll 6 = .ok (.getfield 47, 3) := by decide +kernel
theorem dX6_stoleOfAll_9 : decode cX6_stoleOfAll 9 = .ok (.if_icmp .ge 21, 3) := by decide +kernel
theorem dX6_stoleOfAll_12 : decode cX6_stoleOfAll 12 = .ok (.iload_n 1, 1) := by decide +kernel
theorem dX6_stoleOfAll_13 : decode cX6_stoleOfAll 13 = .ok (.aload_n 0, 1) := by decide +kernel
theorem dX6_stoleOfAll_14 : decode cX6_stoleOfAll 14 = .ok (.getfield 11, 3) := by decide +kernel
theorem dX6_stoleOfAll_17 : decode cX6_stoleOfAll 17 = .ok (.iload_n 2, 1) := by decide +kernel
theorem dX6_stoleOfAll_18 : decode cX6_stoleOfAll 18 = .ok (.aaload, 1) := by decide +kernel
theorem dX6_stoleOfAll_19 : decode cX6_stoleOfAll 19 = .ok (.getfield 136, 3) := by decide +kernel
theorem dX6_stoleOfAll_22 : decode cX6_stoleOfAll 22 = .ok (.iadd, 1) := by decide +kernel
theorem dX6_stoleOfAll_23 : decode cX6_stoleOfAll 23 = .ok (.istore_n 1, 1) := by decide +kernel
theorem dX6_stoleOfAll_24 : decode cX6_stoleOfAll 24 = .ok (.iinc 2 1, 3) := by decide +kernel
theorem dX6_stoleOfAll_27 : decode cX6_stoleOfAll 27 = .ok (.goto (-23), 3) := by decide +kernel
theorem dX6_stoleOfAll_30 : decode cX6_stoleOfAll 30 = .ok (.iload_n 1, 1) := by decide +kernel
theorem dX6_stoleOfAll_31 : decode cX6_stoleOfAll 31 = .ok (.ireturn, 1) := by decide +kernel
end
section
theorem dX7_init_0 : decode cX7_init 0 = .ok (.aload_n 0, 1) := by decide +kernel
theorem dX7_init_1 : decode cX7_init 1 = .ok (.invokespecial 3, 3) := by decide +kernel
theorem dX7_init_4 : decode cX7_init 4 = .ok (.aload_n 0, 1) := by decide +kernel
theorem dX7_init_5 : decode cX7_init 5 = .ok (.new 9, 3) := by decide +kernel
theorem dX7_init_8 : decode cX7_init 8 = .ok (.dup, 1) := by decide +kernel
theorem dX7_init_9 : decode cX7_init 9 = .ok (.invokespecial 11, 3) := by decide +kernel
theorem dX7_init_12 : decode cX7_init 12 = .ok (.putfield 12, 3) := by decide +kernel
theorem dX7_init_15 : decode cX7_init 15 = .ok (.aload_n 0, 1) := by decide +kernel
theorem dX7_init_16 : decode cX7_init 16 = .ok (.new 9, 3) := by decide +kernel
theorem dX7_init_19 : decode cX7_init 19 = .ok (.dup, 1) := by decide +kernel
theorem dX7_init_20 : decode cX7_init 20 = .ok (.invokespecial 11, 3) := by decide +kernel
theorem dX7_init_23 : decode cX7_init 23 = .ok (.putfield 18, 3) := by decide +kernel
theorem dX7_init_26 : decode cX7_init 26 = .ok (.aload_n 0, 1) := by decide +kernel
theorem dX7_init_27 : decode cX7_init 27 = .ok (.new 9, 3) := by decide +kernel
theorem dX7_init_30 : decode cX7_init 30 = .ok (.dup, 1) := by decide +kernel
theorem dX7_init_31 : decode cX7_init 31 = .ok (.invokespecial 11, 3) := by decide +kernel
theorem dX7_init_34 : decode cX7_init 34 = .ok (.putfield 21, 3) := by decide +kernel
theorem dX7_init_37 : decode cX7_init 37 = .ok (.aload_n 0, 1) := by decide +kernel
theorem dX7_init_38 : decode cX7_init 38 = .ok (.new 24, 3) := by decide +kernel
theorem dX7_init_41 : decode cX7_init 41 = .ok (.dup, 1) := by decide +kernel
theorem dX7_init_42 : decode cX7_init 42 = .ok (.invokespecial 26, 3) := by decide +kernel
theorem dX7_init_45 : decode cX7_init 45 = .ok (.putfield 27, 3) := by decide +kernel
theorem dX7_init_48 : decode cX7_init 48 = .ok (.aload_n 0, 1) := by decide +kernel
theorem dX7_init_49 : decode cX7_init 49 = .ok (.bipush 6, 2) := by decide +kernel
theorem dX7_init_51 : decode cX7_init 51 = .ok (.anewarray 31, 3) := by decide +kernel
theorem dX7_init_54 : decode cX7_init 54 = .ok (.putfield 33, 3) := by decide +kernel
theorem dX7_init_57 : decode cX7_init 57 = .ok (.iconst 0, 1) := by decide +kernel
theorem dX7_init_58 : decode cX7_init 58 = .ok (.istore_n 1, 1) := by decide +kernel
theorem dX7_init_59 : decode cX7_init 59 = .ok (.iload_n 1, 1) := by decide +kernel
theorem dX7_init_60 : decode cX7_init 60 = .ok (.aload_n 0, 1) := by decide +kernel
theorem dX7_init_61 : decode cX7_init 61 = .ok (.getfield 33, 3) := by decide +kernel
theorem dX7_init_64 : decode cX7_init 64 = .ok (.arraylength, 1) := by decide +kernel
theorem dX7_init_65 : decode cX7_init 65 = .ok (.if_icmp .ge 22, 3) := by decide +kernel
theorem dX7_init_68 : decode cX7_init 68 = .ok (.aload_n 0, 1) := by decide +kernel
theorem dX7_init_69 : decode cX7_init 69 = .ok (.getfield 33, 3) := by decide +kernel
theorem dX7_init_72 : decode cX7_init 72 = .ok (.iload_n 1, 1) := by decide +kernel
theorem dX7_init_73 : decode cX7_init 73 = .ok (.new 31, 3) := by decide +kernel
theorem dX7_init_76 : decode cX7_init 76 = .ok (.dup, 1) := by decide +kernel
theorem dX7_init_77 : decode cX7_init 77 = .ok (.invokespecial 37, 3) := by decide +kernel
theorem dX7_init_80 : decode cX7_init 80 = .ok (.aastore, 1) := by decide +kernel
theorem dX7_init_81 : decode cX7_init 81 = .ok (.iinc 1 1, 3) := by decide +kernel
theorem dX7_init_84 : decode cX7_init 84 = .ok (.goto (-25), 3) := by decide +kernel
theorem dX7_init_87 : decode cX7_init 87 = .ok (.aload_n 0, 1) := by decide +kernel
theorem dX7_init_88 : decode cX7_init 88 = .ok (.iconst 0, 1) := by decide +kernel
theorem dX7_init_89 : decode cX7_init 89 = .ok (.putfield 38, 3) := by decide +kernel
theorem dX7_init_92 : decode cX7_init 92 = .ok (.return_, 1) := by decide +kernel
theorem dX7_arms_0 : decode cX7_arms 0 = .ok (.iload_n 1, 1) := by decide +kernel
theorem dX7_arms_1 : decode cX7_arms 1 = .ok (.iconst 1, 1) := by decide +kernel
theorem dX7_arms_2 : decode cX7_arms 2 = .ok (.if_icmp .lt 8, 3) := by decide +kernel
theorem dX7_arms_5 : decode cX7_arms 5 = .ok (.iload_n 1, 1) := by decide +kernel
theorem dX7_arms_6 : decode cX7_arms 6 = .ok (.iconst 4, 1) := by decide +kernel
theorem dX7_arms_7 : decode cX7_arms 7 = .ok (.if_icmp .le 6, 3) := by decide +kernel
theorem dX7_arms_10 : decode cX7_arms 10 = .ok (.bipush (-2), 2) := by decide +kernel
theorem dX7_arms_12 : decode cX7_arms 12 = .ok (.ireturn, 1) := by decide +kernel
theorem dX7_arms_13 : decode cX7_arms 13 = .ok (.aload_n 0, 1) := by decide +kernel
theorem dX7_arms_14 : decode cX7_arms 14 = .ok (.getfield 12, 3) := by decide +kernel
theorem dX7_arms_17 : decode cX7_arms 17 = .ok (.getfield 42, 3) := by decide +kernel
theorem dX7_arms_20 : decode cX7_arms 20 = .ok (.istore_n 2, 1) := by decide +kernel
theorem dX7_arms_21 : decode cX7_arms 21 = .ok (.aload_n 0, 1) := by decide +kernel
theorem dX7_arms_22 : decode cX7_arms 22 = .ok (.getfield 12, 3) := by decide +kernel
theorem dX7_arms_25 : decode cX7_arms 25 = .ok (.iload_n 1, 1) := by decide +kernel
theorem dX7_arms_26 : decode cX7_arms 26 = .ok (.invokevirtual 46, 3) := by decide +kernel
theorem dX7_arms_29 : decode cX7_arms 29 = .ok (.iload_n 2, 1) := by decide +kernel
theorem dX7_arms_30 : decode cX7_arms 30 = .ok (.ireturn, 1) := by decide +kernel
theorem dX7_seed_0 : decode cX7_seed 0 = .ok (.aload_n 0, 1) := by decide +kernel
theorem dX7_seed_1 : decode cX7_seed 1 = .ok (.getfield 12, 3) := by decide +kernel
theorem dX7_seed_4 : decode cX7_seed 4 = .ok (.getfield 50, 3) := by decide +kernel
theorem dX7_seed_7 : decode cX7_seed 7 = .ok (.istore_n 2, 1) := by decide +kernel
theorem dX7_seed_8 : decode cX7_seed 8 = .ok (.aload_n 0, 1) := by decide +kernel
theorem dX7_seed_9 : decode cX7_seed 9 = .ok (.getfield 12, 3) := by decide +kernel
theorem dX7_seed_12 : decode cX7_seed 12 = .ok (.iload_n 1, 1) := by decide +kernel
theorem dX7_seed_13 : decode cX7_seed 13 = .ok (.putfield 50, 3) := by decide +kernel
theorem dX7_seed_16 : decode cX7_seed 16 = .ok (.iload_n 2, 1) := by decide +kernel
theorem dX7_seed_17 : decode cX7_seed 17 = .ok (.ireturn, 1) := by decide +kernel
theorem dX7_feed_0 : decode cX7_feed 0 = .ok (.iload_n 1, 1) := by decide +kernel
theorem dX7_feed_1 : decode cX7_feed 1 = .ok (.ifCond .lt 9, 3) := by decide +kernel
theorem dX7_feed_4 : decode cX7_feed 4 = .ok (.iload_n 1, 1) := by decide +kernel
theorem dX7_feed_5 : decode cX7_feed 5 = .ok (.bipush 127, 2) := by decide +kernel
theorem dX7_feed_7 : decode cX7_feed 7 = .ok (.if_icmp .le 6, 3) := by decide +kernel
theorem dX7_feed_10 : decode cX7_feed 10 = .ok (.bipush (-2), 2) := by decide +kernel
theorem dX7_feed_12 : decode cX7_feed 12 = .ok (.ireturn, 1) := by decide +kernel
theorem dX7_feed_13 : decode cX7_feed 13 = .ok (.aload_n 0, 1) := by decide +kernel
theorem dX7_feed_14 : decode cX7_feed 14 = .ok (.getfield 27, 3) := by decide +kernel
theorem dX7_feed_17 : decode cX7_feed 17 = .ok (.iload_n 1, 1) := by decide +kernel
theorem dX7_feed_18 : decode cX7_feed 18 = .ok (.invokevirtual 53, 3) := by decide +kernel
theorem dX7_feed_21 : decode cX7_feed 21 = .ok (.ifCond .eq 13, 3) := by decide +kernel
theorem dX7_feed_24 : decode cX7_feed 24 = .ok (.aload_n 0, 1) := by decide +kernel
theorem dX7_feed_25 : decode cX7_feed 25 = .ok (.getfield 27, 3) := by decide +kernel
theorem dX7_feed_28 : decode cX7_feed 28 = .ok (.getfield 57, 3) := by decide +kernel
theorem dX7_feed_31 : decode cX7_feed 31 = .ok (.goto 5, 3) := by decide +kernel
theorem dX7_feed_34 : decode cX7_feed 34 = .ok (.bipush (-4), 2) := by decide +kernel
theorem dX7_feed_36 : decode cX7_feed 36 = .ok (.ireturn, 1) := by decide +kernel
theorem dX7_tree_0 : decode cX7_tree 0 = .ok (.aload_n 0, 1) := by decide +kernel
theorem dX7_tree_1 : decode cX7_tree 1 = .ok (.iload_n 1, 1) := by decide +kernel
theorem dX7_tree_2 : decode cX7_tree 2 = .ok (.invokevirtual 60, 3) := by decide +kernel
theorem dX7_tree_5 : decode cX7_tree 5 = .ok (.ifCond .ne 5, 3) := by decide +kernel
theorem dX7_tree_8 : decode cX7_tree 8 = .ok (.iconst (-1), 1) := by decide +kernel
theorem dX7_tree_9 : decode cX7_tree 9 = .ok (.ireturn, 1) := by decide +kernel
theorem dX7_tree_10 : decode cX7_tree 10 = .ok (.aload_n 0, 1) := by decide +kernel
theorem dX7_tree_11 : decode cX7_tree 11 = .ok (.getfield 27, 3) := by decide +kernel
theorem dX7_tree_14 : decode cX7_tree 14 = .ok (.invokevirtual 63, 3) := by decide +kernel
theorem dX7_tree_17 : decode cX7_tree 17 = .ok (.istore_n 2, 1) := by decide +kernel
theorem dX7_tree_18 : decode cX7_tree 18 = .ok (.aload_n 0, 1) := by decide +kernel
theorem dX7_tree_19 : decode cX7_tree 19 = .ok (.getfield 27, 3) := by decide +kernel
theorem dX7_tree_22 : decode cX7_tree 22 = .ok (.iconst 0, 1) := by decide +kernel
theorem dX7_tree_23 : decode cX7_tree 23 = .ok (.putfield 57, 3) := by decide +kernel
theorem dX7_tree_26 : decode cX7_tree 26 = .ok (.iload_n 2, 1) := by decide +kernel
theorem dX7_tree_27 : decode cX7_tree 27 = .ok (.bipush (-5), 2) := by decide +kernel
theorem dX7_tree_29 : decode cX7_tree 29 = .ok (.if_icmp .eq 8, 3) := by decide +kernel
theorem dX7_tree_32 : decode cX7_tree 32 = .ok (.bipush (-10), 2) := by decide +kernel
theorem dX7_tree_34 : decode cX7_tree 34 = .ok (.iload_n 2, 1) := by decide +kernel
theorem dX7_tree_35 : decode cX7_tree 35 = .ok (.isub, 1) := by decide +kernel
theorem dX7_tree_36 : decode cX7_tree 36 = .ok (.ireturn, 1) := by decide +kernel
theorem dX7_tree_37 : decode cX7_tree 37 = .ok (.aload_n 0, 1) := by decide +kernel
theorem dX7_tree_38 : decode cX7_tree 38 = .ok (.getfield 12, 3) := by decide +kernel
theorem dX7_tree_41 : decode cX7_tree 41 = .ok (.getfield 67, 3) := by decide +kernel
theorem dX7_tree_44 : decode cX7_tree 44 = .ok (.getfield 71, 3) := by decide +kernel
theorem dX7_tree_47 : decode cX7_tree 47 = .ok (.istore_n 3, 1) := by decide +kernel
theorem dX7_tree_48 : decode cX7_tree 48 = .ok (.iload_n 3, 1) := by decide +kernel
theorem dX7_tree_49 : decode cX7_tree 49 = .ok (.aload_n 0, 1) := by decide +kernel
theorem dX7_tree_50 : decode cX7_tree 50 = .ok (.getfield 27, 3) := by decide +kernel
theorem dX7_tree_53 : decode cX7_tree 53 = .ok (.getfield 76, 3) := by decide +kernel
theorem dX7_tree_56 : decode cX7_tree 56 = .ok (.iadd, 1) := by decide +kernel
theorem dX7_tree_57 : decode cX7_tree 57 = .ok (.bipush 32, 2) := by decide +kernel
theorem dX7_tree_59 : decode cX7_tree 59 = .ok (.if_icmp .le 6, 3) := by decide +kernel
theorem dX7_tree_62 : decode cX7_tree 62 = .ok (.bipush (-4), 2) := by decide +kernel
theorem dX7_tree_64 : decode cX7_tree 64 = .ok (.ireturn, 1) := by decide +kernel
theorem dX7_tree_65 : decode cX7_tree 65 = .ok (.iconst 0, 1) := by decide +kernel
theorem dX7_tree_66 : decode cX7_tree 66 = .ok (.istore 4, 2) := by decide +kernel
theorem dX7_tree_68 : decode cX7_tree 68 = .ok (.iload 4, 2) := by decide +kernel
theorem dX7_tree_70 : decode cX7_tree 70 = .ok (.aload_n 0, 1) := by decide +kernel
theorem dX7_tree_71 : decode cX7_tree 71 = .ok (.getfield 27, 3) := by decide +kernel
theorem dX7_tree_74 : decode cX7_tree 74 = .ok (.getfield 76, 3) := by decide +kernel
theorem dX7_tree_77 : decode cX7_tree 77 = .ok (.if_icmp .ge 75, 3) := by decide +kernel
theorem dX7_tree_80 : decode cX7_tree 80 = .ok (.aload_n 0, 1) := by decide +kernel
theorem dX7_tree_81 : decode cX7_tree 81 = .ok (.getfield 27, 3) := by decide +kernel
theorem dX7_tree_84 : decode cX7_tree 84 = .ok (.getfield 77, 3) := by decide +kernel
theorem dX7_tree_87 : decode cX7_tree 87 = .ok (.iload 4, 2) := by decide +kernel
theorem dX7_tree_89 : decode cX7_tree 89 = .ok (.iaload, 1) := by decide +kernel
theorem dX7_tree_90 : decode cX7_tree 90 = .ok (.bipush (-5), 2) := by decide +kernel
theorem dX7_tree_92 : decode cX7_tree 92 = .ok (.if_icmp .ne 8, 3) := by decide +kernel
theorem dX7_tree_95 : decode cX7_tree 95 = .ok (.bipush (-5), 2) := by decide +kernel
theorem dX7_tree_97 : decode cX7_tree 97 = .ok (.goto 15, 3) := by decide +kernel
theorem dX7_tree_100 : decode cX7_tree 100 = .ok (.iload_n 3, 1) := by decide +kernel
theorem dX7_tree_101 : decode cX7_tree 101 = .ok (.aload_n 0, 1) := by decide +kernel
theorem dX7_tree_102 : decode cX7_tree 102 = .ok (.getfield 27, 3) := by decide +kernel
theorem dX7_tree_105 : decode cX7_tree 105 = .ok (.getfield 77, 3) := by decide +kernel
theorem dX7_tree_108 : decode cX7_tree 108 = .ok (.iload 4, 2) := by decide +kernel
theorem dX7_tree_110 : decode cX7_tree 110 = .ok (.iaload, 1) := by decide +kernel
theorem dX7_tree_111 : decode cX7_tree 111 = .ok (.iadd, 1) := by decide +kernel
theorem dX7_tree_112 : decode cX7_tree 112 = .ok (.istore 5, 2) := by decide +kernel
theorem dX7_tree_114 : decode cX7_tree 114 = .ok (.aload_n 0, 1) := by decide +kernel
theorem dX7_tree_115 : decode cX7_tree 115 = .ok (.getfield 12, 3) := by decide +kernel
theorem dX7_tree_118 : decode cX7_tree 118 = .ok (.getfield 67, 3) := by decide +kernel
theorem dX7_tree_121 : decode cX7_tree 121 = .ok (.aload_n 0, 1) := by decide +kernel
theorem dX7_tree_122 : decode cX7_tree 122 = .ok (.getfield 27, 3) := by decide +kernel
theorem dX7_tree_125 : decode cX7_tree 125 = .ok (.getfield 81, 3) := by decide +kernel
theorem dX7_tree_128 : decode cX7_tree 128 = .ok (.iload 4, 2) := by decide +kernel
theorem dX7_tree_130 : decode cX7_tree 130 = .ok (.iaload, 1) := by decide +kernel
theorem dX7_tree_131 : decode cX7_tree 131 = .ok (.aload_n 0, 1) := by decide +kernel
theorem dX7_tree_132 : decode cX7_tree 132 = .ok (.getfield 27, 3) := by decide +kernel
theorem dX7_tree_135 : decode cX7_tree 135 = .ok (.getfield 84, 3) := by decide +kernel
theorem dX7_tree_138 : decode cX7_tree 138 = .ok (.iload 4, 2) := by decide +kernel
theorem dX7_tree_140 : decode cX7_tree 140 = .ok (.iaload, 1) := by decide +kernel
theorem dX7_tree_141 : decode cX7_tree 141 = .ok (.iload 5, 2) := by decide +kernel
theorem dX7_tree_143 : decode cX7_tree 143 = .ok (.invokevirtual 87, 3) := by decide +kernel
theorem dX7_tree_146 : decode cX7_tree 146 = .ok (.iinc 4 1, 3) := by decide +kernel
theorem dX7_tree_149 : decode cX7_tree 149 = .ok (.goto (-81), 3) := by decide +kernel
theorem dX7_tree_152 : decode cX7_tree 152 = .ok (.aload_n 0, 1) := by decide +kernel
theorem dX7_tree_153 : decode cX7_tree 153 = .ok (.getfield 12, 3) := by decide +kernel
theorem dX7_tree_156 : decode cX7_tree 156 = .ok (.getfield 91, 3) := by decide +kernel
theorem dX7_tree_159 : decode cX7_tree 159 = .ok (.iload_n 1, 1) := by decide +kernel
theorem dX7_tree_160 : decode cX7_tree 160 = .ok (.aaload, 1) := by decide +kernel
theorem dX7_tree_161 : decode cX7_tree 161 = .ok (.iload_n 3, 1) := by decide +kernel
theorem dX7_tree_162 : decode cX7_tree 162 = .ok (.invokevirtual 95, 3) := by decide +kernel
theorem dX7_tree_165 : decode cX7_tree 165 = .ok (.iload_n 3, 1) := by decide +kernel
theorem dX7_tree_166 : decode cX7_tree 166 = .ok (.ireturn, 1) := by decide +kernel
theorem dX7_of_0 : decode cX7_of 0 = .ok (.aload_n 0, 1) := by decide +kernel
theorem dX7_of_1 : decode cX7_of 1 = .ok (.getfield 12, 3) := by decide +kernel
theorem dX7_of_4 : decode cX7_of 4 = .ok (.getfield 67, 3) := by decide +kernel
theorem dX7_of_7 : decode cX7_of 7 = .ok (.astore_n 3, 1) := by decide +kernel
theorem dX7_of_8 : decode cX7_of 8 = .ok (.aload_n 3, 1) := by decide +kernel
theorem dX7_of_9 : decode cX7_of 9 = .ok (.iload_n 1, 1) := by decide +kernel
theorem dX7_of_10 : decode cX7_of 10 = .ok (.invokevirtual 100, 3) := by decide +kernel
theorem dX7_of_13 : decode cX7_of 13 = .ok (.ifCond .ne 5, 3) := by decide +kernel
theorem dX7_of_16 : decode cX7_of 16 = .ok (.iconst (-1), 1) := by decide +kernel
theorem dX7_of_17 : decode cX7_of 17 = .ok (.ireturn, 1) := by decide +kernel
theorem dX7_of_18 : decode cX7_of 18 = .ok (.iload_n 2, 1) := by decide +kernel
theorem dX7_of_19 : decode cX7_of 19 = .ok (.tableswitch 145 0 11 #[61, 68, 75, 82, 89, 96, 102, 109, 115, 121, 127, 136], 61) := by decide +kernel
theorem dX7_of_80 : decode cX7_of 80 = .ok (.aload_n 3, 1) := by decide +kernel
theorem dX7_of_81 : decode cX7_of 81 = .ok (.getfield 103, 3) := by decide +kernel
theorem dX7_of_84 : decode cX7_of 84 = .ok (.iload_n 1, 1) := by decide +kernel
theorem dX7_of_85 : decode cX7_of 85 = .ok (.iaload, 1) := by decide +kernel
theorem dX7_of_86 : decode cX7_of 86 = .ok (.ireturn, 1) := by decide +kernel
theorem dX7_of_87 : decode cX7_of 87 = .ok (.aload_n 3, 1) := by decide +kernel
theorem dX7_of_88 : decode cX7_of 88 = .ok (.getfield 106, 3) := by decide +kernel
theorem dX7_of_91 : decode cX7_of 91 = .ok (.iload_n 1, 1) := by decide +kernel
theorem dX7_of_92 : decode cX7_of 92 = .ok (.iaload, 1) := by decide +kernel
theorem dX7_of_93 : decode cX7_of 93 = .ok (.ireturn, 1) := by decide +kernel
theorem dX7_of_94 : decode cX7_of 94 = .ok (.aload_n 3, 1) := by decide +kernel
theorem dX7_of_95 : decode cX7_of 95 = .ok (.getfield 107, 3) := by decide +kernel
theorem dX7_of_98 : decode cX7_of 98 = .ok (.iload_n 1, 1) := by decide +kernel
theorem dX7_of_99 : decode cX7_of 99 = .ok (.iaload, 1) := by decide +kernel
theorem dX7_of_100 : decode cX7_of 100 = .ok (.ireturn, 1) := by decide +kernel
theorem dX7_of_101 : decode cX7_of 101 = .ok (.aload_n 3, 1) := by decide +kernel
theorem dX7_of_102 : decode cX7_of 102 = .ok (.getfield 110, 3) := by decide +kernel
theorem dX7_of_105 : decode cX7_of 105 = .ok (.iload_n 1, 1) := by decide +kernel
theorem dX7_of_106 : decode cX7_of 106 = .ok (.iaload, 1) := by decide +kernel
theorem dX7_of_107 : decode cX7_of 107 = .ok (.ireturn, 1) := by decide +kernel
theorem dX7_of_108 : decode cX7_of 108 = .ok (.aload_n 3, 1) := by decide +kernel
theorem dX7_of_109 : decode cX7_of 109 = .ok (.getfield 113, 3) := by decide +kernel
theorem dX7_of_112 : decode cX7_of 112 = .ok (.iload_n 1, 1) := by decide +kernel
theorem dX7_of_113 : decode cX7_of 113 = .ok (.iaload, 1) := by decide +kernel
theorem dX7_of_114 : decode cX7_of 114 = .ok (.ireturn, 1) := by decide +kernel
theorem dX7_of_115 : decode cX7_of 115 = .ok (.aload_n 3, 1) := by decide +kernel
theorem dX7_of_116 : decode cX7_of 116 = .ok (.iload_n 1, 1) := by decide +kernel
theorem dX7_of_117 : decode cX7_of 117 = .ok (.invokevirtual 114, 3) := by decide +kernel
theorem dX7_of_120 : decode cX7_of 120 = .ok (.ireturn, 1) := by decide +kernel
theorem dX7_of_121 : decode cX7_of 121 = .ok (.aload_n 3, 1) := by decide +kernel
theorem dX7_of_122 : decode cX7_of 122 = .ok (.getfield 118, 3) := by decide +kernel
theorem dX7_of_125 : decode cX7_of 125 = .ok (.iload_n 1, 1) := by decide +kernel
theorem dX7_of_126 : decode cX7_of 126 = .ok (.iaload, 1) := by decide +kernel
theorem dX7_of_127 : decode cX7_of 127 = .ok (.ireturn, 1) := by decide +kernel
theorem dX7_of_128 : decode cX7_of 128 = .ok (.aload_n 3, 1) := by decide +kernel
theorem dX7_of_129 : decode cX7_of 129 = .ok (.iload_n 1, 1) := by decide +kernel
theorem dX7_of_130 : decode cX7_of 130 = .ok (.invokevirtual 119, 3) := by decide +kernel
theorem dX7_of_133 : decode cX7_of 133 = .ok (.ireturn, 1) := by decide +kernel
theorem dX7_of_134 : decode cX7_of 134 = .ok (.aload_n 3, 1) := by decide +kernel
theorem dX7_of_135 : decode cX7_of 135 = .ok (.iload_n 1, 1) := by decide +kernel
theorem dX7_of_136 : decode cX7_of 136 = .ok (.invokevirtual 122, 3) := by decide +kernel
theorem dX7_of_139 : decode cX7_of 139 = .ok (.ireturn, 1) := by decide +kernel
theorem dX7_of_140 : decode cX7_of 140 = .ok (.aload_n 3, 1) := by decide +kernel
theorem dX7_of_141 : decode cX7_of 141 = .ok (.iload_n 1, 1) := by decide +kernel
theorem dX7_of_142 : decode cX7_of 142 = .ok (.invokevirtual 125, 3) := by decide +kernel
theorem dX7_of_145 : decode cX7_of 145 = .ok (.ireturn, 1) := by decide +kernel
theorem dX7_of_146 : decode cX7_of 146 = .ok (.aload_n 0, 1) := by decide +kernel
theorem dX7_of_147 : decode cX7_of 147 = .ok (.getfield 12, 3) := by decide +kernel
theorem dX7_of_150 : decode cX7_of 150 = .ok (.iload_n 1, 1) := by decide +kernel
theorem dX7_of_151 : decode cX7_of 151 = .ok (.invokevirtual 128, 3) := by decide +kernel
theorem dX7_of_154 : decode cX7_of 154 = .ok (.ireturn, 1) := by decide +kernel
theorem dX7_of_155 : decode cX7_of 155 = .ok (.aload_n 0, 1) := by decide +kernel
theorem dX7_of_156 : decode cX7_of 156 = .ok (.getfield 12, 3) := by decide +kernel
theorem dX7_of_159 : decode cX7_of 159 = .ok (.iload_n 1, 1) := by decide +kernel
theorem dX7_of_160 : decode cX7_of 160 = .ok (.invokevirtual 131, 3) := by decide +kernel
theorem dX7_of_163 : decode cX7_of 163 = .ok (.ireturn, 1) := by decide +kernel
theorem dX7_of_164 : decode cX7_of 164 = .ok (.iconst (-1), 1) := by decide +kernel
theorem dX7_of_165 : decode cX7_of 165 = .ok (.ireturn, 1) := by decide +kernel
theorem dX7_cause_0 : decode cX7_cause 0 = .ok (.aload_n 0, 1) := by decide +kernel
theorem dX7_cause_1 : decode cX7_cause 1 = .ok (.getfield 12, 3) := by decide +kernel
theorem dX7_cause_4 : decode cX7_cause 4 = .ok (.getfield 67, 3) := by decide +kernel
theorem dX7_cause_7 : decode cX7_cause 7 = .ok (.astore_n 3, 1) := by decide +kernel
theorem dX7_cause_8 : decode cX7_cause 8 = .ok (.aload_n 3, 1) := by decide +kernel
theorem dX7_cause_9 : decode cX7_cause 9 = .ok (.iload_n 1, 1) := by decide +kernel
theorem dX7_cause_10 : decode cX7_cause 10 = .ok (.invokevirtual 100, 3) := by decide +kernel
theorem dX7_cause_13 : decode cX7_cause 13 = .ok (.ifCond .eq 7, 3) := by decide +kernel
theorem dX7_cause_16 : decode cX7_cause 16 = .ok (.iload_n 2, 1) := by decide +kernel
theorem dX7_cause_17 : decode cX7_cause 17 = .ok (.ifCond .ge 5, 3) := by decide +kernel
theorem dX7_cause_20 : decode cX7_cause 20 = .ok (.iconst (-1), 1) := by decide +kernel
theorem dX7_cause_21 : decode cX7_cause 21 = .ok (.ireturn, 1) := by decide +kernel
theorem dX7_cause_22 : decode cX7_cause 22 = .ok (.aload_n 3, 1) := by decide +kernel
theorem dX7_cause_23 : decode cX7_cause 23 = .ok (.getfield 103, 3) := by decide +kernel
theorem dX7_cause_26 : decode cX7_cause 26 = .ok (.iload_n 1, 1) := by decide +kernel
theorem dX7_cause_27 : decode cX7_cause 27 = .ok (.iaload, 1) := by decide +kernel
theorem dX7_cause_28 : decode cX7_cause 28 = .ok (.iconst 4, 1) := by decide +kernel
theorem dX7_cause_29 : decode cX7_cause 29 = .ok (.if_icmp .ne 7, 3) := by decide +kernel
theorem dX7_cause_32 : decode cX7_cause 32 = .ok (.iload_n 1, 1) := by decide +kernel
theorem dX7_cause_33 : decode cX7_cause 33 = .ok (.goto 5, 3) := by decide +kernel
theorem dX7_cause_36 : decode cX7_cause 36 = .ok (.bipush (-5), 2) := by decide +kernel
theorem dX7_cause_38 : decode cX7_cause 38 = .ok (.istore 4, 2) := by decide +kernel
theorem dX7_cause_40 : decode cX7_cause 40 = .ok (.iconst 0, 1) := by decide +kernel
theorem dX7_cause_41 : decode cX7_cause 41 = .ok (.istore 5, 2) := by decide +kernel
theorem dX7_cause_43 : decode cX7_cause 43 = .ok (.iload 5, 2) := by decide +kernel
theorem dX7_cause_45 : decode cX7_cause 45 = .ok (.iload_n 2, 1) := by decide +kernel
theorem dX7_cause_46 : decode cX7_cause 46 = .ok (.if_icmp .ge 27, 3) := by decide +kernel
theorem dX7_cause_49 : decode cX7_cause 49 = .ok (.aload_n 3, 1) := by decide +kernel
theorem dX7_cause_50 : decode cX7_cause 50 = .ok (.iload 4, 2) := by decide +kernel
theorem dX7_cause_52 : decode cX7_cause 52 = .ok (.invokevirtual 100, 3) := by decide +kernel
theorem dX7_cause_55 : decode cX7_cause 55 = .ok (.ifCond .eq 18, 3) := by decide +kernel
theorem dX7_cause_58 : decode cX7_cause 58 = .ok (.aload_n 3, 1) := by decide +kernel
theorem dX7_cause_59 : decode cX7_cause 59 = .ok (.getfield 134, 3) := by decide +kernel
theorem dX7_cause_62 : decode cX7_cause 62 = .ok (.iload 4, 2) := by decide +kernel
theorem dX7_cause_64 : decode cX7_cause 64 = .ok (.iaload, 1) := by decide +kernel
theorem dX7_cause_65 : decode cX7_cause 65 = .ok (.istore 4, 2) := by decide +kernel
theorem dX7_cause_67 : decode cX7_cause 67 = .ok (.iinc 5 1, 3) := by decide +kernel
theorem dX7_cause_70 : decode cX7_cause 70 = .ok (.goto (-27), 3) := by decide +kernel
theorem dX7_cause_73 : decode cX7_cause 73 = .ok (.iload 4, 2) := by decide +kernel
theorem dX7_cause_75 : decode cX7_cause 75 = .ok (.ireturn, 1) := by decide +kernel
theorem dX7_arm_0 : decode cX7_arm 0 = .ok (.aload_n 0, 1) := by decide +kernel
theorem dX7_arm_1 : decode cX7_arm 1 = .ok (.iload_n 1, 1) := by decide +kernel
theorem dX7_arm_2 : decode cX7_arm 2 = .ok (.invokevirtual 60, 3) := by decide +kernel
theorem dX7_arm_5 : decode cX7_arm 5 = .ok (.ifCond .ne 5, 3) := by decide +kernel
theorem dX7_arm_8 : decode cX7_arm 8 = .ok (.iconst (-1), 1) := by decide +kernel
theorem dX7_arm_9 : decode cX7_arm 9 = .ok (.ireturn, 1) := by decide +kernel
theorem dX7_arm_10 : decode cX7_arm 10 = .ok (.aload_n 0, 1) := by decide +kernel
theorem dX7_arm_11 : decode cX7_arm 11 = .ok (.getfield 12, 3) := by decide +kernel
theorem dX7_arm_14 : decode cX7_arm 14 = .ok (.getfield 91, 3) := by decide +kernel
theorem dX7_arm_17 : decode cX7_arm 17 = .ok (.iload_n 1, 1) := by decide +kernel
theorem dX7_arm_18 : decode cX7_arm 18 = .ok (.aaload, 1) := by decide +kernel
theorem dX7_arm_19 : decode cX7_arm 19 = .ok (.astore_n 3, 1) := by decide +kernel
theorem dX7_arm_20 : decode cX7_arm 20 = .ok (.iload_n 2, 1) := by decide +kernel
theorem dX7_arm_21 : decode cX7_arm 21 = .ok (.tableswitch 51 0 3 #[31, 36, 41, 46], 31) := by decide +kernel
theorem dX7_arm_52 : decode cX7_arm 52 = .ok (.aload_n 3, 1) := by decide +kernel
theorem dX7_arm_53 : decode cX7_arm 53 = .ok (.getfield 137, 3) := by decide +kernel
theorem dX7_arm_56 : decode cX7_arm 56 = .ok (.ireturn, 1) := by decide +kernel
theorem dX7_arm_57 : decode cX7_arm 57 = .ok (.aload_n 3, 1) := by decide +kernel
theorem dX7_arm_58 : decode cX7_arm 58 = .ok (.getfield 138, 3) := by decide +kernel
theorem dX7_arm_61 : decode cX7_arm 61 = .ok (.ireturn, 1) := by decide +kernel
theorem dX7_arm_62 : decode cX7_arm 62 = .ok (.aload_n 3, 1) := by decide +kernel
theorem dX7_arm_63 : decode cX7_arm 63 = .ok (.getfield 141, 3) := by decide +kernel
theorem dX7_arm_66 : decode cX7_arm 66 = .ok (.ireturn, 1) := by decide +kernel
theorem dX7_arm_67 : decode cX7_arm 67 = .ok (.aload_n 3, 1) := by decide +kernel
theorem dX7_arm_68 : decode cX7_arm 68 = .ok (.getfield 144, 3) := by decide +kernel
theorem dX7_arm_71 : decode cX7_arm 71 = .ok (.ireturn, 1) := by decide +kernel
theorem dX7_arm_72 : decode cX7_arm 72 = .ok (.iload_n 2, 1) := by decide +kernel
theorem dX7_arm_73 : decode cX7_arm 73 = .ok (.bipush 10, 2) := by decide +kernel
theorem dX7_arm_75 : decode cX7_arm 75 = .ok (.if_icmp .ge 7, 3) := by decide +kernel
theorem dX7_arm_78 : decode cX7_arm 78 = .ok (.iconst (-1), 1) := by decide +kernel
theorem dX7_arm_79 : decode cX7_arm 79 = .ok (.goto 11, 3) := by decide +kernel
theorem dX7_arm_82 : decode cX7_arm 82 = .ok (.aload_n 3, 1) := by decide +kernel
theorem dX7_arm_83 : decode cX7_arm 83 = .ok (.iload_n 2, 1) := by decide +kernel
theorem dX7_arm_84 : decode cX7_arm 84 = .ok (.bipush 10, 2) := by decide +kernel
theorem dX7_arm_86 : decode cX7_arm 86 = .ok (.isub, 1) := by decide +kernel
theorem dX7_arm_87 : decode cX7_arm 87 = .ok (.invokevirtual 147, 3) := by decide +kernel
theorem dX7_arm_90 : decode cX7_arm 90 = .ok (.ireturn, 1) := by decide +kernel
theorem dX7_pass_0 : decode cX7_pass 0 = .ok (.iload_n 1, 1) := by decide +kernel
theorem dX7_pass_1 : decode cX7_pass 1 = .ok (.ifCond .lt 9, 3) := by decide +kernel
theorem dX7_pass_4 : decode cX7_pass 4 = .ok (.iload_n 1, 1) := by decide +kernel
theorem dX7_pass_5 : decode cX7_pass 5 = .ok (.bipush 60, 2) := by decide +kernel
theorem dX7_pass_7 : decode cX7_pass 7 = .ok (.if_icmp .le 6, 3) := by decide +kernel
theorem dX7_pass_10 : decode cX7_pass 10 = .ok (.bipush (-2), 2) := by decide +kernel
theorem dX7_pass_12 : decode cX7_pass 12 = .ok (.ireturn, 1) := by decide +kernel
theorem dX7_pass_13 : decode cX7_pass 13 = .ok (.aload_n 0, 1) := by decide +kernel
theorem dX7_pass_14 : decode cX7_pass 14 = .ok (.getfield 12, 3) := by decide +kernel
theorem dX7_pass_17 : decode cX7_pass 17 = .ok (.getfield 150, 3) := by decide +kernel
theorem dX7_pass_20 : decode cX7_pass 20 = .ok (.iload_n 1, 1) := by decide +kernel
theorem dX7_pass_21 : decode cX7_pass 21 = .ok (.iadd, 1) := by decide +kernel
theorem dX7_pass_22 : decode cX7_pass 22 = .ok (.sipush 9999, 3) := by decide +kernel
theorem dX7_pass_25 : decode cX7_pass 25 = .ok (.if_icmp .le 6, 3) := by decide +kernel
theorem dX7_pass_28 : decode cX7_pass 28 = .ok (.bipush (-3), 2) := by decide +kernel
theorem dX7_pass_30 : decode cX7_pass 30 = .ok (.ireturn, 1) := by decide +kernel
theorem dX7_pass_31 : decode cX7_pass 31 = .ok (.aload_n 0, 1) := by decide +kernel
theorem dX7_pass_32 : decode cX7_pass 32 = .ok (.getfield 12, 3) := by decide +kernel
theorem dX7_pass_35 : decode cX7_pass 35 = .ok (.iload_n 1, 1) := by decide +kernel
theorem dX7_pass_36 : decode cX7_pass 36 = .ok (.invokevirtual 153, 3) := by decide +kernel
theorem dX7_pass_39 : decode cX7_pass 39 = .ok (.aload_n 0, 1) := by decide +kernel
theorem dX7_pass_40 : decode cX7_pass 40 = .ok (.getfield 12, 3) := by decide +kernel
theorem dX7_pass_43 : decode cX7_pass 43 = .ok (.getfield 150, 3) := by decide +kernel
theorem dX7_pass_46 : decode cX7_pass 46 = .ok (.ireturn, 1) := by decide +kernel
theorem dX7_cancel_0 : decode cX7_cancel 0 = .ok (.aload_n 0, 1) := by decide +kernel
theorem dX7_cancel_1 : decode cX7_cancel 1 = .ok (.getfield 12, 3) := by decide +kernel
theorem dX7_cancel_4 : decode cX7_cancel 4 = .ok (.getfield 67, 3) := by decide +kernel
theorem dX7_cancel_7 : decode cX7_cancel 7 = .ok (.iload_n 1, 1) := by decide +kernel
theorem dX7_cancel_8 : decode cX7_cancel 8 = .ok (.invokevirtual 100, 3) := by decide +kernel
theorem dX7_cancel_11 : decode cX7_cancel 11 = .ok (.ifCond .ne 5, 3) := by decide +kernel
theorem dX7_cancel_14 : decode cX7_cancel 14 = .ok (.iconst (-1), 1) := by decide +kernel
theorem dX7_cancel_15 : decode cX7_cancel 15 = .ok (.ireturn, 1) := by decide +kernel
theorem dX7_cancel_16 : decode cX7_cancel 16 = .ok (.aload_n 0, 1) := by decide +kernel
theorem dX7_cancel_17 : decode cX7_cancel 17 = .ok (.getfield 12, 3) := by decide +kernel
theorem dX7_cancel_20 : decode cX7_cancel 20 = .ok (.getfield 67, 3) := by decide +kernel
theorem dX7_cancel_23 : decode cX7_cancel 23 = .ok (.iload_n 1, 1) := by decide +kernel
theorem dX7_cancel_24 : decode cX7_cancel 24 = .ok (.invokevirtual 156, 3) := by decide +kernel
theorem dX7_cancel_27 : decode cX7_cancel 27 = .ok (.ifCond .eq 8, 3) := by decide +kernel
theorem dX7_cancel_30 : decode cX7_cancel 30 = .ok (.bipush (-3), 2) := by decide +kernel
theorem dX7_cancel_32 : decode cX7_cancel 32 = .ok (.goto 11, 3) := by decide +kernel
theorem dX7_cancel_35 : decode cX7_cancel 35 = .ok (.aload_n 0, 1) := by decide +kernel
theorem dX7_cancel_36 : decode cX7_cancel 36 = .ok (.getfield 12, 3) := by decide +kernel
theorem dX7_cancel_39 : decode cX7_cancel 39 = .ok (.iload_n 1, 1) := by decide +kernel
theorem dX7_cancel_40 : decode cX7_cancel 40 = .ok (.invokevirtual 159, 3) := by decide +kernel
theorem dX7_cancel_43 : decode cX7_cancel 43 = .ok (.ireturn, 1) := by decide +kernel
theorem dX7_told_0 : decode cX7_told 0 = .ok (.iload_n 1, 1) := by decide +kernel
theorem dX7_told_1 : decode cX7_told 1 = .ok (.tableswitch 111 0 6 #[43, 51, 59, 67, 83, 95, 100], 43) := by decide +kernel
theorem dX7_told_44 : decode cX7_told 44 = .ok (.aload_n 0, 1) := by decide +kernel
theorem dX7_told_45 : decode cX7_told 45 = .ok (.getfield 12, 3) := by decide +kernel
theorem dX7_told_48 : decode cX7_told 48 = .ok (.getfield 150, 3) := by decide +kernel
theorem dX7_told_51 : decode cX7_told 51 = .ok (.ireturn, 1) := by decide +kernel
theorem dX7_told_52 : decode cX7_told 52 = .ok (.aload_n 0, 1) := by decide +kernel
theorem dX7_told_53 : decode cX7_told 53 = .ok (.getfield 12, 3) := by decide +kernel
theorem dX7_told_56 : decode cX7_told 56 = .ok (.getfield 50, 3) := by decide +kernel
theorem dX7_told_59 : decode cX7_told 59 = .ok (.ireturn, 1) := by decide +kernel
theorem dX7_told_60 : decode cX7_told 60 = .ok (.aload_n 0, 1) := by decide +kernel
theorem dX7_told_61 : decode cX7_told 61 = .ok (.getfield 12, 3) := by decide +kernel
theorem dX7_told_64 : decode cX7_told 64 = .ok (.getfield 42, 3) := by decide +kernel
theorem dX7_told_67 : decode cX7_told 67 = .ok (.ireturn, 1) := by decide +kernel
theorem dX7_told_68 : decode cX7_told 68 = .ok (.aload_n 0, 1) := by decide +kernel
theorem dX7_told_69 : decode cX7_told 69 = .ok (.getfield 12, 3) := by decide +kernel
theorem dX7_told_72 : decode cX7_told 72 = .ok (.invokevirtual 162, 3) := by decide +kernel
theorem dX7_told_75 : decode cX7_told 75 = .ok (.ifCond .eq 7, 3) := by decide +kernel
theorem dX7_told_78 : decode cX7_told 78 = .ok (.iconst 1, 1) := by decide +kernel
theorem dX7_told_79 : decode cX7_told 79 = .ok (.goto 4, 3) := by decide +kernel
theorem dX7_told_82 : decode cX7_told 82 = .ok (.iconst 0, 1) := by decide +kernel
theorem dX7_told_83 : decode cX7_told 83 = .ok (.ireturn, 1) := by decide +kernel
theorem dX7_told_84 : decode cX7_told 84 = .ok (.aload_n 0, 1) := by decide +kernel
theorem dX7_told_85 : decode cX7_told 85 = .ok (.aload_n 0, 1) := by decide +kernel
theorem dX7_told_86 : decode cX7_told 86 = .ok (.getfield 12, 3) := by decide +kernel
theorem dX7_told_89 : decode cX7_told 89 = .ok (.getfield 42, 3) := by decide +kernel
theorem dX7_told_92 : decode cX7_told 92 = .ok (.invokevirtual 166, 3) := by decide +kernel
theorem dX7_told_95 : decode cX7_told 95 = .ok (.ireturn, 1) := by decide +kernel
theorem dX7_told_96 : decode cX7_told 96 = .ok (.aload_n 0, 1) := by decide +kernel
theorem dX7_told_97 : decode cX7_told 97 = .ok (.invokevirtual 169, 3) := by decide +kernel
theorem dX7_told_100 : decode cX7_told 100 = .ok (.ireturn, 1) := by decide +kernel
theorem dX7_told_101 : decode cX7_told 101 = .ok (.aload_n 0, 1) := by decide +kernel
theorem dX7_told_102 : decode cX7_told 102 = .ok (.getfield 12, 3) := by decide +kernel
theorem dX7_told_105 : decode cX7_told 105 = .ok (.getfield 172, 3) := by decide +kernel
theorem dX7_told_108 : decode cX7_told 108 = .ok (.getfield 176, 3) := by decide +kernel
theorem dX7_told_111 : decode cX7_told 111 = .ok (.ireturn, 1) := by decide +kernel
theorem dX7_told_112 : decode cX7_told 112 = .ok (.sipush (-10001), 3) := by decide +kernel
theorem dX7_told_115 : decode cX7_told 115 = .ok (.ireturn, 1) := by decide +kernel
theorem dX7_trace_0 : decode cX7_trace 0 = .ok (.aload_n 0, 1) := by decide +kernel
theorem dX7_trace_1 : decode cX7_trace 1 = .ok (.getfield 12, 3) := by decide +kernel
theorem dX7_trace_4 : decode cX7_trace 4 = .ok (.getfield 172, 3) := by decide +kernel
theorem dX7_trace_7 : decode cX7_trace 7 = .ok (.iload_n 1, 1) := by decide +kernel
theorem dX7_trace_8 : decode cX7_trace 8 = .ok (.iload_n 2, 1) := by decide +kernel
theorem dX7_trace_9 : decode cX7_trace 9 = .ok (.invokevirtual 179, 3) := by decide +kernel
theorem dX7_trace_12 : decode cX7_trace 12 = .ok (.ireturn, 1) := by decide +kernel
theorem dX7_on_0 : decode cX7_on 0 = .ok (.iload_n 2, 1) := by decide +kernel
theorem dX7_on_1 : decode cX7_on 1 = .ok (.ifCond .lt 8, 3) := by decide +kernel
theorem dX7_on_4 : decode cX7_on 4 = .ok (.iload_n 2, 1) := by decide +kernel
theorem dX7_on_5 : decode cX7_on 5 = .ok (.iconst 3, 1) := by decide +kernel
theorem dX7_on_6 : decode cX7_on 6 = .ok (.if_icmp .le 5, 3) := by decide +kernel
theorem dX7_on_9 : decode cX7_on 9 = .ok (.iconst (-1), 1) := by decide +kernel
theorem dX7_on_10 : decode cX7_on 10 = .ok (.ireturn, 1) := by decide +kernel
theorem dX7_on_11 : decode cX7_on 11 = .ok (.iload_n 1, 1) := by decide +kernel
theorem dX7_on_12 : decode cX7_on 12 = .ok (.ifCond .lt 9, 3) := by decide +kernel
theorem dX7_on_15 : decode cX7_on 15 = .ok (.iload_n 1, 1) := by decide +kernel
theorem dX7_on_16 : decode cX7_on 16 = .ok (.bipush 60, 2) := by decide +kernel
theorem dX7_on_18 : decode cX7_on 18 = .ok (.if_icmp .le 6, 3) := by decide +kernel
theorem dX7_on_21 : decode cX7_on 21 = .ok (.bipush (-2), 2) := by decide +kernel
theorem dX7_on_23 : decode cX7_on 23 = .ok (.ireturn, 1) := by decide +kernel
theorem dX7_on_24 : decode cX7_on 24 = .ok (.aload_n 0, 1) := by decide +kernel
theorem dX7_on_25 : decode cX7_on 25 = .ok (.getfield 21, 3) := by decide +kernel
theorem dX7_on_28 : decode cX7_on 28 = .ok (.aload_n 0, 1) := by decide +kernel
theorem dX7_on_29 : decode cX7_on 29 = .ok (.getfield 12, 3) := by decide +kernel
theorem dX7_on_32 : decode cX7_on 32 = .ok (.invokevirtual 183, 3) := by decide +kernel
theorem dX7_on_35 : decode cX7_on 35 = .ok (.aload_n 0, 1) := by decide +kernel
theorem dX7_on_36 : decode cX7_on 36 = .ok (.getfield 21, 3) := by decide +kernel
theorem dX7_on_39 : decode cX7_on 39 = .ok (.iload_n 1, 1) := by decide +kernel
theorem dX7_on_40 : decode cX7_on 40 = .ok (.invokevirtual 153, 3) := by decide +kernel
theorem dX7_on_43 : decode cX7_on 43 = .ok (.iload_n 2, 1) := by decide +kernel
theorem dX7_on_44 : decode cX7_on 44 = .ok (.tableswitch 58 0 2 #[28, 39, 50], 28) := by decide +kernel
theorem dX7_on_72 : decode cX7_on 72 = .ok (.aload_n 0, 1) := by decide +kernel
theorem dX7_on_73 : decode cX7_on 73 = .ok (.getfield 21, 3) := by decide +kernel
theorem dX7_on_76 : decode cX7_on 76 = .ok (.getfield 67, 3) := by decide +kernel
theorem dX7_on_79 : decode cX7_on 79 = .ok (.invokevirtual 187, 3) := by decide +kernel
theorem dX7_on_82 : decode cX7_on 82 = .ok (.ireturn, 1) := by decide +kernel
theorem dX7_on_83 : decode cX7_on 83 = .ok (.aload_n 0, 1) := by decide +kernel
theorem dX7_on_84 : decode cX7_on 84 = .ok (.getfield 21, 3) := by decide +kernel
theorem dX7_on_87 : decode cX7_on 87 = .ok (.getfield 67, 3) := by decide +kernel
theorem dX7_on_90 : decode cX7_on 90 = .ok (.invokevirtual 190, 3) := by decide +kernel
theorem dX7_on_93 : decode cX7_on 93 = .ok (.ireturn, 1) := by decide +kernel
theorem dX7_on_94 : decode cX7_on 94 = .ok (.aload_n 0, 1) := by decide +kernel
theorem dX7_on_95 : decode cX7_on 95 = .ok (.getfield 21, 3) := by decide +kernel
theorem dX7_on_98 : decode cX7_on 98 = .ok (.invokevirtual 193, 3) := by decide +kernel
theorem dX7_on_101 : decode cX7_on 101 = .ok (.ireturn, 1) := by decide +kernel
theorem dX7_on_102 : decode cX7_on 102 = .ok (.aload_n 0, 1) := by decide +kernel
theorem dX7_on_103 : decode cX7_on 103 = .ok (.getfield 21, 3) := by decide +kernel
theorem dX7_on_106 : decode cX7_on 106 = .ok (.invokevirtual 196, 3) := by decide +kernel
theorem dX7_on_109 : decode cX7_on 109 = .ok (.ireturn, 1) := by decide +kernel
theorem dX7_till_0 : decode cX7_till 0 = .ok (.iload_n 1, 1) := by decide +kernel
theorem dX7_till_1 : decode cX7_till 1 = .ok (.iconst 1, 1) := by decide +kernel
theorem dX7_till_2 : decode cX7_till 2 = .ok (.if_icmp .lt 8, 3) := by decide +kernel
theorem dX7_till_5 : decode cX7_till 5 = .ok (.iload_n 1, 1) := by decide +kernel
theorem dX7_till_6 : decode cX7_till 6 = .ok (.iconst 4, 1) := by decide +kernel
theorem dX7_till_7 : decode cX7_till 7 = .ok (.if_icmp .le 8, 3) := by decide +kernel
theorem dX7_till_10 : decode cX7_till 10 = .ok (.bipush (-2), 2) := by decide +kernel
theorem dX7_till_12 : decode cX7_till 12 = .ok (.goto 8, 3) := by decide +kernel
theorem dX7_till_15 : decode cX7_till 15 = .ok (.aload_n 0, 1) := by decide +kernel
theorem dX7_till_16 : decode cX7_till 16 = .ok (.iload_n 1, 1) := by decide +kernel
theorem dX7_till_17 : decode cX7_till 17 = .ok (.invokevirtual 166, 3) := by decide +kernel
theorem dX7_till_20 : decode cX7_till 20 = .ok (.ireturn, 1) := by decide +kernel
theorem dX7_see_0 : decode cX7_see 0 = .ok (.iload_n 1, 1) := by decide +kernel
theorem dX7_see_1 : decode cX7_see 1 = .ok (.iconst (-1), 1) := by decide +kernel
theorem dX7_see_2 : decode cX7_see 2 = .ok (.if_icmp .ne 14, 3) := by decide +kernel
theorem dX7_see_5 : decode cX7_see 5 = .ok (.aload_n 0, 1) := by decide +kernel
theorem dX7_see_6 : decode cX7_see 6 = .ok (.getfield 12, 3) := by decide +kernel
theorem dX7_see_9 : decode cX7_see 9 = .ok (.getfield 199, 3) := by decide +kernel
theorem dX7_see_12 : decode cX7_see 12 = .ok (.invokevirtual 203, 3) := by decide +kernel
theorem dX7_see_15 : decode cX7_see 15 = .ok (.ireturn, 1) := by decide +kernel
theorem dX7_see_16 : decode cX7_see 16 = .ok (.aload_n 0, 1) := by decide +kernel
theorem dX7_see_17 : decode cX7_see 17 = .ok (.getfield 12, 3) := by decide +kernel
theorem dX7_see_20 : decode cX7_see 20 = .ok (.getfield 67, 3) := by decide +kernel
theorem dX7_see_23 : decode cX7_see 23 = .ok (.iload_n 1, 1) := by decide +kernel
theorem dX7_see_24 : decode cX7_see 24 = .ok (.invokevirtual 100, 3) := by decide +kernel
theorem dX7_see_27 : decode cX7_see 27 = .ok (.ifCond .ne 5, 3) := by decide +kernel
theorem dX7_see_30 : decode cX7_see 30 = .ok (.iconst (-1), 1) := by decide +kernel
theorem dX7_see_31 : decode cX7_see 31 = .ok (.ireturn, 1) := by decide +kernel
theorem dX7_see_32 : decode cX7_see 32 = .ok (.iload_n 2, 1) := by decide +kernel
theorem dX7_see_33 : decode cX7_see 33 = .ok (.ifCond .lt 9, 3) := by decide +kernel
theorem dX7_see_36 : decode cX7_see 36 = .ok (.iload_n 2, 1) := by decide +kernel
theorem dX7_see_37 : decode cX7_see 37 = .ok (.bipush 40, 2) := by decide +kernel
theorem dX7_see_39 : decode cX7_see 39 = .ok (.if_icmp .lt 6, 3) := by decide +kernel
theorem dX7_see_42 : decode cX7_see 42 = .ok (.bipush (-2), 2) := by decide +kernel
theorem dX7_see_44 : decode cX7_see 44 = .ok (.ireturn, 1) := by decide +kernel
theorem dX7_see_45 : decode cX7_see 45 = .ok (.aload_n 0, 1) := by decide +kernel
theorem dX7_see_46 : decode cX7_see 46 = .ok (.getfield 12, 3) := by decide +kernel
theorem dX7_see_49 : decode cX7_see 49 = .ok (.getfield 199, 3) := by decide +kernel
theorem dX7_see_52 : decode cX7_see 52 = .ok (.iload_n 1, 1) := by decide +kernel
theorem dX7_see_53 : decode cX7_see 53 = .ok (.iload_n 2, 1) := by decide +kernel
theorem dX7_see_54 : decode cX7_see 54 = .ok (.invokevirtual 208, 3) := by decide +kernel
theorem dX7_see_57 : decode cX7_see 57 = .ok (.ireturn, 1) := by decide +kernel
theorem dX7_seeds_0 : decode cX7_seeds 0 = .ok (.iconst 0, 1) := by decide +kernel
theorem dX7_seeds_1 : decode cX7_seeds 1 = .ok (.istore_n 1, 1) := by decide +kernel
theorem dX7_seeds_2 : decode cX7_seeds 2 = .ok (.iconst 0, 1) := by decide +kernel
theorem dX7_seeds_3 : decode cX7_seeds 3 = .ok (.istore_n 2, 1) := by decide +kernel
theorem dX7_seeds_4 : decode cX7_seeds 4 = .ok (.iload_n 2, 1) := by decide +kernel
theorem dX7_seeds_5 : decode cX7_seeds 5 = .ok (.bipush 31, 2) := by decide +kernel
theorem dX7_seeds_7 : decode cX7_seeds 7 = .ok (.if_icmp .ge 23, 3) := by decide +kernel
theorem dX7_seeds_10 : decode cX7_seeds 10 = .ok (.aload_n 0, 1) := by decide +kernel
theorem dX7_seeds_11 : decode cX7_seeds 11 = .ok (.iload_n 2, 1) := by decide +kernel
theorem dX7_seeds_12 : decode cX7_seeds 12 = .ok (.invokevirtual 210, 3) := by decide +kernel
theorem dX7_seeds_15 : decode cX7_seeds 15 = .ok (.ifCond .eq 9, 3) := by decide +kernel
theorem dX7_seeds_18 : decode cX7_seeds 18 = .ok (.iload_n 1, 1) := by decide +kernel
theorem dX7_seeds_19 : decode cX7_seeds 19 = .ok (.iconst 1, 1) := by decide +kernel
theorem dX7_seeds_20 : decode cX7_seeds 20 = .ok (.iload_n 2, 1) := by decide +kernel
theorem dX7_seeds_21 : decode cX7_seeds 21 = .ok (.ishl, 1) := by decide +kernel
theorem dX7_seeds_22 : decode cX7_seeds 22 = .ok (.ior, 1) := by decide +kernel
theorem dX7_seeds_23 : decode cX7_seeds 23 = .ok (.istore_n 1, 1) := by decide +kernel
theorem dX7_seeds_24 : decode cX7_seeds 24 = .ok (.iinc 2 1, 3) := by decide +kernel
theorem dX7_seeds_27 : decode cX7_seeds 27 = .ok (.goto (-23), 3) := by decide +kernel
theorem dX7_seeds_30 : decode cX7_seeds 30 = .ok (.iload_n 1, 1) := by decide +kernel
theorem dX7_seeds_31 : decode cX7_seeds 31 = .ok (.ireturn, 1) := by decide +kernel
theorem dX7_odds_0 : decode cX7_odds 0 = .ok (.iload_n 1, 1) := by decide +kernel
theorem dX7_odds_1 : decode cX7_odds 1 = .ok (.ifCond .lt 18, 3) := by decide +kernel
theorem dX7_odds_4 : decode cX7_odds 4 = .ok (.iload_n 1, 1) := by decide +kernel
theorem dX7_odds_5 : decode cX7_odds 5 = .ok (.bipush 60, 2) := by decide +kernel
theorem dX7_odds_7 : decode cX7_odds 7 = .ok (.if_icmp .gt 12, 3) := by decide +kernel
theorem dX7_odds_10 : decode cX7_odds 10 = .ok (.iload_n 2, 1) := by decide +kernel
theorem dX7_odds_11 : decode cX7_odds 11 = .ok (.ifCond .lt 8, 3) := by decide +kernel
theorem dX7_odds_14 : decode cX7_odds 14 = .ok (.iload_n 2, 1) := by decide +kernel
theorem dX7_odds_15 : decode cX7_odds 15 = .ok (.iconst 1, 1) := by decide +kernel
theorem dX7_odds_16 : decode cX7_odds 16 = .ok (.if_icmp .le 7, 3) := by decide +kernel
theorem dX7_odds_19 : decode cX7_odds 19 = .ok (.ldc2_w 213, 3) := by decide +kernel
theorem dX7_odds_22 : decode cX7_odds 22 = .ok (.lreturn, 1) := by decide +kernel
theorem dX7_odds_23 : decode cX7_odds 23 = .ok (.iconst 0, 1) := by decide +kernel
theorem dX7_odds_24 : decode cX7_odds 24 = .ok (.istore_n 3, 1) := by decide +kernel
theorem dX7_odds_25 : decode cX7_odds 25 = .ok (.iconst 0, 1) := by decide +kernel
theorem dX7_odds_26 : decode cX7_odds 26 = .ok (.istore 4, 2) := by decide +kernel
theorem dX7_odds_28 : decode cX7_odds 28 = .ok (.iload 4, 2) := by decide +kernel
theorem dX7_odds_30 : decode cX7_odds 30 = .ok (.bipush 20, 2) := by decide +kernel
theorem dX7_odds_32 : decode cX7_odds 32 = .ok (.if_icmp .ge 50, 3) := by decide +kernel
theorem dX7_odds_35 : decode cX7_odds 35 = .ok (.aload_n 0, 1) := by decide +kernel
theorem dX7_odds_36 : decode cX7_odds 36 = .ok (.getfield 21, 3) := by decide +kernel
theorem dX7_odds_39 : decode cX7_odds 39 = .ok (.aload_n 0, 1) := by decide +kernel
theorem dX7_odds_40 : decode cX7_odds 40 = .ok (.getfield 12, 3) := by decide +kernel
theorem dX7_odds_43 : decode cX7_odds 43 = .ok (.invokevirtual 183, 3) := by decide +kernel
theorem dX7_odds_46 : decode cX7_odds 46 = .ok (.aload_n 0, 1) := by decide +kernel
theorem dX7_odds_47 : decode cX7_odds 47 = .ok (.getfield 21, 3) := by decide +kernel
theorem dX7_odds_50 : decode cX7_odds 50 = .ok (.iload 4, 2) := by decide +kernel
theorem dX7_odds_52 : decode cX7_odds 52 = .ok (.putfield 50, 3) := by decide +kernel
theorem dX7_odds_55 : decode cX7_odds 55 = .ok (.aload_n 0, 1) := by decide +kernel
theorem dX7_odds_56 : decode cX7_odds 56 = .ok (.getfield 21, 3) := by decide +kernel
theorem dX7_odds_59 : decode cX7_odds 59 = .ok (.iload_n 1, 1) := by decide +kernel
theorem dX7_odds_60 : decode cX7_odds 60 = .ok (.invokevirtual 215, 3) := by decide +kernel
theorem dX7_odds_63 : decode cX7_odds 63 = .ok (.aload_n 0, 1) := by decide +kernel
theorem dX7_odds_64 : decode cX7_odds 64 = .ok (.getfield 21, 3) := by decide +kernel
theorem dX7_odds_67 : decode cX7_odds 67 = .ok (.invokevirtual 162, 3) := by decide +kernel
theorem dX7_odds_70 : decode cX7_odds 70 = .ok (.ifCond .eq 6, 3) := by decide +kernel
theorem dX7_odds_73 : decode cX7_odds 73 = .ok (.iinc 3 1, 3) := by decide +kernel
theorem dX7_odds_76 : decode cX7_odds 76 = .ok (.iinc 4 1, 3) := by decide +kernel
theorem dX7_odds_79 : decode cX7_odds 79 = .ok (.goto (-51), 3) := by decide +kernel
theorem dX7_odds_82 : decode cX7_odds 82 = .ok (.iload_n 3, 1) := by decide +kernel
theorem dX7_odds_83 : decode cX7_odds 83 = .ok (.bipush 20, 2) := by decide +kernel
theorem dX7_odds_85 : decode cX7_odds 85 = .ok (.iload_n 2, 1) := by decide +kernel
theorem dX7_odds_86 : decode cX7_odds 86 = .ok (.invokestatic 218, 3) := by decide +kernel
theorem dX7_odds_89 : decode cX7_odds 89 = .ok (.i2l, 1) := by decide +kernel
theorem dX7_odds_90 : decode cX7_odds 90 = .ok (.lreturn, 1) := by decide +kernel
theorem dX7_mean_0 : decode cX7_mean 0 = .ok (.aload_n 0, 1) := by decide +kernel
theorem dX7_mean_1 : decode cX7_mean 1 = .ok (.getfield 12, 3) := by decide +kernel
theorem dX7_mean_4 : decode cX7_mean 4 = .ok (.getfield 67, 3) := by decide +kernel
theorem dX7_mean_7 : decode cX7_mean 7 = .ok (.invokevirtual 190, 3) := by decide +kernel
theorem dX7_mean_10 : decode cX7_mean 10 = .ok (.istore_n 2, 1) := by decide +kernel
theorem dX7_mean_11 : decode cX7_mean 11 = .ok (.iload_n 1, 1) := by decide +kernel
theorem dX7_mean_12 : decode cX7_mean 12 = .ok (.ifCond .lt 12, 3) := by decide +kernel
theorem dX7_mean_15 : decode cX7_mean 15 = .ok (.iload_n 1, 1) := by decide +kernel
theorem dX7_mean_16 : decode cX7_mean 16 = .ok (.iconst 1, 1) := by decide +kernel
theorem dX7_mean_17 : decode cX7_mean 17 = .ok (.if_icmp .gt 7, 3) := by decide +kernel
theorem dX7_mean_20 : decode cX7_mean 20 = .ok (.iload_n 2, 1) := by decide +kernel
theorem dX7_mean_21 : decode cX7_mean 21 = .ok (.ifCond .ne 7, 3) := by decide +kernel
theorem dX7_mean_24 : decode cX7_mean 24 = .ok (.ldc2_w 213, 3) := by decide +kernel
theorem dX7_mean_27 : decode cX7_mean 27 = .ok (.lreturn, 1) := by decide +kernel
theorem dX7_mean_28 : decode cX7_mean 28 = .ok (.aload_n 0, 1) := by decide +kernel
theorem dX7_mean_29 : decode cX7_mean 29 = .ok (.getfield 12, 3) := by decide +kernel
theorem dX7_mean_32 : decode cX7_mean 32 = .ok (.getfield 67, 3) := by decide +kernel
theorem dX7_mean_35 : decode cX7_mean 35 = .ok (.invokevirtual 222, 3) := by decide +kernel
theorem dX7_mean_38 : decode cX7_mean 38 = .ok (.iload_n 2, 1) := by decide +kernel
theorem dX7_mean_39 : decode cX7_mean 39 = .ok (.iload_n 1, 1) := by decide +kernel
theorem dX7_mean_40 : decode cX7_mean 40 = .ok (.invokestatic 218, 3) := by decide +kernel
theorem dX7_mean_43 : decode cX7_mean 43 = .ok (.i2l, 1) := by decide +kernel
theorem dX7_mean_44 : decode cX7_mean 44 = .ok (.lreturn, 1) := by decide +kernel
theorem dX7_plan_0 : decode cX7_plan 0 = .ok (.iload_n 1, 1) := by decide +kernel
theorem dX7_plan_1 : decode cX7_plan 1 = .ok (.iconst (-1), 1) := by decide +kernel
theorem dX7_plan_2 : decode cX7_plan 2 = .ok (.if_icmp .ne 14, 3) := by decide +kernel
theorem dX7_plan_5 : decode cX7_plan 5 = .ok (.aload_n 0, 1) := by decide +kernel
theorem dX7_plan_6 : decode cX7_plan 6 = .ok (.getfield 12, 3) := by decide +kernel
theorem dX7_plan_9 : decode cX7_plan 9 = .ok (.getfield 225, 3) := by decide +kernel
theorem dX7_plan_12 : decode cX7_plan 12 = .ok (.invokevirtual 203, 3) := by decide +kernel
theorem dX7_plan_15 : decode cX7_plan 15 = .ok (.ireturn, 1) := by decide +kernel
theorem dX7_plan_16 : decode cX7_plan 16 = .ok (.iload_n 1, 1) := by decide +kernel
theorem dX7_plan_17 : decode cX7_plan 17 = .ok (.ifCond .lt 8, 3) := by decide +kernel
theorem dX7_plan_20 : decode cX7_plan 20 = .ok (.iload_n 1, 1) := by decide +kernel
theorem dX7_plan_21 : decode cX7_plan 21 = .ok (.iconst 2, 1) := by decide +kernel
theorem dX7_plan_22 : decode cX7_plan 22 = .ok (.if_icmp .le 5, 3) := by decide +kernel
theorem dX7_plan_25 : decode cX7_plan 25 = .ok (.iconst (-1), 1) := by decide +kernel
theorem dX7_plan_26 : decode cX7_plan 26 = .ok (.ireturn, 1) := by decide +kernel
theorem dX7_plan_27 : decode cX7_plan 27 = .ok (.iload_n 1, 1) := by decide +kernel
theorem dX7_plan_28 : decode cX7_plan 28 = .ok (.iconst 1, 1) := by decide +kernel
theorem dX7_plan_29 : decode cX7_plan 29 = .ok (.if_icmp .ne 19, 3) := by decide +kernel
theorem dX7_plan_32 : decode cX7_plan 32 = .ok (.aload_n 0, 1) := by decide +kernel
theorem dX7_plan_33 : decode cX7_plan 33 = .ok (.getfield 12, 3) := by decide +kernel
theorem dX7_plan_36 : decode cX7_plan 36 = .ok (.getfield 67, 3) := by decide +kernel
theorem dX7_plan_39 : decode cX7_plan 39 = .ok (.iload_n 2, 1) := by decide +kernel
theorem dX7_plan_40 : decode cX7_plan 40 = .ok (.invokevirtual 100, 3) := by decide +kernel
theorem dX7_plan_43 : decode cX7_plan 43 = .ok (.ifCond .ne 5, 3) := by decide +kernel
theorem dX7_plan_46 : decode cX7_plan 46 = .ok (.iconst (-1), 1) := by decide +kernel
theorem dX7_plan_47 : decode cX7_plan 47 = .ok (.ireturn, 1) := by decide +kernel
theorem dX7_plan_48 : decode cX7_plan 48 = .ok (.aload_n 0, 1) := by decide +kernel
theorem dX7_plan_49 : decode cX7_plan 49 = .ok (.getfield 12, 3) := by decide +kernel
theorem dX7_plan_52 : decode cX7_plan 52 = .ok (.getfield 225, 3) := by decide +kernel
theorem dX7_plan_55 : decode cX7_plan 55 = .ok (.iload_n 1, 1) := by decide +kernel
theorem dX7_plan_56 : decode cX7_plan 56 = .ok (.iload_n 2, 1) := by decide +kernel
theorem dX7_plan_57 : decode cX7_plan 57 = .ok (.invokevirtual 208, 3) := by decide +kernel
theorem dX7_plan_60 : decode cX7_plan 60 = .ok (.ireturn, 1) := by decide +kernel
theorem dX7_ends_0 : decode cX7_ends 0 = .ok (.iload_n 1, 1) := by decide +kernel
theorem dX7_ends_1 : decode cX7_ends 1 = .ok (.ifCond .lt 8, 3) := by decide +kernel
theorem dX7_ends_4 : decode cX7_ends 4 = .ok (.iload_n 1, 1) := by decide +kernel
theorem dX7_ends_5 : decode cX7_ends 5 = .ok (.iconst 1, 1) := by decide +kernel
theorem dX7_ends_6 : decode cX7_ends 6 = .ok (.if_icmp .le 5, 3) := by decide +kernel
theorem dX7_ends_9 : decode cX7_ends 9 = .ok (.iconst (-1), 1) := by decide +kernel
theorem dX7_ends_10 : decode cX7_ends 10 = .ok (.ireturn, 1) := by decide +kernel
theorem dX7_ends_11 : decode cX7_ends 11 = .ok (.aload_n 0, 1) := by decide +kernel
theorem dX7_ends_12 : decode cX7_ends 12 = .ok (.getfield 21, 3) := by decide +kernel
theorem dX7_ends_15 : decode cX7_ends 15 = .ok (.aload_n 0, 1) := by decide +kernel
theorem dX7_ends_16 : decode cX7_ends 16 = .ok (.getfield 12, 3) := by decide +kernel
theorem dX7_ends_19 : decode cX7_ends 19 = .ok (.invokevirtual 183, 3) := by decide +kernel
theorem dX7_ends_22 : decode cX7_ends 22 = .ok (.iconst 0, 1) := by decide +kernel
theorem dX7_ends_23 : decode cX7_ends 23 = .ok (.istore_n 2, 1) := by decide +kernel
theorem dX7_ends_24 : decode cX7_ends 24 = .ok (.iload_n 2, 1) := by decide +kernel
theorem dX7_ends_25 : decode cX7_ends 25 = .ok (.aload_n 0, 1) := by decide +kernel
theorem dX7_ends_26 : decode cX7_ends 26 = .ok (.getfield 12, 3) := by decide +kernel
theorem dX7_ends_29 : decode cX7_ends 29 = .ok (.getfield 225, 3) := by decide +kernel
theorem dX7_ends_32 : decode cX7_ends 32 = .ok (.getfield 228, 3) := by decide +kernel
theorem dX7_ends_35 : decode cX7_ends 35 = .ok (.if_icmp .ge 40, 3) := by decide +kernel
theorem dX7_ends_38 : decode cX7_ends 38 = .ok (.aload_n 0, 1) := by decide +kernel
theorem dX7_ends_39 : decode cX7_ends 39 = .ok (.getfield 21, 3) := by decide +kernel
theorem dX7_ends_42 : decode cX7_ends 42 = .ok (.aload_n 0, 1) := by decide +kernel
theorem dX7_ends_43 : decode cX7_ends 43 = .ok (.getfield 12, 3) := by decide +kernel
theorem dX7_ends_46 : decode cX7_ends 46 = .ok (.getfield 225, 3) := by decide +kernel
theorem dX7_ends_49 : decode cX7_ends 49 = .ok (.getfield 229, 3) := by decide +kernel
theorem dX7_ends_52 : decode cX7_ends 52 = .ok (.iload_n 2, 1) := by decide +kernel
theorem dX7_ends_53 : decode cX7_ends 53 = .ok (.iaload, 1) := by decide +kernel
theorem dX7_ends_54 : decode cX7_ends 54 = .ok (.aload_n 0, 1) := by decide +kernel
theorem dX7_ends_55 : decode cX7_ends 55 = .ok (.getfield 12, 3) := by decide +kernel
theorem dX7_ends_58 : decode cX7_ends 58 = .ok (.getfield 225, 3) := by decide +kernel
theorem dX7_ends_61 : decode cX7_ends 61 = .ok (.getfield 232, 3) := by decide +kernel
theorem dX7_ends_64 : decode cX7_ends 64 = .ok (.iload_n 2, 1) := by decide +kernel
theorem dX7_ends_65 : decode cX7_ends 65 = .ok (.iaload, 1) := by decide +kernel
theorem dX7_ends_66 : decode cX7_ends 66 = .ok (.invokevirtual 235, 3) := by decide +kernel
theorem dX7_ends_69 : decode cX7_ends 69 = .ok (.iinc 2 1, 3) := by decide +kernel
theorem dX7_ends_72 : decode cX7_ends 72 = .ok (.goto (-48), 3) := by decide +kernel
theorem dX7_ends_75 : decode cX7_ends 75 = .ok (.iload_n 1, 1) := by decide +kernel
theorem dX7_ends_76 : decode cX7_ends 76 = .ok (.ifCond .ne 16, 3) := by decide +kernel
theorem dX7_ends_79 : decode cX7_ends 79 = .ok (.aload_n 0, 1) := by decide +kernel
theorem dX7_ends_80 : decode cX7_ends 80 = .ok (.getfield 21, 3) := by decide +kernel
theorem dX7_ends_83 : decode cX7_ends 83 = .ok (.getfield 67, 3) := by decide +kernel
theorem dX7_ends_86 : decode cX7_ends 86 = .ok (.invokevirtual 187, 3) := by decide +kernel
theorem dX7_ends_89 : decode cX7_ends 89 = .ok (.goto 13, 3) := by decide +kernel
theorem dX7_ends_92 : decode cX7_ends 92 = .ok (.aload_n 0, 1) := by decide +kernel
theorem dX7_ends_93 : decode cX7_ends 93 = .ok (.getfield 21, 3) := by decide +kernel
theorem dX7_ends_96 : decode cX7_ends 96 = .ok (.getfield 67, 3) := by decide +kernel
theorem dX7_ends_99 : decode cX7_ends 99 = .ok (.invokevirtual 222, 3) := by decide +kernel
theorem dX7_ends_102 : decode cX7_ends 102 = .ok (.ireturn, 1) := by decide +kernel
theorem dX7_book_0 : decode cX7_book 0 = .ok (.iload_n 1, 1) := by decide +kernel
theorem dX7_book_1 : decode cX7_book 1 = .ok (.iconst (-1), 1) := by decide +kernel
theorem dX7_book_2 : decode cX7_book 2 = .ok (.if_icmp .ne 14, 3) := by decide +kernel
theorem dX7_book_5 : decode cX7_book 5 = .ok (.aload_n 0, 1) := by decide +kernel
theorem dX7_book_6 : decode cX7_book 6 = .ok (.getfield 12, 3) := by decide +kernel
theorem dX7_book_9 : decode cX7_book 9 = .ok (.getfield 239, 3) := by decide +kernel
theorem dX7_book_12 : decode cX7_book 12 = .ok (.invokevirtual 203, 3) := by decide +kernel
theorem dX7_book_15 : decode cX7_book 15 = .ok (.ireturn, 1) := by decide +kernel
theorem dX7_book_16 : decode cX7_book 16 = .ok (.aload_n 0, 1) := by decide +kernel
theorem dX7_book_17 : decode cX7_book 17 = .ok (.getfield 12, 3) := by decide +kernel
theorem dX7_book_20 : decode cX7_book 20 = .ok (.getfield 67, 3) := by decide +kernel
theorem dX7_book_23 : decode cX7_book 23 = .ok (.iload_n 1, 1) := by decide +kernel
theorem dX7_book_24 : decode cX7_book 24 = .ok (.invokevirtual 100, 3) := by decide +kernel
theorem dX7_book_27 : decode cX7_book 27 = .ok (.ifCond .ne 5, 3) := by decide +kernel
theorem dX7_book_30 : decode cX7_book 30 = .ok (.iconst (-1), 1) := by decide +kernel
theorem dX7_book_31 : decode cX7_book 31 = .ok (.ireturn, 1) := by decide +kernel
theorem dX7_book_32 : decode cX7_book 32 = .ok (.iload_n 2, 1) := by decide +kernel
theorem dX7_book_33 : decode cX7_book 33 = .ok (.ifCond .lt 8, 3) := by decide +kernel
theorem dX7_book_36 : decode cX7_book 36 = .ok (.iload_n 2, 1) := by decide +kernel
theorem dX7_book_37 : decode cX7_book 37 = .ok (.iconst 5, 1) := by decide +kernel
theorem dX7_book_38 : decode cX7_book 38 = .ok (.if_icmp .le 6, 3) := by decide +kernel
theorem dX7_book_41 : decode cX7_book 41 = .ok (.bipush (-2), 2) := by decide +kernel
theorem dX7_book_43 : decode cX7_book 43 = .ok (.ireturn, 1) := by decide +kernel
theorem dX7_book_44 : decode cX7_book 44 = .ok (.aload_n 0, 1) := by decide +kernel
theorem dX7_book_45 : decode cX7_book 45 = .ok (.getfield 12, 3) := by decide +kernel
theorem dX7_book_48 : decode cX7_book 48 = .ok (.getfield 239, 3) := by decide +kernel
theorem dX7_book_51 : decode cX7_book 51 = .ok (.iload_n 1, 1) := by decide +kernel
theorem dX7_book_52 : decode cX7_book 52 = .ok (.iload_n 2, 1) := by decide +kernel
theorem dX7_book_53 : decode cX7_book 53 = .ok (.invokevirtual 208, 3) := by decide +kernel
theorem dX7_book_56 : decode cX7_book 56 = .ok (.ireturn, 1) := by decide +kernel
theorem dX7_looked_0 : decode cX7_looked 0 = .ok (.iconst 0, 1) := by decide +kernel
theorem dX7_looked_1 : decode cX7_looked 1 = .ok (.istore_n 1, 1) := by decide +kernel
theorem dX7_looked_2 : decode cX7_looked 2 = .ok (.iload_n 1, 1) := by decide +kernel
theorem dX7_looked_3 : decode cX7_looked 3 = .ok (.aload_n 0, 1) := by decide +kernel
theorem dX7_looked_4 : decode cX7_looked 4 = .ok (.getfield 12, 3) := by decide +kernel
theorem dX7_looked_7 : decode cX7_looked 7 = .ok (.getfield 239, 3) := by decide +kernel
theorem dX7_looked_10 : decode cX7_looked 10 = .ok (.getfield 228, 3) := by decide +kernel
theorem dX7_looked_13 : decode cX7_looked 13 = .ok (.if_icmp .ge 65, 3) := by decide +kernel
theorem dX7_looked_16 : decode cX7_looked 16 = .ok (.aload_n 0, 1) := by decide +kernel
theorem dX7_looked_17 : decode cX7_looked 17 = .ok (.getfield 12, 3) := by decide +kernel
theorem dX7_looked_20 : decode cX7_looked 20 = .ok (.getfield 239, 3) := by decide +kernel
theorem dX7_looked_23 : decode cX7_looked 23 = .ok (.getfield 229, 3) := by decide +kernel
theorem dX7_looked_26 : decode cX7_looked 26 = .ok (.iload_n 1, 1) := by decide +kernel
theorem dX7_looked_27 : decode cX7_looked 27 = .ok (.iaload, 1) := by decide +kernel
theorem dX7_looked_28 : decode cX7_looked 28 = .ok (.istore_n 2, 1) := by decide +kernel
theorem dX7_looked_29 : decode cX7_looked 29 = .ok (.aload_n 0, 1) := by decide +kernel
theorem dX7_looked_30 : decode cX7_looked 30 = .ok (.getfield 12, 3) := by decide +kernel
theorem dX7_looked_33 : decode cX7_looked 33 = .ok (.getfield 67, 3) := by decide +kernel
theorem dX7_looked_36 : decode cX7_looked 36 = .ok (.iload_n 2, 1) := by decide +kernel
theorem dX7_looked_37 : decode cX7_looked 37 = .ok (.invokevirtual 100, 3) := by decide +kernel
theorem dX7_looked_40 : decode cX7_looked 40 = .ok (.ifCond .eq 32, 3) := by decide +kernel
theorem dX7_looked_43 : decode cX7_looked 43 = .ok (.aload_n 0, 1) := by decide +kernel
theorem dX7_looked_44 : decode cX7_looked 44 = .ok (.getfield 12, 3) := by decide +kernel
theorem dX7_looked_47 : decode cX7_looked 47 = .ok (.getfield 67, 3) := by decide +kernel
theorem dX7_looked_50 : decode cX7_looked 50 = .ok (.getfield 103, 3) := by decide +kernel
theorem dX7_looked_53 : decode cX7_looked 53 = .ok (.iload_n 2, 1) := by decide +kernel
theorem dX7_looked_54 : decode cX7_looked 54 = .ok (.iaload, 1) := by decide +kernel
theorem dX7_looked_55 : decode cX7_looked 55 = .ok (.aload_n 0, 1) := by decide +kernel
theorem dX7_looked_56 : decode cX7_looked 56 = .ok (.getfield 12, 3) := by decide +kernel
theorem dX7_looked_59 : decode cX7_looked 59 = .ok (.getfield 239, 3) := by decide +kernel
theorem dX7_looked_62 : decode cX7_looked 62 = .ok (.getfield 232, 3) := by decide +kernel
theorem dX7_looked_65 : decode cX7_looked 65 = .ok (.iload_n 1, 1) := by decide +kernel
theorem dX7_looked_66 : decode cX7_looked 66 = .ok (.iaload, 1) := by decide +kernel
theorem dX7_looked_67 : decode cX7_looked 67 = .ok (.if_icmp .eq 5, 3) := by decide +kernel
theorem dX7_looked_70 : decode cX7_looked 70 = .ok (.iload_n 1, 1) := by decide +kernel
theorem dX7_looked_71 : decode cX7_looked 71 = .ok (.ireturn, 1) := by decide +kernel
theorem dX7_looked_72 : decode cX7_looked 72 = .ok (.iinc 1 1, 3) := by decide +kernel
theorem dX7_looked_75 : decode cX7_looked 75 = .ok (.goto (-73), 3) := by decide +kernel
theorem dX7_looked_78 : decode cX7_looked 78 = .ok (.bipush (-5), 2) := by decide +kernel
theorem dX7_looked_80 : decode cX7_looked 80 = .ok (.ireturn, 1) := by decide +kernel
theorem dX7_judge_0 : decode cX7_judge 0 = .ok (.aload_n 0, 1) := by decide +kernel
theorem dX7_judge_1 : decode cX7_judge 1 = .ok (.iload_n 1, 1) := by decide +kernel
theorem dX7_judge_2 : decode cX7_judge 2 = .ok (.invokevirtual 242, 3) := by decide +kernel
theorem dX7_judge_5 : decode cX7_judge 5 = .ok (.ifCond .ne 5, 3) := by decide +kernel
theorem dX7_judge_8 : decode cX7_judge 8 = .ok (.iconst (-1), 1) := by decide +kernel
theorem dX7_judge_9 : decode cX7_judge 9 = .ok (.ireturn, 1) := by decide +kernel
theorem dX7_judge_10 : decode cX7_judge 10 = .ok (.aload_n 0, 1) := by decide +kernel
theorem dX7_judge_11 : decode cX7_judge 11 = .ok (.getfield 33, 3) := by decide +kernel
theorem dX7_judge_14 : decode cX7_judge 14 = .ok (.iload_n 1, 1) := by decide +kernel
theorem dX7_judge_15 : decode cX7_judge 15 = .ok (.aaload, 1) := by decide +kernel
theorem dX7_judge_16 : decode cX7_judge 16 = .ok (.astore_n 3, 1) := by decide +kernel
theorem dX7_judge_17 : decode cX7_judge 17 = .ok (.aload_n 3, 1) := by decide +kernel
theorem dX7_judge_18 : decode cX7_judge 18 = .ok (.getfield 245, 3) := by decide +kernel
theorem dX7_judge_21 : decode cX7_judge 21 = .ok (.iconst (-1), 1) := by decide +kernel
theorem dX7_judge_22 : decode cX7_judge 22 = .ok (.if_icmp .eq 13, 3) := by decide +kernel
theorem dX7_judge_25 : decode cX7_judge 25 = .ok (.aload_n 3, 1) := by decide +kernel
theorem dX7_judge_26 : decode cX7_judge 26 = .ok (.getfield 245, 3) := by decide +kernel
theorem dX7_judge_29 : decode cX7_judge 29 = .ok (.ifCond .eq 6, 3) := by decide +kernel
theorem dX7_judge_32 : decode cX7_judge 32 = .ok (.bipush (-12), 2) := by decide +kernel
theorem dX7_judge_34 : decode cX7_judge 34 = .ok (.ireturn, 1) := by decide +kernel
theorem dX7_judge_35 : decode cX7_judge 35 = .ok (.aload_n 0, 1) := by decide +kernel
theorem dX7_judge_36 : decode cX7_judge 36 = .ok (.getfield 12, 3) := by decide +kernel
theorem dX7_judge_39 : decode cX7_judge 39 = .ok (.getfield 67, 3) := by decide +kernel
theorem dX7_judge_42 : decode cX7_judge 42 = .ok (.getfield 71, 3) := by decide +kernel
theorem dX7_judge_45 : decode cX7_judge 45 = .ok (.istore 4, 2) := by decide +kernel
theorem dX7_judge_47 : decode cX7_judge 47 = .ok (.iload_n 2, 1) := by decide +kernel
theorem dX7_judge_48 : decode cX7_judge 48 = .ok (.ifCond .ge 16, 3) := by decide +kernel
theorem dX7_judge_51 : decode cX7_judge 51 = .ok (.iload 4, 2) := by decide +kernel
theorem dX7_judge_53 : decode cX7_judge 53 = .ok (.ifCond .ne 8, 3) := by decide +kernel
theorem dX7_judge_56 : decode cX7_judge 56 = .ok (.bipush (-5), 2) := by decide +kernel
theorem dX7_judge_58 : decode cX7_judge 58 = .ok (.goto 5, 3) := by decide +kernel
theorem dX7_judge_61 : decode cX7_judge 61 = .ok (.bipush 100, 2) := by decide +kernel
theorem dX7_judge_63 : decode cX7_judge 63 = .ok (.ireturn, 1) := by decide +kernel
theorem dX7_judge_64 : decode cX7_judge 64 = .ok (.iconst 0, 1) := by decide +kernel
theorem dX7_judge_65 : decode cX7_judge 65 = .ok (.istore 5, 2) := by decide +kernel
theorem dX7_judge_67 : decode cX7_judge 67 = .ok (.iload 5, 2) := by decide +kernel
theorem dX7_judge_69 : decode cX7_judge 69 = .ok (.iload 4, 2) := by decide +kernel
theorem dX7_judge_71 : decode cX7_judge 71 = .ok (.if_icmp .ge 56, 3) := by decide +kernel
theorem dX7_judge_74 : decode cX7_judge 74 = .ok (.iload 5, 2) := by decide +kernel
theorem dX7_judge_76 : decode cX7_judge 76 = .ok (.aload_n 3, 1) := by decide +kernel
theorem dX7_judge_77 : decode cX7_judge 77 = .ok (.getfield 248, 3) := by decide +kernel
theorem dX7_judge_80 : decode cX7_judge 80 = .ok (.iload_n 2, 1) := by decide +kernel
theorem dX7_judge_81 : decode cX7_judge 81 = .ok (.isub, 1) := by decide +kernel
theorem dX7_judge_82 : decode cX7_judge 82 = .ok (.if_icmp .lt 9, 3) := by decide +kernel
theorem dX7_judge_85 : decode cX7_judge 85 = .ok (.bipush 100, 2) := by decide +kernel
theorem dX7_judge_87 : decode cX7_judge 87 = .ok (.iload 5, 2) := by decide +kernel
theorem dX7_judge_89 : decode cX7_judge 89 = .ok (.iadd, 1) := by decide +kernel
theorem dX7_judge_90 : decode cX7_judge 90 = .ok (.ireturn, 1) := by decide +kernel
theorem dX7_judge_91 : decode cX7_judge 91 = .ok (.aload_n 3, 1) := by decide +kernel
theorem dX7_judge_92 : decode cX7_judge 92 = .ok (.getfield 249, 3) := by decide +kernel
theorem dX7_judge_95 : decode cX7_judge 95 = .ok (.iload_n 2, 1) := by decide +kernel
theorem dX7_judge_96 : decode cX7_judge 96 = .ok (.iload 5, 2) := by decide +kernel
theorem dX7_judge_98 : decode cX7_judge 98 = .ok (.iadd, 1) := by decide +kernel
theorem dX7_judge_99 : decode cX7_judge 99 = .ok (.laload, 1) := by decide +kernel
theorem dX7_judge_100 : decode cX7_judge 100 = .ok (.aload_n 0, 1) := by decide +kernel
theorem dX7_judge_101 : decode cX7_judge 101 = .ok (.getfield 12, 3) := by decide +kernel
theorem dX7_judge_104 : decode cX7_judge 104 = .ok (.getfield 67, 3) := by decide +kernel
theorem dX7_judge_107 : decode cX7_judge 107 = .ok (.getfield 110, 3) := by decide +kernel
theorem dX7_judge_110 : decode cX7_judge 110 = .ok (.iload 5, 2) := by decide +kernel
theorem dX7_judge_112 : decode cX7_judge 112 = .ok (.iaload, 1) := by decide +kernel
theorem dX7_judge_113 : decode cX7_judge 113 = .ok (.i2l, 1) := by decide +kernel
theorem dX7_judge_114 : decode cX7_judge 114 = .ok (.lcmp, 1) := by decide +kernel
theorem dX7_judge_115 : decode cX7_judge 115 = .ok (.ifCond .eq 6, 3) := by decide +kernel
theorem dX7_judge_118 : decode cX7_judge 118 = .ok (.iload 5, 2) := by decide +kernel
theorem dX7_judge_120 : decode cX7_judge 120 = .ok (.ireturn, 1) := by decide +kernel
theorem dX7_judge_121 : decode cX7_judge 121 = .ok (.iinc 5 1, 3) := by decide +kernel
theorem dX7_judge_124 : decode cX7_judge 124 = .ok (.goto (-57), 3) := by decide +kernel
theorem dX7_judge_127 : decode cX7_judge 127 = .ok (.bipush (-5), 2) := by decide +kernel
theorem dX7_judge_129 : decode cX7_judge 129 = .ok (.ireturn, 1) := by decide +kernel
theorem dX7_image_0 : decode cX7_image 0 = .ok (.aload_n 0, 1) := by decide +kernel
theorem dX7_image_1 : decode cX7_image 1 = .ok (.getfield 18, 3) := by decide +kernel
theorem dX7_image_4 : decode cX7_image 4 = .ok (.aload_n 0, 1) := by decide +kernel
theorem dX7_image_5 : decode cX7_image 5 = .ok (.getfield 12, 3) := by decide +kernel
theorem dX7_image_8 : decode cX7_image 8 = .ok (.invokevirtual 183, 3) := by decide +kernel
theorem dX7_image_11 : decode cX7_image 11 = .ok (.aload_n 0, 1) := by decide +kernel
theorem dX7_image_12 : decode cX7_image 12 = .ok (.iconst 1, 1) := by decide +kernel
theorem dX7_image_13 : decode cX7_image 13 = .ok (.putfield 38, 3) := by decide +kernel
theorem dX7_image_16 : decode cX7_image 16 = .ok (.aload_n 0, 1) := by decide +kernel
theorem dX7_image_17 : decode cX7_image 17 = .ok (.getfield 18, 3) := by decide +kernel
theorem dX7_image_20 : decode cX7_image 20 = .ok (.getfield 67, 3) := by decide +kernel
theorem dX7_image_23 : decode cX7_image 23 = .ok (.getfield 71, 3) := by decide +kernel
theorem dX7_image_26 : decode cX7_image 26 = .ok (.ireturn, 1) := by decide +kernel
theorem dX7_undo_0 : decode cX7_undo 0 = .ok (.aload_n 0, 1) := by decide +kernel
theorem dX7_undo_1 : decode cX7_undo 1 = .ok (.getfield 38, 3) := by decide +kernel
theorem dX7_undo_4 : decode cX7_undo 4 = .ok (.ifCond .ne 6, 3) := by decide +kernel
theorem dX7_undo_7 : decode cX7_undo 7 = .ok (.bipush (-3), 2) := by decide +kernel
theorem dX7_undo_9 : decode cX7_undo 9 = .ok (.ireturn, 1) := by decide +kernel
theorem dX7_undo_10 : decode cX7_undo 10 = .ok (.aload_n 0, 1) := by decide +kernel
theorem dX7_undo_11 : decode cX7_undo 11 = .ok (.getfield 12, 3) := by decide +kernel
theorem dX7_undo_14 : decode cX7_undo 14 = .ok (.aload_n 0, 1) := by decide +kernel
theorem dX7_undo_15 : decode cX7_undo 15 = .ok (.getfield 18, 3) := by decide +kernel
theorem dX7_undo_18 : decode cX7_undo 18 = .ok (.invokevirtual 183, 3) := by decide +kernel
theorem dX7_undo_21 : decode cX7_undo 21 = .ok (.aload_n 0, 1) := by decide +kernel
theorem dX7_undo_22 : decode cX7_undo 22 = .ok (.getfield 12, 3) := by decide +kernel
theorem dX7_undo_25 : decode cX7_undo 25 = .ok (.getfield 67, 3) := by decide +kernel
theorem dX7_undo_28 : decode cX7_undo 28 = .ok (.getfield 71, 3) := by decide +kernel
theorem dX7_undo_31 : decode cX7_undo 31 = .ok (.ireturn, 1) := by decide +kernel
theorem dX7_count_0 : decode cX7_count 0 = .ok (.iload_n 1, 1) := by decide +kernel
theorem dX7_count_1 : decode cX7_count 1 = .ok (.tableswitch 102 0 5 #[39, 50, 61, 72, 83, 94], 39) := by decide +kernel
theorem dX7_count_40 : decode cX7_count 40 = .ok (.aload_n 0, 1) := by decide +kernel
theorem dX7_count_41 : decode cX7_count 41 = .ok (.getfield 12, 3) := by decide +kernel
theorem dX7_count_44 : decode cX7_count 44 = .ok (.getfield 67, 3) := by decide +kernel
theorem dX7_count_47 : decode cX7_count 47 = .ok (.getfield 71, 3) := by decide +kernel
theorem dX7_count_50 : decode cX7_count 50 = .ok (.ireturn, 1) := by decide +kernel
theorem dX7_count_51 : decode cX7_count 51 = .ok (.aload_n 0, 1) := by decide +kernel
theorem dX7_count_52 : decode cX7_count 52 = .ok (.getfield 12, 3) := by decide +kernel
theorem dX7_count_55 : decode cX7_count 55 = .ok (.getfield 67, 3) := by decide +kernel
theorem dX7_count_58 : decode cX7_count 58 = .ok (.invokevirtual 187, 3) := by decide +kernel
theorem dX7_count_61 : decode cX7_count 61 = .ok (.ireturn, 1) := by decide +kernel
theorem dX7_count_62 : decode cX7_count 62 = .ok (.aload_n 0, 1) := by decide +kernel
theorem dX7_count_63 : decode cX7_count 63 = .ok (.getfield 12, 3) := by decide +kernel
theorem dX7_count_66 : decode cX7_count 66 = .ok (.getfield 199, 3) := by decide +kernel
theorem dX7_count_69 : decode cX7_count 69 = .ok (.getfield 228, 3) := by decide +kernel
theorem dX7_count_72 : decode cX7_count 72 = .ok (.ireturn, 1) := by decide +kernel
theorem dX7_count_73 : decode cX7_count 73 = .ok (.aload_n 0, 1) := by decide +kernel
theorem dX7_count_74 : decode cX7_count 74 = .ok (.getfield 12, 3) := by decide +kernel
theorem dX7_count_77 : decode cX7_count 77 = .ok (.getfield 225, 3) := by decide +kernel
theorem dX7_count_80 : decode cX7_count 80 = .ok (.getfield 228, 3) := by decide +kernel
theorem dX7_count_83 : decode cX7_count 83 = .ok (.ireturn, 1) := by decide +kernel
theorem dX7_count_84 : decode cX7_count 84 = .ok (.aload_n 0, 1) := by decide +kernel
theorem dX7_count_85 : decode cX7_count 85 = .ok (.getfield 12, 3) := by decide +kernel
theorem dX7_count_88 : decode cX7_count 88 = .ok (.getfield 239, 3) := by decide +kernel
theorem dX7_count_91 : decode cX7_count 91 = .ok (.getfield 228, 3) := by decide +kernel
theorem dX7_count_94 : decode cX7_count 94 = .ok (.ireturn, 1) := by decide +kernel
theorem dX7_count_95 : decode cX7_count 95 = .ok (.aload_n 0, 1) := by decide +kernel
theorem dX7_count_96 : decode cX7_count 96 = .ok (.getfield 27, 3) := by decide +kernel
theorem dX7_count_99 : decode cX7_count 99 = .ok (.getfield 57, 3) := by decide +kernel
theorem dX7_count_102 : decode cX7_count 102 = .ok (.ireturn, 1) := by decide +kernel
theorem dX7_count_103 : decode cX7_count 103 = .ok (.bipush (-2), 2) := by decide +kernel
theorem dX7_count_105 : decode cX7_count 105 = .ok (.ireturn, 1) := by decide +kernel
theorem dX7_tape_0 : decode cX7_tape 0 = .ok (.aload_n 0, 1) := by decide +kernel
theorem dX7_tape_1 : decode cX7_tape 1 = .ok (.iload_n 1, 1) := by decide +kernel
theorem dX7_tape_2 : decode cX7_tape 2 = .ok (.invokevirtual 242, 3) := by decide +kernel
theorem dX7_tape_5 : decode cX7_tape 5 = .ok (.ifCond .ne 5, 3) := by decide +kernel
theorem dX7_tape_8 : decode cX7_tape 8 = .ok (.iconst (-1), 1) := by decide +kernel
theorem dX7_tape_9 : decode cX7_tape 9 = .ok (.ireturn, 1) := by decide +kernel
theorem dX7_tape_10 : decode cX7_tape 10 = .ok (.iload_n 2, 1) := by decide +kernel
theorem dX7_tape_11 : decode cX7_tape 11 = .ok (.iconst (-1), 1) := by decide +kernel
theorem dX7_tape_12 : decode cX7_tape 12 = .ok (.if_icmp .ne 16, 3) := by decide +kernel
theorem dX7_tape_15 : decode cX7_tape 15 = .ok (.aload_n 0, 1) := by decide +kernel
theorem dX7_tape_16 : decode cX7_tape 16 = .ok (.getfield 33, 3) := by decide +kernel
theorem dX7_tape_19 : decode cX7_tape 19 = .ok (.iload_n 1, 1) := by decide +kernel
theorem dX7_tape_20 : decode cX7_tape 20 = .ok (.aaload, 1) := by decide +kernel
theorem dX7_tape_21 : decode cX7_tape 21 = .ok (.iconst (-1), 1) := by decide +kernel
theorem dX7_tape_22 : decode cX7_tape 22 = .ok (.iconst 0, 1) := by decide +kernel
theorem dX7_tape_23 : decode cX7_tape 23 = .ok (.invokevirtual 253, 3) := by decide +kernel
theorem dX7_tape_26 : decode cX7_tape 26 = .ok (.iconst 1, 1) := by decide +kernel
theorem dX7_tape_27 : decode cX7_tape 27 = .ok (.ireturn, 1) := by decide +kernel
theorem dX7_tape_28 : decode cX7_tape 28 = .ok (.iload_n 2, 1) := by decide +kernel
theorem dX7_tape_29 : decode cX7_tape 29 = .ok (.ifCond .lt 14, 3) := by decide +kernel
theorem dX7_tape_32 : decode cX7_tape 32 = .ok (.iload_n 2, 1) := by decide +kernel
theorem dX7_tape_33 : decode cX7_tape 33 = .ok (.iconst 4, 1) := by decide +kernel
theorem dX7_tape_34 : decode cX7_tape 34 = .ok (.if_icmp .gt 9, 3) := by decide +kernel
theorem dX7_tape_37 : decode cX7_tape 37 = .ok (.iload_n 3, 1) := by decide +kernel
theorem dX7_tape_38 : decode cX7_tape 38 = .ok (.bipush 60, 2) := by decide +kernel
theorem dX7_tape_40 : decode cX7_tape 40 = .ok (.if_icmp .le 6, 3) := by decide +kernel
theorem dX7_tape_43 : decode cX7_tape 43 = .ok (.bipush (-2), 2) := by decide +kernel
theorem dX7_tape_45 : decode cX7_tape 45 = .ok (.ireturn, 1) := by decide +kernel
theorem dX7_tape_46 : decode cX7_tape 46 = .ok (.iload_n 3, 1) := by decide +kernel
theorem dX7_tape_47 : decode cX7_tape 47 = .ok (.ifCond .ge 6, 3) := by decide +kernel
theorem dX7_tape_50 : decode cX7_tape 50 = .ok (.bipush (-14), 2) := by decide +kernel
theorem dX7_tape_52 : decode cX7_tape 52 = .ok (.ireturn, 1) := by decide +kernel
theorem dX7_tape_53 : decode cX7_tape 53 = .ok (.aload_n 0, 1) := by decide +kernel
theorem dX7_tape_54 : decode cX7_tape 54 = .ok (.getfield 33, 3) := by decide +kernel
theorem dX7_tape_57 : decode cX7_tape 57 = .ok (.iload_n 1, 1) := by decide +kernel
theorem dX7_tape_58 : decode cX7_tape 58 = .ok (.aaload, 1) := by decide +kernel
theorem dX7_tape_59 : decode cX7_tape 59 = .ok (.iload_n 2, 1) := by decide +kernel
theorem dX7_tape_60 : decode cX7_tape 60 = .ok (.iload_n 3, 1) := by decide +kernel
theorem dX7_tape_61 : decode cX7_tape 61 = .ok (.invokevirtual 253, 3) := by decide +kernel
theorem dX7_tape_64 : decode cX7_tape 64 = .ok (.iconst 1, 1) := by decide +kernel
theorem dX7_tape_65 : decode cX7_tape 65 = .ok (.ireturn, 1) := by decide +kernel
theorem dX7_item_0 : decode cX7_item 0 = .ok (.aload_n 0, 1) := by decide +kernel
theorem dX7_item_1 : decode cX7_item 1 = .ok (.iload_n 1, 1) := by decide +kernel
theorem dX7_item_2 : decode cX7_item 2 = .ok (.invokevirtual 242, 3) := by decide +kernel
theorem dX7_item_5 : decode cX7_item 5 = .ok (.ifCond .ne 5, 3) := by decide +kernel
theorem dX7_item_8 : decode cX7_item 8 = .ok (.iconst (-1), 1) := by decide +kernel
theorem dX7_item_9 : decode cX7_item 9 = .ok (.ireturn, 1) := by decide +kernel
theorem dX7_item_10 : decode cX7_item 10 = .ok (.aload_n 0, 1) := by decide +kernel
theorem dX7_item_11 : decode cX7_item 11 = .ok (.getfield 33, 3) := by decide +kernel
theorem dX7_item_14 : decode cX7_item 14 = .ok (.iload_n 1, 1) := by decide +kernel
theorem dX7_item_15 : decode cX7_item 15 = .ok (.aaload, 1) := by decide +kernel
theorem dX7_item_16 : decode cX7_item 16 = .ok (.astore 5, 2) := by decide +kernel
theorem dX7_item_18 : decode cX7_item 18 = .ok (.aload 5, 2) := by decide +kernel
theorem dX7_item_20 : decode cX7_item 20 = .ok (.getfield 245, 3) := by decide +kernel
theorem dX7_item_23 : decode cX7_item 23 = .ok (.iconst (-1), 1) := by decide +kernel
theorem dX7_item_24 : decode cX7_item 24 = .ok (.if_icmp .ne 6, 3) := by decide +kernel
theorem dX7_item_27 : decode cX7_item 27 = .ok (.bipush (-11), 2) := by decide +kernel
theorem dX7_item_29 : decode cX7_item 29 = .ok (.ireturn, 1) := by decide +kernel
theorem dX7_item_30 : decode cX7_item 30 = .ok (.iload_n 2, 1) := by decide +kernel
theorem dX7_item_31 : decode cX7_item 31 = .ok (.ifCond .lt 12, 3) := by decide +kernel
theorem dX7_item_34 : decode cX7_item 34 = .ok (.iload_n 2, 1) := by decide +kernel
theorem dX7_item_35 : decode cX7_item 35 = .ok (.aload 5, 2) := by decide +kernel
theorem dX7_item_37 : decode cX7_item 37 = .ok (.getfield 248, 3) := by decide +kernel
theorem dX7_item_40 : decode cX7_item 40 = .ok (.if_icmp .lt 6, 3) := by decide +kernel
theorem dX7_item_43 : decode cX7_item 43 = .ok (.bipush (-13), 2) := by decide +kernel
theorem dX7_item_45 : decode cX7_item 45 = .ok (.ireturn, 1) := by decide +kernel
theorem dX7_item_46 : decode cX7_item 46 = .ok (.aload 5, 2) := by decide +kernel
theorem dX7_item_48 : decode cX7_item 48 = .ok (.getfield 249, 3) := by decide +kernel
theorem dX7_item_51 : decode cX7_item 51 = .ok (.iload_n 2, 1) := by decide +kernel
theorem dX7_item_52 : decode cX7_item 52 = .ok (.aload 5, 2) := by decide +kernel
theorem dX7_item_54 : decode cX7_item 54 = .ok (.lload_n 3, 1) := by decide +kernel
theorem dX7_item_55 : decode cX7_item 55 = .ok (.invokevirtual 256, 3) := by decide +kernel
theorem dX7_item_58 : decode cX7_item 58 = .ok (.lastore, 1) := by decide +kernel
theorem dX7_item_59 : decode cX7_item 59 = .ok (.iconst 1, 1) := by decide +kernel
theorem dX7_item_60 : decode cX7_item 60 = .ok (.ireturn, 1) := by decide +kernel
theorem dX7_read_0 : decode cX7_read 0 = .ok (.aload_n 0, 1) := by decide +kernel
theorem dX7_read_1 : decode cX7_read 1 = .ok (.iload_n 1, 1) := by decide +kernel
theorem dX7_read_2 : decode cX7_read 2 = .ok (.invokevirtual 242, 3) := by decide +kernel
theorem dX7_read_5 : decode cX7_read 5 = .ok (.ifCond .ne 7, 3) := by decide +kernel
theorem dX7_read_8 : decode cX7_read 8 = .ok (.ldc2_w 213, 3) := by decide +kernel
theorem dX7_read_11 : decode cX7_read 11 = .ok (.lreturn, 1) := by decide +kernel
theorem dX7_read_12 : decode cX7_read 12 = .ok (.aload_n 0, 1) := by decide +kernel
theorem dX7_read_13 : decode cX7_read 13 = .ok (.getfield 33, 3) := by decide +kernel
theorem dX7_read_16 : decode cX7_read 16 = .ok (.iload_n 1, 1) := by decide +kernel
theorem dX7_read_17 : decode cX7_read 17 = .ok (.aaload, 1) := by decide +kernel
theorem dX7_read_18 : decode cX7_read 18 = .ok (.astore_n 3, 1) := by decide +kernel
theorem dX7_read_19 : decode cX7_read 19 = .ok (.iload_n 2, 1) := by decide +kernel
theorem dX7_read_20 : decode cX7_read 20 = .ok (.ifCond .lt 11, 3) := by decide +kernel
theorem dX7_read_23 : decode cX7_read 23 = .ok (.iload_n 2, 1) := by decide +kernel
theorem dX7_read_24 : decode cX7_read 24 = .ok (.aload_n 3, 1) := by decide +kernel
theorem dX7_read_25 : decode cX7_read 25 = .ok (.getfield 248, 3) := by decide +kernel
theorem dX7_read_28 : decode cX7_read 28 = .ok (.if_icmp .lt 9, 3) := by decide +kernel
theorem dX7_read_31 : decode cX7_read 31 = .ok (.ldc2_w 213, 3) := by decide +kernel
theorem dX7_read_34 : decode cX7_read 34 = .ok (.goto 9, 3) := by decide +kernel
theorem dX7_read_37 : decode cX7_read 37 = .ok (.aload_n 3, 1) := by decide +kernel
theorem dX7_read_38 : decode cX7_read 38 = .ok (.getfield 249, 3) := by decide +kernel
theorem dX7_read_41 : decode cX7_read 41 = .ok (.iload_n 2, 1) := by decide +kernel
theorem dX7_read_42 : decode cX7_read 42 = .ok (.laload, 1) := by decide +kernel
theorem dX7_read_43 : decode cX7_read 43 = .ok (.lreturn, 1) := by decide +kernel
theorem dX7_shift_0 : decode cX7_shift 0 = .ok (.aload_n 0, 1) := by decide +kernel
theorem dX7_shift_1 : decode cX7_shift 1 = .ok (.iload_n 1, 1) := by decide +kernel
theorem dX7_shift_2 : decode cX7_shift 2 = .ok (.invokevirtual 242, 3) := by decide +kernel
theorem dX7_shift_5 : decode cX7_shift 5 = .ok (.ifCond .eq 11, 3) := by decide +kernel
theorem dX7_shift_8 : decode cX7_shift 8 = .ok (.aload_n 0, 1) := by decide +kernel
theorem dX7_shift_9 : decode cX7_shift 9 = .ok (.iload_n 3, 1) := by decide +kernel
theorem dX7_shift_10 : decode cX7_shift 10 = .ok (.invokevirtual 242, 3) := by decide +kernel
theorem dX7_shift_13 : decode cX7_shift 13 = .ok (.ifCond .ne 5, 3) := by decide +kernel
theorem dX7_shift_16 : decode cX7_shift 16 = .ok (.iconst (-1), 1) := by decide +kernel
theorem dX7_shift_17 : decode cX7_shift 17 = .ok (.ireturn, 1) := by decide +kernel
theorem dX7_shift_18 : decode cX7_shift 18 = .ok (.aload_n 0, 1) := by decide +kernel
theorem dX7_shift_19 : decode cX7_shift 19 = .ok (.getfield 33, 3) := by decide +kernel
theorem dX7_shift_22 : decode cX7_shift 22 = .ok (.iload_n 1, 1) := by decide +kernel
theorem dX7_shift_23 : decode cX7_shift 23 = .ok (.aaload, 1) := by decide +kernel
theorem dX7_shift_24 : decode cX7_shift 24 = .ok (.astore 6, 2) := by decide +kernel
theorem dX7_shift_26 : decode cX7_shift 26 = .ok (.aload_n 0, 1) := by decide +kernel
theorem dX7_shift_27 : decode cX7_shift 27 = .ok (.getfield 33, 3) := by decide +kernel
theorem dX7_shift_30 : decode cX7_shift 30 = .ok (.iload_n 3, 1) := by decide +kernel
theorem dX7_shift_31 : decode cX7_shift 31 = .ok (.aaload, 1) := by decide +kernel
theorem dX7_shift_32 : decode cX7_shift 32 = .ok (.astore 7, 2) := by decide +kernel
theorem dX7_shift_34 : decode cX7_shift 34 = .ok (.aload 6, 2) := by decide +kernel
theorem dX7_shift_36 : decode cX7_shift 36 = .ok (.getfield 245, 3) := by decide +kernel
theorem dX7_shift_39 : decode cX7_shift 39 = .ok (.iconst (-1), 1) := by decide +kernel
theorem dX7_shift_40 : decode cX7_shift 40 = .ok (.if_icmp .eq 12, 3) := by decide +kernel
theorem dX7_shift_43 : decode cX7_shift 43 = .ok (.aload 7, 2) := by decide +kernel
theorem dX7_shift_45 : decode cX7_shift 45 = .ok (.getfield 245, 3) := by decide +kernel
theorem dX7_shift_48 : decode cX7_shift 48 = .ok (.iconst (-1), 1) := by decide +kernel
theorem dX7_shift_49 : decode cX7_shift 49 = .ok (.if_icmp .ne 6, 3) := by decide +kernel
theorem dX7_shift_52 : decode cX7_shift 52 = .ok (.bipush (-11), 2) := by decide +kernel
theorem dX7_shift_54 : decode cX7_shift 54 = .ok (.ireturn, 1) := by decide +kernel
theorem dX7_shift_55 : decode cX7_shift 55 = .ok (.aload 6, 2) := by decide +kernel
theorem dX7_shift_57 : decode cX7_shift 57 = .ok (.getfield 245, 3) := by decide +kernel
theorem dX7_shift_60 : decode cX7_shift 60 = .ok (.aload 7, 2) := by decide +kernel
theorem dX7_shift_62 : decode cX7_shift 62 = .ok (.getfield 245, 3) := by decide +kernel
theorem dX7_shift_65 : decode cX7_shift 65 = .ok (.if_icmp .eq 6, 3) := by decide +kernel
theorem dX7_shift_68 : decode cX7_shift 68 = .ok (.bipush (-12), 2) := by decide +kernel
theorem dX7_shift_70 : decode cX7_shift 70 = .ok (.ireturn, 1) := by decide +kernel
theorem dX7_shift_71 : decode cX7_shift 71 = .ok (.iload 5, 2) := by decide +kernel
theorem dX7_shift_73 : decode cX7_shift 73 = .ok (.ifCond .lt 37, 3) := by decide +kernel
theorem dX7_shift_76 : decode cX7_shift 76 = .ok (.iload_n 2, 1) := by decide +kernel
theorem dX7_shift_77 : decode cX7_shift 77 = .ok (.ifCond .lt 33, 3) := by decide +kernel
theorem dX7_shift_80 : decode cX7_shift 80 = .ok (.iload 4, 2) := by decide +kernel
theorem dX7_shift_82 : decode cX7_shift 82 = .ok (.ifCond .lt 28, 3) := by decide +kernel
theorem dX7_shift_85 : decode cX7_shift 85 = .ok (.iload 5, 2) := by decide +kernel
theorem dX7_shift_87 : decode cX7_shift 87 = .ok (.aload 6, 2) := by decide +kernel
theorem dX7_shift_89 : decode cX7_shift 89 = .ok (.getfield 248, 3) := by decide +kernel
theorem dX7_shift_92 : decode cX7_shift 92 = .ok (.iload_n 2, 1) := by decide +kernel
theorem dX7_shift_93 : decode cX7_shift 93 = .ok (.isub, 1) := by decide +kernel
theorem dX7_shift_94 : decode cX7_shift 94 = .ok (.if_icmp .gt 16, 3) := by decide +kernel
theorem dX7_shift_97 : decode cX7_shift 97 = .ok (.iload 5, 2) := by decide +kernel
theorem dX7_shift_99 : decode cX7_shift 99 = .ok (.aload 7, 2) := by decide +kernel
theorem dX7_shift_101 : decode cX7_shift 101 = .ok (.getfield 248, 3) := by decide +kernel
theorem dX7_shift_104 : decode cX7_shift 104 = .ok (.iload 4, 2) := by decide +kernel
theorem dX7_shift_106 : decode cX7_shift 106 = .ok (.isub, 1) := by decide +kernel
theorem dX7_shift_107 : decode cX7_shift 107 = .ok (.if_icmp .le 6, 3) := by decide +kernel
theorem dX7_shift_110 : decode cX7_shift 110 = .ok (.bipush (-13), 2) := by decide +kernel
theorem dX7_shift_112 : decode cX7_shift 112 = .ok (.ireturn, 1) := by decide +kernel
theorem dX7_shift_113 : decode cX7_shift 113 = .ok (.aload 6, 2) := by decide +kernel
theorem dX7_shift_115 : decode cX7_shift 115 = .ok (.getfield 249, 3) := by decide +kernel
theorem dX7_shift_118 : decode cX7_shift 118 = .ok (.iload_n 2, 1) := by decide +kernel
theorem dX7_shift_119 : decode cX7_shift 119 = .ok (.aload 7, 2) := by decide +kernel
theorem dX7_shift_121 : decode cX7_shift 121 = .ok (.getfield 249, 3) := by decide +kernel
theorem dX7_shift_124 : decode cX7_shift 124 = .ok (.iload 4, 2) := by decide +kernel
theorem dX7_shift_126 : decode cX7_shift 126 = .ok (.iload 5, 2) := by decide +kernel
theorem dX7_shift_128 : decode cX7_shift 128 = .ok (.invokestatic 260, 3) := by decide +kernel
theorem dX7_shift_131 : decode cX7_shift 131 = .ok (.iload 5, 2) := by decide +kernel
theorem dX7_shift_133 : decode cX7_shift 133 = .ok (.ireturn, 1) := by decide +kernel
theorem dX7_isArm_0 : decode cX7_isArm 0 = .ok (.iload_n 1, 1) := by decide +kernel
theorem dX7_isArm_1 : decode cX7_isArm 1 = .ok (.ifCond .lt 18, 3) := by decide +kernel
theorem dX7_isArm_4 : decode cX7_isArm 4 = .ok (.iload_n 1, 1) := by decide +kernel
theorem dX7_isArm_5 : decode cX7_isArm 5 = .ok (.aload_n 0, 1) := by decide +kernel
theorem dX7_isArm_6 : decode cX7_isArm 6 = .ok (.getfield 12, 3) := by decide +kernel
theorem dX7_isArm_9 : decode cX7_isArm 9 = .ok (.getfield 42, 3) := by decide +kernel
theorem dX7_isArm_12 : decode cX7_isArm 12 = .ok (.if_icmp .ge 7, 3) := by decide +kernel
theorem dX7_isArm_15 : decode cX7_isArm 15 = .ok (.iconst 1, 1) := by decide +kernel
theorem dX7_isArm_16 : decode cX7_isArm 16 = .ok (.goto 4, 3) := by decide +kernel
theorem dX7_isArm_19 : decode cX7_isArm 19 = .ok (.iconst 0, 1) := by decide +kernel
theorem dX7_isArm_20 : decode cX7_isArm 20 = .ok (.ireturn, 1) := by decide +kernel
theorem dX7_isTape_0 : decode cX7_isTape 0 = .ok (.iload_n 1, 1) := by decide +kernel
theorem dX7_isTape_1 : decode cX7_isTape 1 = .ok (.ifCond .lt 16, 3) := by decide +kernel
theorem dX7_isTape_4 : decode cX7_isTape 4 = .ok (.iload_n 1, 1) := by decide +kernel
theorem dX7_isTape_5 : decode cX7_isTape 5 = .ok (.aload_n 0, 1) := by decide +kernel
theorem dX7_isTape_6 : decode cX7_isTape 6 = .ok (.getfield 33, 3) := by decide +kernel
theorem dX7_isTape_9 : decode cX7_isTape 9 = .ok (.arraylength, 1) := by decide +kernel
theorem dX7_isTape_10 : decode cX7_isTape 10 = .ok (.if_icmp .ge 7, 3) := by decide +kernel
theorem dX7_isTape_13 : decode cX7_isTape 13 = .ok (.iconst 1, 1) := by decide +kernel
theorem dX7_isTape_14 : decode cX7_isTape 14 = .ok (.goto 4, 3) := by decide +kernel
theorem dX7_isTape_17 : decode cX7_isTape 17 = .ok (.iconst 0, 1) := by decide +kernel
theorem dX7_isTape_18 : decode cX7_isTape 18 = .ok (.ireturn, 1) := by decide +kernel
theorem dX7_roundsTillOver_0 : decode cX7_roundsTillOver 0 = .ok (.aload_n 0, 1) := by decide +kernel
theorem dX7_roundsTillOver_1 : decode cX7_roundsTillOver 1 = .ok (.getfield 21, 3) := by decide +kernel
theorem dX7_roundsTillOver_4 : decode cX7_roundsTillOver 4 = .ok (.aload_n 0, 1) := by decide +kernel
theorem dX7_roundsTillOver_5 : decode cX7_roundsTillOver 5 = .ok (.getfield 12, 3) := by decide +kernel
theorem dX7_roundsTillOver_8 : decode cX7_roundsTillOver 8 = .ok (.invokevirtual 183, 3) := by decide +kernel
theorem dX7_roundsTillOver_11 : decode cX7_roundsTillOver 11 = .ok (.aload_n 0, 1) := by decide +kernel
theorem dX7_roundsTillOver_12 : decode cX7_roundsTillOver 12 = .ok (.getfield 21, 3) := by decide +kernel
theorem dX7_roundsTillOver_15 : decode cX7_roundsTillOver 15 = .ok (.iload_n 1, 1) := by decide +kernel
theorem dX7_roundsTillOver_16 : decode cX7_roundsTillOver 16 = .ok (.invokevirtual 46, 3) := by decide +kernel
theorem dX7_roundsTillOver_19 : decode cX7_roundsTillOver 19 = .ok (.iconst 0, 1) := by decide +kernel
theorem dX7_roundsTillOver_20 : decode cX7_roundsTillOver 20 = .ok (.istore_n 2, 1) := by decide +kernel
theorem dX7_roundsTillOver_21 : decode cX7_roundsTillOver 21 = .ok (.iload_n 2, 1) := by decide +kernel
theorem dX7_roundsTillOver_22 : decode cX7_roundsTillOver 22 = .ok (.sipush 300, 3) := by decide +kernel
theorem dX7_roundsTillOver_25 : decode cX7_roundsTillOver 25 = .ok (.if_icmp .gt 28, 3) := by decide +kernel
theorem dX7_roundsTillOver_28 : decode cX7_roundsTillOver 28 = .ok (.aload_n 0, 1) := by decide +kernel
theorem dX7_roundsTillOver_29 : decode cX7_roundsTillOver 29 = .ok (.getfield 21, 3) := by decide +kernel
theorem dX7_roundsTillOver_32 : decode cX7_roundsTillOver 32 = .ok (.invokevirtual 162, 3) := by decide +kernel
theorem dX7_roundsTillOver_35 : decode cX7_roundsTillOver 35 = .ok (.ifCond .eq 5, 3) := by decide +kernel
theorem dX7_roundsTillOver_38 : decode cX7_roundsTillOver 38 = .ok (.iload_n 2, 1) := by decide +kernel
theorem dX7_roundsTillOver_39 : decode cX7_roundsTillOver 39 = .ok (.ireturn, 1) := by decide +kernel
theorem dX7_roundsTillOver_40 : decode cX7_roundsTillOver 40 = .ok (.aload_n 0, 1) := by decide +kernel
theorem dX7_roundsTillOver_41 : decode cX7_roundsTillOver 41 = .ok (.getfield 21, 3) := by decide +kernel
theorem dX7_roundsTillOver_44 : decode cX7_roundsTillOver 44 = .ok (.invokevirtual 266, 3) := by decide +kernel
theorem dX7_roundsTillOver_47 : decode cX7_roundsTillOver 47 = .ok (.iinc 2 1, 3) := by decide +kernel
theorem dX7_roundsTillOver_50 : decode cX7_roundsTillOver 50 = .ok (.goto (-29), 3) := by decide +kernel
theorem dX7_roundsTillOver_53 : decode cX7_roundsTillOver 53 = .ok (.bipush (-5), 2) := by decide +kernel
theorem dX7_roundsTillOver_55 : decode cX7_roundsTillOver 55 = .ok (.ireturn, 1) := by decide +kernel
theorem dX7_bestArms_0 : decode cX7_bestArms 0 = .ok (.bipush (-5), 2) := by decide +kernel
theorem dX7_bestArms_2 : decode cX7_bestArms 2 = .ok (.istore_n 1, 1) := by decide +kernel
theorem dX7_bestArms_3 : decode cX7_bestArms 3 = .ok (.sipush 301, 3) := by decide +kernel
theorem dX7_bestArms_6 : decode cX7_bestArms 6 = .ok (.istore_n 2, 1) := by decide +kernel
theorem dX7_bestArms_7 : decode cX7_bestArms 7 = .ok (.iconst 1, 1) := by decide +kernel
theorem dX7_bestArms_8 : decode cX7_bestArms 8 = .ok (.istore_n 3, 1) := by decide +kernel
theorem dX7_bestArms_9 : decode cX7_bestArms 9 = .ok (.iload_n 3, 1) := by decide +kernel
theorem dX7_bestArms_10 : decode cX7_bestArms 10 = .ok (.iconst 4, 1) := by decide +kernel
theorem dX7_bestArms_11 : decode cX7_bestArms 11 = .ok (.if_icmp .gt 34, 3) := by decide +kernel
theorem dX7_bestArms_14 : decode cX7_bestArms 14 = .ok (.aload_n 0, 1) := by decide +kernel
theorem dX7_bestArms_15 : decode cX7_bestArms 15 = .ok (.iload_n 3, 1) := by decide +kernel
theorem dX7_bestArms_16 : decode cX7_bestArms 16 = .ok (.invokevirtual 166, 3) := by decide +kernel
theorem dX7_bestArms_19 : decode cX7_bestArms 19 = .ok (.istore 4, 2) := by decide +kernel
theorem dX7_bestArms_21 : decode cX7_bestArms 21 = .ok (.iload 4, 2) := by decide +kernel
theorem dX7_bestArms_23 : decode cX7_bestArms 23 = .ok (.bipush (-5), 2) := by decide +kernel
theorem dX7_bestArms_25 : decode cX7_bestArms 25 = .ok (.if_icmp .eq 14, 3) := by decide +kernel
theorem dX7_bestArms_28 : decode cX7_bestArms 28 = .ok (.iload 4, 2) := by decide +kernel
theorem dX7_bestArms_30 : decode cX7_bestArms 30 = .ok (.iload_n 2, 1) := by decide +kernel
theorem dX7_bestArms_31 : decode cX7_bestArms 31 = .ok (.if_icmp .ge 8, 3) := by decide +kernel
theorem dX7_bestArms_34 : decode cX7_bestArms 34 = .ok (.iload 4, 2) := by decide +kernel
theorem dX7_bestArms_36 : decode cX7_bestArms 36 = .ok (.istore_n 2, 1) := by decide +kernel
theorem dX7_bestArms_37 : decode cX7_bestArms 37 = .ok (.iload_n 3, 1) := by decide +kernel
theorem dX7_bestArms_38 : decode cX7_bestArms 38 = .ok (.istore_n 1, 1) := by decide +kernel
theorem dX7_bestArms_39 : decode cX7_bestArms 39 = .ok (.iinc 3 1, 3) := by decide +kernel
theorem dX7_bestArms_42 : decode cX7_bestArms 42 = .ok (.goto (-33), 3) := by decide +kernel
theorem dX7_bestArms_45 : decode cX7_bestArms 45 = .ok (.iload_n 1, 1) := by decide +kernel
theorem dX7_bestArms_46 : decode cX7_bestArms 46 = .ok (.ireturn, 1) := by decide +kernel
theorem dX7_isAsSeen_0 : decode cX7_isAsSeen 0 = .ok (.aload_n 0, 1) := by decide +kernel
theorem dX7_isAsSeen_1 : decode cX7_isAsSeen 1 = .ok (.getfield 21, 3) := by decide +kernel
theorem dX7_isAsSeen_4 : decode cX7_isAsSeen 4 = .ok (.aload_n 0, 1) := by decide +kernel
theorem dX7_isAsSeen_5 : decode cX7_isAsSeen 5 = .ok (.getfield 12, 3) := by decide +kernel
theorem dX7_isAsSeen_8 : decode cX7_isAsSeen 8 = .ok (.invokevirtual 183, 3) := by decide +kernel
theorem dX7_isAsSeen_11 : decode cX7_isAsSeen 11 = .ok (.aload_n 0, 1) := by decide +kernel
theorem dX7_isAsSeen_12 : decode cX7_isAsSeen 12 = .ok (.getfield 21, 3) := by decide +kernel
theorem dX7_isAsSeen_15 : decode cX7_isAsSeen 15 = .ok (.iload_n 1, 1) := by decide +kernel
theorem dX7_isAsSeen_16 : decode cX7_isAsSeen 16 = .ok (.putfield 50, 3) := by decide +kernel
theorem dX7_isAsSeen_19 : decode cX7_isAsSeen 19 = .ok (.aload_n 0, 1) := by decide +kernel
theorem dX7_isAsSeen_20 : decode cX7_isAsSeen 20 = .ok (.getfield 21, 3) := by decide +kernel
theorem dX7_isAsSeen_23 : decode cX7_isAsSeen 23 = .ok (.getfield 172, 3) := by decide +kernel
theorem dX7_isAsSeen_26 : decode cX7_isAsSeen 26 = .ok (.invokevirtual 269, 3) := by decide +kernel
theorem dX7_isAsSeen_29 : decode cX7_isAsSeen 29 = .ok (.aload_n 0, 1) := by decide +kernel
theorem dX7_isAsSeen_30 : decode cX7_isAsSeen 30 = .ok (.getfield 21, 3) := by decide +kernel
theorem dX7_isAsSeen_33 : decode cX7_isAsSeen 33 = .ok (.bipush 60, 2) := by decide +kernel
theorem dX7_isAsSeen_35 : decode cX7_isAsSeen 35 = .ok (.invokevirtual 215, 3) := by decide +kernel
theorem dX7_isAsSeen_38 : decode cX7_isAsSeen 38 = .ok (.iconst 0, 1) := by decide +kernel
theorem dX7_isAsSeen_39 : decode cX7_isAsSeen 39 = .ok (.istore_n 2, 1) := by decide +kernel
theorem dX7_isAsSeen_40 : decode cX7_isAsSeen 40 = .ok (.iload_n 2, 1) := by decide +kernel
theorem dX7_isAsSeen_41 : decode cX7_isAsSeen 41 = .ok (.aload_n 0, 1) := by decide +kernel
theorem dX7_isAsSeen_42 : decode cX7_isAsSeen 42 = .ok (.getfield 12, 3) := by decide +kernel
theorem dX7_isAsSeen_45 : decode cX7_isAsSeen 45 = .ok (.getfield 199, 3) := by decide +kernel
theorem dX7_isAsSeen_48 : decode cX7_isAsSeen 48 = .ok (.getfield 228, 3) := by decide +kernel
theorem dX7_isAsSeen_51 : decode cX7_isAsSeen 51 = .ok (.if_icmp .ge 48, 3) := by decide +kernel
theorem dX7_isAsSeen_54 : decode cX7_isAsSeen 54 = .ok (.aload_n 0, 1) := by decide +kernel
theorem dX7_isAsSeen_55 : decode cX7_isAsSeen 55 = .ok (.getfield 21, 3) := by decide +kernel
theorem dX7_isAsSeen_58 : decode cX7_isAsSeen 58 = .ok (.getfield 172, 3) := by decide +kernel
theorem dX7_isAsSeen_61 : decode cX7_isAsSeen 61 = .ok (.aload_n 0, 1) := by decide +kernel
theorem dX7_isAsSeen_62 : decode cX7_isAsSeen 62 = .ok (.getfield 12, 3) := by decide +kernel
theorem dX7_isAsSeen_65 : decode cX7_isAsSeen 65 = .ok (.getfield 199, 3) := by decide +kernel
theorem dX7_isAsSeen_68 : decode cX7_isAsSeen 68 = .ok (.getfield 232, 3) := by decide +kernel
theorem dX7_isAsSeen_71 : decode cX7_isAsSeen 71 = .ok (.iload_n 2, 1) := by decide +kernel
theorem dX7_isAsSeen_72 : decode cX7_isAsSeen 72 = .ok (.iaload, 1) := by decide +kernel
theorem dX7_isAsSeen_73 : decode cX7_isAsSeen 73 = .ok (.invokevirtual 272, 3) := by decide +kernel
theorem dX7_isAsSeen_76 : decode cX7_isAsSeen 76 = .ok (.aload_n 0, 1) := by decide +kernel
theorem dX7_isAsSeen_77 : decode cX7_isAsSeen 77 = .ok (.getfield 12, 3) := by decide +kernel
theorem dX7_isAsSeen_80 : decode cX7_isAsSeen 80 = .ok (.getfield 199, 3) := by decide +kernel
theorem dX7_isAsSeen_83 : decode cX7_isAsSeen 83 = .ok (.getfield 229, 3) := by decide +kernel
theorem dX7_isAsSeen_86 : decode cX7_isAsSeen 86 = .ok (.iload_n 2, 1) := by decide +kernel
theorem dX7_isAsSeen_87 : decode cX7_isAsSeen 87 = .ok (.iaload, 1) := by decide +kernel
theorem dX7_isAsSeen_88 : decode cX7_isAsSeen 88 = .ok (.if_icmp .eq 5, 3) := by decide +kernel
theorem dX7_isAsSeen_91 : decode cX7_isAsSeen 91 = .ok (.iconst 0, 1) := by decide +kernel
theorem dX7_isAsSeen_92 : decode cX7_isAsSeen 92 = .ok (.ireturn, 1) := by decide +kernel
theorem dX7_isAsSeen_93 : decode cX7_isAsSeen 93 = .ok (.iinc 2 1, 3) := by decide +kernel
theorem dX7_isAsSeen_96 : decode cX7_isAsSeen 96 = .ok (.goto (-56), 3) := by decide +kernel
theorem dX7_isAsSeen_99 : decode cX7_isAsSeen 99 = .ok (.iconst 1, 1) := by decide +kernel
theorem dX7_isAsSeen_100 : decode cX7_isAsSeen 100 = .ok (.ireturn, 1) := by decide +kernel
theorem dX7_lowest_0 : decode cX7_lowest 0 = .ok (.iload_n 1, 1) := by decide +kernel
theorem dX7_lowest_1 : decode cX7_lowest 1 = .ok (.istore_n 3, 1) := by decide +kernel
theorem dX7_lowest_2 : decode cX7_lowest 2 = .ok (.iload_n 0, 1) := by decide +kernel
theorem dX7_lowest_3 : decode cX7_lowest 3 = .ok (.istore 4, 2) := by decide +kernel
theorem dX7_lowest_5 : decode cX7_lowest 5 = .ok (.iconst 0, 1) := by decide +kernel
theorem dX7_lowest_6 : decode cX7_lowest 6 = .ok (.istore 5, 2) := by decide +kernel
theorem dX7_lowest_8 : decode cX7_lowest 8 = .ok (.iload 5, 2) := by decide +kernel
theorem dX7_lowest_10 : decode cX7_lowest 10 = .ok (.bipush 64, 2) := by decide +kernel
theorem dX7_lowest_12 : decode cX7_lowest 12 = .ok (.if_icmp .ge 27, 3) := by decide +kernel
theorem dX7_lowest_15 : decode cX7_lowest 15 = .ok (.iload 4, 2) := by decide +kernel
theorem dX7_lowest_17 : decode cX7_lowest 17 = .ok (.ifCond .eq 22, 3) := by decide +kernel
theorem dX7_lowest_20 : decode cX7_lowest 20 = .ok (.iload_n 3, 1) := by decide +kernel
theorem dX7_lowest_21 : decode cX7_lowest 21 = .ok (.iload 4, 2) := by decide +kernel
theorem dX7_lowest_23 : decode cX7_lowest 23 = .ok (.irem, 1) := by decide +kernel
theorem dX7_lowest_24 : decode cX7_lowest 24 = .ok (.istore 6, 2) := by decide +kernel
theorem dX7_lowest_26 : decode cX7_lowest 26 = .ok (.iload 4, 2) := by decide +kernel
theorem dX7_lowest_28 : decode cX7_lowest 28 = .ok (.istore_n 3, 1) := by decide +kernel
theorem dX7_lowest_29 : decode cX7_lowest 29 = .ok (.iload 6, 2) := by decide +kernel
theorem dX7_lowest_31 : decode cX7_lowest 31 = .ok (.istore 4, 2) := by decide +kernel
theorem dX7_lowest_33 : decode cX7_lowest 33 = .ok (.iinc 5 1, 3) := by decide +kernel
theorem dX7_lowest_36 : decode cX7_lowest 36 = .ok (.goto (-28), 3) := by decide +kernel
theorem dX7_lowest_39 : decode cX7_lowest 39 = .ok (.iload_n 3, 1) := by decide +kernel
theorem dX7_lowest_40 : decode cX7_lowest 40 = .ok (.iconst 1, 1) := by decide +kernel
theorem dX7_lowest_41 : decode cX7_lowest 41 = .ok (.if_icmp .ge 5, 3) := by decide +kernel
theorem dX7_lowest_44 : decode cX7_lowest 44 = .ok (.iconst 0, 1) := by decide +kernel
theorem dX7_lowest_45 : decode cX7_lowest 45 = .ok (.ireturn, 1) := by decide +kernel
theorem dX7_lowest_46 : decode cX7_lowest 46 = .ok (.iload_n 2, 1) := by decide +kernel
theorem dX7_lowest_47 : decode cX7_lowest 47 = .ok (.ifCond .ne 9, 3) := by decide +kernel
theorem dX7_lowest_50 : decode cX7_lowest 50 = .ok (.iload_n 0, 1) := by decide +kernel
theorem dX7_lowest_51 : decode cX7_lowest 51 = .ok (.iload_n 3, 1) := by decide +kernel
theorem dX7_lowest_52 : decode cX7_lowest 52 = .ok (.idiv, 1) := by decide +kernel
theorem dX7_lowest_53 : decode cX7_lowest 53 = .ok (.goto 6, 3) := by decide +kernel
theorem dX7_lowest_56 : decode cX7_lowest 56 = .ok (.iload_n 1, 1) := by decide +kernel
theorem dX7_lowest_57 : decode cX7_lowest 57 = .ok (.iload_n 3, 1) := by decide +kernel
theorem dX7_lowest_58 : decode cX7_lowest 58 = .ok (.idiv, 1) := by decide +kernel
theorem dX7_lowest_59 : decode cX7_lowest 59 = .ok (.ireturn, 1) := by decide +kernel
end
section
theorem dX8_init_0 : decode cX8_init 0 = .ok (.aload_n 0, 1) := by decide +kernel
theorem dX8_init_1 : decode cX8_init 1 = .ok (.invokespecial 1, 3) := by decide +kernel
theorem dX8_init_4 : decode cX8_init 4 = .ok (.aload_n 0, 1) := by decide +kernel
theorem dX8_init_5 : decode cX8_init 5 = .ok (.iconst 2, 1) := by decide +kernel
theorem dX8_init_6 : decode cX8_init 6 = .ok (.putfield 7, 3) := by decide +kernel
theorem dX8_init_9 : decode cX8_init 9 = .ok (.aload_n 0, 1) := by decide +kernel
theorem dX8_init_10 : decode cX8_init 10 = .ok (.iconst 4, 1) := by decide +kernel
theorem dX8_init_11 : decode cX8_init 11 = .ok (.newarray .int, 2) := by decide +kernel
theorem dX8_init_13 : decode cX8_init 13 = .ok (.putfield 13, 3) := by decide +kernel
theorem dX8_init_16 : decode cX8_init 16 = .ok (.aload_n 0, 1) := by decide +kernel
theorem dX8_init_17 : decode cX8_init 17 = .ok (.sipush 128, 3) := by decide +kernel
theorem dX8_init_20 : decode cX8_init 20 = .ok (.newarray .int, 2) := by decide +kernel
theorem dX8_init_22 : decode cX8_init 22 = .ok (.putfield 17, 3) := by decide +kernel
theorem dX8_init_25 : decode cX8_init 25 = .ok (.aload_n 0, 1) := by decide +kernel
theorem dX8_init_26 : decode cX8_init 26 = .ok (.iconst 4, 1) := by decide +kernel
theorem dX8_init_27 : decode cX8_init 27 = .ok (.newarray .int, 2) := by decide +kernel
theorem dX8_init_29 : decode cX8_init 29 = .ok (.putfield 20, 3) := by decide +kernel
theorem dX8_init_32 : decode cX8_init 32 = .ok (.aload_n 0, 1) := by decide +kernel
theorem dX8_init_33 : decode cX8_init 33 = .ok (.iconst 4, 1) := by decide +kernel
theorem dX8_init_34 : decode cX8_init 34 = .ok (.newarray .int, 2) := by decide +kernel
theorem dX8_init_36 : decode cX8_init 36 = .ok (.putfield 23, 3) := by decide +kernel
theorem dX8_init_39 : decode cX8_init 39 = .ok (.aload_n 0, 1) := by decide +kernel
theorem dX8_init_40 : decode cX8_init 40 = .ok (.iconst 4, 1) := by decide +kernel
theorem dX8_init_41 : decode cX8_init 41 = .ok (.newarray .int, 2) := by decide +kernel
theorem dX8_init_43 : decode cX8_init 43 = .ok (.putfield 26, 3) := by decide +kernel
theorem dX8_init_46 : decode cX8_init 46 = .ok (.aload_n 0, 1) := by decide +kernel
theorem dX8_init_47 : decode cX8_init 47 = .ok (.bipush 32, 2) := by decide +kernel
theorem dX8_init_49 : decode cX8_init 49 = .ok (.newarray .int, 2) := by decide +kernel
theorem dX8_init_51 : decode cX8_init 51 = .ok (.putfield 29, 3) := by decide +kernel
theorem dX8_init_54 : decode cX8_init 54 = .ok (.aload_n 0, 1) := by decide +kernel
theorem dX8_init_55 : decode cX8_init 55 = .ok (.bipush 32, 2) := by decide +kernel
theorem dX8_init_57 : decode cX8_init 57 = .ok (.newarray .int, 2) := by decide +kernel
theorem dX8_init_59 : decode cX8_init 59 = .ok (.putfield 32, 3) := by decide +kernel
theorem dX8_init_62 : decode cX8_init 62 = .ok (.aload_n 0, 1) := by decide +kernel
theorem dX8_init_63 : decode cX8_init 63 = .ok (.bipush 32, 2) := by decide +kernel
theorem dX8_init_65 : decode cX8_init 65 = .ok (.newarray .int, 2) := by decide +kernel
theorem dX8_init_67 : decode cX8_init 67 = .ok (.putfield 35, 3) := by decide +kernel
theorem dX8_init_70 : decode cX8_init 70 = .ok (.aload_n 0, 1) := by decide +kernel
theorem dX8_init_71 : decode cX8_init 71 = .ok (.bipush 32, 2) := by decide +kernel
theorem dX8_init_73 : decode cX8_init 73 = .ok (.newarray .int, 2) := by decide +kernel
theorem dX8_init_75 : decode cX8_init 75 = .ok (.putfield 38, 3) := by decide +kernel
theorem dX8_init_78 : decode cX8_init 78 = .ok (.aload_n 0, 1) := by decide +kernel
theorem dX8_init_79 : decode cX8_init 79 = .ok (.bipush 32, 2) := by decide +kernel
theorem dX8_init_81 : decode cX8_init 81 = .ok (.newarray .int, 2) := by decide +kernel
theorem dX8_init_83 : decode cX8_init 83 = .ok (.putfield 41, 3) := by decide +kernel
theorem dX8_init_86 : decode cX8_init 86 = .ok (.aload_n 0, 1) := by decide +kernel
theorem dX8_init_87 : decode cX8_init 87 = .ok (.bipush 32, 2) := by decide +kernel
theorem dX8_init_89 : decode cX8_init 89 = .ok (.newarray .int, 2) := by decide +kernel
theorem dX8_init_91 : decode cX8_init 91 = .ok (.putfield 44, 3) := by decide +kernel
theorem dX8_init_94 : decode cX8_init 94 = .ok (.aload_n 0, 1) := by decide +kernel
theorem dX8_init_95 : decode cX8_init 95 = .ok (.bipush 32, 2) := by decide +kernel
theorem dX8_init_97 : decode cX8_init 97 = .ok (.newarray .int, 2) := by decide +kernel
theorem dX8_init_99 : decode cX8_init 99 = .ok (.putfield 47, 3) := by decide +kernel
theorem dX8_init_102 : decode cX8_init 102 = .ok (.aload_n 0, 1) := by decide +kernel
theorem dX8_init_103 : decode cX8_init 103 = .ok (.iconst 1, 1) := by decide +kernel
theorem dX8_init_104 : decode cX8_init 104 = .ok (.putfield 50, 3) := by decide +kernel
theorem dX8_init_107 : decode cX8_init 107 = .ok (.aload_n 0, 1) := by decide +kernel
theorem dX8_init_108 : decode cX8_init 108 = .ok (.sipush 160, 3) := by decide +kernel
theorem dX8_init_111 : decode cX8_init 111 = .ok (.newarray .int, 2) := by decide +kernel
theorem dX8_init_113 : decode cX8_init 113 = .ok (.putfield 53, 3) := by decide +kernel
theorem dX8_init_116 : decode cX8_init 116 = .ok (.aload_n 0, 1) := by decide +kernel
theorem dX8_init_117 : decode cX8_init 117 = .ok (.iconst 5, 1) := by decide +kernel
theorem dX8_init_118 : decode cX8_init 118 = .ok (.newarray .int, 2) := by decide +kernel
theorem dX8_init_120 : decode cX8_init 120 = .ok (.putfield 56, 3) := by decide +kernel
theorem dX8_init_123 : decode cX8_init 123 = .ok (.aload_n 0, 1) := by decide +kernel
theorem dX8_init_124 : decode cX8_init 124 = .ok (.iconst 5, 1) := by decide +kernel
theorem dX8_init_125 : decode cX8_init 125 = .ok (.newarray .int, 2) := by decide +kernel
theorem dX8_init_127 : decode cX8_init 127 = .ok (.putfield 59, 3) := by decide +kernel
theorem dX8_init_130 : decode cX8_init 130 = .ok (.aload_n 0, 1) := by decide +kernel
theorem dX8_init_131 : decode cX8_init 131 = .ok (.bipush 10, 2) := by decide +kernel
theorem dX8_init_133 : decode cX8_init 133 = .ok (.newarray .int, 2) := by decide +kernel
theorem dX8_init_135 : decode cX8_init 135 = .ok (.putfield 62, 3) := by decide +kernel
theorem dX8_init_138 : decode cX8_init 138 = .ok (.aload_n 0, 1) := by decide +kernel
theorem dX8_init_139 : decode cX8_init 139 = .ok (.bipush 10, 2) := by decide +kernel
theorem dX8_init_141 : decode cX8_init 141 = .ok (.newarray .int, 2) := by decide +kernel
theorem dX8_init_143 : decode cX8_init 143 = .ok (.putfield 65, 3) := by decide +kernel
theorem dX8_init_146 : decode cX8_init 146 = .ok (.aload_n 0, 1) := by decide +kernel
theorem dX8_init_147 : decode cX8_init 147 = .ok (.bipush 8, 2) := by decide +kernel
theorem dX8_init_149 : decode cX8_init 149 = .ok (.newarray .int, 2) := by decide +kernel
theorem dX8_init_151 : decode cX8_init 151 = .ok (.putfield 68, 3) := by decide +kernel
theorem dX8_init_154 : decode cX8_init 154 = .ok (.aload_n 0, 1) := by decide +kernel
theorem dX8_init_155 : decode cX8_init 155 = .ok (.bipush 8, 2) := by decide +kernel
theorem dX8_init_157 : decode cX8_init 157 = .ok (.newarray .int, 2) := by decide +kernel
theorem dX8_init_159 : decode cX8_init 159 = .ok (.putfield 71, 3) := by decide +kernel
theorem dX8_init_162 : decode cX8_init 162 = .ok (.aload_n 0, 1) := by decide +kernel
theorem dX8_init_163 : decode cX8_init 163 = .ok (.sipush 600, 3) := by decide +kernel
theorem dX8_init_166 : decode cX8_init 166 = .ok (.newarray .int, 2) := by decide +kernel
theorem dX8_init_168 : decode cX8_init 168 = .ok (.putfield 74, 3) := by decide +kernel
theorem dX8_init_171 : decode cX8_init 171 = .ok (.aload_n 0, 1) := by decide +kernel
theorem dX8_init_172 : decode cX8_init 172 = .ok (.sipush 600, 3) := by decide +kernel
theorem dX8_init_175 : decode cX8_init 175 = .ok (.newarray .int, 2) := by decide +kernel
theorem dX8_init_177 : decode cX8_init 177 = .ok (.putfield 77, 3) := by decide +kernel
theorem dX8_init_180 : decode cX8_init 180 = .ok (.aload_n 0, 1) := by decide +kernel
theorem dX8_init_181 : decode cX8_init 181 = .ok (.bipush 32, 2) := by decide +kernel
theorem dX8_init_183 : decode cX8_init 183 = .ok (.newarray .boolean, 2) := by decide +kernel
theorem dX8_init_185 : decode cX8_init 185 = .ok (.putfield 80, 3) := by decide +kernel
theorem dX8_init_188 : decode cX8_init 188 = .ok (.aload_n 0, 1) := by decide +kernel
theorem dX8_init_189 : decode cX8_init 189 = .ok (.bipush 100, 2) := by decide +kernel
theorem dX8_init_191 : decode cX8_init 191 = .ok (.newarray .int, 2) := by decide +kernel
theorem dX8_init_193 : decode cX8_init 193 = .ok (.putfield 84, 3) := by decide +kernel
theorem dX8_init_196 : decode cX8_init 196 = .ok (.aload_n 0, 1) := by decide +kernel
theorem dX8_init_197 : decode cX8_init 197 = .ok (.bipush 101, 2) := by decide +kernel
theorem dX8_init_199 : decode cX8_init 199 = .ok (.newarray .int, 2) := by decide +kernel
theorem dX8_init_201 : decode cX8_init 201 = .ok (.putfield 87, 3) := by decide +kernel
theorem dX8_init_204 : decode cX8_init 204 = .ok (.aload_n 0, 1) := by decide +kernel
theorem dX8_init_205 : decode cX8_init 205 = .ok (.bipush 101, 2) := by decide +kernel
theorem dX8_init_207 : decode cX8_init 207 = .ok (.newarray .int, 2) := by decide +kernel
theorem dX8_init_209 : decode cX8_init 209 = .ok (.putfield 90, 3) := by decide +kernel
theorem dX8_init_212 : decode cX8_init 212 = .ok (.aload_n 0, 1) := by decide +kernel
theorem dX8_init_213 : decode cX8_init 213 = .ok (.bipush 101, 2) := by decide +kernel
theorem dX8_init_215 : decode cX8_init 215 = .ok (.newarray .int, 2) := by decide +kernel
theorem dX8_init_217 : decode cX8_init 217 = .ok (.putfield 93, 3) := by decide +kernel
theorem dX8_init_220 : decode cX8_init 220 = .ok (.aload_n 0, 1) := by decide +kernel
theorem dX8_init_221 : decode cX8_init 221 = .ok (.iconst 5, 1) := by decide +kernel
theorem dX8_init_222 : decode cX8_init 222 = .ok (.newarray .int, 2) := by decide +kernel
theorem dX8_init_224 : decode cX8_init 224 = .ok (.putfield 96, 3) := by decide +kernel
theorem dX8_init_227 : decode cX8_init 227 = .ok (.aload_n 0, 1) := by decide +kernel
theorem dX8_init_228 : decode cX8_init 228 = .ok (.iconst 5, 1) := by decide +kernel
theorem dX8_init_229 : decode cX8_init 229 = .ok (.newarray .int, 2) := by decide +kernel
theorem dX8_init_231 : decode cX8_init 231 = .ok (.putfield 99, 3) := by decide +kernel
theorem dX8_init_234 : decode cX8_init 234 = .ok (.aload_n 0, 1) := by decide +kernel
theorem dX8_init_235 : decode cX8_init 235 = .ok (.bipush 32, 2) := by decide +kernel
theorem dX8_init_237 : decode cX8_init 237 = .ok (.newarray .int, 2) := by decide +kernel
theorem dX8_init_239 : decode cX8_init 239 = .ok (.putfield 102, 3) := by decide +kernel
theorem dX8_init_242 : decode cX8_init 242 = .ok (.aload_n 0, 1) := by decide +kernel
theorem dX8_init_243 : decode cX8_init 243 = .ok (.bipush 32, 2) := by decide +kernel
theorem dX8_init_245 : decode cX8_init 245 = .ok (.newarray .int, 2) := by decide +kernel
theorem dX8_init_247 : decode cX8_init 247 = .ok (.putfield 105, 3) := by decide +kernel
theorem dX8_init_250 : decode cX8_init 250 = .ok (.aload_n 0, 1) := by decide +kernel
theorem dX8_init_251 : decode cX8_init 251 = .ok (.bipush 6, 2) := by decide +kernel
theorem dX8_init_253 : decode cX8_init 253 = .ok (.newarray .int, 2) := by decide +kernel
theorem dX8_init_255 : decode cX8_init 255 = .ok (.putfield 108, 3) := by decide +kernel
theorem dX8_init_258 : decode cX8_init 258 = .ok (.aload_n 0, 1) := by decide +kernel
theorem dX8_init_259 : decode cX8_init 259 = .ok (.bipush 6, 2) := by decide +kernel
theorem dX8_init_261 : decode cX8_init 261 = .ok (.newarray .int, 2) := by decide +kernel
theorem dX8_init_263 : decode cX8_init 263 = .ok (.putfield 111, 3) := by decide +kernel
theorem dX8_init_266 : decode cX8_init 266 = .ok (.aload_n 0, 1) := by decide +kernel
theorem dX8_init_267 : decode cX8_init 267 = .ok (.sipush 360, 3) := by decide +kernel
theorem dX8_init_270 : decode cX8_init 270 = .ok (.newarray .long, 2) := by decide +kernel
theorem dX8_init_272 : decode cX8_init 272 = .ok (.putfield 114, 3) := by decide +kernel
theorem dX8_init_275 : decode cX8_init 275 = .ok (.aload_n 0, 1) := by decide +kernel
theorem dX8_init_276 : decode cX8_init 276 = .ok (.bipush 60, 2) := by decide +kernel
theorem dX8_init_278 : decode cX8_init 278 = .ok (.newarray .long, 2) := by decide +kernel
theorem dX8_init_280 : decode cX8_init 280 = .ok (.putfield 118, 3) := by decide +kernel
theorem dX8_init_283 : decode cX8_init 283 = .ok (.aload_n 0, 1) := by decide +kernel
theorem dX8_init_284 : decode cX8_init 284 = .ok (.bipush 6, 2) := by decide +kernel
theorem dX8_init_286 : decode cX8_init 286 = .ok (.newarray .boolean, 2) := by decide +kernel
theorem dX8_init_288 : decode cX8_init 288 = .ok (.putfield 121, 3) := by decide +kernel
theorem dX8_init_291 : decode cX8_init 291 = .ok (.aload_n 0, 1) := by decide +kernel
theorem dX8_init_292 : decode cX8_init 292 = .ok (.iconst 0, 1) := by decide +kernel
theorem dX8_init_293 : decode cX8_init 293 = .ok (.putfield 124, 3) := by decide +kernel
theorem dX8_init_296 : decode cX8_init 296 = .ok (.iconst 0, 1) := by decide +kernel
theorem dX8_init_297 : decode cX8_init 297 = .ok (.istore_n 1, 1) := by decide +kernel
theorem dX8_init_298 : decode cX8_init 298 = .ok (.iload_n 1, 1) := by decide +kernel
theorem dX8_init_299 : decode cX8_init 299 = .ok (.iconst 4, 1) := by decide +kernel
theorem dX8_init_300 : decode cX8_init 300 = .ok (.if_icmp .ge 17, 3) := by decide +kernel
theorem dX8_init_303 : decode cX8_init 303 = .ok (.aload_n 0, 1) := by decide +kernel
theorem dX8_init_304 : decode cX8_init 304 = .ok (.getfield 20, 3) := by decide +kernel
theorem dX8_init_307 : decode cX8_init 307 = .ok (.iload_n 1, 1) := by decide +kernel
theorem dX8_init_308 : decode cX8_init 308 = .ok (.bipush (-5), 2) := by decide +kernel
theorem dX8_init_310 : decode cX8_init 310 = .ok (.iastore, 1) := by decide +kernel
theorem dX8_init_311 : decode cX8_init 311 = .ok (.iinc 1 1, 3) := by decide +kernel
theorem dX8_init_314 : decode cX8_init 314 = .ok (.goto (-16), 3) := by decide +kernel
theorem dX8_init_317 : decode cX8_init 317 = .ok (.return_, 1) := by decide +kernel
theorem dX8_in_0 : decode cX8_in 0 = .ok (.lload_n 0, 1) := by decide +kernel
theorem dX8_in_1 : decode cX8_in 1 = .ok (.lload_n 2, 1) := by decide +kernel
theorem dX8_in_2 : decode cX8_in 2 = .ok (.lcmp, 1) := by decide +kernel
theorem dX8_in_3 : decode cX8_in 3 = .ok (.ifCond .lt 14, 3) := by decide +kernel
theorem dX8_in_6 : decode cX8_in 6 = .ok (.lload_n 0, 1) := by decide +kernel
theorem dX8_in_7 : decode cX8_in 7 = .ok (.lload 4, 2) := by decide +kernel
theorem dX8_in_9 : decode cX8_in 9 = .ok (.lcmp, 1) := by decide +kernel
theorem dX8_in_10 : decode cX8_in 10 = .ok (.ifCond .gt 7, 3) := by decide +kernel
theorem dX8_in_13 : decode cX8_in 13 = .ok (.iconst 1, 1) := by decide +kernel
theorem dX8_in_14 : decode cX8_in 14 = .ok (.goto 4, 3) := by decide +kernel
theorem dX8_in_17 : decode cX8_in 17 = .ok (.iconst 0, 1) := by decide +kernel
theorem dX8_in_18 : decode cX8_in 18 = .ok (.ireturn, 1) := by decide +kernel
theorem dX8_isTask_0 : decode cX8_isTask 0 = .ok (.iload_n 1, 1) := by decide +kernel
theorem dX8_isTask_1 : decode cX8_isTask 1 = .ok (.i2l, 1) := by decide +kernel
theorem dX8_isTask_2 : decode cX8_isTask 2 = .ok (.lconst 0, 1) := by decide +kernel
theorem dX8_isTask_3 : decode cX8_isTask 3 = .ok (.aload_n 0, 1) := by decide +kernel
theorem dX8_isTask_4 : decode cX8_isTask 4 = .ok (.getfield 127, 3) := by decide +kernel
theorem dX8_isTask_7 : decode cX8_isTask 7 = .ok (.iconst 1, 1) := by decide +kernel
theorem dX8_isTask_8 : decode cX8_isTask 8 = .ok (.isub, 1) := by decide +kernel
theorem dX8_isTask_9 : decode cX8_isTask 9 = .ok (.i2l, 1) := by decide +kernel
theorem dX8_isTask_10 : decode cX8_isTask 10 = .ok (.invokestatic 130, 3) := by decide +kernel
theorem dX8_isTask_13 : decode cX8_isTask 13 = .ok (.ireturn, 1) := by decide +kernel
theorem dX8_isArm_0 : decode cX8_isArm 0 = .ok (.iload_n 1, 1) := by decide +kernel
theorem dX8_isArm_1 : decode cX8_isArm 1 = .ok (.i2l, 1) := by decide +kernel
theorem dX8_isArm_2 : decode cX8_isArm 2 = .ok (.lconst 0, 1) := by decide +kernel
theorem dX8_isArm_3 : decode cX8_isArm 3 = .ok (.aload_n 0, 1) := by decide +kernel
theorem dX8_isArm_4 : decode cX8_isArm 4 = .ok (.getfield 7, 3) := by decide +kernel
theorem dX8_isArm_7 : decode cX8_isArm 7 = .ok (.iconst 1, 1) := by decide +kernel
theorem dX8_isArm_8 : decode cX8_isArm 8 = .ok (.isub, 1) := by decide +kernel
theorem dX8_isArm_9 : decode cX8_isArm 9 = .ok (.i2l, 1) := by decide +kernel
theorem dX8_isArm_10 : decode cX8_isArm 10 = .ok (.invokestatic 130, 3) := by decide +kernel
theorem dX8_isArm_13 : decode cX8_isArm 13 = .ok (.ireturn, 1) := by decide +kernel
theorem dX8_isEnded_0 : decode cX8_isEnded 0 = .ok (.aload_n 0, 1) := by decide +kernel
theorem dX8_isEnded_1 : decode cX8_isEnded 1 = .ok (.getfield 29, 3) := by decide +kernel
theorem dX8_isEnded_4 : decode cX8_isEnded 4 = .ok (.iload_n 1, 1) := by decide +kernel
theorem dX8_isEnded_5 : decode cX8_isEnded 5 = .ok (.iaload, 1) := by decide +kernel
theorem dX8_isEnded_6 : decode cX8_isEnded 6 = .ok (.iconst 3, 1) := by decide +kernel
theorem dX8_isEnded_7 : decode cX8_isEnded 7 = .ok (.if_icmp .lt 7, 3) := by decide +kernel
theorem dX8_isEnded_10 : decode cX8_isEnded 10 = .ok (.iconst 1, 1) := by decide +kernel
theorem dX8_isEnded_11 : decode cX8_isEnded 11 = .ok (.goto 4, 3) := by decide +kernel
theorem dX8_isEnded_14 : decode cX8_isEnded 14 = .ok (.iconst 0, 1) := by decide +kernel
theorem dX8_isEnded_15 : decode cX8_isEnded 15 = .ok (.ireturn, 1) := by decide +kernel
theorem dX8_carry_0 : decode cX8_carry 0 = .ok (.aload_n 0, 1) := by decide +kernel
theorem dX8_carry_1 : decode cX8_carry 1 = .ok (.getfield 134, 3) := by decide +kernel
theorem dX8_carry_4 : decode cX8_carry 4 = .ok (.ifCond .eq 13, 3) := by decide +kernel
theorem dX8_carry_7 : decode cX8_carry 7 = .ok (.aload_n 0, 1) := by decide +kernel
theorem dX8_carry_8 : decode cX8_carry 8 = .ok (.getfield 138, 3) := by decide +kernel
theorem dX8_carry_11 : decode cX8_carry 11 = .ok (.aload_n 0, 1) := by decide +kernel
theorem dX8_carry_12 : decode cX8_carry 12 = .ok (.getfield 141, 3) := by decide +kernel
theorem dX8_carry_15 : decode cX8_carry 15 = .ok (.iload_n 1, 1) := by decide +kernel
theorem dX8_carry_16 : decode cX8_carry 16 = .ok (.iastore, 1) := by decide +kernel
theorem dX8_carry_17 : decode cX8_carry 17 = .ok (.aload_n 0, 1) := by decide +kernel
theorem dX8_carry_18 : decode cX8_carry 18 = .ok (.dup, 1) := by decide +kernel
theorem dX8_carry_19 : decode cX8_carry 19 = .ok (.getfield 141, 3) := by decide +kernel
theorem dX8_carry_22 : decode cX8_carry 22 = .ok (.iconst 1, 1) := by decide +kernel
theorem dX8_carry_23 : decode cX8_carry 23 = .ok (.iadd, 1) := by decide +kernel
theorem dX8_carry_24 : decode cX8_carry 24 = .ok (.putfield 141, 3) := by decide +kernel
theorem dX8_carry_27 : decode cX8_carry 27 = .ok (.aload_n 0, 1) := by decide +kernel
theorem dX8_carry_28 : decode cX8_carry 28 = .ok (.getfield 138, 3) := by decide +kernel
theorem dX8_carry_31 : decode cX8_carry 31 = .ok (.aload_n 0, 1) := by decide +kernel
theorem dX8_carry_32 : decode cX8_carry 32 = .ok (.getfield 141, 3) := by decide +kernel
theorem dX8_carry_35 : decode cX8_carry 35 = .ok (.iconst 1, 1) := by decide +kernel
theorem dX8_carry_36 : decode cX8_carry 36 = .ok (.isub, 1) := by decide +kernel
theorem dX8_carry_37 : decode cX8_carry 37 = .ok (.iaload, 1) := by decide +kernel
theorem dX8_carry_38 : decode cX8_carry 38 = .ok (.ireturn, 1) := by decide +kernel
theorem dX8_carryTold_0 : decode cX8_carryTold 0 = .ok (.aload_n 0, 1) := by decide +kernel
theorem dX8_carryTold_1 : decode cX8_carryTold 1 = .ok (.aload_n 0, 1) := by decide +kernel
theorem dX8_carryTold_2 : decode cX8_carryTold 2 = .ok (.aload_n 0, 1) := by decide +kernel
theorem dX8_carryTold_3 : decode cX8_carryTold 3 = .ok (.getfield 144, 3) := by decide +kernel
theorem dX8_carryTold_6 : decode cX8_carryTold 6 = .ok (.invokevirtual 147, 3) := by decide +kernel
theorem dX8_carryTold_9 : decode cX8_carryTold 9 = .ok (.putfield 144, 3) := by decide +kernel
theorem dX8_carryTold_12 : decode cX8_carryTold 12 = .ok (.aload_n 0, 1) := by decide +kernel
theorem dX8_carryTold_13 : decode cX8_carryTold 13 = .ok (.aload_n 0, 1) := by decide +kernel
theorem dX8_carryTold_14 : decode cX8_carryTold 14 = .ok (.aload_n 0, 1) := by decide +kernel
theorem dX8_carryTold_15 : decode cX8_carryTold 15 = .ok (.getfield 151, 3) := by decide +kernel
theorem dX8_carryTold_18 : decode cX8_carryTold 18 = .ok (.invokevirtual 147, 3) := by decide +kernel
theorem dX8_carryTold_21 : decode cX8_carryTold 21 = .ok (.putfield 151, 3) := by decide +kernel
theorem dX8_carryTold_24 : decode cX8_carryTold 24 = .ok (.aload_n 0, 1) := by decide +kernel
theorem dX8_carryTold_25 : decode cX8_carryTold 25 = .ok (.aload_n 0, 1) := by decide +kernel
theorem dX8_carryTold_26 : decode cX8_carryTold 26 = .ok (.aload_n 0, 1) := by decide +kernel
theorem dX8_carryTold_27 : decode cX8_carryTold 27 = .ok (.getfield 154, 3) := by decide +kernel
theorem dX8_carryTold_30 : decode cX8_carryTold 30 = .ok (.invokevirtual 147, 3) := by decide +kernel
theorem dX8_carryTold_33 : decode cX8_carryTold 33 = .ok (.putfield 154, 3) := by decide +kernel
theorem dX8_carryTold_36 : decode cX8_carryTold 36 = .ok (.iconst 0, 1) := by decide +kernel
theorem dX8_carryTold_37 : decode cX8_carryTold 37 = .ok (.istore_n 1, 1) := by decide +kernel
theorem dX8_carryTold_38 : decode cX8_carryTold 38 = .ok (.iload_n 1, 1) := by decide +kernel
theorem dX8_carryTold_39 : decode cX8_carryTold 39 = .ok (.iconst 5, 1) := by decide +kernel
theorem dX8_carryTold_40 : decode cX8_carryTold 40 = .ok (.if_icmp .ge 41, 3) := by decide +kernel
theorem dX8_carryTold_43 : decode cX8_carryTold 43 = .ok (.aload_n 0, 1) := by decide +kernel
theorem dX8_carryTold_44 : decode cX8_carryTold 44 = .ok (.getfield 56, 3) := by decide +kernel
theorem dX8_carryTold_47 : decode cX8_carryTold 47 = .ok (.iload_n 1, 1) := by decide +kernel
theorem dX8_carryTold_48 : decode cX8_carryTold 48 = .ok (.aload_n 0, 1) := by decide +kernel
theorem dX8_carryTold_49 : decode cX8_carryTold 49 = .ok (.aload_n 0, 1) := by decide +kernel
theorem dX8_carryTold_50 : decode cX8_carryTold 50 = .ok (.getfield 56, 3) := by decide +kernel
theorem dX8_carryTold_53 : decode cX8_carryTold 53 = .ok (.iload_n 1, 1) := by decide +kernel
theorem dX8_carryTold_54 : decode cX8_carryTold 54 = .ok (.iaload, 1) := by decide +kernel
theorem dX8_carryTold_55 : decode cX8_carryTold 55 = .ok (.invokevirtual 147, 3) := by decide +kernel
theorem dX8_carryTold_58 : decode cX8_carryTold 58 = .ok (.iastore, 1) := by decide +kernel
theorem dX8_carryTold_59 : decode cX8_carryTold 59 = .ok (.aload_n 0, 1) := by decide +kernel
theorem dX8_carryTold_60 : decode cX8_carryTold 60 = .ok (.getfield 59, 3) := by decide +kernel
theorem dX8_carryTold_63 : decode cX8_carryTold 63 = .ok (.iload_n 1, 1) := by decide +kernel
theorem dX8_carryTold_64 : decode cX8_carryTold 64 = .ok (.aload_n 0, 1) := by decide +kernel
theorem dX8_carryTold_65 : decode cX8_carryTold 65 = .ok (.aload_n 0, 1) := by decide +kernel
theorem dX8_carryTold_66 : decode cX8_carryTold 66 = .ok (.getfield 59, 3) := by decide +kernel
theorem dX8_carryTold_69 : decode cX8_carryTold 69 = .ok (.iload_n 1, 1) := by decide +kernel
theorem dX8_carryTold_70 : decode cX8_carryTold 70 = .ok (.iaload, 1) := by decide +kernel
theorem dX8_carryTold_71 : decode cX8_carryTold 71 = .ok (.invokevirtual 147, 3) := by decide +kernel
theorem dX8_carryTold_74 : decode cX8_carryTold 74 = .ok (.iastore, 1) := by decide +kernel
theorem dX8_carryTold_75 : decode cX8_carryTold 75 = .ok (.iinc 1 1, 3) := by decide +kernel
theorem dX8_carryTold_78 : decode cX8_carryTold 78 = .ok (.goto (-40), 3) := by decide +kernel
theorem dX8_carryTold_81 : decode cX8_carryTold 81 = .ok (.iconst 0, 1) := by decide +kernel
theorem dX8_carryTold_82 : decode cX8_carryTold 82 = .ok (.istore_n 1, 1) := by decide +kernel
theorem dX8_carryTold_83 : decode cX8_carryTold 83 = .ok (.iload_n 1, 1) := by decide +kernel
theorem dX8_carryTold_84 : decode cX8_carryTold 84 = .ok (.bipush 10, 2) := by decide +kernel
theorem dX8_carryTold_86 : decode cX8_carryTold 86 = .ok (.if_icmp .ge 41, 3) := by decide +kernel
theorem dX8_carryTold_89 : decode cX8_carryTold 89 = .ok (.aload_n 0, 1) := by decide +kernel
theorem dX8_carryTold_90 : decode cX8_carryTold 90 = .ok (.getfield 62, 3) := by decide +kernel
theorem dX8_carryTold_93 : decode cX8_carryTold 93 = .ok (.iload_n 1, 1) := by decide +kernel
theorem dX8_carryTold_94 : decode cX8_carryTold 94 = .ok (.aload_n 0, 1) := by decide +kernel
theorem dX8_carryTold_95 : decode cX8_carryTold 95 = .ok (.aload_n 0, 1) := by decide +kernel
theorem dX8_carryTold_96 : decode cX8_carryTold 96 = .ok (.getfield 62, 3) := by decide +kernel
theorem dX8_carryTold_99 : decode cX8_carryTold 99 = .ok (.iload_n 1, 1) := by decide +kernel
theorem dX8_carryTold_100 : decode cX8_carryTold 100 = .ok (.iaload, 1) := by decide +kernel
theorem dX8_carryTold_101 : decode cX8_carryTold 101 = .ok (.invokevirtual 147, 3) := by decide +kernel
theorem dX8_carryTold_104 : decode cX8_carryTold 104 = .ok (.iastore, 1) := by decide +kernel
theorem dX8_carryTold_105 : decode cX8_carryTold 105 = .ok (.aload_n 0, 1) := by decide +kernel
theorem dX8_carryTold_106 : decode cX8_carryTold 106 = .ok (.getfield 65, 3) := by decide +kernel
theorem dX8_carryTold_109 : decode cX8_carryTold 109 = .ok (.iload_n 1, 1) := by decide +kernel
theorem dX8_carryTold_110 : decode cX8_carryTold 110 = .ok (.aload_n 0, 1) := by decide +kernel
theorem dX8_carryTold_111 : decode cX8_carryTold 111 = .ok (.aload_n 0, 1) := by decide +kernel
theorem dX8_carryTold_112 : decode cX8_carryTold 112 = .ok (.getfield 65, 3) := by decide +kernel
theorem dX8_carryTold_115 : decode cX8_carryTold 115 = .ok (.iload_n 1, 1) := by decide +kernel
theorem dX8_carryTold_116 : decode cX8_carryTold 116 = .ok (.iaload, 1) := by decide +kernel
theorem dX8_carryTold_117 : decode cX8_carryTold 117 = .ok (.invokevirtual 147, 3) := by decide +kernel
theorem dX8_carryTold_120 : decode cX8_carryTold 120 = .ok (.iastore, 1) := by decide +kernel
theorem dX8_carryTold_121 : decode cX8_carryTold 121 = .ok (.iinc 1 1, 3) := by decide +kernel
theorem dX8_carryTold_124 : decode cX8_carryTold 124 = .ok (.goto (-41), 3) := by decide +kernel
theorem dX8_carryTold_127 : decode cX8_carryTold 127 = .ok (.iconst 0, 1) := by decide +kernel
theorem dX8_carryTold_128 : decode cX8_carryTold 128 = .ok (.istore_n 1, 1) := by decide +kernel
theorem dX8_carryTold_129 : decode cX8_carryTold 129 = .ok (.iload_n 1, 1) := by decide +kernel
theorem dX8_carryTold_130 : decode cX8_carryTold 130 = .ok (.bipush 8, 2) := by decide +kernel
theorem dX8_carryTold_132 : decode cX8_carryTold 132 = .ok (.if_icmp .ge 41, 3) := by decide +kernel
theorem dX8_carryTold_135 : decode cX8_carryTold 135 = .ok (.aload_n 0, 1) := by decide +kernel
theorem dX8_carryTold_136 : decode cX8_carryTold 136 = .ok (.getfield 68, 3) := by decide +kernel
theorem dX8_carryTold_139 : decode cX8_carryTold 139 = .ok (.iload_n 1, 1) := by decide +kernel
theorem dX8_carryTold_140 : decode cX8_carryTold 140 = .ok (.aload_n 0, 1) := by decide +kernel
theorem dX8_carryTold_141 : decode cX8_carryTold 141 = .ok (.aload_n 0, 1) := by decide +kernel
theorem dX8_carryTold_142 : decode cX8_carryTold 142 = .ok (.getfield 68, 3) := by decide +kernel
theorem dX8_carryTold_145 : decode cX8_carryTold 145 = .ok (.iload_n 1, 1) := by decide +kernel
theorem dX8_carryTold_146 : decode cX8_carryTold 146 = .ok (.iaload, 1) := by decide +kernel
theorem dX8_carryTold_147 : decode cX8_carryTold 147 = .ok (.invokevirtual 147, 3) := by decide +kernel
theorem dX8_carryTold_150 : decode cX8_carryTold 150 = .ok (.iastore, 1) := by decide +kernel
theorem dX8_carryTold_151 : decode cX8_carryTold 151 = .ok (.aload_n 0, 1) := by decide +kernel
theorem dX8_carryTold_152 : decode cX8_carryTold 152 = .ok (.getfield 71, 3) := by decide +kernel
theorem dX8_carryTold_155 : decode cX8_carryTold 155 = .ok (.iload_n 1, 1) := by decide +kernel
theorem dX8_carryTold_156 : decode cX8_carryTold 156 = .ok (.aload_n 0, 1) := by decide +kernel
theorem dX8_carryTold_157 : decode cX8_carryTold 157 = .ok (.aload_n 0, 1) := by decide +kernel
theorem dX8_carryTold_158 : decode cX8_carryTold 158 = .ok (.getfield 71, 3) := by decide +kernel
theorem dX8_carryTold_161 : decode cX8_carryTold 161 = .ok (.iload_n 1, 1) := by decide +kernel
theorem dX8_carryTold_162 : decode cX8_carryTold 162 = .ok (.iaload, 1) := by decide +kernel
theorem dX8_carryTold_163 : decode cX8_carryTold 163 = .ok (.invokevirtual 147, 3) := by decide +kernel
theorem dX8_carryTold_166 : decode cX8_carryTold 166 = .ok (.iastore, 1) := by decide +kernel
theorem dX8_carryTold_167 : decode cX8_carryTold 167 = .ok (.iinc 1 1, 3) := by decide +kernel
theorem dX8_carryTold_170 : decode cX8_carryTold 170 = .ok (.goto (-41), 3) := by decide +kernel
theorem dX8_carryTold_173 : decode cX8_carryTold 173 = .ok (.return_, 1) := by decide +kernel
theorem dX8_carryAll_0 : decode cX8_carryAll 0 = .ok (.aload_n 0, 1) := by decide +kernel
theorem dX8_carryAll_1 : decode cX8_carryAll 1 = .ok (.aload_n 1, 1) := by decide +kernel
theorem dX8_carryAll_2 : decode cX8_carryAll 2 = .ok (.putfield 138, 3) := by decide +kernel
theorem dX8_carryAll_5 : decode cX8_carryAll 5 = .ok (.aload_n 0, 1) := by decide +kernel
theorem dX8_carryAll_6 : decode cX8_carryAll 6 = .ok (.iload_n 2, 1) := by decide +kernel
theorem dX8_carryAll_7 : decode cX8_carryAll 7 = .ok (.putfield 134, 3) := by decide +kernel
theorem dX8_carryAll_10 : decode cX8_carryAll 10 = .ok (.aload_n 0, 1) := by decide +kernel
theorem dX8_carryAll_11 : decode cX8_carryAll 11 = .ok (.iconst 0, 1) := by decide +kernel
theorem dX8_carryAll_12 : decode cX8_carryAll 12 = .ok (.putfield 141, 3) := by decide +kernel
theorem dX8_carryAll_15 : decode cX8_carryAll 15 = .ok (.aload_n 0, 1) := by decide +kernel
theorem dX8_carryAll_16 : decode cX8_carryAll 16 = .ok (.aload_n 0, 1) := by decide +kernel
theorem dX8_carryAll_17 : decode cX8_carryAll 17 = .ok (.aload_n 0, 1) := by decide +kernel
theorem dX8_carryAll_18 : decode cX8_carryAll 18 = .ok (.getfield 7, 3) := by decide +kernel
theorem dX8_carryAll_21 : decode cX8_carryAll 21 = .ok (.invokevirtual 147, 3) := by decide +kernel
theorem dX8_carryAll_24 : decode cX8_carryAll 24 = .ok (.putfield 7, 3) := by decide +kernel
theorem dX8_carryAll_27 : decode cX8_carryAll 27 = .ok (.aload_n 0, 1) := by decide +kernel
theorem dX8_carryAll_28 : decode cX8_carryAll 28 = .ok (.aload_n 0, 1) := by decide +kernel
theorem dX8_carryAll_29 : decode cX8_carryAll 29 = .ok (.aload_n 0, 1) := by decide +kernel
theorem dX8_carryAll_30 : decode cX8_carryAll 30 = .ok (.getfield 127, 3) := by decide +kernel
theorem dX8_carryAll_33 : decode cX8_carryAll 33 = .ok (.invokevirtual 147, 3) := by decide +kernel
theorem dX8_carryAll_36 : decode cX8_carryAll 36 = .ok (.putfield 127, 3) := by decide +kernel
theorem dX8_carryAll_39 : decode cX8_carryAll 39 = .ok (.aload_n 0, 1) := by decide +kernel
theorem dX8_carryAll_40 : decode cX8_carryAll 40 = .ok (.aload_n 0, 1) := by decide +kernel
theorem dX8_carryAll_41 : decode cX8_carryAll 41 = .ok (.aload_n 0, 1) := by decide +kernel
theorem dX8_carryAll_42 : decode cX8_carryAll 42 = .ok (.getfield 50, 3) := by decide +kernel
theorem dX8_carryAll_45 : decode cX8_carryAll 45 = .ok (.invokevirtual 147, 3) := by decide +kernel
theorem dX8_carryAll_48 : decode cX8_carryAll 48 = .ok (.putfield 50, 3) := by decide +kernel
theorem dX8_carryAll_51 : decode cX8_carryAll 51 = .ok (.aload_n 0, 1) := by decide +kernel
theorem dX8_carryAll_52 : decode cX8_carryAll 52 = .ok (.aload_n 0, 1) := by decide +kernel
theorem dX8_carryAll_53 : decode cX8_carryAll 53 = .ok (.aload_n 0, 1) := by decide +kernel
theorem dX8_carryAll_54 : decode cX8_carryAll 54 = .ok (.getfield 157, 3) := by decide +kernel
theorem dX8_carryAll_57 : decode cX8_carryAll 57 = .ok (.invokevirtual 147, 3) := by decide +kernel
theorem dX8_carryAll_60 : decode cX8_carryAll 60 = .ok (.putfield 157, 3) := by decide +kernel
theorem dX8_carryAll_63 : decode cX8_carryAll 63 = .ok (.aload_n 0, 1) := by decide +kernel
theorem dX8_carryAll_64 : decode cX8_carryAll 64 = .ok (.aload_n 0, 1) := by decide +kernel
theorem dX8_carryAll_65 : decode cX8_carryAll 65 = .ok (.aload_n 0, 1) := by decide +kernel
theorem dX8_carryAll_66 : decode cX8_carryAll 66 = .ok (.getfield 160, 3) := by decide +kernel
theorem dX8_carryAll_69 : decode cX8_carryAll 69 = .ok (.invokevirtual 147, 3) := by decide +kernel
theorem dX8_carryAll_72 : decode cX8_carryAll 72 = .ok (.putfield 160, 3) := by decide +kernel
theorem dX8_carryAll_75 : decode cX8_carryAll 75 = .ok (.iconst 0, 1) := by decide +kernel
theorem dX8_carryAll_76 : decode cX8_carryAll 76 = .ok (.istore_n 3, 1) := by decide +kernel
theorem dX8_carryAll_77 : decode cX8_carryAll 77 = .ok (.iload_n 3, 1) := by decide +kernel
theorem dX8_carryAll_78 : decode cX8_carryAll 78 = .ok (.iconst 4, 1) := by decide +kernel
theorem dX8_carryAll_79 : decode cX8_carryAll 79 = .ok (.if_icmp .ge 73, 3) := by decide +kernel
theorem dX8_carryAll_82 : decode cX8_carryAll 82 = .ok (.aload_n 0, 1) := by decide +kernel
theorem dX8_carryAll_83 : decode cX8_carryAll 83 = .ok (.getfield 13, 3) := by decide +kernel
theorem dX8_carryAll_86 : decode cX8_carryAll 86 = .ok (.iload_n 3, 1) := by decide +kernel
theorem dX8_carryAll_87 : decode cX8_carryAll 87 = .ok (.aload_n 0, 1) := by decide +kernel
theorem dX8_carryAll_88 : decode cX8_carryAll 88 = .ok (.aload_n 0, 1) := by decide +kernel
theorem dX8_carryAll_89 : decode cX8_carryAll 89 = .ok (.getfield 13, 3) := by decide +kernel
theorem dX8_carryAll_92 : decode cX8_carryAll 92 = .ok (.iload_n 3, 1) := by decide +kernel
theorem dX8_carryAll_93 : decode cX8_carryAll 93 = .ok (.iaload, 1) := by decide +kernel
theorem dX8_carryAll_94 : decode cX8_carryAll 94 = .ok (.invokevirtual 147, 3) := by decide +kernel
theorem dX8_carryAll_97 : decode cX8_carryAll 97 = .ok (.iastore, 1) := by decide +kernel
theorem dX8_carryAll_98 : decode cX8_carryAll 98 = .ok (.aload_n 0, 1) := by decide +kernel
theorem dX8_carryAll_99 : decode cX8_carryAll 99 = .ok (.getfield 20, 3) := by decide +kernel
theorem dX8_carryAll_102 : decode cX8_carryAll 102 = .ok (.iload_n 3, 1) := by decide +kernel
theorem dX8_carryAll_103 : decode cX8_carryAll 103 = .ok (.aload_n 0, 1) := by decide +kernel
theorem dX8_carryAll_104 : decode cX8_carryAll 104 = .ok (.aload_n 0, 1) := by decide +kernel
theorem dX8_carryAll_105 : decode cX8_carryAll 105 = .ok (.getfield 20, 3) := by decide +kernel
theorem dX8_carryAll_108 : decode cX8_carryAll 108 = .ok (.iload_n 3, 1) := by decide +kernel
theorem dX8_carryAll_109 : decode cX8_carryAll 109 = .ok (.iaload, 1) := by decide +kernel
theorem dX8_carryAll_110 : decode cX8_carryAll 110 = .ok (.invokevirtual 147, 3) := by decide +kernel
theorem dX8_carryAll_113 : decode cX8_carryAll 113 = .ok (.iastore, 1) := by decide +kernel
theorem dX8_carryAll_114 : decode cX8_carryAll 114 = .ok (.aload_n 0, 1) := by decide +kernel
theorem dX8_carryAll_115 : decode cX8_carryAll 115 = .ok (.getfield 23, 3) := by decide +kernel
theorem dX8_carryAll_118 : decode cX8_carryAll 118 = .ok (.iload_n 3, 1) := by decide +kernel
theorem dX8_carryAll_119 : decode cX8_carryAll 119 = .ok (.aload_n 0, 1) := by decide +kernel
theorem dX8_carryAll_120 : decode cX8_carryAll 120 = .ok (.aload_n 0, 1) := by decide +kernel
theorem dX8_carryAll_121 : decode cX8_carryAll 121 = .ok (.getfield 23, 3) := by decide +kernel
theorem dX8_carryAll_124 : decode cX8_carryAll 124 = .ok (.iload_n 3, 1) := by decide +kernel
theorem dX8_carryAll_125 : decode cX8_carryAll 125 = .ok (.iaload, 1) := by decide +kernel
theorem dX8_carryAll_126 : decode cX8_carryAll 126 = .ok (.invokevirtual 147, 3) := by decide +kernel
theorem dX8_carryAll_129 : decode cX8_carryAll 129 = .ok (.iastore, 1) := by decide +kernel
theorem dX8_carryAll_130 : decode cX8_carryAll 130 = .ok (.aload_n 0, 1) := by decide +kernel
theorem dX8_carryAll_131 : decode cX8_carryAll 131 = .ok (.getfield 26, 3) := by decide +kernel
theorem dX8_carryAll_134 : decode cX8_carryAll 134 = .ok (.iload_n 3, 1) := by decide +kernel
theorem dX8_carryAll_135 : decode cX8_carryAll 135 = .ok (.aload_n 0, 1) := by decide +kernel
theorem dX8_carryAll_136 : decode cX8_carryAll 136 = .ok (.aload_n 0, 1) := by decide +kernel
theorem dX8_carryAll_137 : decode cX8_carryAll 137 = .ok (.getfield 26, 3) := by decide +kernel
theorem dX8_carryAll_140 : decode cX8_carryAll 140 = .ok (.iload_n 3, 1) := by decide +kernel
theorem dX8_carryAll_141 : decode cX8_carryAll 141 = .ok (.iaload, 1) := by decide +kernel
theorem dX8_carryAll_142 : decode cX8_carryAll 142 = .ok (.invokevirtual 147, 3) := by decide +kernel
theorem dX8_carryAll_145 : decode cX8_carryAll 145 = .ok (.iastore, 1) := by decide +kernel
theorem dX8_carryAll_146 : decode cX8_carryAll 146 = .ok (.iinc 3 1, 3) := by decide +kernel
theorem dX8_carryAll_149 : decode cX8_carryAll 149 = .ok (.goto (-72), 3) := by decide +kernel
theorem dX8_carryAll_152 : decode cX8_carryAll 152 = .ok (.iconst 0, 1) := by decide +kernel
theorem dX8_carryAll_153 : decode cX8_carryAll 153 = .ok (.istore_n 3, 1) := by decide +kernel
theorem dX8_carryAll_154 : decode cX8_carryAll 154 = .ok (.iload_n 3, 1) := by decide +kernel
theorem dX8_carryAll_155 : decode cX8_carryAll 155 = .ok (.sipush 128, 3) := by decide +kernel
theorem dX8_carryAll_158 : decode cX8_carryAll 158 = .ok (.if_icmp .ge 25, 3) := by decide +kernel
theorem dX8_carryAll_161 : decode cX8_carryAll 161 = .ok (.aload_n 0, 1) := by decide +kernel
theorem dX8_carryAll_162 : decode cX8_carryAll 162 = .ok (.getfield 17, 3) := by decide +kernel
theorem dX8_carryAll_165 : decode cX8_carryAll 165 = .ok (.iload_n 3, 1) := by decide +kernel
theorem dX8_carryAll_166 : decode cX8_carryAll 166 = .ok (.aload_n 0, 1) := by decide +kernel
theorem dX8_carryAll_167 : decode cX8_carryAll 167 = .ok (.aload_n 0, 1) := by decide +kernel
theorem dX8_carryAll_168 : decode cX8_carryAll 168 = .ok (.getfield 17, 3) := by decide +kernel
theorem dX8_carryAll_171 : decode cX8_carryAll 171 = .ok (.iload_n 3, 1) := by decide +kernel
theorem dX8_carryAll_172 : decode cX8_carryAll 172 = .ok (.iaload, 1) := by decide +kernel
theorem dX8_carryAll_173 : decode cX8_carryAll 173 = .ok (.invokevirtual 147, 3) := by decide +kernel
theorem dX8_carryAll_176 : decode cX8_carryAll 176 = .ok (.iastore, 1) := by decide +kernel
theorem dX8_carryAll_177 : decode cX8_carryAll 177 = .ok (.iinc 3 1, 3) := by decide +kernel
theorem dX8_carryAll_180 : decode cX8_carryAll 180 = .ok (.goto (-26), 3) := by decide +kernel
theorem dX8_carryAll_183 : decode cX8_carryAll 183 = .ok (.iconst 0, 1) := by decide +kernel
theorem dX8_carryAll_184 : decode cX8_carryAll 184 = .ok (.istore_n 3, 1) := by decide +kernel
theorem dX8_carryAll_185 : decode cX8_carryAll 185 = .ok (.iload_n 3, 1) := by decide +kernel
theorem dX8_carryAll_186 : decode cX8_carryAll 186 = .ok (.bipush 32, 2) := by decide +kernel
theorem dX8_carryAll_188 : decode cX8_carryAll 188 = .ok (.if_icmp .ge 121, 3) := by decide +kernel
theorem dX8_carryAll_191 : decode cX8_carryAll 191 = .ok (.aload_n 0, 1) := by decide +kernel
theorem dX8_carryAll_192 : decode cX8_carryAll 192 = .ok (.getfield 29, 3) := by decide +kernel
theorem dX8_carryAll_195 : decode cX8_carryAll 195 = .ok (.iload_n 3, 1) := by decide +kernel
theorem dX8_carryAll_196 : decode cX8_carryAll 196 = .ok (.aload_n 0, 1) := by decide +kernel
theorem dX8_carryAll_197 : decode cX8_carryAll 197 = .ok (.aload_n 0, 1) := by decide +kernel
theorem dX8_carryAll_198 : decode cX8_carryAll 198 = .ok (.getfield 29, 3) := by decide +kernel
theorem dX8_carryAll_201 : decode cX8_carryAll 201 = .ok (.iload_n 3, 1) := by decide +kernel
theorem dX8_carryAll_202 : decode cX8_carryAll 202 = .ok (.iaload, 1) := by decide +kernel
theorem dX8_carryAll_203 : decode cX8_carryAll 203 = .ok (.invokevirtual 147, 3) := by decide +kernel
theorem dX8_carryAll_206 : decode cX8_carryAll 206 = .ok (.iastore, 1) := by decide +kernel
theorem dX8_carryAll_207 : decode cX8_carryAll 207 = .ok (.aload_n 0, 1) := by decide +kernel
theorem dX8_carryAll_208 : decode cX8_carryAll 208 = .ok (.getfield 32, 3) := by decide +kernel
theorem dX8_carryAll_211 : decode cX8_carryAll 211 = .ok (.iload_n 3, 1) := by decide +kernel
theorem dX8_carryAll_212 : decode cX8_carryAll 212 = .ok (.aload_n 0, 1) := by decide +kernel
theorem dX8_carryAll_213 : decode cX8_carryAll 213 = .ok (.aload_n 0, 1) := by decide +kernel
theorem dX8_carryAll_214 : decode cX8_carryAll 214 = .ok (.getfield 32, 3) := by decide +kernel
theorem dX8_carryAll_217 : decode cX8_carryAll 217 = .ok (.iload_n 3, 1) := by decide +kernel
theorem dX8_carryAll_218 : decode cX8_carryAll 218 = .ok (.iaload, 1) := by decide +kernel
theorem dX8_carryAll_219 : decode cX8_carryAll 219 = .ok (.invokevirtual 147, 3) := by decide +kernel
theorem dX8_carryAll_222 : decode cX8_carryAll 222 = .ok (.iastore, 1) := by decide +kernel
theorem dX8_carryAll_223 : decode cX8_carryAll 223 = .ok (.aload_n 0, 1) := by decide +kernel
theorem dX8_carryAll_224 : decode cX8_carryAll 224 = .ok (.getfield 35, 3) := by decide +kernel
theorem dX8_carryAll_227 : decode cX8_carryAll 227 = .ok (.iload_n 3, 1) := by decide +kernel
theorem dX8_carryAll_228 : decode cX8_carryAll 228 = .ok (.aload_n 0, 1) := by decide +kernel
theorem dX8_carryAll_229 : decode cX8_carryAll 229 = .ok (.aload_n 0, 1) := by decide +kernel
theorem dX8_carryAll_230 : decode cX8_carryAll 230 = .ok (.getfield 35, 3) := by decide +kernel
theorem dX8_carryAll_233 : decode cX8_carryAll 233 = .ok (.iload_n 3, 1) := by decide +kernel
theorem dX8_carryAll_234 : decode cX8_carryAll 234 = .ok (.iaload, 1) := by decide +kernel
theorem dX8_carryAll_235 : decode cX8_carryAll 235 = .ok (.invokevirtual 147, 3) := by decide +kernel
theorem dX8_carryAll_238 : decode cX8_carryAll 238 = .ok (.iastore, 1) := by decide +kernel
theorem dX8_carryAll_239 : decode cX8_carryAll 239 = .ok (.aload_n 0, 1) := by decide +kernel
theorem dX8_carryAll_240 : decode cX8_carryAll 240 = .ok (.getfield 38, 3) := by decide +kernel
theorem dX8_carryAll_243 : decode cX8_carryAll 243 = .ok (.iload_n 3, 1) := by decide +kernel
theorem dX8_carryAll_244 : decode cX8_carryAll 244 = .ok (.aload_n 0, 1) := by decide +kernel
theorem dX8_carryAll_245 : decode cX8_carryAll 245 = .ok (.aload_n 0, 1) := by decide +kernel
theorem dX8_carryAll_246 : decode cX8_carryAll 246 = .ok (.getfield 38, 3) := by decide +kernel
theorem dX8_carryAll_249 : decode cX8_carryAll 249 = .ok (.iload_n 3, 1) := by decide +kernel
theorem dX8_carryAll_250 : decode cX8_carryAll 250 = .ok (.iaload, 1) := by decide +kernel
theorem dX8_carryAll_251 : decode cX8_carryAll 251 = .ok (.invokevirtual 147, 3) := by decide +kernel
theorem dX8_carryAll_254 : decode cX8_carryAll 254 = .ok (.iastore, 1) := by decide +kernel
theorem dX8_carryAll_255 : decode cX8_carryAll 255 = .ok (.aload_n 0, 1) := by decide +kernel
theorem dX8_carryAll_256 : decode cX8_carryAll 256 = .ok (.getfield 41, 3) := by decide +kernel
theorem dX8_carryAll_259 : decode cX8_carryAll 259 = .ok (.iload_n 3, 1) := by decide +kernel
theorem dX8_carryAll_260 : decode cX8_carryAll 260 = .ok (.aload_n 0, 1) := by decide +kernel
theorem dX8_carryAll_261 : decode cX8_carryAll 261 = .ok (.aload_n 0, 1) := by decide +kernel
theorem dX8_carryAll_262 : decode cX8_carryAll 262 = .ok (.getfield 41, 3) := by decide +kernel
theorem dX8_carryAll_265 : decode cX8_carryAll 265 = .ok (.iload_n 3, 1) := by decide +kernel
theorem dX8_carryAll_266 : decode cX8_carryAll 266 = .ok (.iaload, 1) := by decide +kernel
theorem dX8_carryAll_267 : decode cX8_carryAll 267 = .ok (.invokevirtual 147, 3) := by decide +kernel
theorem dX8_carryAll_270 : decode cX8_carryAll 270 = .ok (.iastore, 1) := by decide +kernel
theorem dX8_carryAll_271 : decode cX8_carryAll 271 = .ok (.aload_n 0, 1) := by decide +kernel
theorem dX8_carryAll_272 : decode cX8_carryAll 272 = .ok (.getfield 44, 3) := by decide +kernel
theorem dX8_carryAll_275 : decode cX8_carryAll 275 = .ok (.iload_n 3, 1) := by decide +kernel
theorem dX8_carryAll_276 : decode cX8_carryAll 276 = .ok (.aload_n 0, 1) := by decide +kernel
theorem dX8_carryAll_277 : decode cX8_carryAll 277 = .ok (.aload_n 0, 1) := by decide +kernel
theorem dX8_carryAll_278 : decode cX8_carryAll 278 = .ok (.getfield 44, 3) := by decide +kernel
theorem dX8_carryAll_281 : decode cX8_carryAll 281 = .ok (.iload_n 3, 1) := by decide +kernel
theorem dX8_carryAll_282 : decode cX8_carryAll 282 = .ok (.iaload, 1) := by decide +kernel
theorem dX8_carryAll_283 : decode cX8_carryAll 283 = .ok (.invokevirtual 147, 3) := by decide +kernel
theorem dX8_carryAll_286 : decode cX8_carryAll 286 = .ok (.iastore, 1) := by decide +kernel
theorem dX8_carryAll_287 : decode cX8_carryAll 287 = .ok (.aload_n 0, 1) := by decide +kernel
theorem dX8_carryAll_288 : decode cX8_carryAll 288 = .ok (.getfield 47, 3) := by decide +kernel
theorem dX8_carryAll_291 : decode cX8_carryAll 291 = .ok (.iload_n 3, 1) := by decide +kernel
theorem dX8_carryAll_292 : decode cX8_carryAll 292 = .ok (.aload_n 0, 1) := by decide +kernel
theorem dX8_carryAll_293 : decode cX8_carryAll 293 = .ok (.aload_n 0, 1) := by decide +kernel
theorem dX8_carryAll_294 : decode cX8_carryAll 294 = .ok (.getfield 47, 3) := by decide +kernel
theorem dX8_carryAll_297 : decode cX8_carryAll 297 = .ok (.iload_n 3, 1) := by decide +kernel
theorem dX8_carryAll_298 : decode cX8_carryAll 298 = .ok (.iaload, 1) := by decide +kernel
theorem dX8_carryAll_299 : decode cX8_carryAll 299 = .ok (.invokevirtual 147, 3) := by decide +kernel
theorem dX8_carryAll_302 : decode cX8_carryAll 302 = .ok (.iastore, 1) := by decide +kernel
theorem dX8_carryAll_303 : decode cX8_carryAll 303 = .ok (.iinc 3 1, 3) := by decide +kernel
theorem dX8_carryAll_306 : decode cX8_carryAll 306 = .ok (.goto (-121), 3) := by decide +kernel
theorem dX8_carryAll_309 : decode cX8_carryAll 309 = .ok (.iconst 0, 1) := by decide +kernel
theorem dX8_carryAll_310 : decode cX8_carryAll 310 = .ok (.istore_n 3, 1) := by decide +kernel
theorem dX8_carryAll_311 : decode cX8_carryAll 311 = .ok (.iload_n 3, 1) := by decide +kernel
theorem dX8_carryAll_312 : decode cX8_carryAll 312 = .ok (.sipush 160, 3) := by decide +kernel
theorem dX8_carryAll_315 : decode cX8_carryAll 315 = .ok (.if_icmp .ge 25, 3) := by decide +kernel
theorem dX8_carryAll_318 : decode cX8_carryAll 318 = .ok (.aload_n 0, 1) := by decide +kernel
theorem dX8_carryAll_319 : decode cX8_carryAll 319 = .ok (.getfield 53, 3) := by decide +kernel
theorem dX8_carryAll_322 : decode cX8_carryAll 322 = .ok (.iload_n 3, 1) := by decide +kernel
theorem dX8_carryAll_323 : decode cX8_carryAll 323 = .ok (.aload_n 0, 1) := by decide +kernel
theorem dX8_carryAll_324 : decode cX8_carryAll 324 = .ok (.aload_n 0, 1) := by decide +kernel
theorem dX8_carryAll_325 : decode cX8_carryAll 325 = .ok (.getfield 53, 3) := by decide +kernel
theorem dX8_carryAll_328 : decode cX8_carryAll 328 = .ok (.iload_n 3, 1) := by decide +kernel
theorem dX8_carryAll_329 : decode cX8_carryAll 329 = .ok (.iaload, 1) := by decide +kernel
theorem dX8_carryAll_330 : decode cX8_carryAll 330 = .ok (.invokevirtual 147, 3) := by decide +kernel
theorem dX8_carryAll_333 : decode cX8_carryAll 333 = .ok (.iastore, 1) := by decide +kernel
theorem dX8_carryAll_334 : decode cX8_carryAll 334 = .ok (.iinc 3 1, 3) := by decide +kernel
theorem dX8_carryAll_337 : decode cX8_carryAll 337 = .ok (.goto (-26), 3) := by decide +kernel
theorem dX8_carryAll_340 : decode cX8_carryAll 340 = .ok (.aload_n 0, 1) := by decide +kernel
theorem dX8_carryAll_341 : decode cX8_carryAll 341 = .ok (.invokevirtual 163, 3) := by decide +kernel
theorem dX8_carryAll_344 : decode cX8_carryAll 344 = .ok (.return_, 1) := by decide +kernel
theorem dX8_open_0 : decode cX8_open 0 = .ok (.aload_n 0, 1) := by decide +kernel
theorem dX8_open_1 : decode cX8_open 1 = .ok (.aload_n 0, 1) := by decide +kernel
theorem dX8_open_2 : decode cX8_open 2 = .ok (.getfield 74, 3) := by decide +kernel
theorem dX8_open_5 : decode cX8_open 5 = .ok (.iconst 1, 1) := by decide +kernel
theorem dX8_open_6 : decode cX8_open 6 = .ok (.invokevirtual 166, 3) := by decide +kernel
theorem dX8_open_9 : decode cX8_open 9 = .ok (.return_, 1) := by decide +kernel
theorem dX8_again_0 : decode cX8_again 0 = .ok (.aload_n 0, 1) := by decide +kernel
theorem dX8_again_1 : decode cX8_again 1 = .ok (.aload_n 0, 1) := by decide +kernel
theorem dX8_again_2 : decode cX8_again 2 = .ok (.getfield 74, 3) := by decide +kernel
theorem dX8_again_5 : decode cX8_again 5 = .ok (.iconst 0, 1) := by decide +kernel
theorem dX8_again_6 : decode cX8_again 6 = .ok (.invokevirtual 166, 3) := by decide +kernel
theorem dX8_again_9 : decode cX8_again 9 = .ok (.return_, 1) := by decide +kernel
theorem dX8_image_0 : decode cX8_image 0 = .ok (.aload_n 0, 1) := by decide +kernel
theorem dX8_image_1 : decode cX8_image 1 = .ok (.iconst 0, 1) := by decide +kernel
theorem dX8_image_2 : decode cX8_image 2 = .ok (.putfield 124, 3) := by decide +kernel
theorem dX8_image_5 : decode cX8_image 5 = .ok (.aload_n 0, 1) := by decide +kernel
theorem dX8_image_6 : decode cX8_image 6 = .ok (.iconst 1, 1) := by decide +kernel
theorem dX8_image_7 : decode cX8_image 7 = .ok (.putfield 170, 3) := by decide +kernel
theorem dX8_image_10 : decode cX8_image 10 = .ok (.aload_n 0, 1) := by decide +kernel
theorem dX8_image_11 : decode cX8_image 11 = .ok (.aload_n 0, 1) := by decide +kernel
theorem dX8_image_12 : decode cX8_image 12 = .ok (.getfield 77, 3) := by decide +kernel
theorem dX8_image_15 : decode cX8_image 15 = .ok (.iconst 1, 1) := by decide +kernel
theorem dX8_image_16 : decode cX8_image 16 = .ok (.invokevirtual 166, 3) := by decide +kernel
theorem dX8_image_19 : decode cX8_image 19 = .ok (.aload_n 0, 1) := by decide +kernel
theorem dX8_image_20 : decode cX8_image 20 = .ok (.getfield 127, 3) := by decide +kernel
theorem dX8_image_23 : decode cX8_image 23 = .ok (.ireturn, 1) := by decide +kernel
theorem dX8_undo_0 : decode cX8_undo 0 = .ok (.aload_n 0, 1) := by decide +kernel
theorem dX8_undo_1 : decode cX8_undo 1 = .ok (.iconst 0, 1) := by decide +kernel
theorem dX8_undo_2 : decode cX8_undo 2 = .ok (.putfield 124, 3) := by decide +kernel
theorem dX8_undo_5 : decode cX8_undo 5 = .ok (.aload_n 0, 1) := by decide +kernel
theorem dX8_undo_6 : decode cX8_undo 6 = .ok (.getfield 170, 3) := by decide +kernel
theorem dX8_undo_9 : decode cX8_undo 9 = .ok (.ifCond .ne 6, 3) := by decide +kernel
theorem dX8_undo_12 : decode cX8_undo 12 = .ok (.bipush (-3), 2) := by decide +kernel
theorem dX8_undo_14 : decode cX8_undo 14 = .ok (.ireturn, 1) := by decide +kernel
theorem dX8_undo_15 : decode cX8_undo 15 = .ok (.aload_n 0, 1) := by decide +kernel
theorem dX8_undo_16 : decode cX8_undo 16 = .ok (.aload_n 0, 1) := by decide +kernel
theorem dX8_undo_17 : decode cX8_undo 17 = .ok (.getfield 77, 3) := by decide +kernel
theorem dX8_undo_20 : decode cX8_undo 20 = .ok (.iconst 0, 1) := by decide +kernel
theorem dX8_undo_21 : decode cX8_undo 21 = .ok (.invokevirtual 166, 3) := by decide +kernel
theorem dX8_undo_24 : decode cX8_undo 24 = .ok (.aload_n 0, 1) := by decide +kernel
theorem dX8_undo_25 : decode cX8_undo 25 = .ok (.getfield 127, 3) := by decide +kernel
theorem dX8_undo_28 : decode cX8_undo 28 = .ok (.ireturn, 1) := by decide +kernel
theorem dX8_looksAt_0 : decode cX8_looksAt 0 = .ok (.iconst 0, 1) := by decide +kernel
theorem dX8_looksAt_1 : decode cX8_looksAt 1 = .ok (.istore_n 2, 1) := by decide +kernel
theorem dX8_looksAt_2 : decode cX8_looksAt 2 = .ok (.iload_n 2, 1) := by decide +kernel
theorem dX8_looksAt_3 : decode cX8_looksAt 3 = .ok (.aload_n 0, 1) := by decide +kernel
theorem dX8_looksAt_4 : decode cX8_looksAt 4 = .ok (.getfield 144, 3) := by decide +kernel
theorem dX8_looksAt_7 : decode cX8_looksAt 7 = .ok (.if_icmp .ge 48, 3) := by decide +kernel
theorem dX8_looksAt_10 : decode cX8_looksAt 10 = .ok (.aload_n 0, 1) := by decide +kernel
theorem dX8_looksAt_11 : decode cX8_looksAt 11 = .ok (.aload_n 0, 1) := by decide +kernel
theorem dX8_looksAt_12 : decode cX8_looksAt 12 = .ok (.getfield 173, 3) := by decide +kernel
theorem dX8_looksAt_15 : decode cX8_looksAt 15 = .ok (.ifCond .ne 26, 3) := by decide +kernel
theorem dX8_looksAt_18 : decode cX8_looksAt 18 = .ok (.aload_n 0, 1) := by decide +kernel
theorem dX8_looksAt_19 : decode cX8_looksAt 19 = .ok (.getfield 59, 3) := by decide +kernel
theorem dX8_looksAt_22 : decode cX8_looksAt 22 = .ok (.iload_n 2, 1) := by decide +kernel
theorem dX8_looksAt_23 : decode cX8_looksAt 23 = .ok (.iaload, 1) := by decide +kernel
theorem dX8_looksAt_24 : decode cX8_looksAt 24 = .ok (.aload_n 0, 1) := by decide +kernel
theorem dX8_looksAt_25 : decode cX8_looksAt 25 = .ok (.getfield 176, 3) := by decide +kernel
theorem dX8_looksAt_28 : decode cX8_looksAt 28 = .ok (.if_icmp .ne 17, 3) := by decide +kernel
theorem dX8_looksAt_31 : decode cX8_looksAt 31 = .ok (.aload_n 0, 1) := by decide +kernel
theorem dX8_looksAt_32 : decode cX8_looksAt 32 = .ok (.getfield 56, 3) := by decide +kernel
theorem dX8_looksAt_35 : decode cX8_looksAt 35 = .ok (.iload_n 2, 1) := by decide +kernel
theorem dX8_looksAt_36 : decode cX8_looksAt 36 = .ok (.iaload, 1) := by decide +kernel
theorem dX8_looksAt_37 : decode cX8_looksAt 37 = .ok (.iload_n 1, 1) := by decide +kernel
theorem dX8_looksAt_38 : decode cX8_looksAt 38 = .ok (.if_icmp .eq 7, 3) := by decide +kernel
theorem dX8_looksAt_41 : decode cX8_looksAt 41 = .ok (.iconst 1, 1) := by decide +kernel
theorem dX8_looksAt_42 : decode cX8_looksAt 42 = .ok (.goto 4, 3) := by decide +kernel
theorem dX8_looksAt_45 : decode cX8_looksAt 45 = .ok (.iconst 0, 1) := by decide +kernel
theorem dX8_looksAt_46 : decode cX8_looksAt 46 = .ok (.putfield 173, 3) := by decide +kernel
theorem dX8_looksAt_49 : decode cX8_looksAt 49 = .ok (.iinc 2 1, 3) := by decide +kernel
theorem dX8_looksAt_52 : decode cX8_looksAt 52 = .ok (.goto (-50), 3) := by decide +kernel
theorem dX8_looksAt_55 : decode cX8_looksAt 55 = .ok (.aload_n 0, 1) := by decide +kernel
theorem dX8_looksAt_56 : decode cX8_looksAt 56 = .ok (.dup, 1) := by decide +kernel
theorem dX8_looksAt_57 : decode cX8_looksAt 57 = .ok (.getfield 176, 3) := by decide +kernel
theorem dX8_looksAt_60 : decode cX8_looksAt 60 = .ok (.iconst 1, 1) := by decide +kernel
theorem dX8_looksAt_61 : decode cX8_looksAt 61 = .ok (.iadd, 1) := by decide +kernel
theorem dX8_looksAt_62 : decode cX8_looksAt 62 = .ok (.putfield 176, 3) := by decide +kernel
theorem dX8_looksAt_65 : decode cX8_looksAt 65 = .ok (.return_, 1) := by decide +kernel
theorem dX8_entry_0 : decode cX8_entry 0 = .ok (.aload_n 0, 1) := by decide +kernel
theorem dX8_entry_1 : decode cX8_entry 1 = .ok (.getfield 160, 3) := by decide +kernel
theorem dX8_entry_4 : decode cX8_entry 4 = .ok (.bipush 40, 2) := by decide +kernel
theorem dX8_entry_6 : decode cX8_entry 6 = .ok (.if_icmp .ne 46, 3) := by decide +kernel
theorem dX8_entry_9 : decode cX8_entry 9 = .ok (.iconst 4, 1) := by decide +kernel
theorem dX8_entry_10 : decode cX8_entry 10 = .ok (.istore 4, 2) := by decide +kernel
theorem dX8_entry_12 : decode cX8_entry 12 = .ok (.iload 4, 2) := by decide +kernel
theorem dX8_entry_14 : decode cX8_entry 14 = .ok (.sipush 160, 3) := by decide +kernel
theorem dX8_entry_17 : decode cX8_entry 17 = .ok (.if_icmp .ge 25, 3) := by decide +kernel
theorem dX8_entry_20 : decode cX8_entry 20 = .ok (.aload_n 0, 1) := by decide +kernel
theorem dX8_entry_21 : decode cX8_entry 21 = .ok (.getfield 53, 3) := by decide +kernel
theorem dX8_entry_24 : decode cX8_entry 24 = .ok (.iload 4, 2) := by decide +kernel
theorem dX8_entry_26 : decode cX8_entry 26 = .ok (.iconst 4, 1) := by decide +kernel
theorem dX8_entry_27 : decode cX8_entry 27 = .ok (.isub, 1) := by decide +kernel
theorem dX8_entry_28 : decode cX8_entry 28 = .ok (.aload_n 0, 1) := by decide +kernel
theorem dX8_entry_29 : decode cX8_entry 29 = .ok (.getfield 53, 3) := by decide +kernel
theorem dX8_entry_32 : decode cX8_entry 32 = .ok (.iload 4, 2) := by decide +kernel
theorem dX8_entry_34 : decode cX8_entry 34 = .ok (.iaload, 1) := by decide +kernel
theorem dX8_entry_35 : decode cX8_entry 35 = .ok (.iastore, 1) := by decide +kernel
theorem dX8_entry_36 : decode cX8_entry 36 = .ok (.iinc 4 1, 3) := by decide +kernel
theorem dX8_entry_39 : decode cX8_entry 39 = .ok (.goto (-27), 3) := by decide +kernel
theorem dX8_entry_42 : decode cX8_entry 42 = .ok (.aload_n 0, 1) := by decide +kernel
theorem dX8_entry_43 : decode cX8_entry 43 = .ok (.dup, 1) := by decide +kernel
theorem dX8_entry_44 : decode cX8_entry 44 = .ok (.getfield 160, 3) := by decide +kernel
theorem dX8_entry_47 : decode cX8_entry 47 = .ok (.iconst 1, 1) := by decide +kernel
theorem dX8_entry_48 : decode cX8_entry 48 = .ok (.isub, 1) := by decide +kernel
theorem dX8_entry_49 : decode cX8_entry 49 = .ok (.putfield 160, 3) := by decide +kernel
theorem dX8_entry_52 : decode cX8_entry 52 = .ok (.aload_n 0, 1) := by decide +kernel
theorem dX8_entry_53 : decode cX8_entry 53 = .ok (.getfield 53, 3) := by decide +kernel
theorem dX8_entry_56 : decode cX8_entry 56 = .ok (.iconst 4, 1) := by decide +kernel
theorem dX8_entry_57 : decode cX8_entry 57 = .ok (.aload_n 0, 1) := by decide +kernel
theorem dX8_entry_58 : decode cX8_entry 58 = .ok (.getfield 160, 3) := by decide +kernel
theorem dX8_entry_61 : decode cX8_entry 61 = .ok (.imul, 1) := by decide +kernel
theorem dX8_entry_62 : decode cX8_entry 62 = .ok (.aload_n 0, 1) := by decide +kernel
theorem dX8_entry_63 : decode cX8_entry 63 = .ok (.getfield 157, 3) := by decide +kernel
theorem dX8_entry_66 : decode cX8_entry 66 = .ok (.iastore, 1) := by decide +kernel
theorem dX8_entry_67 : decode cX8_entry 67 = .ok (.aload_n 0, 1) := by decide +kernel
theorem dX8_entry_68 : decode cX8_entry 68 = .ok (.getfield 53, 3) := by decide +kernel
theorem dX8_entry_71 : decode cX8_entry 71 = .ok (.iconst 4, 1) := by decide +kernel
theorem dX8_entry_72 : decode cX8_entry 72 = .ok (.aload_n 0, 1) := by decide +kernel
theorem dX8_entry_73 : decode cX8_entry 73 = .ok (.getfield 160, 3) := by decide +kernel
theorem dX8_entry_76 : decode cX8_entry 76 = .ok (.imul, 1) := by decide +kernel
theorem dX8_entry_77 : decode cX8_entry 77 = .ok (.iconst 1, 1) := by decide +kernel
theorem dX8_entry_78 : decode cX8_entry 78 = .ok (.iadd, 1) := by decide +kernel
theorem dX8_entry_79 : decode cX8_entry 79 = .ok (.iload_n 1, 1) := by decide +kernel
theorem dX8_entry_80 : decode cX8_entry 80 = .ok (.iastore, 1) := by decide +kernel
theorem dX8_entry_81 : decode cX8_entry 81 = .ok (.aload_n 0, 1) := by decide +kernel
theorem dX8_entry_82 : decode cX8_entry 82 = .ok (.getfield 53, 3) := by decide +kernel
theorem dX8_entry_85 : decode cX8_entry 85 = .ok (.iconst 4, 1) := by decide +kernel
theorem dX8_entry_86 : decode cX8_entry 86 = .ok (.aload_n 0, 1) := by decide +kernel
theorem dX8_entry_87 : decode cX8_entry 87 = .ok (.getfield 160, 3) := by decide +kernel
theorem dX8_entry_90 : decode cX8_entry 90 = .ok (.imul, 1) := by decide +kernel
theorem dX8_entry_91 : decode cX8_entry 91 = .ok (.iconst 2, 1) := by decide +kernel
theorem dX8_entry_92 : decode cX8_entry 92 = .ok (.iadd, 1) := by decide +kernel
theorem dX8_entry_93 : decode cX8_entry 93 = .ok (.iload_n 2, 1) := by decide +kernel
theorem dX8_entry_94 : decode cX8_entry 94 = .ok (.iastore, 1) := by decide +kernel
theorem dX8_entry_95 : decode cX8_entry 95 = .ok (.aload_n 0, 1) := by decide +kernel
theorem dX8_entry_96 : decode cX8_entry 96 = .ok (.getfield 53, 3) := by decide +kernel
theorem dX8_entry_99 : decode cX8_entry 99 = .ok (.iconst 4, 1) := by decide +kernel
theorem dX8_entry_100 : decode cX8_entry 100 = .ok (.aload_n 0, 1) := by decide +kernel
theorem dX8_entry_101 : decode cX8_entry 101 = .ok (.getfield 160, 3) := by decide +kernel
theorem dX8_entry_104 : decode cX8_entry 104 = .ok (.imul, 1) := by decide +kernel
theorem dX8_entry_105 : decode cX8_entry 105 = .ok (.iconst 3, 1) := by decide +kernel
theorem dX8_entry_106 : decode cX8_entry 106 = .ok (.iadd, 1) := by decide +kernel
theorem dX8_entry_107 : decode cX8_entry 107 = .ok (.iload_n 3, 1) := by decide +kernel
theorem dX8_entry_108 : decode cX8_entry 108 = .ok (.iastore, 1) := by decide +kernel
theorem dX8_entry_109 : decode cX8_entry 109 = .ok (.aload_n 0, 1) := by decide +kernel
theorem dX8_entry_110 : decode cX8_entry 110 = .ok (.dup, 1) := by decide +kernel
theorem dX8_entry_111 : decode cX8_entry 111 = .ok (.getfield 160, 3) := by decide +kernel
theorem dX8_entry_114 : decode cX8_entry 114 = .ok (.iconst 1, 1) := by decide +kernel
theorem dX8_entry_115 : decode cX8_entry 115 = .ok (.iadd, 1) := by decide +kernel
theorem dX8_entry_116 : decode cX8_entry 116 = .ok (.putfield 160, 3) := by decide +kernel
theorem dX8_entry_119 : decode cX8_entry 119 = .ok (.aload_n 0, 1) := by decide +kernel
theorem dX8_entry_120 : decode cX8_entry 120 = .ok (.iload_n 3, 1) := by decide +kernel
theorem dX8_entry_121 : decode cX8_entry 121 = .ok (.invokevirtual 179, 3) := by decide +kernel
theorem dX8_entry_124 : decode cX8_entry 124 = .ok (.return_, 1) := by decide +kernel
theorem dX8_leavesRows_0 : decode cX8_leavesRows 0 = .ok (.iconst 0, 1) := by decide +kernel
theorem dX8_leavesRows_1 : decode cX8_leavesRows 1 = .ok (.istore_n 2, 1) := by decide +kernel
theorem dX8_leavesRows_2 : decode cX8_leavesRows 2 = .ok (.iload_n 2, 1) := by decide +kernel
theorem dX8_leavesRows_3 : decode cX8_leavesRows 3 = .ok (.iconst 4, 1) := by decide +kernel
theorem dX8_leavesRows_4 : decode cX8_leavesRows 4 = .ok (.if_icmp .ge 112, 3) := by decide +kernel
theorem dX8_leavesRows_7 : decode cX8_leavesRows 7 = .ok (.aload_n 0, 1) := by decide +kernel
theorem dX8_leavesRows_8 : decode cX8_leavesRows 8 = .ok (.getfield 20, 3) := by decide +kernel
theorem dX8_leavesRows_11 : decode cX8_leavesRows 11 = .ok (.iload_n 2, 1) := by decide +kernel
theorem dX8_leavesRows_12 : decode cX8_leavesRows 12 = .ok (.aload_n 0, 1) := by decide +kernel
theorem dX8_leavesRows_13 : decode cX8_leavesRows 13 = .ok (.getfield 20, 3) := by decide +kernel
theorem dX8_leavesRows_16 : decode cX8_leavesRows 16 = .ok (.iload_n 2, 1) := by decide +kernel
theorem dX8_leavesRows_17 : decode cX8_leavesRows 17 = .ok (.iaload, 1) := by decide +kernel
theorem dX8_leavesRows_18 : decode cX8_leavesRows 18 = .ok (.iload_n 1, 1) := by decide +kernel
theorem dX8_leavesRows_19 : decode cX8_leavesRows 19 = .ok (.if_icmp .ne 8, 3) := by decide +kernel
theorem dX8_leavesRows_22 : decode cX8_leavesRows 22 = .ok (.bipush (-5), 2) := by decide +kernel
theorem dX8_leavesRows_24 : decode cX8_leavesRows 24 = .ok (.goto 9, 3) := by decide +kernel
theorem dX8_leavesRows_27 : decode cX8_leavesRows 27 = .ok (.aload_n 0, 1) := by decide +kernel
theorem dX8_leavesRows_28 : decode cX8_leavesRows 28 = .ok (.getfield 20, 3) := by decide +kernel
theorem dX8_leavesRows_31 : decode cX8_leavesRows 31 = .ok (.iload_n 2, 1) := by decide +kernel
theorem dX8_leavesRows_32 : decode cX8_leavesRows 32 = .ok (.iaload, 1) := by decide +kernel
theorem dX8_leavesRows_33 : decode cX8_leavesRows 33 = .ok (.iastore, 1) := by decide +kernel
theorem dX8_leavesRows_34 : decode cX8_leavesRows 34 = .ok (.iconst 0, 1) := by decide +kernel
theorem dX8_leavesRows_35 : decode cX8_leavesRows 35 = .ok (.istore_n 3, 1) := by decide +kernel
theorem dX8_leavesRows_36 : decode cX8_leavesRows 36 = .ok (.iconst 0, 1) := by decide +kernel
theorem dX8_leavesRows_37 : decode cX8_leavesRows 37 = .ok (.istore 4, 2) := by decide +kernel
theorem dX8_leavesRows_39 : decode cX8_leavesRows 39 = .ok (.iload 4, 2) := by decide +kernel
theorem dX8_leavesRows_41 : decode cX8_leavesRows 41 = .ok (.aload_n 0, 1) := by decide +kernel
theorem dX8_leavesRows_42 : decode cX8_leavesRows 42 = .ok (.getfield 13, 3) := by decide +kernel
theorem dX8_leavesRows_45 : decode cX8_leavesRows 45 = .ok (.iload_n 2, 1) := by decide +kernel
theorem dX8_leavesRows_46 : decode cX8_leavesRows 46 = .ok (.iaload, 1) := by decide +kernel
theorem dX8_leavesRows_47 : decode cX8_leavesRows 47 = .ok (.if_icmp .ge 56, 3) := by decide +kernel
theorem dX8_leavesRows_50 : decode cX8_leavesRows 50 = .ok (.aload_n 0, 1) := by decide +kernel
theorem dX8_leavesRows_51 : decode cX8_leavesRows 51 = .ok (.getfield 17, 3) := by decide +kernel
theorem dX8_leavesRows_54 : decode cX8_leavesRows 54 = .ok (.bipush 32, 2) := by decide +kernel
theorem dX8_leavesRows_56 : decode cX8_leavesRows 56 = .ok (.iload_n 2, 1) := by decide +kernel
theorem dX8_leavesRows_57 : decode cX8_leavesRows 57 = .ok (.imul, 1) := by decide +kernel
theorem dX8_leavesRows_58 : decode cX8_leavesRows 58 = .ok (.iload_n 3, 1) := by decide +kernel
theorem dX8_leavesRows_59 : decode cX8_leavesRows 59 = .ok (.iadd, 1) := by decide +kernel
theorem dX8_leavesRows_60 : decode cX8_leavesRows 60 = .ok (.aload_n 0, 1) := by decide +kernel
theorem dX8_leavesRows_61 : decode cX8_leavesRows 61 = .ok (.getfield 17, 3) := by decide +kernel
theorem dX8_leavesRows_64 : decode cX8_leavesRows 64 = .ok (.bipush 32, 2) := by decide +kernel
theorem dX8_leavesRows_66 : decode cX8_leavesRows 66 = .ok (.iload_n 2, 1) := by decide +kernel
theorem dX8_leavesRows_67 : decode cX8_leavesRows 67 = .ok (.imul, 1) := by decide +kernel
theorem dX8_leavesRows_68 : decode cX8_leavesRows 68 = .ok (.iload 4, 2) := by decide +kernel
theorem dX8_leavesRows_70 : decode cX8_leavesRows 70 = .ok (.iadd, 1) := by decide +kernel
theorem dX8_leavesRows_71 : decode cX8_leavesRows 71 = .ok (.iaload, 1) := by decide +kernel
theorem dX8_leavesRows_72 : decode cX8_leavesRows 72 = .ok (.iastore, 1) := by decide +kernel
theorem dX8_leavesRows_73 : decode cX8_leavesRows 73 = .ok (.iload_n 3, 1) := by decide +kernel
theorem dX8_leavesRows_74 : decode cX8_leavesRows 74 = .ok (.aload_n 0, 1) := by decide +kernel
theorem dX8_leavesRows_75 : decode cX8_leavesRows 75 = .ok (.getfield 17, 3) := by decide +kernel
theorem dX8_leavesRows_78 : decode cX8_leavesRows 78 = .ok (.bipush 32, 2) := by decide +kernel
theorem dX8_leavesRows_80 : decode cX8_leavesRows 80 = .ok (.iload_n 2, 1) := by decide +kernel
theorem dX8_leavesRows_81 : decode cX8_leavesRows 81 = .ok (.imul, 1) := by decide +kernel
theorem dX8_leavesRows_82 : decode cX8_leavesRows 82 = .ok (.iload 4, 2) := by decide +kernel
theorem dX8_leavesRows_84 : decode cX8_leavesRows 84 = .ok (.iadd, 1) := by decide +kernel
theorem dX8_leavesRows_85 : decode cX8_leavesRows 85 = .ok (.iaload, 1) := by decide +kernel
theorem dX8_leavesRows_86 : decode cX8_leavesRows 86 = .ok (.iload_n 1, 1) := by decide +kernel
theorem dX8_leavesRows_87 : decode cX8_leavesRows 87 = .ok (.if_icmp .ne 7, 3) := by decide +kernel
theorem dX8_leavesRows_90 : decode cX8_leavesRows 90 = .ok (.iconst 0, 1) := by decide +kernel
theorem dX8_leavesRows_91 : decode cX8_leavesRows 91 = .ok (.goto 4, 3) := by decide +kernel
theorem dX8_leavesRows_94 : decode cX8_leavesRows 94 = .ok (.iconst 1, 1) := by decide +kernel
theorem dX8_leavesRows_95 : decode cX8_leavesRows 95 = .ok (.iadd, 1) := by decide +kernel
theorem dX8_leavesRows_96 : decode cX8_leavesRows 96 = .ok (.istore_n 3, 1) := by decide +kernel
theorem dX8_leavesRows_97 : decode cX8_leavesRows 97 = .ok (.iinc 4 1, 3) := by decide +kernel
theorem dX8_leavesRows_100 : decode cX8_leavesRows 100 = .ok (.goto (-61), 3) := by decide +kernel
theorem dX8_leavesRows_103 : decode cX8_leavesRows 103 = .ok (.aload_n 0, 1) := by decide +kernel
theorem dX8_leavesRows_104 : decode cX8_leavesRows 104 = .ok (.getfield 13, 3) := by decide +kernel
theorem dX8_leavesRows_107 : decode cX8_leavesRows 107 = .ok (.iload_n 2, 1) := by decide +kernel
theorem dX8_leavesRows_108 : decode cX8_leavesRows 108 = .ok (.iload_n 3, 1) := by decide +kernel
theorem dX8_leavesRows_109 : decode cX8_leavesRows 109 = .ok (.iastore, 1) := by decide +kernel
theorem dX8_leavesRows_110 : decode cX8_leavesRows 110 = .ok (.iinc 2 1, 3) := by decide +kernel
theorem dX8_leavesRows_113 : decode cX8_leavesRows 113 = .ok (.goto (-111), 3) := by decide +kernel
theorem dX8_leavesRows_116 : decode cX8_leavesRows 116 = .ok (.return_, 1) := by decide +kernel
theorem dX8_cancelMarked_0 : decode cX8_cancelMarked 0 = .ok (.iconst 0, 1) := by decide +kernel
theorem dX8_cancelMarked_1 : decode cX8_cancelMarked 1 = .ok (.istore_n 1, 1) := by decide +kernel
theorem dX8_cancelMarked_2 : decode cX8_cancelMarked 2 = .ok (.iconst 0, 1) := by decide +kernel
theorem dX8_cancelMarked_3 : decode cX8_cancelMarked 3 = .ok (.istore_n 2, 1) := by decide +kernel
theorem dX8_cancelMarked_4 : decode cX8_cancelMarked 4 = .ok (.iload_n 2, 1) := by decide +kernel
theorem dX8_cancelMarked_5 : decode cX8_cancelMarked 5 = .ok (.aload_n 0, 1) := by decide +kernel
theorem dX8_cancelMarked_6 : decode cX8_cancelMarked 6 = .ok (.getfield 127, 3) := by decide +kernel
theorem dX8_cancelMarked_9 : decode cX8_cancelMarked 9 = .ok (.if_icmp .ge 92, 3) := by decide +kernel
theorem dX8_cancelMarked_12 : decode cX8_cancelMarked 12 = .ok (.aload_n 0, 1) := by decide +kernel
theorem dX8_cancelMarked_13 : decode cX8_cancelMarked 13 = .ok (.getfield 80, 3) := by decide +kernel
theorem dX8_cancelMarked_16 : decode cX8_cancelMarked 16 = .ok (.iload_n 2, 1) := by decide +kernel
theorem dX8_cancelMarked_17 : decode cX8_cancelMarked 17 = .ok (.aload_n 0, 1) := by decide +kernel
theorem dX8_cancelMarked_18 : decode cX8_cancelMarked 18 = .ok (.getfield 80, 3) := by decide +kernel
theorem dX8_cancelMarked_21 : decode cX8_cancelMarked 21 = .ok (.iload_n 2, 1) := by decide +kernel
theorem dX8_cancelMarked_22 : decode cX8_cancelMarked 22 = .ok (.baload, 1) := by decide +kernel
theorem dX8_cancelMarked_23 : decode cX8_cancelMarked 23 = .ok (.ifCond .ne 26, 3) := by decide +kernel
theorem dX8_cancelMarked_26 : decode cX8_cancelMarked 26 = .ok (.aload_n 0, 1) := by decide +kernel
theorem dX8_cancelMarked_27 : decode cX8_cancelMarked 27 = .ok (.getfield 41, 3) := by decide +kernel
theorem dX8_cancelMarked_30 : decode cX8_cancelMarked 30 = .ok (.iload_n 2, 1) := by decide +kernel
theorem dX8_cancelMarked_31 : decode cX8_cancelMarked 31 = .ok (.iaload, 1) := by decide +kernel
theorem dX8_cancelMarked_32 : decode cX8_cancelMarked 32 = .ok (.ifCond .lt 21, 3) := by decide +kernel
theorem dX8_cancelMarked_35 : decode cX8_cancelMarked 35 = .ok (.aload_n 0, 1) := by decide +kernel
theorem dX8_cancelMarked_36 : decode cX8_cancelMarked 36 = .ok (.getfield 80, 3) := by decide +kernel
theorem dX8_cancelMarked_39 : decode cX8_cancelMarked 39 = .ok (.aload_n 0, 1) := by decide +kernel
theorem dX8_cancelMarked_40 : decode cX8_cancelMarked 40 = .ok (.getfield 41, 3) := by decide +kernel
theorem dX8_cancelMarked_43 : decode cX8_cancelMarked 43 = .ok (.iload_n 2, 1) := by decide +kernel
theorem dX8_cancelMarked_44 : decode cX8_cancelMarked 44 = .ok (.iaload, 1) := by decide +kernel
theorem dX8_cancelMarked_45 : decode cX8_cancelMarked 45 = .ok (.baload, 1) := by decide +kernel
theorem dX8_cancelMarked_46 : decode cX8_cancelMarked 46 = .ok (.ifCond .eq 7, 3) := by decide +kernel
theorem dX8_cancelMarked_49 : decode cX8_cancelMarked 49 = .ok (.iconst 1, 1) := by decide +kernel
theorem dX8_cancelMarked_50 : decode cX8_cancelMarked 50 = .ok (.goto 4, 3) := by decide +kernel
theorem dX8_cancelMarked_53 : decode cX8_cancelMarked 53 = .ok (.iconst 0, 1) := by decide +kernel
theorem dX8_cancelMarked_54 : decode cX8_cancelMarked 54 = .ok (.bastore, 1) := by decide +kernel
theorem dX8_cancelMarked_55 : decode cX8_cancelMarked 55 = .ok (.aload_n 0, 1) := by decide +kernel
theorem dX8_cancelMarked_56 : decode cX8_cancelMarked 56 = .ok (.getfield 80, 3) := by decide +kernel
theorem dX8_cancelMarked_59 : decode cX8_cancelMarked 59 = .ok (.iload_n 2, 1) := by decide +kernel
theorem dX8_cancelMarked_60 : decode cX8_cancelMarked 60 = .ok (.baload, 1) := by decide +kernel
theorem dX8_cancelMarked_61 : decode cX8_cancelMarked 61 = .ok (.ifCond .eq 34, 3) := by decide +kernel
theorem dX8_cancelMarked_64 : decode cX8_cancelMarked 64 = .ok (.aload_n 0, 1) := by decide +kernel
theorem dX8_cancelMarked_65 : decode cX8_cancelMarked 65 = .ok (.iload_n 2, 1) := by decide +kernel
theorem dX8_cancelMarked_66 : decode cX8_cancelMarked 66 = .ok (.invokevirtual 183, 3) := by decide +kernel
theorem dX8_cancelMarked_69 : decode cX8_cancelMarked 69 = .ok (.ifCond .ne 26, 3) := by decide +kernel
theorem dX8_cancelMarked_72 : decode cX8_cancelMarked 72 = .ok (.aload_n 0, 1) := by decide +kernel
theorem dX8_cancelMarked_73 : decode cX8_cancelMarked 73 = .ok (.iload_n 2, 1) := by decide +kernel
theorem dX8_cancelMarked_74 : decode cX8_cancelMarked 74 = .ok (.invokevirtual 187, 3) := by decide +kernel
theorem dX8_cancelMarked_77 : decode cX8_cancelMarked 77 = .ok (.aload_n 0, 1) := by decide +kernel
theorem dX8_cancelMarked_78 : decode cX8_cancelMarked 78 = .ok (.getfield 29, 3) := by decide +kernel
theorem dX8_cancelMarked_81 : decode cX8_cancelMarked 81 = .ok (.iload_n 2, 1) := by decide +kernel
theorem dX8_cancelMarked_82 : decode cX8_cancelMarked 82 = .ok (.iconst 5, 1) := by decide +kernel
theorem dX8_cancelMarked_83 : decode cX8_cancelMarked 83 = .ok (.iastore, 1) := by decide +kernel
theorem dX8_cancelMarked_84 : decode cX8_cancelMarked 84 = .ok (.aload_n 0, 1) := by decide +kernel
theorem dX8_cancelMarked_85 : decode cX8_cancelMarked 85 = .ok (.bipush (-5), 2) := by decide +kernel
theorem dX8_cancelMarked_87 : decode cX8_cancelMarked 87 = .ok (.iconst 5, 1) := by decide +kernel
theorem dX8_cancelMarked_88 : decode cX8_cancelMarked 88 = .ok (.iload_n 2, 1) := by decide +kernel
theorem dX8_cancelMarked_89 : decode cX8_cancelMarked 89 = .ok (.invokevirtual 190, 3) := by decide +kernel
theorem dX8_cancelMarked_92 : decode cX8_cancelMarked 92 = .ok (.iinc 1 1, 3) := by decide +kernel
theorem dX8_cancelMarked_95 : decode cX8_cancelMarked 95 = .ok (.iinc 2 1, 3) := by decide +kernel
theorem dX8_cancelMarked_98 : decode cX8_cancelMarked 98 = .ok (.goto (-94), 3) := by decide +kernel
theorem dX8_cancelMarked_101 : decode cX8_cancelMarked 101 = .ok (.iload_n 1, 1) := by decide +kernel
theorem dX8_cancelMarked_102 : decode cX8_cancelMarked 102 = .ok (.ireturn, 1) := by decide +kernel
theorem dX8_cancelIn_0 : decode cX8_cancelIn 0 = .ok (.iconst 0, 1) := by decide +kernel
theorem dX8_cancelIn_1 : decode cX8_cancelIn 1 = .ok (.istore_n 2, 1) := by decide +kernel
theorem dX8_cancelIn_2 : decode cX8_cancelIn 2 = .ok (.iload_n 2, 1) := by decide +kernel
theorem dX8_cancelIn_3 : decode cX8_cancelIn 3 = .ok (.aload_n 0, 1) := by decide +kernel
theorem dX8_cancelIn_4 : decode cX8_cancelIn 4 = .ok (.getfield 127, 3) := by decide +kernel
theorem dX8_cancelIn_7 : decode cX8_cancelIn 7 = .ok (.if_icmp .ge 30, 3) := by decide +kernel
theorem dX8_cancelIn_10 : decode cX8_cancelIn 10 = .ok (.aload_n 0, 1) := by decide +kernel
theorem dX8_cancelIn_11 : decode cX8_cancelIn 11 = .ok (.getfield 80, 3) := by decide +kernel
theorem dX8_cancelIn_14 : decode cX8_cancelIn 14 = .ok (.iload_n 2, 1) := by decide +kernel
theorem dX8_cancelIn_15 : decode cX8_cancelIn 15 = .ok (.aload_n 0, 1) := by decide +kernel
theorem dX8_cancelIn_16 : decode cX8_cancelIn 16 = .ok (.getfield 41, 3) := by decide +kernel
theorem dX8_cancelIn_19 : decode cX8_cancelIn 19 = .ok (.iload_n 2, 1) := by decide +kernel
theorem dX8_cancelIn_20 : decode cX8_cancelIn 20 = .ok (.iaload, 1) := by decide +kernel
theorem dX8_cancelIn_21 : decode cX8_cancelIn 21 = .ok (.iload_n 1, 1) := by decide +kernel
theorem dX8_cancelIn_22 : decode cX8_cancelIn 22 = .ok (.if_icmp .ne 7, 3) := by decide +kernel
theorem dX8_cancelIn_25 : decode cX8_cancelIn 25 = .ok (.iconst 1, 1) := by decide +kernel
theorem dX8_cancelIn_26 : decode cX8_cancelIn 26 = .ok (.goto 4, 3) := by decide +kernel
theorem dX8_cancelIn_29 : decode cX8_cancelIn 29 = .ok (.iconst 0, 1) := by decide +kernel
theorem dX8_cancelIn_30 : decode cX8_cancelIn 30 = .ok (.bastore, 1) := by decide +kernel
theorem dX8_cancelIn_31 : decode cX8_cancelIn 31 = .ok (.iinc 2 1, 3) := by decide +kernel
theorem dX8_cancelIn_34 : decode cX8_cancelIn 34 = .ok (.goto (-32), 3) := by decide +kernel
theorem dX8_cancelIn_37 : decode cX8_cancelIn 37 = .ok (.aload_n 0, 1) := by decide +kernel
theorem dX8_cancelIn_38 : decode cX8_cancelIn 38 = .ok (.invokevirtual 194, 3) := by decide +kernel
theorem dX8_cancelIn_41 : decode cX8_cancelIn 41 = .ok (.pop, 1) := by decide +kernel
theorem dX8_cancelIn_42 : decode cX8_cancelIn 42 = .ok (.return_, 1) := by decide +kernel
theorem dX8_cancelOne_0 : decode cX8_cancelOne 0 = .ok (.iconst 0, 1) := by decide +kernel
theorem dX8_cancelOne_1 : decode cX8_cancelOne 1 = .ok (.istore_n 2, 1) := by decide +kernel
theorem dX8_cancelOne_2 : decode cX8_cancelOne 2 = .ok (.iload_n 2, 1) := by decide +kernel
theorem dX8_cancelOne_3 : decode cX8_cancelOne 3 = .ok (.aload_n 0, 1) := by decide +kernel
theorem dX8_cancelOne_4 : decode cX8_cancelOne 4 = .ok (.getfield 127, 3) := by decide +kernel
theorem dX8_cancelOne_7 : decode cX8_cancelOne 7 = .ok (.if_icmp .ge 25, 3) := by decide +kernel
theorem dX8_cancelOne_10 : decode cX8_cancelOne 10 = .ok (.aload_n 0, 1) := by decide +kernel
theorem dX8_cancelOne_11 : decode cX8_cancelOne 11 = .ok (.getfield 80, 3) := by decide +kernel
theorem dX8_cancelOne_14 : decode cX8_cancelOne 14 = .ok (.iload_n 2, 1) := by decide +kernel
theorem dX8_cancelOne_15 : decode cX8_cancelOne 15 = .ok (.iload_n 2, 1) := by decide +kernel
theorem dX8_cancelOne_16 : decode cX8_cancelOne 16 = .ok (.iload_n 1, 1) := by decide +kernel
theorem dX8_cancelOne_17 : decode cX8_cancelOne 17 = .ok (.if_icmp .ne 7, 3) := by decide +kernel
theorem dX8_cancelOne_20 : decode cX8_cancelOne 20 = .ok (.iconst 1, 1) := by decide +kernel
theorem dX8_cancelOne_21 : decode cX8_cancelOne 21 = .ok (.goto 4, 3) := by decide +kernel
theorem dX8_cancelOne_24 : decode cX8_cancelOne 24 = .ok (.iconst 0, 1) := by decide +kernel
theorem dX8_cancelOne_25 : decode cX8_cancelOne 25 = .ok (.bastore, 1) := by decide +kernel
theorem dX8_cancelOne_26 : decode cX8_cancelOne 26 = .ok (.iinc 2 1, 3) := by decide +kernel
theorem dX8_cancelOne_29 : decode cX8_cancelOne 29 = .ok (.goto (-27), 3) := by decide +kernel
theorem dX8_cancelOne_32 : decode cX8_cancelOne 32 = .ok (.aload_n 0, 1) := by decide +kernel
theorem dX8_cancelOne_33 : decode cX8_cancelOne 33 = .ok (.invokevirtual 194, 3) := by decide +kernel
theorem dX8_cancelOne_36 : decode cX8_cancelOne 36 = .ok (.ireturn, 1) := by decide +kernel
theorem dX8_allEnded_0 : decode cX8_allEnded 0 = .ok (.iconst 1, 1) := by decide +kernel
theorem dX8_allEnded_1 : decode cX8_allEnded 1 = .ok (.istore_n 2, 1) := by decide +kernel
theorem dX8_allEnded_2 : decode cX8_allEnded 2 = .ok (.iconst 0, 1) := by decide +kernel
theorem dX8_allEnded_3 : decode cX8_allEnded 3 = .ok (.istore_n 3, 1) := by decide +kernel
theorem dX8_allEnded_4 : decode cX8_allEnded 4 = .ok (.iload_n 3, 1) := by decide +kernel
theorem dX8_allEnded_5 : decode cX8_allEnded 5 = .ok (.aload_n 0, 1) := by decide +kernel
theorem dX8_allEnded_6 : decode cX8_allEnded 6 = .ok (.getfield 127, 3) := by decide +kernel
theorem dX8_allEnded_9 : decode cX8_allEnded 9 = .ok (.if_icmp .ge 37, 3) := by decide +kernel
theorem dX8_allEnded_12 : decode cX8_allEnded 12 = .ok (.iload_n 2, 1) := by decide +kernel
theorem dX8_allEnded_13 : decode cX8_allEnded 13 = .ok (.ifCond .eq 25, 3) := by decide +kernel
theorem dX8_allEnded_16 : decode cX8_allEnded 16 = .ok (.aload_n 0, 1) := by decide +kernel
theorem dX8_allEnded_17 : decode cX8_allEnded 17 = .ok (.getfield 41, 3) := by decide +kernel
theorem dX8_allEnded_20 : decode cX8_allEnded 20 = .ok (.iload_n 3, 1) := by decide +kernel
theorem dX8_allEnded_21 : decode cX8_allEnded 21 = .ok (.iaload, 1) := by decide +kernel
theorem dX8_allEnded_22 : decode cX8_allEnded 22 = .ok (.iload_n 1, 1) := by decide +kernel
theorem dX8_allEnded_23 : decode cX8_allEnded 23 = .ok (.if_icmp .ne 11, 3) := by decide +kernel
theorem dX8_allEnded_26 : decode cX8_allEnded 26 = .ok (.aload_n 0, 1) := by decide +kernel
theorem dX8_allEnded_27 : decode cX8_allEnded 27 = .ok (.iload_n 3, 1) := by decide +kernel
theorem dX8_allEnded_28 : decode cX8_allEnded 28 = .ok (.invokevirtual 183, 3) := by decide +kernel
theorem dX8_allEnded_31 : decode cX8_allEnded 31 = .ok (.ifCond .eq 7, 3) := by decide +kernel
theorem dX8_allEnded_34 : decode cX8_allEnded 34 = .ok (.iconst 1, 1) := by decide +kernel
theorem dX8_allEnded_35 : decode cX8_allEnded 35 = .ok (.goto 4, 3) := by decide +kernel
theorem dX8_allEnded_38 : decode cX8_allEnded 38 = .ok (.iconst 0, 1) := by decide +kernel
theorem dX8_allEnded_39 : decode cX8_allEnded 39 = .ok (.istore_n 2, 1) := by decide +kernel
theorem dX8_allEnded_40 : decode cX8_allEnded 40 = .ok (.iinc 3 1, 3) := by decide +kernel
theorem dX8_allEnded_43 : decode cX8_allEnded 43 = .ok (.goto (-39), 3) := by decide +kernel
theorem dX8_allEnded_46 : decode cX8_allEnded 46 = .ok (.iload_n 2, 1) := by decide +kernel
theorem dX8_allEnded_47 : decode cX8_allEnded 47 = .ok (.ireturn, 1) := by decide +kernel
theorem dX8_worthIn_0 : decode cX8_worthIn 0 = .ok (.aload_n 0, 1) := by decide +kernel
theorem dX8_worthIn_1 : decode cX8_worthIn 1 = .ok (.getfield 32, 3) := by decide +kernel
theorem dX8_worthIn_4 : decode cX8_worthIn 4 = .ok (.iload_n 1, 1) := by decide +kernel
theorem dX8_worthIn_5 : decode cX8_worthIn 5 = .ok (.iaload, 1) := by decide +kernel
theorem dX8_worthIn_6 : decode cX8_worthIn 6 = .ok (.istore_n 2, 1) := by decide +kernel
theorem dX8_worthIn_7 : decode cX8_worthIn 7 = .ok (.iconst 0, 1) := by decide +kernel
theorem dX8_worthIn_8 : decode cX8_worthIn 8 = .ok (.istore_n 3, 1) := by decide +kernel
theorem dX8_worthIn_9 : decode cX8_worthIn 9 = .ok (.iload_n 3, 1) := by decide +kernel
theorem dX8_worthIn_10 : decode cX8_worthIn 10 = .ok (.aload_n 0, 1) := by decide +kernel
theorem dX8_worthIn_11 : decode cX8_worthIn 11 = .ok (.getfield 127, 3) := by decide +kernel
theorem dX8_worthIn_14 : decode cX8_worthIn 14 = .ok (.if_icmp .ge 42, 3) := by decide +kernel
theorem dX8_worthIn_17 : decode cX8_worthIn 17 = .ok (.iload_n 2, 1) := by decide +kernel
theorem dX8_worthIn_18 : decode cX8_worthIn 18 = .ok (.aload_n 0, 1) := by decide +kernel
theorem dX8_worthIn_19 : decode cX8_worthIn 19 = .ok (.getfield 41, 3) := by decide +kernel
theorem dX8_worthIn_22 : decode cX8_worthIn 22 = .ok (.iload_n 3, 1) := by decide +kernel
theorem dX8_worthIn_23 : decode cX8_worthIn 23 = .ok (.iaload, 1) := by decide +kernel
theorem dX8_worthIn_24 : decode cX8_worthIn 24 = .ok (.iload_n 1, 1) := by decide +kernel
theorem dX8_worthIn_25 : decode cX8_worthIn 25 = .ok (.if_icmp .ne 22, 3) := by decide +kernel
theorem dX8_worthIn_28 : decode cX8_worthIn 28 = .ok (.aload_n 0, 1) := by decide +kernel
theorem dX8_worthIn_29 : decode cX8_worthIn 29 = .ok (.getfield 29, 3) := by decide +kernel
theorem dX8_worthIn_32 : decode cX8_worthIn 32 = .ok (.iload_n 3, 1) := by decide +kernel
theorem dX8_worthIn_33 : decode cX8_worthIn 33 = .ok (.iaload, 1) := by decide +kernel
theorem dX8_worthIn_34 : decode cX8_worthIn 34 = .ok (.iconst 3, 1) := by decide +kernel
theorem dX8_worthIn_35 : decode cX8_worthIn 35 = .ok (.if_icmp .ne 12, 3) := by decide +kernel
theorem dX8_worthIn_38 : decode cX8_worthIn 38 = .ok (.aload_n 0, 1) := by decide +kernel
theorem dX8_worthIn_39 : decode cX8_worthIn 39 = .ok (.getfield 38, 3) := by decide +kernel
theorem dX8_worthIn_42 : decode cX8_worthIn 42 = .ok (.iload_n 3, 1) := by decide +kernel
theorem dX8_worthIn_43 : decode cX8_worthIn 43 = .ok (.iaload, 1) := by decide +kernel
theorem dX8_worthIn_44 : decode cX8_worthIn 44 = .ok (.goto 4, 3) := by decide +kernel
theorem dX8_worthIn_47 : decode cX8_worthIn 47 = .ok (.iconst 0, 1) := by decide +kernel
theorem dX8_worthIn_48 : decode cX8_worthIn 48 = .ok (.iadd, 1) := by decide +kernel
theorem dX8_worthIn_49 : decode cX8_worthIn 49 = .ok (.istore_n 2, 1) := by decide +kernel
theorem dX8_worthIn_50 : decode cX8_worthIn 50 = .ok (.iinc 3 1, 3) := by decide +kernel
theorem dX8_worthIn_53 : decode cX8_worthIn 53 = .ok (.goto (-44), 3) := by decide +kernel
theorem dX8_worthIn_56 : decode cX8_worthIn 56 = .ok (.iload_n 2, 1) := by decide +kernel
theorem dX8_worthIn_57 : decode cX8_worthIn 57 = .ok (.ireturn, 1) := by decide +kernel
theorem dX8_goesUp_0 : decode cX8_goesUp 0 = .ok (.iload_n 1, 1) := by decide +kernel
theorem dX8_goesUp_1 : decode cX8_goesUp 1 = .ok (.istore_n 2, 1) := by decide +kernel
theorem dX8_goesUp_2 : decode cX8_goesUp 2 = .ok (.iload_n 2, 1) := by decide +kernel
theorem dX8_goesUp_3 : decode cX8_goesUp 3 = .ok (.ifCond .lt 135, 3) := by decide +kernel
theorem dX8_goesUp_6 : decode cX8_goesUp 6 = .ok (.aload_n 0, 1) := by decide +kernel
theorem dX8_goesUp_7 : decode cX8_goesUp 7 = .ok (.getfield 41, 3) := by decide +kernel
theorem dX8_goesUp_10 : decode cX8_goesUp 10 = .ok (.iload_n 2, 1) := by decide +kernel
theorem dX8_goesUp_11 : decode cX8_goesUp 11 = .ok (.iaload, 1) := by decide +kernel
theorem dX8_goesUp_12 : decode cX8_goesUp 12 = .ok (.istore_n 3, 1) := by decide +kernel
theorem dX8_goesUp_13 : decode cX8_goesUp 13 = .ok (.iload_n 3, 1) := by decide +kernel
theorem dX8_goesUp_14 : decode cX8_goesUp 14 = .ok (.ifCond .lt 17, 3) := by decide +kernel
theorem dX8_goesUp_17 : decode cX8_goesUp 17 = .ok (.aload_n 0, 1) := by decide +kernel
theorem dX8_goesUp_18 : decode cX8_goesUp 18 = .ok (.getfield 29, 3) := by decide +kernel
theorem dX8_goesUp_21 : decode cX8_goesUp 21 = .ok (.iload_n 3, 1) := by decide +kernel
theorem dX8_goesUp_22 : decode cX8_goesUp 22 = .ok (.iaload, 1) := by decide +kernel
theorem dX8_goesUp_23 : decode cX8_goesUp 23 = .ok (.iconst 2, 1) := by decide +kernel
theorem dX8_goesUp_24 : decode cX8_goesUp 24 = .ok (.if_icmp .ne 7, 3) := by decide +kernel
theorem dX8_goesUp_27 : decode cX8_goesUp 27 = .ok (.iconst 1, 1) := by decide +kernel
theorem dX8_goesUp_28 : decode cX8_goesUp 28 = .ok (.goto 4, 3) := by decide +kernel
theorem dX8_goesUp_31 : decode cX8_goesUp 31 = .ok (.iconst 0, 1) := by decide +kernel
theorem dX8_goesUp_32 : decode cX8_goesUp 32 = .ok (.istore 4, 2) := by decide +kernel
theorem dX8_goesUp_34 : decode cX8_goesUp 34 = .ok (.iload 4, 2) := by decide +kernel
theorem dX8_goesUp_36 : decode cX8_goesUp 36 = .ok (.ifCond .eq 53, 3) := by decide +kernel
theorem dX8_goesUp_39 : decode cX8_goesUp 39 = .ok (.aload_n 0, 1) := by decide +kernel
theorem dX8_goesUp_40 : decode cX8_goesUp 40 = .ok (.getfield 29, 3) := by decide +kernel
theorem dX8_goesUp_43 : decode cX8_goesUp 43 = .ok (.iload_n 2, 1) := by decide +kernel
theorem dX8_goesUp_44 : decode cX8_goesUp 44 = .ok (.iaload, 1) := by decide +kernel
theorem dX8_goesUp_45 : decode cX8_goesUp 45 = .ok (.iconst 4, 1) := by decide +kernel
theorem dX8_goesUp_46 : decode cX8_goesUp 46 = .ok (.if_icmp .ne 43, 3) := by decide +kernel
theorem dX8_goesUp_49 : decode cX8_goesUp 49 = .ok (.aload_n 0, 1) := by decide +kernel
theorem dX8_goesUp_50 : decode cX8_goesUp 50 = .ok (.getfield 44, 3) := by decide +kernel
theorem dX8_goesUp_53 : decode cX8_goesUp 53 = .ok (.iload_n 3, 1) := by decide +kernel
theorem dX8_goesUp_54 : decode cX8_goesUp 54 = .ok (.iaload, 1) := by decide +kernel
theorem dX8_goesUp_55 : decode cX8_goesUp 55 = .ok (.iconst 2, 1) := by decide +kernel
theorem dX8_goesUp_56 : decode cX8_goesUp 56 = .ok (.if_icmp .eq 33, 3) := by decide +kernel
theorem dX8_goesUp_59 : decode cX8_goesUp 59 = .ok (.aload_n 0, 1) := by decide +kernel
theorem dX8_goesUp_60 : decode cX8_goesUp 60 = .ok (.iload_n 3, 1) := by decide +kernel
theorem dX8_goesUp_61 : decode cX8_goesUp 61 = .ok (.invokevirtual 198, 3) := by decide +kernel
theorem dX8_goesUp_64 : decode cX8_goesUp 64 = .ok (.aload_n 0, 1) := by decide +kernel
theorem dX8_goesUp_65 : decode cX8_goesUp 65 = .ok (.getfield 29, 3) := by decide +kernel
theorem dX8_goesUp_68 : decode cX8_goesUp 68 = .ok (.iload_n 3, 1) := by decide +kernel
theorem dX8_goesUp_69 : decode cX8_goesUp 69 = .ok (.iconst 4, 1) := by decide +kernel
theorem dX8_goesUp_70 : decode cX8_goesUp 70 = .ok (.iastore, 1) := by decide +kernel
theorem dX8_goesUp_71 : decode cX8_goesUp 71 = .ok (.aload_n 0, 1) := by decide +kernel
theorem dX8_goesUp_72 : decode cX8_goesUp 72 = .ok (.getfield 47, 3) := by decide +kernel
theorem dX8_goesUp_75 : decode cX8_goesUp 75 = .ok (.iload_n 3, 1) := by decide +kernel
theorem dX8_goesUp_76 : decode cX8_goesUp 76 = .ok (.iload_n 2, 1) := by decide +kernel
theorem dX8_goesUp_77 : decode cX8_goesUp 77 = .ok (.iastore, 1) := by decide +kernel
theorem dX8_goesUp_78 : decode cX8_goesUp 78 = .ok (.aload_n 0, 1) := by decide +kernel
theorem dX8_goesUp_79 : decode cX8_goesUp 79 = .ok (.bipush (-5), 2) := by decide +kernel
theorem dX8_goesUp_81 : decode cX8_goesUp 81 = .ok (.iconst 4, 1) := by decide +kernel
theorem dX8_goesUp_82 : decode cX8_goesUp 82 = .ok (.iload_n 3, 1) := by decide +kernel
theorem dX8_goesUp_83 : decode cX8_goesUp 83 = .ok (.invokevirtual 190, 3) := by decide +kernel
theorem dX8_goesUp_86 : decode cX8_goesUp 86 = .ok (.goto 47, 3) := by decide +kernel
theorem dX8_goesUp_89 : decode cX8_goesUp 89 = .ok (.iload 4, 2) := by decide +kernel
theorem dX8_goesUp_91 : decode cX8_goesUp 91 = .ok (.ifCond .eq 40, 3) := by decide +kernel
theorem dX8_goesUp_94 : decode cX8_goesUp 94 = .ok (.aload_n 0, 1) := by decide +kernel
theorem dX8_goesUp_95 : decode cX8_goesUp 95 = .ok (.iload_n 3, 1) := by decide +kernel
theorem dX8_goesUp_96 : decode cX8_goesUp 96 = .ok (.invokevirtual 201, 3) := by decide +kernel
theorem dX8_goesUp_99 : decode cX8_goesUp 99 = .ok (.ifCond .eq 32, 3) := by decide +kernel
theorem dX8_goesUp_102 : decode cX8_goesUp 102 = .ok (.aload_n 0, 1) := by decide +kernel
theorem dX8_goesUp_103 : decode cX8_goesUp 103 = .ok (.getfield 29, 3) := by decide +kernel
theorem dX8_goesUp_106 : decode cX8_goesUp 106 = .ok (.iload_n 3, 1) := by decide +kernel
theorem dX8_goesUp_107 : decode cX8_goesUp 107 = .ok (.iconst 3, 1) := by decide +kernel
theorem dX8_goesUp_108 : decode cX8_goesUp 108 = .ok (.iastore, 1) := by decide +kernel
theorem dX8_goesUp_109 : decode cX8_goesUp 109 = .ok (.aload_n 0, 1) := by decide +kernel
theorem dX8_goesUp_110 : decode cX8_goesUp 110 = .ok (.getfield 38, 3) := by decide +kernel
theorem dX8_goesUp_113 : decode cX8_goesUp 113 = .ok (.iload_n 3, 1) := by decide +kernel
theorem dX8_goesUp_114 : decode cX8_goesUp 114 = .ok (.aload_n 0, 1) := by decide +kernel
theorem dX8_goesUp_115 : decode cX8_goesUp 115 = .ok (.iload_n 3, 1) := by decide +kernel
theorem dX8_goesUp_116 : decode cX8_goesUp 116 = .ok (.invokevirtual 204, 3) := by decide +kernel
theorem dX8_goesUp_119 : decode cX8_goesUp 119 = .ok (.iastore, 1) := by decide +kernel
theorem dX8_goesUp_120 : decode cX8_goesUp 120 = .ok (.aload_n 0, 1) := by decide +kernel
theorem dX8_goesUp_121 : decode cX8_goesUp 121 = .ok (.bipush (-5), 2) := by decide +kernel
theorem dX8_goesUp_123 : decode cX8_goesUp 123 = .ok (.iconst 3, 1) := by decide +kernel
theorem dX8_goesUp_124 : decode cX8_goesUp 124 = .ok (.iload_n 3, 1) := by decide +kernel
theorem dX8_goesUp_125 : decode cX8_goesUp 125 = .ok (.invokevirtual 190, 3) := by decide +kernel
theorem dX8_goesUp_128 : decode cX8_goesUp 128 = .ok (.goto 5, 3) := by decide +kernel
theorem dX8_goesUp_131 : decode cX8_goesUp 131 = .ok (.iconst (-1), 1) := by decide +kernel
theorem dX8_goesUp_132 : decode cX8_goesUp 132 = .ok (.istore_n 3, 1) := by decide +kernel
theorem dX8_goesUp_133 : decode cX8_goesUp 133 = .ok (.iload_n 3, 1) := by decide +kernel
theorem dX8_goesUp_134 : decode cX8_goesUp 134 = .ok (.istore_n 2, 1) := by decide +kernel
theorem dX8_goesUp_135 : decode cX8_goesUp 135 = .ok (.goto (-133), 3) := by decide +kernel
theorem dX8_goesUp_138 : decode cX8_goesUp 138 = .ok (.return_, 1) := by decide +kernel
theorem dX8_manyIn_0 : decode cX8_manyIn 0 = .ok (.iconst 0, 1) := by decide +kernel
theorem dX8_manyIn_1 : decode cX8_manyIn 1 = .ok (.istore_n 2, 1) := by decide +kernel
theorem dX8_manyIn_2 : decode cX8_manyIn 2 = .ok (.iconst 0, 1) := by decide +kernel
theorem dX8_manyIn_3 : decode cX8_manyIn 3 = .ok (.istore_n 3, 1) := by decide +kernel
theorem dX8_manyIn_4 : decode cX8_manyIn 4 = .ok (.iload_n 3, 1) := by decide +kernel
theorem dX8_manyIn_5 : decode cX8_manyIn 5 = .ok (.aload_n 0, 1) := by decide +kernel
theorem dX8_manyIn_6 : decode cX8_manyIn 6 = .ok (.getfield 127, 3) := by decide +kernel
theorem dX8_manyIn_9 : decode cX8_manyIn 9 = .ok (.if_icmp .ge 27, 3) := by decide +kernel
theorem dX8_manyIn_12 : decode cX8_manyIn 12 = .ok (.iload_n 2, 1) := by decide +kernel
theorem dX8_manyIn_13 : decode cX8_manyIn 13 = .ok (.aload_n 0, 1) := by decide +kernel
theorem dX8_manyIn_14 : decode cX8_manyIn 14 = .ok (.getfield 41, 3) := by decide +kernel
theorem dX8_manyIn_17 : decode cX8_manyIn 17 = .ok (.iload_n 3, 1) := by decide +kernel
theorem dX8_manyIn_18 : decode cX8_manyIn 18 = .ok (.iaload, 1) := by decide +kernel
theorem dX8_manyIn_19 : decode cX8_manyIn 19 = .ok (.iload_n 1, 1) := by decide +kernel
theorem dX8_manyIn_20 : decode cX8_manyIn 20 = .ok (.if_icmp .ne 7, 3) := by decide +kernel
theorem dX8_manyIn_23 : decode cX8_manyIn 23 = .ok (.iconst 1, 1) := by decide +kernel
theorem dX8_manyIn_24 : decode cX8_manyIn 24 = .ok (.goto 4, 3) := by decide +kernel
theorem dX8_manyIn_27 : decode cX8_manyIn 27 = .ok (.iconst 0, 1) := by decide +kernel
theorem dX8_manyIn_28 : decode cX8_manyIn 28 = .ok (.iadd, 1) := by decide +kernel
theorem dX8_manyIn_29 : decode cX8_manyIn 29 = .ok (.istore_n 2, 1) := by decide +kernel
theorem dX8_manyIn_30 : decode cX8_manyIn 30 = .ok (.iinc 3 1, 3) := by decide +kernel
theorem dX8_manyIn_33 : decode cX8_manyIn 33 = .ok (.goto (-29), 3) := by decide +kernel
theorem dX8_manyIn_36 : decode cX8_manyIn 36 = .ok (.iload_n 2, 1) := by decide +kernel
theorem dX8_manyIn_37 : decode cX8_manyIn 37 = .ok (.ireturn, 1) := by decide +kernel
theorem dX8_comesTo_0 : decode cX8_comesTo 0 = .ok (.aload_n 0, 1) := by decide +kernel
theorem dX8_comesTo_1 : decode cX8_comesTo 1 = .ok (.getfield 17, 3) := by decide +kernel
theorem dX8_comesTo_4 : decode cX8_comesTo 4 = .ok (.bipush 32, 2) := by decide +kernel
theorem dX8_comesTo_6 : decode cX8_comesTo 6 = .ok (.iload_n 1, 1) := by decide +kernel
theorem dX8_comesTo_7 : decode cX8_comesTo 7 = .ok (.imul, 1) := by decide +kernel
theorem dX8_comesTo_8 : decode cX8_comesTo 8 = .ok (.aload_n 0, 1) := by decide +kernel
theorem dX8_comesTo_9 : decode cX8_comesTo 9 = .ok (.getfield 13, 3) := by decide +kernel
theorem dX8_comesTo_12 : decode cX8_comesTo 12 = .ok (.iload_n 1, 1) := by decide +kernel
theorem dX8_comesTo_13 : decode cX8_comesTo 13 = .ok (.iaload, 1) := by decide +kernel
theorem dX8_comesTo_14 : decode cX8_comesTo 14 = .ok (.iadd, 1) := by decide +kernel
theorem dX8_comesTo_15 : decode cX8_comesTo 15 = .ok (.iload_n 2, 1) := by decide +kernel
theorem dX8_comesTo_16 : decode cX8_comesTo 16 = .ok (.iastore, 1) := by decide +kernel
theorem dX8_comesTo_17 : decode cX8_comesTo 17 = .ok (.aload_n 0, 1) := by decide +kernel
theorem dX8_comesTo_18 : decode cX8_comesTo 18 = .ok (.getfield 13, 3) := by decide +kernel
theorem dX8_comesTo_21 : decode cX8_comesTo 21 = .ok (.iload_n 1, 1) := by decide +kernel
theorem dX8_comesTo_22 : decode cX8_comesTo 22 = .ok (.dup2, 1) := by decide +kernel
theorem dX8_comesTo_23 : decode cX8_comesTo 23 = .ok (.iaload, 1) := by decide +kernel
theorem dX8_comesTo_24 : decode cX8_comesTo 24 = .ok (.iconst 1, 1) := by decide +kernel
theorem dX8_comesTo_25 : decode cX8_comesTo 25 = .ok (.iadd, 1) := by decide +kernel
theorem dX8_comesTo_26 : decode cX8_comesTo 26 = .ok (.iastore, 1) := by decide +kernel
theorem dX8_comesTo_27 : decode cX8_comesTo 27 = .ok (.return_, 1) := by decide +kernel
theorem dX8_isThrough_0 : decode cX8_isThrough 0 = .ok (.aload_n 0, 1) := by decide +kernel
theorem dX8_isThrough_1 : decode cX8_isThrough 1 = .ok (.getfield 44, 3) := by decide +kernel
theorem dX8_isThrough_4 : decode cX8_isThrough 4 = .ok (.iload_n 2, 1) := by decide +kernel
theorem dX8_isThrough_5 : decode cX8_isThrough 5 = .ok (.iaload, 1) := by decide +kernel
theorem dX8_isThrough_6 : decode cX8_isThrough 6 = .ok (.iconst 1, 1) := by decide +kernel
theorem dX8_isThrough_7 : decode cX8_isThrough 7 = .ok (.if_icmp .ne 33, 3) := by decide +kernel
theorem dX8_isThrough_10 : decode cX8_isThrough 10 = .ok (.aload_n 0, 1) := by decide +kernel
theorem dX8_isThrough_11 : decode cX8_isThrough 11 = .ok (.getfield 29, 3) := by decide +kernel
theorem dX8_isThrough_14 : decode cX8_isThrough 14 = .ok (.iload_n 2, 1) := by decide +kernel
theorem dX8_isThrough_15 : decode cX8_isThrough 15 = .ok (.iconst 4, 1) := by decide +kernel
theorem dX8_isThrough_16 : decode cX8_isThrough 16 = .ok (.iastore, 1) := by decide +kernel
theorem dX8_isThrough_17 : decode cX8_isThrough 17 = .ok (.aload_n 0, 1) := by decide +kernel
theorem dX8_isThrough_18 : decode cX8_isThrough 18 = .ok (.getfield 47, 3) := by decide +kernel
theorem dX8_isThrough_21 : decode cX8_isThrough 21 = .ok (.iload_n 2, 1) := by decide +kernel
theorem dX8_isThrough_22 : decode cX8_isThrough 22 = .ok (.bipush (-5), 2) := by decide +kernel
theorem dX8_isThrough_24 : decode cX8_isThrough 24 = .ok (.iastore, 1) := by decide +kernel
theorem dX8_isThrough_25 : decode cX8_isThrough 25 = .ok (.aload_n 0, 1) := by decide +kernel
theorem dX8_isThrough_26 : decode cX8_isThrough 26 = .ok (.iload_n 1, 1) := by decide +kernel
theorem dX8_isThrough_27 : decode cX8_isThrough 27 = .ok (.iconst 4, 1) := by decide +kernel
theorem dX8_isThrough_28 : decode cX8_isThrough 28 = .ok (.iload_n 2, 1) := by decide +kernel
theorem dX8_isThrough_29 : decode cX8_isThrough 29 = .ok (.invokevirtual 190, 3) := by decide +kernel
theorem dX8_isThrough_32 : decode cX8_isThrough 32 = .ok (.aload_n 0, 1) := by decide +kernel
theorem dX8_isThrough_33 : decode cX8_isThrough 33 = .ok (.iload_n 2, 1) := by decide +kernel
theorem dX8_isThrough_34 : decode cX8_isThrough 34 = .ok (.invokevirtual 207, 3) := by decide +kernel
theorem dX8_isThrough_37 : decode cX8_isThrough 37 = .ok (.goto 91, 3) := by decide +kernel
theorem dX8_isThrough_40 : decode cX8_isThrough 40 = .ok (.aload_n 0, 1) := by decide +kernel
theorem dX8_isThrough_41 : decode cX8_isThrough 41 = .ok (.iload_n 2, 1) := by decide +kernel
theorem dX8_isThrough_42 : decode cX8_isThrough 42 = .ok (.invokevirtual 201, 3) := by decide +kernel
theorem dX8_isThrough_45 : decode cX8_isThrough 45 = .ok (.ifCond .ne 53, 3) := by decide +kernel
theorem dX8_isThrough_48 : decode cX8_isThrough 48 = .ok (.aload_n 0, 1) := by decide +kernel
theorem dX8_isThrough_49 : decode cX8_isThrough 49 = .ok (.getfield 29, 3) := by decide +kernel
theorem dX8_isThrough_52 : decode cX8_isThrough 52 = .ok (.iload_n 2, 1) := by decide +kernel
theorem dX8_isThrough_53 : decode cX8_isThrough 53 = .ok (.iconst 2, 1) := by decide +kernel
theorem dX8_isThrough_54 : decode cX8_isThrough 54 = .ok (.iastore, 1) := by decide +kernel
theorem dX8_isThrough_55 : decode cX8_isThrough 55 = .ok (.iconst 0, 1) := by decide +kernel
theorem dX8_isThrough_56 : decode cX8_isThrough 56 = .ok (.istore_n 3, 1) := by decide +kernel
theorem dX8_isThrough_57 : decode cX8_isThrough 57 = .ok (.iload_n 3, 1) := by decide +kernel
theorem dX8_isThrough_58 : decode cX8_isThrough 58 = .ok (.aload_n 0, 1) := by decide +kernel
theorem dX8_isThrough_59 : decode cX8_isThrough 59 = .ok (.getfield 127, 3) := by decide +kernel
theorem dX8_isThrough_62 : decode cX8_isThrough 62 = .ok (.if_icmp .ge 33, 3) := by decide +kernel
theorem dX8_isThrough_65 : decode cX8_isThrough 65 = .ok (.aload_n 0, 1) := by decide +kernel
theorem dX8_isThrough_66 : decode cX8_isThrough 66 = .ok (.getfield 41, 3) := by decide +kernel
theorem dX8_isThrough_69 : decode cX8_isThrough 69 = .ok (.iload_n 3, 1) := by decide +kernel
theorem dX8_isThrough_70 : decode cX8_isThrough 70 = .ok (.iaload, 1) := by decide +kernel
theorem dX8_isThrough_71 : decode cX8_isThrough 71 = .ok (.iload_n 2, 1) := by decide +kernel
theorem dX8_isThrough_72 : decode cX8_isThrough 72 = .ok (.if_icmp .ne 17, 3) := by decide +kernel
theorem dX8_isThrough_75 : decode cX8_isThrough 75 = .ok (.aload_n 0, 1) := by decide +kernel
theorem dX8_isThrough_76 : decode cX8_isThrough 76 = .ok (.iload_n 3, 1) := by decide +kernel
theorem dX8_isThrough_77 : decode cX8_isThrough 77 = .ok (.invokevirtual 183, 3) := by decide +kernel
theorem dX8_isThrough_80 : decode cX8_isThrough 80 = .ok (.ifCond .ne 9, 3) := by decide +kernel
theorem dX8_isThrough_83 : decode cX8_isThrough 83 = .ok (.aload_n 0, 1) := by decide +kernel
theorem dX8_isThrough_84 : decode cX8_isThrough 84 = .ok (.iload_n 1, 1) := by decide +kernel
theorem dX8_isThrough_85 : decode cX8_isThrough 85 = .ok (.iload_n 3, 1) := by decide +kernel
theorem dX8_isThrough_86 : decode cX8_isThrough 86 = .ok (.invokevirtual 210, 3) := by decide +kernel
theorem dX8_isThrough_89 : decode cX8_isThrough 89 = .ok (.iinc 3 1, 3) := by decide +kernel
theorem dX8_isThrough_92 : decode cX8_isThrough 92 = .ok (.goto (-35), 3) := by decide +kernel
theorem dX8_isThrough_95 : decode cX8_isThrough 95 = .ok (.goto 33, 3) := by decide +kernel
theorem dX8_isThrough_98 : decode cX8_isThrough 98 = .ok (.aload_n 0, 1) := by decide +kernel
theorem dX8_isThrough_99 : decode cX8_isThrough 99 = .ok (.getfield 29, 3) := by decide +kernel
theorem dX8_isThrough_102 : decode cX8_isThrough 102 = .ok (.iload_n 2, 1) := by decide +kernel
theorem dX8_isThrough_103 : decode cX8_isThrough 103 = .ok (.iconst 3, 1) := by decide +kernel
theorem dX8_isThrough_104 : decode cX8_isThrough 104 = .ok (.iastore, 1) := by decide +kernel
theorem dX8_isThrough_105 : decode cX8_isThrough 105 = .ok (.aload_n 0, 1) := by decide +kernel
theorem dX8_isThrough_106 : decode cX8_isThrough 106 = .ok (.getfield 38, 3) := by decide +kernel
theorem dX8_isThrough_109 : decode cX8_isThrough 109 = .ok (.iload_n 2, 1) := by decide +kernel
theorem dX8_isThrough_110 : decode cX8_isThrough 110 = .ok (.aload_n 0, 1) := by decide +kernel
theorem dX8_isThrough_111 : decode cX8_isThrough 111 = .ok (.iload_n 2, 1) := by decide +kernel
theorem dX8_isThrough_112 : decode cX8_isThrough 112 = .ok (.invokevirtual 204, 3) := by decide +kernel
theorem dX8_isThrough_115 : decode cX8_isThrough 115 = .ok (.iastore, 1) := by decide +kernel
theorem dX8_isThrough_116 : decode cX8_isThrough 116 = .ok (.aload_n 0, 1) := by decide +kernel
theorem dX8_isThrough_117 : decode cX8_isThrough 117 = .ok (.iload_n 1, 1) := by decide +kernel
theorem dX8_isThrough_118 : decode cX8_isThrough 118 = .ok (.iconst 3, 1) := by decide +kernel
theorem dX8_isThrough_119 : decode cX8_isThrough 119 = .ok (.iload_n 2, 1) := by decide +kernel
theorem dX8_isThrough_120 : decode cX8_isThrough 120 = .ok (.invokevirtual 190, 3) := by decide +kernel
theorem dX8_isThrough_123 : decode cX8_isThrough 123 = .ok (.aload_n 0, 1) := by decide +kernel
theorem dX8_isThrough_124 : decode cX8_isThrough 124 = .ok (.iload_n 2, 1) := by decide +kernel
theorem dX8_isThrough_125 : decode cX8_isThrough 125 = .ok (.invokevirtual 207, 3) := by decide +kernel
theorem dX8_isThrough_128 : decode cX8_isThrough 128 = .ok (.return_, 1) := by decide +kernel
theorem dX8_drawBelow_0 : decode cX8_drawBelow 0 = .ok (.aload_n 0, 1) := by decide +kernel
theorem dX8_drawBelow_1 : decode cX8_drawBelow 1 = .ok (.aload_n 0, 1) := by decide +kernel
theorem dX8_drawBelow_2 : decode cX8_drawBelow 2 = .ok (.getfield 50, 3) := by decide +kernel
theorem dX8_drawBelow_5 : decode cX8_drawBelow 5 = .ok (.ldc 214, 2) := by decide +kernel
theorem dX8_drawBelow_7 : decode cX8_drawBelow 7 = .ok (.imul, 1) := by decide +kernel
theorem dX8_drawBelow_8 : decode cX8_drawBelow 8 = .ok (.sipush 12345, 3) := by decide +kernel
theorem dX8_drawBelow_11 : decode cX8_drawBelow 11 = .ok (.iadd, 1) := by decide +kernel
theorem dX8_drawBelow_12 : decode cX8_drawBelow 12 = .ok (.putfield 50, 3) := by decide +kernel
theorem dX8_drawBelow_15 : decode cX8_drawBelow 15 = .ok (.aload_n 0, 1) := by decide +kernel
theorem dX8_drawBelow_16 : decode cX8_drawBelow 16 = .ok (.getfield 50, 3) := by decide +kernel
theorem dX8_drawBelow_19 : decode cX8_drawBelow 19 = .ok (.bipush 16, 2) := by decide +kernel
theorem dX8_drawBelow_21 : decode cX8_drawBelow 21 = .ok (.iushr, 1) := by decide +kernel
theorem dX8_drawBelow_22 : decode cX8_drawBelow 22 = .ok (.iload_n 1, 1) := by decide +kernel
theorem dX8_drawBelow_23 : decode cX8_drawBelow 23 = .ok (.irem, 1) := by decide +kernel
theorem dX8_drawBelow_24 : decode cX8_drawBelow 24 = .ok (.ireturn, 1) := by decide +kernel
theorem dX8_fullOthers_0 : decode cX8_fullOthers 0 = .ok (.iconst 0, 1) := by decide +kernel
theorem dX8_fullOthers_1 : decode cX8_fullOthers 1 = .ok (.istore_n 2, 1) := by decide +kernel
theorem dX8_fullOthers_2 : decode cX8_fullOthers 2 = .ok (.iconst 0, 1) := by decide +kernel
theorem dX8_fullOthers_3 : decode cX8_fullOthers 3 = .ok (.istore_n 3, 1) := by decide +kernel
theorem dX8_fullOthers_4 : decode cX8_fullOthers 4 = .ok (.iload_n 3, 1) := by decide +kernel
theorem dX8_fullOthers_5 : decode cX8_fullOthers 5 = .ok (.aload_n 0, 1) := by decide +kernel
theorem dX8_fullOthers_6 : decode cX8_fullOthers 6 = .ok (.getfield 7, 3) := by decide +kernel
theorem dX8_fullOthers_9 : decode cX8_fullOthers 9 = .ok (.if_icmp .ge 31, 3) := by decide +kernel
theorem dX8_fullOthers_12 : decode cX8_fullOthers 12 = .ok (.iload_n 2, 1) := by decide +kernel
theorem dX8_fullOthers_13 : decode cX8_fullOthers 13 = .ok (.iload_n 3, 1) := by decide +kernel
theorem dX8_fullOthers_14 : decode cX8_fullOthers 14 = .ok (.iload_n 1, 1) := by decide +kernel
theorem dX8_fullOthers_15 : decode cX8_fullOthers 15 = .ok (.if_icmp .eq 16, 3) := by decide +kernel
theorem dX8_fullOthers_18 : decode cX8_fullOthers 18 = .ok (.aload_n 0, 1) := by decide +kernel
theorem dX8_fullOthers_19 : decode cX8_fullOthers 19 = .ok (.getfield 13, 3) := by decide +kernel
theorem dX8_fullOthers_22 : decode cX8_fullOthers 22 = .ok (.iload_n 3, 1) := by decide +kernel
theorem dX8_fullOthers_23 : decode cX8_fullOthers 23 = .ok (.iaload, 1) := by decide +kernel
theorem dX8_fullOthers_24 : decode cX8_fullOthers 24 = .ok (.ifCond .le 7, 3) := by decide +kernel
theorem dX8_fullOthers_27 : decode cX8_fullOthers 27 = .ok (.iconst 1, 1) := by decide +kernel
theorem dX8_fullOthers_28 : decode cX8_fullOthers 28 = .ok (.goto 4, 3) := by decide +kernel
theorem dX8_fullOthers_31 : decode cX8_fullOthers 31 = .ok (.iconst 0, 1) := by decide +kernel
theorem dX8_fullOthers_32 : decode cX8_fullOthers 32 = .ok (.iadd, 1) := by decide +kernel
theorem dX8_fullOthers_33 : decode cX8_fullOthers 33 = .ok (.istore_n 2, 1) := by decide +kernel
theorem dX8_fullOthers_34 : decode cX8_fullOthers 34 = .ok (.iinc 3 1, 3) := by decide +kernel
theorem dX8_fullOthers_37 : decode cX8_fullOthers 37 = .ok (.goto (-33), 3) := by decide +kernel
theorem dX8_fullOthers_40 : decode cX8_fullOthers 40 = .ok (.iload_n 2, 1) := by decide +kernel
theorem dX8_fullOthers_41 : decode cX8_fullOthers 41 = .ok (.ireturn, 1) := by decide +kernel
theorem dX8_worksOn_0 : decode cX8_worksOn 0 = .ok (.aload_n 0, 1) := by decide +kernel
theorem dX8_worksOn_1 : decode cX8_worksOn 1 = .ok (.getfield 20, 3) := by decide +kernel
theorem dX8_worksOn_4 : decode cX8_worksOn 4 = .ok (.iload_n 1, 1) := by decide +kernel
theorem dX8_worksOn_5 : decode cX8_worksOn 5 = .ok (.iload_n 2, 1) := by decide +kernel
theorem dX8_worksOn_6 : decode cX8_worksOn 6 = .ok (.iastore, 1) := by decide +kernel
theorem dX8_worksOn_7 : decode cX8_worksOn 7 = .ok (.aload_n 0, 1) := by decide +kernel
theorem dX8_worksOn_8 : decode cX8_worksOn 8 = .ok (.getfield 29, 3) := by decide +kernel
theorem dX8_worksOn_11 : decode cX8_worksOn 11 = .ok (.iload_n 2, 1) := by decide +kernel
theorem dX8_worksOn_12 : decode cX8_worksOn 12 = .ok (.iconst 1, 1) := by decide +kernel
theorem dX8_worksOn_13 : decode cX8_worksOn 13 = .ok (.iastore, 1) := by decide +kernel
theorem dX8_worksOn_14 : decode cX8_worksOn 14 = .ok (.aload_n 0, 1) := by decide +kernel
theorem dX8_worksOn_15 : decode cX8_worksOn 15 = .ok (.iload_n 1, 1) := by decide +kernel
theorem dX8_worksOn_16 : decode cX8_worksOn 16 = .ok (.iload_n 3, 1) := by decide +kernel
theorem dX8_worksOn_17 : decode cX8_worksOn 17 = .ok (.iload_n 2, 1) := by decide +kernel
theorem dX8_worksOn_18 : decode cX8_worksOn 18 = .ok (.invokevirtual 190, 3) := by decide +kernel
theorem dX8_worksOn_21 : decode cX8_worksOn 21 = .ok (.return_, 1) := by decide +kernel
theorem dX8_steals_0 : decode cX8_steals 0 = .ok (.aload_n 0, 1) := by decide +kernel
theorem dX8_steals_1 : decode cX8_steals 1 = .ok (.iload_n 2, 1) := by decide +kernel
theorem dX8_steals_2 : decode cX8_steals 2 = .ok (.invokevirtual 215, 3) := by decide +kernel
theorem dX8_steals_5 : decode cX8_steals 5 = .ok (.istore_n 3, 1) := by decide +kernel
theorem dX8_steals_6 : decode cX8_steals 6 = .ok (.iconst (-1), 1) := by decide +kernel
theorem dX8_steals_7 : decode cX8_steals 7 = .ok (.istore 4, 2) := by decide +kernel
theorem dX8_steals_9 : decode cX8_steals 9 = .ok (.iconst 0, 1) := by decide +kernel
theorem dX8_steals_10 : decode cX8_steals 10 = .ok (.istore 5, 2) := by decide +kernel
theorem dX8_steals_12 : decode cX8_steals 12 = .ok (.iload 5, 2) := by decide +kernel
theorem dX8_steals_14 : decode cX8_steals 14 = .ok (.aload_n 0, 1) := by decide +kernel
theorem dX8_steals_15 : decode cX8_steals 15 = .ok (.getfield 7, 3) := by decide +kernel
theorem dX8_steals_18 : decode cX8_steals 18 = .ok (.if_icmp .ge 63, 3) := by decide +kernel
theorem dX8_steals_21 : decode cX8_steals 21 = .ok (.iload 5, 2) := by decide +kernel
theorem dX8_steals_23 : decode cX8_steals 23 = .ok (.iload_n 1, 1) := by decide +kernel
theorem dX8_steals_24 : decode cX8_steals 24 = .ok (.if_icmp .eq 17, 3) := by decide +kernel
theorem dX8_steals_27 : decode cX8_steals 27 = .ok (.aload_n 0, 1) := by decide +kernel
theorem dX8_steals_28 : decode cX8_steals 28 = .ok (.getfield 13, 3) := by decide +kernel
theorem dX8_steals_31 : decode cX8_steals 31 = .ok (.iload 5, 2) := by decide +kernel
theorem dX8_steals_33 : decode cX8_steals 33 = .ok (.iaload, 1) := by decide +kernel
theorem dX8_steals_34 : decode cX8_steals 34 = .ok (.ifCond .le 7, 3) := by decide +kernel
theorem dX8_steals_37 : decode cX8_steals 37 = .ok (.iconst 1, 1) := by decide +kernel
theorem dX8_steals_38 : decode cX8_steals 38 = .ok (.goto 4, 3) := by decide +kernel
theorem dX8_steals_41 : decode cX8_steals 41 = .ok (.iconst 0, 1) := by decide +kernel
theorem dX8_steals_42 : decode cX8_steals 42 = .ok (.istore 6, 2) := by decide +kernel
theorem dX8_steals_44 : decode cX8_steals 44 = .ok (.iload 6, 2) := by decide +kernel
theorem dX8_steals_46 : decode cX8_steals 46 = .ok (.ifCond .eq 12, 3) := by decide +kernel
theorem dX8_steals_49 : decode cX8_steals 49 = .ok (.iload_n 3, 1) := by decide +kernel
theorem dX8_steals_50 : decode cX8_steals 50 = .ok (.ifCond .ne 8, 3) := by decide +kernel
theorem dX8_steals_53 : decode cX8_steals 53 = .ok (.iload 5, 2) := by decide +kernel
theorem dX8_steals_55 : decode cX8_steals 55 = .ok (.goto 5, 3) := by decide +kernel
theorem dX8_steals_58 : decode cX8_steals 58 = .ok (.iload 4, 2) := by decide +kernel
theorem dX8_steals_60 : decode cX8_steals 60 = .ok (.istore 4, 2) := by decide +kernel
theorem dX8_steals_62 : decode cX8_steals 62 = .ok (.iload_n 3, 1) := by decide +kernel
theorem dX8_steals_63 : decode cX8_steals 63 = .ok (.iload 6, 2) := by decide +kernel
theorem dX8_steals_65 : decode cX8_steals 65 = .ok (.ifCond .eq 7, 3) := by decide +kernel
theorem dX8_steals_68 : decode cX8_steals 68 = .ok (.iconst 1, 1) := by decide +kernel
theorem dX8_steals_69 : decode cX8_steals 69 = .ok (.goto 4, 3) := by decide +kernel
theorem dX8_steals_72 : decode cX8_steals 72 = .ok (.iconst 0, 1) := by decide +kernel
theorem dX8_steals_73 : decode cX8_steals 73 = .ok (.isub, 1) := by decide +kernel
theorem dX8_steals_74 : decode cX8_steals 74 = .ok (.istore_n 3, 1) := by decide +kernel
theorem dX8_steals_75 : decode cX8_steals 75 = .ok (.iinc 5 1, 3) := by decide +kernel
theorem dX8_steals_78 : decode cX8_steals 78 = .ok (.goto (-66), 3) := by decide +kernel
theorem dX8_steals_81 : decode cX8_steals 81 = .ok (.aload_n 0, 1) := by decide +kernel
theorem dX8_steals_82 : decode cX8_steals 82 = .ok (.getfield 17, 3) := by decide +kernel
theorem dX8_steals_85 : decode cX8_steals 85 = .ok (.bipush 32, 2) := by decide +kernel
theorem dX8_steals_87 : decode cX8_steals 87 = .ok (.iload 4, 2) := by decide +kernel
theorem dX8_steals_89 : decode cX8_steals 89 = .ok (.imul, 1) := by decide +kernel
theorem dX8_steals_90 : decode cX8_steals 90 = .ok (.iaload, 1) := by decide +kernel
theorem dX8_steals_91 : decode cX8_steals 91 = .ok (.istore 5, 2) := by decide +kernel
theorem dX8_steals_93 : decode cX8_steals 93 = .ok (.aload_n 0, 1) := by decide +kernel
theorem dX8_steals_94 : decode cX8_steals 94 = .ok (.iload 5, 2) := by decide +kernel
theorem dX8_steals_96 : decode cX8_steals 96 = .ok (.invokevirtual 187, 3) := by decide +kernel
theorem dX8_steals_99 : decode cX8_steals 99 = .ok (.aload_n 0, 1) := by decide +kernel
theorem dX8_steals_100 : decode cX8_steals 100 = .ok (.getfield 26, 3) := by decide +kernel
theorem dX8_steals_103 : decode cX8_steals 103 = .ok (.iload_n 1, 1) := by decide +kernel
theorem dX8_steals_104 : decode cX8_steals 104 = .ok (.dup2, 1) := by decide +kernel
theorem dX8_steals_105 : decode cX8_steals 105 = .ok (.iaload, 1) := by decide +kernel
theorem dX8_steals_106 : decode cX8_steals 106 = .ok (.iconst 1, 1) := by decide +kernel
theorem dX8_steals_107 : decode cX8_steals 107 = .ok (.iadd, 1) := by decide +kernel
theorem dX8_steals_108 : decode cX8_steals 108 = .ok (.iastore, 1) := by decide +kernel
theorem dX8_steals_109 : decode cX8_steals 109 = .ok (.aload_n 0, 1) := by decide +kernel
theorem dX8_steals_110 : decode cX8_steals 110 = .ok (.iload_n 1, 1) := by decide +kernel
theorem dX8_steals_111 : decode cX8_steals 111 = .ok (.iload 5, 2) := by decide +kernel
theorem dX8_steals_113 : decode cX8_steals 113 = .ok (.iconst 1, 1) := by decide +kernel
theorem dX8_steals_114 : decode cX8_steals 114 = .ok (.invokevirtual 218, 3) := by decide +kernel
theorem dX8_steals_117 : decode cX8_steals 117 = .ok (.return_, 1) := by decide +kernel
theorem dX8_armGoes_0 : decode cX8_armGoes 0 = .ok (.aload_n 0, 1) := by decide +kernel
theorem dX8_armGoes_1 : decode cX8_armGoes 1 = .ok (.getfield 20, 3) := by decide +kernel
theorem dX8_armGoes_4 : decode cX8_armGoes 4 = .ok (.iload_n 1, 1) := by decide +kernel
theorem dX8_armGoes_5 : decode cX8_armGoes 5 = .ok (.iaload, 1) := by decide +kernel
theorem dX8_armGoes_6 : decode cX8_armGoes 6 = .ok (.istore_n 2, 1) := by decide +kernel
theorem dX8_armGoes_7 : decode cX8_armGoes 7 = .ok (.iload_n 2, 1) := by decide +kernel
theorem dX8_armGoes_8 : decode cX8_armGoes 8 = .ok (.ifCond .lt 39, 3) := by decide +kernel
theorem dX8_armGoes_11 : decode cX8_armGoes 11 = .ok (.aload_n 0, 1) := by decide +kernel
theorem dX8_armGoes_12 : decode cX8_armGoes 12 = .ok (.getfield 35, 3) := by decide +kernel
theorem dX8_armGoes_15 : decode cX8_armGoes 15 = .ok (.iload_n 2, 1) := by decide +kernel
theorem dX8_armGoes_16 : decode cX8_armGoes 16 = .ok (.dup2, 1) := by decide +kernel
theorem dX8_armGoes_17 : decode cX8_armGoes 17 = .ok (.iaload, 1) := by decide +kernel
theorem dX8_armGoes_18 : decode cX8_armGoes 18 = .ok (.iconst 1, 1) := by decide +kernel
theorem dX8_armGoes_19 : decode cX8_armGoes 19 = .ok (.isub, 1) := by decide +kernel
theorem dX8_armGoes_20 : decode cX8_armGoes 20 = .ok (.iastore, 1) := by decide +kernel
theorem dX8_armGoes_21 : decode cX8_armGoes 21 = .ok (.aload_n 0, 1) := by decide +kernel
theorem dX8_armGoes_22 : decode cX8_armGoes 22 = .ok (.getfield 35, 3) := by decide +kernel
theorem dX8_armGoes_25 : decode cX8_armGoes 25 = .ok (.iload_n 2, 1) := by decide +kernel
theorem dX8_armGoes_26 : decode cX8_armGoes 26 = .ok (.iaload, 1) := by decide +kernel
theorem dX8_armGoes_27 : decode cX8_armGoes 27 = .ok (.ifCond .ne 95, 3) := by decide +kernel
theorem dX8_armGoes_30 : decode cX8_armGoes 30 = .ok (.aload_n 0, 1) := by decide +kernel
theorem dX8_armGoes_31 : decode cX8_armGoes 31 = .ok (.getfield 20, 3) := by decide +kernel
theorem dX8_armGoes_34 : decode cX8_armGoes 34 = .ok (.iload_n 1, 1) := by decide +kernel
theorem dX8_armGoes_35 : decode cX8_armGoes 35 = .ok (.bipush (-5), 2) := by decide +kernel
theorem dX8_armGoes_37 : decode cX8_armGoes 37 = .ok (.iastore, 1) := by decide +kernel
theorem dX8_armGoes_38 : decode cX8_armGoes 38 = .ok (.aload_n 0, 1) := by decide +kernel
theorem dX8_armGoes_39 : decode cX8_armGoes 39 = .ok (.iload_n 1, 1) := by decide +kernel
theorem dX8_armGoes_40 : decode cX8_armGoes 40 = .ok (.iload_n 2, 1) := by decide +kernel
theorem dX8_armGoes_41 : decode cX8_armGoes 41 = .ok (.invokevirtual 221, 3) := by decide +kernel
theorem dX8_armGoes_44 : decode cX8_armGoes 44 = .ok (.goto 78, 3) := by decide +kernel
theorem dX8_armGoes_47 : decode cX8_armGoes 47 = .ok (.aload_n 0, 1) := by decide +kernel
theorem dX8_armGoes_48 : decode cX8_armGoes 48 = .ok (.getfield 13, 3) := by decide +kernel
theorem dX8_armGoes_51 : decode cX8_armGoes 51 = .ok (.iload_n 1, 1) := by decide +kernel
theorem dX8_armGoes_52 : decode cX8_armGoes 52 = .ok (.iaload, 1) := by decide +kernel
theorem dX8_armGoes_53 : decode cX8_armGoes 53 = .ok (.ifCond .le 38, 3) := by decide +kernel
theorem dX8_armGoes_56 : decode cX8_armGoes 56 = .ok (.aload_n 0, 1) := by decide +kernel
theorem dX8_armGoes_57 : decode cX8_armGoes 57 = .ok (.getfield 13, 3) := by decide +kernel
theorem dX8_armGoes_60 : decode cX8_armGoes 60 = .ok (.iload_n 1, 1) := by decide +kernel
theorem dX8_armGoes_61 : decode cX8_armGoes 61 = .ok (.dup2, 1) := by decide +kernel
theorem dX8_armGoes_62 : decode cX8_armGoes 62 = .ok (.iaload, 1) := by decide +kernel
theorem dX8_armGoes_63 : decode cX8_armGoes 63 = .ok (.iconst 1, 1) := by decide +kernel
theorem dX8_armGoes_64 : decode cX8_armGoes 64 = .ok (.isub, 1) := by decide +kernel
theorem dX8_armGoes_65 : decode cX8_armGoes 65 = .ok (.iastore, 1) := by decide +kernel
theorem dX8_armGoes_66 : decode cX8_armGoes 66 = .ok (.aload_n 0, 1) := by decide +kernel
theorem dX8_armGoes_67 : decode cX8_armGoes 67 = .ok (.iload_n 1, 1) := by decide +kernel
theorem dX8_armGoes_68 : decode cX8_armGoes 68 = .ok (.aload_n 0, 1) := by decide +kernel
theorem dX8_armGoes_69 : decode cX8_armGoes 69 = .ok (.getfield 17, 3) := by decide +kernel
theorem dX8_armGoes_72 : decode cX8_armGoes 72 = .ok (.bipush 32, 2) := by decide +kernel
theorem dX8_armGoes_74 : decode cX8_armGoes 74 = .ok (.iload_n 1, 1) := by decide +kernel
theorem dX8_armGoes_75 : decode cX8_armGoes 75 = .ok (.imul, 1) := by decide +kernel
theorem dX8_armGoes_76 : decode cX8_armGoes 76 = .ok (.aload_n 0, 1) := by decide +kernel
theorem dX8_armGoes_77 : decode cX8_armGoes 77 = .ok (.getfield 13, 3) := by decide +kernel
theorem dX8_armGoes_80 : decode cX8_armGoes 80 = .ok (.iload_n 1, 1) := by decide +kernel
theorem dX8_armGoes_81 : decode cX8_armGoes 81 = .ok (.iaload, 1) := by decide +kernel
theorem dX8_armGoes_82 : decode cX8_armGoes 82 = .ok (.iadd, 1) := by decide +kernel
theorem dX8_armGoes_83 : decode cX8_armGoes 83 = .ok (.iaload, 1) := by decide +kernel
theorem dX8_armGoes_84 : decode cX8_armGoes 84 = .ok (.iconst 0, 1) := by decide +kernel
theorem dX8_armGoes_85 : decode cX8_armGoes 85 = .ok (.invokevirtual 218, 3) := by decide +kernel
theorem dX8_armGoes_88 : decode cX8_armGoes 88 = .ok (.goto 34, 3) := by decide +kernel
theorem dX8_armGoes_91 : decode cX8_armGoes 91 = .ok (.aload_n 0, 1) := by decide +kernel
theorem dX8_armGoes_92 : decode cX8_armGoes 92 = .ok (.iload_n 1, 1) := by decide +kernel
theorem dX8_armGoes_93 : decode cX8_armGoes 93 = .ok (.invokevirtual 224, 3) := by decide +kernel
theorem dX8_armGoes_96 : decode cX8_armGoes 96 = .ok (.ifCond .le 16, 3) := by decide +kernel
theorem dX8_armGoes_99 : decode cX8_armGoes 99 = .ok (.aload_n 0, 1) := by decide +kernel
theorem dX8_armGoes_100 : decode cX8_armGoes 100 = .ok (.iload_n 1, 1) := by decide +kernel
theorem dX8_armGoes_101 : decode cX8_armGoes 101 = .ok (.aload_n 0, 1) := by decide +kernel
theorem dX8_armGoes_102 : decode cX8_armGoes 102 = .ok (.iload_n 1, 1) := by decide +kernel
theorem dX8_armGoes_103 : decode cX8_armGoes 103 = .ok (.invokevirtual 224, 3) := by decide +kernel
theorem dX8_armGoes_106 : decode cX8_armGoes 106 = .ok (.invokevirtual 227, 3) := by decide +kernel
theorem dX8_armGoes_109 : decode cX8_armGoes 109 = .ok (.goto 13, 3) := by decide +kernel
theorem dX8_armGoes_112 : decode cX8_armGoes 112 = .ok (.aload_n 0, 1) := by decide +kernel
theorem dX8_armGoes_113 : decode cX8_armGoes 113 = .ok (.getfield 23, 3) := by decide +kernel
theorem dX8_armGoes_116 : decode cX8_armGoes 116 = .ok (.iload_n 1, 1) := by decide +kernel
theorem dX8_armGoes_117 : decode cX8_armGoes 117 = .ok (.dup2, 1) := by decide +kernel
theorem dX8_armGoes_118 : decode cX8_armGoes 118 = .ok (.iaload, 1) := by decide +kernel
theorem dX8_armGoes_119 : decode cX8_armGoes 119 = .ok (.iconst 1, 1) := by decide +kernel
theorem dX8_armGoes_120 : decode cX8_armGoes 120 = .ok (.iadd, 1) := by decide +kernel
theorem dX8_armGoes_121 : decode cX8_armGoes 121 = .ok (.iastore, 1) := by decide +kernel
theorem dX8_armGoes_122 : decode cX8_armGoes 122 = .ok (.return_, 1) := by decide +kernel
theorem dX8_roundOn_0 : decode cX8_roundOn 0 = .ok (.iconst 0, 1) := by decide +kernel
theorem dX8_roundOn_1 : decode cX8_roundOn 1 = .ok (.istore_n 1, 1) := by decide +kernel
theorem dX8_roundOn_2 : decode cX8_roundOn 2 = .ok (.iload_n 1, 1) := by decide +kernel
theorem dX8_roundOn_3 : decode cX8_roundOn 3 = .ok (.aload_n 0, 1) := by decide +kernel
theorem dX8_roundOn_4 : decode cX8_roundOn 4 = .ok (.getfield 7, 3) := by decide +kernel
theorem dX8_roundOn_7 : decode cX8_roundOn 7 = .ok (.if_icmp .ge 14, 3) := by decide +kernel
theorem dX8_roundOn_10 : decode cX8_roundOn 10 = .ok (.aload_n 0, 1) := by decide +kernel
theorem dX8_roundOn_11 : decode cX8_roundOn 11 = .ok (.iload_n 1, 1) := by decide +kernel
theorem dX8_roundOn_12 : decode cX8_roundOn 12 = .ok (.invokevirtual 230, 3) := by decide +kernel
theorem dX8_roundOn_15 : decode cX8_roundOn 15 = .ok (.iinc 1 1, 3) := by decide +kernel
theorem dX8_roundOn_18 : decode cX8_roundOn 18 = .ok (.goto (-16), 3) := by decide +kernel
theorem dX8_roundOn_21 : decode cX8_roundOn 21 = .ok (.aload_n 0, 1) := by decide +kernel
theorem dX8_roundOn_22 : decode cX8_roundOn 22 = .ok (.dup, 1) := by decide +kernel
theorem dX8_roundOn_23 : decode cX8_roundOn 23 = .ok (.getfield 157, 3) := by decide +kernel
theorem dX8_roundOn_26 : decode cX8_roundOn 26 = .ok (.iconst 1, 1) := by decide +kernel
theorem dX8_roundOn_27 : decode cX8_roundOn 27 = .ok (.iadd, 1) := by decide +kernel
theorem dX8_roundOn_28 : decode cX8_roundOn 28 = .ok (.putfield 157, 3) := by decide +kernel
theorem dX8_roundOn_31 : decode cX8_roundOn 31 = .ok (.return_, 1) := by decide +kernel
theorem dX8_goRounds_0 : decode cX8_goRounds 0 = .ok (.iconst 0, 1) := by decide +kernel
theorem dX8_goRounds_1 : decode cX8_goRounds 1 = .ok (.istore_n 2, 1) := by decide +kernel
theorem dX8_goRounds_2 : decode cX8_goRounds 2 = .ok (.iload_n 2, 1) := by decide +kernel
theorem dX8_goRounds_3 : decode cX8_goRounds 3 = .ok (.iload_n 1, 1) := by decide +kernel
theorem dX8_goRounds_4 : decode cX8_goRounds 4 = .ok (.if_icmp .ge 13, 3) := by decide +kernel
theorem dX8_goRounds_7 : decode cX8_goRounds 7 = .ok (.aload_n 0, 1) := by decide +kernel
theorem dX8_goRounds_8 : decode cX8_goRounds 8 = .ok (.invokevirtual 233, 3) := by decide +kernel
theorem dX8_goRounds_11 : decode cX8_goRounds 11 = .ok (.iinc 2 1, 3) := by decide +kernel
theorem dX8_goRounds_14 : decode cX8_goRounds 14 = .ok (.goto (-12), 3) := by decide +kernel
theorem dX8_goRounds_17 : decode cX8_goRounds 17 = .ok (.return_, 1) := by decide +kernel
theorem dX8_isOver_0 : decode cX8_isOver 0 = .ok (.iconst 1, 1) := by decide +kernel
theorem dX8_isOver_1 : decode cX8_isOver 1 = .ok (.istore_n 1, 1) := by decide +kernel
theorem dX8_isOver_2 : decode cX8_isOver 2 = .ok (.iconst 0, 1) := by decide +kernel
theorem dX8_isOver_3 : decode cX8_isOver 3 = .ok (.istore_n 2, 1) := by decide +kernel
theorem dX8_isOver_4 : decode cX8_isOver 4 = .ok (.iload_n 2, 1) := by decide +kernel
theorem dX8_isOver_5 : decode cX8_isOver 5 = .ok (.aload_n 0, 1) := by decide +kernel
theorem dX8_isOver_6 : decode cX8_isOver 6 = .ok (.getfield 127, 3) := by decide +kernel
theorem dX8_isOver_9 : decode cX8_isOver 9 = .ok (.if_icmp .ge 39, 3) := by decide +kernel
theorem dX8_isOver_12 : decode cX8_isOver 12 = .ok (.iload_n 1, 1) := by decide +kernel
theorem dX8_isOver_13 : decode cX8_isOver 13 = .ok (.ifCond .eq 27, 3) := by decide +kernel
theorem dX8_isOver_16 : decode cX8_isOver 16 = .ok (.aload_n 0, 1) := by decide +kernel
theorem dX8_isOver_17 : decode cX8_isOver 17 = .ok (.getfield 29, 3) := by decide +kernel
theorem dX8_isOver_20 : decode cX8_isOver 20 = .ok (.iload_n 2, 1) := by decide +kernel
theorem dX8_isOver_21 : decode cX8_isOver 21 = .ok (.iaload, 1) := by decide +kernel
theorem dX8_isOver_22 : decode cX8_isOver 22 = .ok (.iconst 1, 1) := by decide +kernel
theorem dX8_isOver_23 : decode cX8_isOver 23 = .ok (.if_icmp .eq 17, 3) := by decide +kernel
theorem dX8_isOver_26 : decode cX8_isOver 26 = .ok (.aload_n 0, 1) := by decide +kernel
theorem dX8_isOver_27 : decode cX8_isOver 27 = .ok (.getfield 29, 3) := by decide +kernel
theorem dX8_isOver_30 : decode cX8_isOver 30 = .ok (.iload_n 2, 1) := by decide +kernel
theorem dX8_isOver_31 : decode cX8_isOver 31 = .ok (.iaload, 1) := by decide +kernel
theorem dX8_isOver_32 : decode cX8_isOver 32 = .ok (.iconst 2, 1) := by decide +kernel
theorem dX8_isOver_33 : decode cX8_isOver 33 = .ok (.if_icmp .eq 7, 3) := by decide +kernel
theorem dX8_isOver_36 : decode cX8_isOver 36 = .ok (.iconst 1, 1) := by decide +kernel
theorem dX8_isOver_37 : decode cX8_isOver 37 = .ok (.goto 4, 3) := by decide +kernel
theorem dX8_isOver_40 : decode cX8_isOver 40 = .ok (.iconst 0, 1) := by decide +kernel
theorem dX8_isOver_41 : decode cX8_isOver 41 = .ok (.istore_n 1, 1) := by decide +kernel
theorem dX8_isOver_42 : decode cX8_isOver 42 = .ok (.iinc 2 1, 3) := by decide +kernel
theorem dX8_isOver_45 : decode cX8_isOver 45 = .ok (.goto (-41), 3) := by decide +kernel
theorem dX8_isOver_48 : decode cX8_isOver 48 = .ok (.iconst 0, 1) := by decide +kernel
theorem dX8_isOver_49 : decode cX8_isOver 49 = .ok (.istore_n 2, 1) := by decide +kernel
theorem dX8_isOver_50 : decode cX8_isOver 50 = .ok (.iload_n 2, 1) := by decide +kernel
theorem dX8_isOver_51 : decode cX8_isOver 51 = .ok (.aload_n 0, 1) := by decide +kernel
theorem dX8_isOver_52 : decode cX8_isOver 52 = .ok (.getfield 7, 3) := by decide +kernel
theorem dX8_isOver_55 : decode cX8_isOver 55 = .ok (.if_icmp .ge 28, 3) := by decide +kernel
theorem dX8_isOver_58 : decode cX8_isOver 58 = .ok (.iload_n 1, 1) := by decide +kernel
theorem dX8_isOver_59 : decode cX8_isOver 59 = .ok (.ifCond .eq 16, 3) := by decide +kernel
theorem dX8_isOver_62 : decode cX8_isOver 62 = .ok (.aload_n 0, 1) := by decide +kernel
theorem dX8_isOver_63 : decode cX8_isOver 63 = .ok (.getfield 13, 3) := by decide +kernel
theorem dX8_isOver_66 : decode cX8_isOver 66 = .ok (.iload_n 2, 1) := by decide +kernel
theorem dX8_isOver_67 : decode cX8_isOver 67 = .ok (.iaload, 1) := by decide +kernel
theorem dX8_isOver_68 : decode cX8_isOver 68 = .ok (.ifCond .ne 7, 3) := by decide +kernel
theorem dX8_isOver_71 : decode cX8_isOver 71 = .ok (.iconst 1, 1) := by decide +kernel
theorem dX8_isOver_72 : decode cX8_isOver 72 = .ok (.goto 4, 3) := by decide +kernel
theorem dX8_isOver_75 : decode cX8_isOver 75 = .ok (.iconst 0, 1) := by decide +kernel
theorem dX8_isOver_76 : decode cX8_isOver 76 = .ok (.istore_n 1, 1) := by decide +kernel
theorem dX8_isOver_77 : decode cX8_isOver 77 = .ok (.iinc 2 1, 3) := by decide +kernel
theorem dX8_isOver_80 : decode cX8_isOver 80 = .ok (.goto (-30), 3) := by decide +kernel
theorem dX8_isOver_83 : decode cX8_isOver 83 = .ok (.iload_n 1, 1) := by decide +kernel
theorem dX8_isOver_84 : decode cX8_isOver 84 = .ok (.ireturn, 1) := by decide +kernel
theorem dX8_becomeArms_0 : decode cX8_becomeArms 0 = .ok (.aload_n 0, 1) := by decide +kernel
theorem dX8_becomeArms_1 : decode cX8_becomeArms 1 = .ok (.getfield 7, 3) := by decide +kernel
theorem dX8_becomeArms_4 : decode cX8_becomeArms 4 = .ok (.istore_n 2, 1) := by decide +kernel
theorem dX8_becomeArms_5 : decode cX8_becomeArms 5 = .ok (.iload_n 2, 1) := by decide +kernel
theorem dX8_becomeArms_6 : decode cX8_becomeArms 6 = .ok (.iload_n 1, 1) := by decide +kernel
theorem dX8_becomeArms_7 : decode cX8_becomeArms 7 = .ok (.if_icmp .ge 38, 3) := by decide +kernel
theorem dX8_becomeArms_10 : decode cX8_becomeArms 10 = .ok (.aload_n 0, 1) := by decide +kernel
theorem dX8_becomeArms_11 : decode cX8_becomeArms 11 = .ok (.getfield 13, 3) := by decide +kernel
theorem dX8_becomeArms_14 : decode cX8_becomeArms 14 = .ok (.iload_n 2, 1) := by decide +kernel
theorem dX8_becomeArms_15 : decode cX8_becomeArms 15 = .ok (.iconst 0, 1) := by decide +kernel
theorem dX8_becomeArms_16 : decode cX8_becomeArms 16 = .ok (.iastore, 1) := by decide +kernel
theorem dX8_becomeArms_17 : decode cX8_becomeArms 17 = .ok (.aload_n 0, 1) := by decide +kernel
theorem dX8_becomeArms_18 : decode cX8_becomeArms 18 = .ok (.getfield 20, 3) := by decide +kernel
theorem dX8_becomeArms_21 : decode cX8_becomeArms 21 = .ok (.iload_n 2, 1) := by decide +kernel
theorem dX8_becomeArms_22 : decode cX8_becomeArms 22 = .ok (.bipush (-5), 2) := by decide +kernel
theorem dX8_becomeArms_24 : decode cX8_becomeArms 24 = .ok (.iastore, 1) := by decide +kernel
theorem dX8_becomeArms_25 : decode cX8_becomeArms 25 = .ok (.aload_n 0, 1) := by decide +kernel
theorem dX8_becomeArms_26 : decode cX8_becomeArms 26 = .ok (.getfield 23, 3) := by decide +kernel
theorem dX8_becomeArms_29 : decode cX8_becomeArms 29 = .ok (.iload_n 2, 1) := by decide +kernel
theorem dX8_becomeArms_30 : decode cX8_becomeArms 30 = .ok (.iconst 0, 1) := by decide +kernel
theorem dX8_becomeArms_31 : decode cX8_becomeArms 31 = .ok (.iastore, 1) := by decide +kernel
theorem dX8_becomeArms_32 : decode cX8_becomeArms 32 = .ok (.aload_n 0, 1) := by decide +kernel
theorem dX8_becomeArms_33 : decode cX8_becomeArms 33 = .ok (.getfield 26, 3) := by decide +kernel
theorem dX8_becomeArms_36 : decode cX8_becomeArms 36 = .ok (.iload_n 2, 1) := by decide +kernel
theorem dX8_becomeArms_37 : decode cX8_becomeArms 37 = .ok (.iconst 0, 1) := by decide +kernel
theorem dX8_becomeArms_38 : decode cX8_becomeArms 38 = .ok (.iastore, 1) := by decide +kernel
theorem dX8_becomeArms_39 : decode cX8_becomeArms 39 = .ok (.iinc 2 1, 3) := by decide +kernel
theorem dX8_becomeArms_42 : decode cX8_becomeArms 42 = .ok (.goto (-37), 3) := by decide +kernel
theorem dX8_becomeArms_45 : decode cX8_becomeArms 45 = .ok (.iload_n 1, 1) := by decide +kernel
theorem dX8_becomeArms_46 : decode cX8_becomeArms 46 = .ok (.istore_n 2, 1) := by decide +kernel
theorem dX8_becomeArms_47 : decode cX8_becomeArms 47 = .ok (.iload_n 2, 1) := by decide +kernel
theorem dX8_becomeArms_48 : decode cX8_becomeArms 48 = .ok (.aload_n 0, 1) := by decide +kernel
theorem dX8_becomeArms_49 : decode cX8_becomeArms 49 = .ok (.getfield 7, 3) := by decide +kernel
theorem dX8_becomeArms_52 : decode cX8_becomeArms 52 = .ok (.if_icmp .ge 90, 3) := by decide +kernel
theorem dX8_becomeArms_55 : decode cX8_becomeArms 55 = .ok (.aload_n 0, 1) := by decide +kernel
theorem dX8_becomeArms_56 : decode cX8_becomeArms 56 = .ok (.getfield 20, 3) := by decide +kernel
theorem dX8_becomeArms_59 : decode cX8_becomeArms 59 = .ok (.iload_n 2, 1) := by decide +kernel
theorem dX8_becomeArms_60 : decode cX8_becomeArms 60 = .ok (.iaload, 1) := by decide +kernel
theorem dX8_becomeArms_61 : decode cX8_becomeArms 61 = .ok (.ifCond .lt 34, 3) := by decide +kernel
theorem dX8_becomeArms_64 : decode cX8_becomeArms 64 = .ok (.aload_n 0, 1) := by decide +kernel
theorem dX8_becomeArms_65 : decode cX8_becomeArms 65 = .ok (.getfield 29, 3) := by decide +kernel
theorem dX8_becomeArms_68 : decode cX8_becomeArms 68 = .ok (.aload_n 0, 1) := by decide +kernel
theorem dX8_becomeArms_69 : decode cX8_becomeArms 69 = .ok (.getfield 20, 3) := by decide +kernel
theorem dX8_becomeArms_72 : decode cX8_becomeArms 72 = .ok (.iload_n 2, 1) := by decide +kernel
theorem dX8_becomeArms_73 : decode cX8_becomeArms 73 = .ok (.iaload, 1) := by decide +kernel
theorem dX8_becomeArms_74 : decode cX8_becomeArms 74 = .ok (.iconst 0, 1) := by decide +kernel
theorem dX8_becomeArms_75 : decode cX8_becomeArms 75 = .ok (.iastore, 1) := by decide +kernel
theorem dX8_becomeArms_76 : decode cX8_becomeArms 76 = .ok (.aload_n 0, 1) := by decide +kernel
theorem dX8_becomeArms_77 : decode cX8_becomeArms 77 = .ok (.iconst 0, 1) := by decide +kernel
theorem dX8_becomeArms_78 : decode cX8_becomeArms 78 = .ok (.aload_n 0, 1) := by decide +kernel
theorem dX8_becomeArms_79 : decode cX8_becomeArms 79 = .ok (.getfield 20, 3) := by decide +kernel
theorem dX8_becomeArms_82 : decode cX8_becomeArms 82 = .ok (.iload_n 2, 1) := by decide +kernel
theorem dX8_becomeArms_83 : decode cX8_becomeArms 83 = .ok (.iaload, 1) := by decide +kernel
theorem dX8_becomeArms_84 : decode cX8_becomeArms 84 = .ok (.invokevirtual 210, 3) := by decide +kernel
theorem dX8_becomeArms_87 : decode cX8_becomeArms 87 = .ok (.aload_n 0, 1) := by decide +kernel
theorem dX8_becomeArms_88 : decode cX8_becomeArms 88 = .ok (.getfield 20, 3) := by decide +kernel
theorem dX8_becomeArms_91 : decode cX8_becomeArms 91 = .ok (.iload_n 2, 1) := by decide +kernel
theorem dX8_becomeArms_92 : decode cX8_becomeArms 92 = .ok (.bipush (-5), 2) := by decide +kernel
theorem dX8_becomeArms_94 : decode cX8_becomeArms 94 = .ok (.iastore, 1) := by decide +kernel
theorem dX8_becomeArms_95 : decode cX8_becomeArms 95 = .ok (.iconst 0, 1) := by decide +kernel
theorem dX8_becomeArms_96 : decode cX8_becomeArms 96 = .ok (.istore_n 3, 1) := by decide +kernel
theorem dX8_becomeArms_97 : decode cX8_becomeArms 97 = .ok (.iload_n 3, 1) := by decide +kernel
theorem dX8_becomeArms_98 : decode cX8_becomeArms 98 = .ok (.aload_n 0, 1) := by decide +kernel
theorem dX8_becomeArms_99 : decode cX8_becomeArms 99 = .ok (.getfield 13, 3) := by decide +kernel
theorem dX8_becomeArms_102 : decode cX8_becomeArms 102 = .ok (.iload_n 2, 1) := by decide +kernel
theorem dX8_becomeArms_103 : decode cX8_becomeArms 103 = .ok (.iaload, 1) := by decide +kernel
theorem dX8_becomeArms_104 : decode cX8_becomeArms 104 = .ok (.if_icmp .ge 25, 3) := by decide +kernel
theorem dX8_becomeArms_107 : decode cX8_becomeArms 107 = .ok (.aload_n 0, 1) := by decide +kernel
theorem dX8_becomeArms_108 : decode cX8_becomeArms 108 = .ok (.iconst 0, 1) := by decide +kernel
theorem dX8_becomeArms_109 : decode cX8_becomeArms 109 = .ok (.aload_n 0, 1) := by decide +kernel
theorem dX8_becomeArms_110 : decode cX8_becomeArms 110 = .ok (.getfield 17, 3) := by decide +kernel
theorem dX8_becomeArms_113 : decode cX8_becomeArms 113 = .ok (.bipush 32, 2) := by decide +kernel
theorem dX8_becomeArms_115 : decode cX8_becomeArms 115 = .ok (.iload_n 2, 1) := by decide +kernel
theorem dX8_becomeArms_116 : decode cX8_becomeArms 116 = .ok (.imul, 1) := by decide +kernel
theorem dX8_becomeArms_117 : decode cX8_becomeArms 117 = .ok (.iload_n 3, 1) := by decide +kernel
theorem dX8_becomeArms_118 : decode cX8_becomeArms 118 = .ok (.iadd, 1) := by decide +kernel
theorem dX8_becomeArms_119 : decode cX8_becomeArms 119 = .ok (.iaload, 1) := by decide +kernel
theorem dX8_becomeArms_120 : decode cX8_becomeArms 120 = .ok (.invokevirtual 210, 3) := by decide +kernel
theorem dX8_becomeArms_123 : decode cX8_becomeArms 123 = .ok (.iinc 3 1, 3) := by decide +kernel
theorem dX8_becomeArms_126 : decode cX8_becomeArms 126 = .ok (.goto (-29), 3) := by decide +kernel
theorem dX8_becomeArms_129 : decode cX8_becomeArms 129 = .ok (.aload_n 0, 1) := by decide +kernel
theorem dX8_becomeArms_130 : decode cX8_becomeArms 130 = .ok (.getfield 13, 3) := by decide +kernel
theorem dX8_becomeArms_133 : decode cX8_becomeArms 133 = .ok (.iload_n 2, 1) := by decide +kernel
theorem dX8_becomeArms_134 : decode cX8_becomeArms 134 = .ok (.iconst 0, 1) := by decide +kernel
theorem dX8_becomeArms_135 : decode cX8_becomeArms 135 = .ok (.iastore, 1) := by decide +kernel
theorem dX8_becomeArms_136 : decode cX8_becomeArms 136 = .ok (.iinc 2 1, 3) := by decide +kernel
theorem dX8_becomeArms_139 : decode cX8_becomeArms 139 = .ok (.goto (-92), 3) := by decide +kernel
theorem dX8_becomeArms_142 : decode cX8_becomeArms 142 = .ok (.aload_n 0, 1) := by decide +kernel
theorem dX8_becomeArms_143 : decode cX8_becomeArms 143 = .ok (.iload_n 1, 1) := by decide +kernel
theorem dX8_becomeArms_144 : decode cX8_becomeArms 144 = .ok (.putfield 7, 3) := by decide +kernel
theorem dX8_becomeArms_147 : decode cX8_becomeArms 147 = .ok (.return_, 1) := by decide +kernel
theorem dX8_arms_0 : decode cX8_arms 0 = .ok (.aload_n 0, 1) := by decide +kernel
theorem dX8_arms_1 : decode cX8_arms 1 = .ok (.iconst 0, 1) := by decide +kernel
theorem dX8_arms_2 : decode cX8_arms 2 = .ok (.putfield 124, 3) := by decide +kernel
theorem dX8_arms_5 : decode cX8_arms 5 = .ok (.iload_n 1, 1) := by decide +kernel
theorem dX8_arms_6 : decode cX8_arms 6 = .ok (.i2l, 1) := by decide +kernel
theorem dX8_arms_7 : decode cX8_arms 7 = .ok (.lconst 1, 1) := by decide +kernel
theorem dX8_arms_8 : decode cX8_arms 8 = .ok (.ldc2_w 236, 3) := by decide +kernel
theorem dX8_arms_11 : decode cX8_arms 11 = .ok (.invokestatic 130, 3) := by decide +kernel
theorem dX8_arms_14 : decode cX8_arms 14 = .ok (.ifCond .ne 6, 3) := by decide +kernel
theorem dX8_arms_17 : decode cX8_arms 17 = .ok (.bipush (-2), 2) := by decide +kernel
theorem dX8_arms_19 : decode cX8_arms 19 = .ok (.ireturn, 1) := by decide +kernel
theorem dX8_arms_20 : decode cX8_arms 20 = .ok (.aload_n 0, 1) := by decide +kernel
theorem dX8_arms_21 : decode cX8_arms 21 = .ok (.getfield 7, 3) := by decide +kernel
theorem dX8_arms_24 : decode cX8_arms 24 = .ok (.istore_n 2, 1) := by decide +kernel
theorem dX8_arms_25 : decode cX8_arms 25 = .ok (.aload_n 0, 1) := by decide +kernel
theorem dX8_arms_26 : decode cX8_arms 26 = .ok (.iload_n 1, 1) := by decide +kernel
theorem dX8_arms_27 : decode cX8_arms 27 = .ok (.invokevirtual 238, 3) := by decide +kernel
theorem dX8_arms_30 : decode cX8_arms 30 = .ok (.iload_n 2, 1) := by decide +kernel
theorem dX8_arms_31 : decode cX8_arms 31 = .ok (.ireturn, 1) := by decide +kernel
theorem dX8_seed_0 : decode cX8_seed 0 = .ok (.aload_n 0, 1) := by decide +kernel
theorem dX8_seed_1 : decode cX8_seed 1 = .ok (.iconst 0, 1) := by decide +kernel
theorem dX8_seed_2 : decode cX8_seed 2 = .ok (.putfield 124, 3) := by decide +kernel
theorem dX8_seed_5 : decode cX8_seed 5 = .ok (.aload_n 0, 1) := by decide +kernel
theorem dX8_seed_6 : decode cX8_seed 6 = .ok (.getfield 50, 3) := by decide +kernel
theorem dX8_seed_9 : decode cX8_seed 9 = .ok (.istore_n 2, 1) := by decide +kernel
theorem dX8_seed_10 : decode cX8_seed 10 = .ok (.aload_n 0, 1) := by decide +kernel
theorem dX8_seed_11 : decode cX8_seed 11 = .ok (.iload_n 1, 1) := by decide +kernel
theorem dX8_seed_12 : decode cX8_seed 12 = .ok (.putfield 50, 3) := by decide +kernel
theorem dX8_seed_15 : decode cX8_seed 15 = .ok (.iload_n 2, 1) := by decide +kernel
theorem dX8_seed_16 : decode cX8_seed 16 = .ok (.ireturn, 1) := by decide +kernel
theorem dX8_feed_0 : decode cX8_feed 0 = .ok (.aload_n 0, 1) := by decide +kernel
theorem dX8_feed_1 : decode cX8_feed 1 = .ok (.iconst 0, 1) := by decide +kernel
theorem dX8_feed_2 : decode cX8_feed 2 = .ok (.putfield 124, 3) := by decide +kernel
theorem dX8_feed_5 : decode cX8_feed 5 = .ok (.iload_n 1, 1) := by decide +kernel
theorem dX8_feed_6 : decode cX8_feed 6 = .ok (.i2l, 1) := by decide +kernel
theorem dX8_feed_7 : decode cX8_feed 7 = .ok (.lconst 0, 1) := by decide +kernel
theorem dX8_feed_8 : decode cX8_feed 8 = .ok (.ldc2_w 241, 3) := by decide +kernel
theorem dX8_feed_11 : decode cX8_feed 11 = .ok (.invokestatic 130, 3) := by decide +kernel
theorem dX8_feed_14 : decode cX8_feed 14 = .ok (.ifCond .ne 6, 3) := by decide +kernel
theorem dX8_feed_17 : decode cX8_feed 17 = .ok (.bipush (-2), 2) := by decide +kernel
theorem dX8_feed_19 : decode cX8_feed 19 = .ok (.ireturn, 1) := by decide +kernel
theorem dX8_feed_20 : decode cX8_feed 20 = .ok (.aload_n 0, 1) := by decide +kernel
theorem dX8_feed_21 : decode cX8_feed 21 = .ok (.getfield 243, 3) := by decide +kernel
theorem dX8_feed_24 : decode cX8_feed 24 = .ok (.bipush 100, 2) := by decide +kernel
theorem dX8_feed_26 : decode cX8_feed 26 = .ok (.if_icmp .ne 6, 3) := by decide +kernel
theorem dX8_feed_29 : decode cX8_feed 29 = .ok (.bipush (-4), 2) := by decide +kernel
theorem dX8_feed_31 : decode cX8_feed 31 = .ok (.ireturn, 1) := by decide +kernel
theorem dX8_feed_32 : decode cX8_feed 32 = .ok (.aload_n 0, 1) := by decide +kernel
theorem dX8_feed_33 : decode cX8_feed 33 = .ok (.getfield 84, 3) := by decide +kernel
theorem dX8_feed_36 : decode cX8_feed 36 = .ok (.aload_n 0, 1) := by decide +kernel
theorem dX8_feed_37 : decode cX8_feed 37 = .ok (.getfield 243, 3) := by decide +kernel
theorem dX8_feed_40 : decode cX8_feed 40 = .ok (.iload_n 1, 1) := by decide +kernel
theorem dX8_feed_41 : decode cX8_feed 41 = .ok (.iastore, 1) := by decide +kernel
theorem dX8_feed_42 : decode cX8_feed 42 = .ok (.aload_n 0, 1) := by decide +kernel
theorem dX8_feed_43 : decode cX8_feed 43 = .ok (.dup, 1) := by decide +kernel
theorem dX8_feed_44 : decode cX8_feed 44 = .ok (.getfield 243, 3) := by decide +kernel
theorem dX8_feed_47 : decode cX8_feed 47 = .ok (.iconst 1, 1) := by decide +kernel
theorem dX8_feed_48 : decode cX8_feed 48 = .ok (.iadd, 1) := by decide +kernel
theorem dX8_feed_49 : decode cX8_feed 49 = .ok (.putfield 243, 3) := by decide +kernel
theorem dX8_feed_52 : decode cX8_feed 52 = .ok (.aload_n 0, 1) := by decide +kernel
theorem dX8_feed_53 : decode cX8_feed 53 = .ok (.getfield 243, 3) := by decide +kernel
theorem dX8_feed_56 : decode cX8_feed 56 = .ok (.ireturn, 1) := by decide +kernel
theorem dX8_here_0 : decode cX8_here 0 = .ok (.aload_n 0, 1) := by decide +kernel
theorem dX8_here_1 : decode cX8_here 1 = .ok (.getfield 246, 3) := by decide +kernel
theorem dX8_here_4 : decode cX8_here 4 = .ok (.aload_n 0, 1) := by decide +kernel
theorem dX8_here_5 : decode cX8_here 5 = .ok (.getfield 243, 3) := by decide +kernel
theorem dX8_here_8 : decode cX8_here 8 = .ok (.if_icmp .ge 15, 3) := by decide +kernel
theorem dX8_here_11 : decode cX8_here 11 = .ok (.aload_n 0, 1) := by decide +kernel
theorem dX8_here_12 : decode cX8_here 12 = .ok (.getfield 84, 3) := by decide +kernel
theorem dX8_here_15 : decode cX8_here 15 = .ok (.aload_n 0, 1) := by decide +kernel
theorem dX8_here_16 : decode cX8_here 16 = .ok (.getfield 246, 3) := by decide +kernel
theorem dX8_here_19 : decode cX8_here 19 = .ok (.iaload, 1) := by decide +kernel
theorem dX8_here_20 : decode cX8_here 20 = .ok (.goto 4, 3) := by decide +kernel
theorem dX8_here_23 : decode cX8_here 23 = .ok (.iconst (-1), 1) := by decide +kernel
theorem dX8_here_24 : decode cX8_here 24 = .ok (.ireturn, 1) := by decide +kernel
theorem dX8_readTask_0 : decode cX8_readTask 0 = .ok (.aload_n 0, 1) := by decide +kernel
theorem dX8_readTask_1 : decode cX8_readTask 1 = .ok (.getfield 249, 3) := by decide +kernel
theorem dX8_readTask_4 : decode cX8_readTask 4 = .ok (.istore_n 1, 1) := by decide +kernel
theorem dX8_readTask_5 : decode cX8_readTask 5 = .ok (.aload_n 0, 1) := by decide +kernel
theorem dX8_readTask_6 : decode cX8_readTask 6 = .ok (.aload_n 0, 1) := by decide +kernel
theorem dX8_readTask_7 : decode cX8_readTask 7 = .ok (.invokevirtual 252, 3) := by decide +kernel
theorem dX8_readTask_10 : decode cX8_readTask 10 = .ok (.i2l, 1) := by decide +kernel
theorem dX8_readTask_11 : decode cX8_readTask 11 = .ok (.ldc2_w 255, 3) := by decide +kernel
theorem dX8_readTask_14 : decode cX8_readTask 14 = .ok (.ldc2_w 257, 3) := by decide +kernel
theorem dX8_readTask_17 : decode cX8_readTask 17 = .ok (.invokestatic 130, 3) := by decide +kernel
theorem dX8_readTask_20 : decode cX8_readTask 20 = .ok (.ifCond .ne 7, 3) := by decide +kernel
theorem dX8_readTask_23 : decode cX8_readTask 23 = .ok (.iconst 1, 1) := by decide +kernel
theorem dX8_readTask_24 : decode cX8_readTask 24 = .ok (.goto 4, 3) := by decide +kernel
theorem dX8_readTask_27 : decode cX8_readTask 27 = .ok (.iconst 0, 1) := by decide +kernel
theorem dX8_readTask_28 : decode cX8_readTask 28 = .ok (.putfield 259, 3) := by decide +kernel
theorem dX8_readTask_31 : decode cX8_readTask 31 = .ok (.aload_n 0, 1) := by decide +kernel
theorem dX8_readTask_32 : decode cX8_readTask 32 = .ok (.getfield 259, 3) := by decide +kernel
theorem dX8_readTask_35 : decode cX8_readTask 35 = .ok (.ifCond .eq 4, 3) := by decide +kernel
theorem dX8_readTask_38 : decode cX8_readTask 38 = .ok (.return_, 1) := by decide +kernel
theorem dX8_readTask_39 : decode cX8_readTask 39 = .ok (.aload_n 0, 1) := by decide +kernel
theorem dX8_readTask_40 : decode cX8_readTask 40 = .ok (.getfield 87, 3) := by decide +kernel
theorem dX8_readTask_43 : decode cX8_readTask 43 = .ok (.iload_n 1, 1) := by decide +kernel
theorem dX8_readTask_44 : decode cX8_readTask 44 = .ok (.aload_n 0, 1) := by decide +kernel
theorem dX8_readTask_45 : decode cX8_readTask 45 = .ok (.invokevirtual 252, 3) := by decide +kernel
theorem dX8_readTask_48 : decode cX8_readTask 48 = .ok (.bipush 48, 2) := by decide +kernel
theorem dX8_readTask_50 : decode cX8_readTask 50 = .ok (.isub, 1) := by decide +kernel
theorem dX8_readTask_51 : decode cX8_readTask 51 = .ok (.iastore, 1) := by decide +kernel
theorem dX8_readTask_52 : decode cX8_readTask 52 = .ok (.aload_n 0, 1) := by decide +kernel
theorem dX8_readTask_53 : decode cX8_readTask 53 = .ok (.getfield 93, 3) := by decide +kernel
theorem dX8_readTask_56 : decode cX8_readTask 56 = .ok (.iload_n 1, 1) := by decide +kernel
theorem dX8_readTask_57 : decode cX8_readTask 57 = .ok (.aload_n 0, 1) := by decide +kernel
theorem dX8_readTask_58 : decode cX8_readTask 58 = .ok (.getfield 262, 3) := by decide +kernel
theorem dX8_readTask_61 : decode cX8_readTask 61 = .ok (.ifCond .ne 8, 3) := by decide +kernel
theorem dX8_readTask_64 : decode cX8_readTask 64 = .ok (.bipush (-5), 2) := by decide +kernel
theorem dX8_readTask_66 : decode cX8_readTask 66 = .ok (.goto 14, 3) := by decide +kernel
theorem dX8_readTask_69 : decode cX8_readTask 69 = .ok (.aload_n 0, 1) := by decide +kernel
theorem dX8_readTask_70 : decode cX8_readTask 70 = .ok (.getfield 96, 3) := by decide +kernel
theorem dX8_readTask_73 : decode cX8_readTask 73 = .ok (.aload_n 0, 1) := by decide +kernel
theorem dX8_readTask_74 : decode cX8_readTask 74 = .ok (.getfield 262, 3) := by decide +kernel
theorem dX8_readTask_77 : decode cX8_readTask 77 = .ok (.iconst 1, 1) := by decide +kernel
theorem dX8_readTask_78 : decode cX8_readTask 78 = .ok (.isub, 1) := by decide +kernel
theorem dX8_readTask_79 : decode cX8_readTask 79 = .ok (.iaload, 1) := by decide +kernel
theorem dX8_readTask_80 : decode cX8_readTask 80 = .ok (.iastore, 1) := by decide +kernel
theorem dX8_readTask_81 : decode cX8_readTask 81 = .ok (.aload_n 0, 1) := by decide +kernel
theorem dX8_readTask_82 : decode cX8_readTask 82 = .ok (.getfield 90, 3) := by decide +kernel
theorem dX8_readTask_85 : decode cX8_readTask 85 = .ok (.iload_n 1, 1) := by decide +kernel
theorem dX8_readTask_86 : decode cX8_readTask 86 = .ok (.iconst 0, 1) := by decide +kernel
theorem dX8_readTask_87 : decode cX8_readTask 87 = .ok (.iastore, 1) := by decide +kernel
theorem dX8_readTask_88 : decode cX8_readTask 88 = .ok (.aload_n 0, 1) := by decide +kernel
theorem dX8_readTask_89 : decode cX8_readTask 89 = .ok (.dup, 1) := by decide +kernel
theorem dX8_readTask_90 : decode cX8_readTask 90 = .ok (.getfield 249, 3) := by decide +kernel
theorem dX8_readTask_93 : decode cX8_readTask 93 = .ok (.iconst 1, 1) := by decide +kernel
theorem dX8_readTask_94 : decode cX8_readTask 94 = .ok (.iadd, 1) := by decide +kernel
theorem dX8_readTask_95 : decode cX8_readTask 95 = .ok (.putfield 249, 3) := by decide +kernel
theorem dX8_readTask_98 : decode cX8_readTask 98 = .ok (.aload_n 0, 1) := by decide +kernel
theorem dX8_readTask_99 : decode cX8_readTask 99 = .ok (.dup, 1) := by decide +kernel
theorem dX8_readTask_100 : decode cX8_readTask 100 = .ok (.getfield 246, 3) := by decide +kernel
theorem dX8_readTask_103 : decode cX8_readTask 103 = .ok (.iconst 1, 1) := by decide +kernel
theorem dX8_readTask_104 : decode cX8_readTask 104 = .ok (.iadd, 1) := by decide +kernel
theorem dX8_readTask_105 : decode cX8_readTask 105 = .ok (.putfield 246, 3) := by decide +kernel
theorem dX8_readTask_108 : decode cX8_readTask 108 = .ok (.aload_n 0, 1) := by decide +kernel
theorem dX8_readTask_109 : decode cX8_readTask 109 = .ok (.invokevirtual 252, 3) := by decide +kernel
theorem dX8_readTask_112 : decode cX8_readTask 112 = .ok (.bipush 33, 2) := by decide +kernel
theorem dX8_readTask_114 : decode cX8_readTask 114 = .ok (.if_icmp .eq 12, 3) := by decide +kernel
theorem dX8_readTask_117 : decode cX8_readTask 117 = .ok (.aload_n 0, 1) := by decide +kernel
theorem dX8_readTask_118 : decode cX8_readTask 118 = .ok (.invokevirtual 252, 3) := by decide +kernel
theorem dX8_readTask_121 : decode cX8_readTask 121 = .ok (.bipush 63, 2) := by decide +kernel
theorem dX8_readTask_123 : decode cX8_readTask 123 = .ok (.if_icmp .ne 33, 3) := by decide +kernel
theorem dX8_readTask_126 : decode cX8_readTask 126 = .ok (.aload_n 0, 1) := by decide +kernel
theorem dX8_readTask_127 : decode cX8_readTask 127 = .ok (.getfield 90, 3) := by decide +kernel
theorem dX8_readTask_130 : decode cX8_readTask 130 = .ok (.iload_n 1, 1) := by decide +kernel
theorem dX8_readTask_131 : decode cX8_readTask 131 = .ok (.aload_n 0, 1) := by decide +kernel
theorem dX8_readTask_132 : decode cX8_readTask 132 = .ok (.invokevirtual 252, 3) := by decide +kernel
theorem dX8_readTask_135 : decode cX8_readTask 135 = .ok (.bipush 33, 2) := by decide +kernel
theorem dX8_readTask_137 : decode cX8_readTask 137 = .ok (.if_icmp .ne 7, 3) := by decide +kernel
theorem dX8_readTask_140 : decode cX8_readTask 140 = .ok (.iconst 1, 1) := by decide +kernel
theorem dX8_readTask_141 : decode cX8_readTask 141 = .ok (.goto 4, 3) := by decide +kernel
theorem dX8_readTask_144 : decode cX8_readTask 144 = .ok (.iconst 2, 1) := by decide +kernel
theorem dX8_readTask_145 : decode cX8_readTask 145 = .ok (.iastore, 1) := by decide +kernel
theorem dX8_readTask_146 : decode cX8_readTask 146 = .ok (.aload_n 0, 1) := by decide +kernel
theorem dX8_readTask_147 : decode cX8_readTask 147 = .ok (.dup, 1) := by decide +kernel
theorem dX8_readTask_148 : decode cX8_readTask 148 = .ok (.getfield 246, 3) := by decide +kernel
theorem dX8_readTask_151 : decode cX8_readTask 151 = .ok (.iconst 1, 1) := by decide +kernel
theorem dX8_readTask_152 : decode cX8_readTask 152 = .ok (.iadd, 1) := by decide +kernel
theorem dX8_readTask_153 : decode cX8_readTask 153 = .ok (.putfield 246, 3) := by decide +kernel
theorem dX8_readTask_156 : decode cX8_readTask 156 = .ok (.return_, 1) := by decide +kernel
theorem dX8_goesOn_0 : decode cX8_goesOn 0 = .ok (.aload_n 0, 1) := by decide +kernel
theorem dX8_goesOn_1 : decode cX8_goesOn 1 = .ok (.invokevirtual 252, 3) := by decide +kernel
theorem dX8_goesOn_4 : decode cX8_goesOn 4 = .ok (.bipush 40, 2) := by decide +kernel
theorem dX8_goesOn_6 : decode cX8_goesOn 6 = .ok (.if_icmp .ne 58, 3) := by decide +kernel
theorem dX8_goesOn_9 : decode cX8_goesOn 9 = .ok (.aload_n 0, 1) := by decide +kernel
theorem dX8_goesOn_10 : decode cX8_goesOn 10 = .ok (.getfield 262, 3) := by decide +kernel
theorem dX8_goesOn_13 : decode cX8_goesOn 13 = .ok (.iconst 4, 1) := by decide +kernel
theorem dX8_goesOn_14 : decode cX8_goesOn 14 = .ok (.if_icmp .ge 50, 3) := by decide +kernel
theorem dX8_goesOn_17 : decode cX8_goesOn 17 = .ok (.aload_n 0, 1) := by decide +kernel
theorem dX8_goesOn_18 : decode cX8_goesOn 18 = .ok (.getfield 96, 3) := by decide +kernel
theorem dX8_goesOn_21 : decode cX8_goesOn 21 = .ok (.aload_n 0, 1) := by decide +kernel
theorem dX8_goesOn_22 : decode cX8_goesOn 22 = .ok (.getfield 262, 3) := by decide +kernel
theorem dX8_goesOn_25 : decode cX8_goesOn 25 = .ok (.aload_n 0, 1) := by decide +kernel
theorem dX8_goesOn_26 : decode cX8_goesOn 26 = .ok (.getfield 249, 3) := by decide +kernel
theorem dX8_goesOn_29 : decode cX8_goesOn 29 = .ok (.iconst 1, 1) := by decide +kernel
theorem dX8_goesOn_30 : decode cX8_goesOn 30 = .ok (.isub, 1) := by decide +kernel
theorem dX8_goesOn_31 : decode cX8_goesOn 31 = .ok (.iastore, 1) := by decide +kernel
theorem dX8_goesOn_32 : decode cX8_goesOn 32 = .ok (.aload_n 0, 1) := by decide +kernel
theorem dX8_goesOn_33 : decode cX8_goesOn 33 = .ok (.getfield 99, 3) := by decide +kernel
theorem dX8_goesOn_36 : decode cX8_goesOn 36 = .ok (.aload_n 0, 1) := by decide +kernel
theorem dX8_goesOn_37 : decode cX8_goesOn 37 = .ok (.getfield 262, 3) := by decide +kernel
theorem dX8_goesOn_40 : decode cX8_goesOn 40 = .ok (.iconst 1, 1) := by decide +kernel
theorem dX8_goesOn_41 : decode cX8_goesOn 41 = .ok (.iastore, 1) := by decide +kernel
theorem dX8_goesOn_42 : decode cX8_goesOn 42 = .ok (.aload_n 0, 1) := by decide +kernel
theorem dX8_goesOn_43 : decode cX8_goesOn 43 = .ok (.dup, 1) := by decide +kernel
theorem dX8_goesOn_44 : decode cX8_goesOn 44 = .ok (.getfield 262, 3) := by decide +kernel
theorem dX8_goesOn_47 : decode cX8_goesOn 47 = .ok (.iconst 1, 1) := by decide +kernel
theorem dX8_goesOn_48 : decode cX8_goesOn 48 = .ok (.iadd, 1) := by decide +kernel
theorem dX8_goesOn_49 : decode cX8_goesOn 49 = .ok (.putfield 262, 3) := by decide +kernel
theorem dX8_goesOn_52 : decode cX8_goesOn 52 = .ok (.aload_n 0, 1) := by decide +kernel
theorem dX8_goesOn_53 : decode cX8_goesOn 53 = .ok (.dup, 1) := by decide +kernel
theorem dX8_goesOn_54 : decode cX8_goesOn 54 = .ok (.getfield 246, 3) := by decide +kernel
theorem dX8_goesOn_57 : decode cX8_goesOn 57 = .ok (.iconst 1, 1) := by decide +kernel
theorem dX8_goesOn_58 : decode cX8_goesOn 58 = .ok (.iadd, 1) := by decide +kernel
theorem dX8_goesOn_59 : decode cX8_goesOn 59 = .ok (.putfield 246, 3) := by decide +kernel
theorem dX8_goesOn_62 : decode cX8_goesOn 62 = .ok (.iconst 1, 1) := by decide +kernel
theorem dX8_goesOn_63 : decode cX8_goesOn 63 = .ok (.ireturn, 1) := by decide +kernel
theorem dX8_goesOn_64 : decode cX8_goesOn 64 = .ok (.aload_n 0, 1) := by decide +kernel
theorem dX8_goesOn_65 : decode cX8_goesOn 65 = .ok (.getfield 262, 3) := by decide +kernel
theorem dX8_goesOn_68 : decode cX8_goesOn 68 = .ok (.ifCond .le 35, 3) := by decide +kernel
theorem dX8_goesOn_71 : decode cX8_goesOn 71 = .ok (.aload_n 0, 1) := by decide +kernel
theorem dX8_goesOn_72 : decode cX8_goesOn 72 = .ok (.invokevirtual 252, 3) := by decide +kernel
theorem dX8_goesOn_75 : decode cX8_goesOn 75 = .ok (.bipush 41, 2) := by decide +kernel
theorem dX8_goesOn_77 : decode cX8_goesOn 77 = .ok (.if_icmp .ne 26, 3) := by decide +kernel
theorem dX8_goesOn_80 : decode cX8_goesOn 80 = .ok (.aload_n 0, 1) := by decide +kernel
theorem dX8_goesOn_81 : decode cX8_goesOn 81 = .ok (.dup, 1) := by decide +kernel
theorem dX8_goesOn_82 : decode cX8_goesOn 82 = .ok (.getfield 262, 3) := by decide +kernel
theorem dX8_goesOn_85 : decode cX8_goesOn 85 = .ok (.iconst 1, 1) := by decide +kernel
theorem dX8_goesOn_86 : decode cX8_goesOn 86 = .ok (.isub, 1) := by decide +kernel
theorem dX8_goesOn_87 : decode cX8_goesOn 87 = .ok (.putfield 262, 3) := by decide +kernel
theorem dX8_goesOn_90 : decode cX8_goesOn 90 = .ok (.aload_n 0, 1) := by decide +kernel
theorem dX8_goesOn_91 : decode cX8_goesOn 91 = .ok (.dup, 1) := by decide +kernel
theorem dX8_goesOn_92 : decode cX8_goesOn 92 = .ok (.getfield 246, 3) := by decide +kernel
theorem dX8_goesOn_95 : decode cX8_goesOn 95 = .ok (.iconst 1, 1) := by decide +kernel
theorem dX8_goesOn_96 : decode cX8_goesOn 96 = .ok (.iadd, 1) := by decide +kernel
theorem dX8_goesOn_97 : decode cX8_goesOn 97 = .ok (.putfield 246, 3) := by decide +kernel
theorem dX8_goesOn_100 : decode cX8_goesOn 100 = .ok (.goto (-36), 3) := by decide +kernel
theorem dX8_goesOn_103 : decode cX8_goesOn 103 = .ok (.aload_n 0, 1) := by decide +kernel
theorem dX8_goesOn_104 : decode cX8_goesOn 104 = .ok (.getfield 262, 3) := by decide +kernel
theorem dX8_goesOn_107 : decode cX8_goesOn 107 = .ok (.ifCond .le 55, 3) := by decide +kernel
theorem dX8_goesOn_110 : decode cX8_goesOn 110 = .ok (.aload_n 0, 1) := by decide +kernel
theorem dX8_goesOn_111 : decode cX8_goesOn 111 = .ok (.invokevirtual 252, 3) := by decide +kernel
theorem dX8_goesOn_114 : decode cX8_goesOn 114 = .ok (.bipush 44, 2) := by decide +kernel
theorem dX8_goesOn_116 : decode cX8_goesOn 116 = .ok (.if_icmp .ne 46, 3) := by decide +kernel
theorem dX8_goesOn_119 : decode cX8_goesOn 119 = .ok (.aload_n 0, 1) := by decide +kernel
theorem dX8_goesOn_120 : decode cX8_goesOn 120 = .ok (.getfield 99, 3) := by decide +kernel
theorem dX8_goesOn_123 : decode cX8_goesOn 123 = .ok (.aload_n 0, 1) := by decide +kernel
theorem dX8_goesOn_124 : decode cX8_goesOn 124 = .ok (.getfield 262, 3) := by decide +kernel
theorem dX8_goesOn_127 : decode cX8_goesOn 127 = .ok (.iconst 1, 1) := by decide +kernel
theorem dX8_goesOn_128 : decode cX8_goesOn 128 = .ok (.isub, 1) := by decide +kernel
theorem dX8_goesOn_129 : decode cX8_goesOn 129 = .ok (.iaload, 1) := by decide +kernel
theorem dX8_goesOn_130 : decode cX8_goesOn 130 = .ok (.bipush 6, 2) := by decide +kernel
theorem dX8_goesOn_132 : decode cX8_goesOn 132 = .ok (.if_icmp .ge 30, 3) := by decide +kernel
theorem dX8_goesOn_135 : decode cX8_goesOn 135 = .ok (.aload_n 0, 1) := by decide +kernel
theorem dX8_goesOn_136 : decode cX8_goesOn 136 = .ok (.getfield 99, 3) := by decide +kernel
theorem dX8_goesOn_139 : decode cX8_goesOn 139 = .ok (.aload_n 0, 1) := by decide +kernel
theorem dX8_goesOn_140 : decode cX8_goesOn 140 = .ok (.getfield 262, 3) := by decide +kernel
theorem dX8_goesOn_143 : decode cX8_goesOn 143 = .ok (.iconst 1, 1) := by decide +kernel
theorem dX8_goesOn_144 : decode cX8_goesOn 144 = .ok (.isub, 1) := by decide +kernel
theorem dX8_goesOn_145 : decode cX8_goesOn 145 = .ok (.dup2, 1) := by decide +kernel
theorem dX8_goesOn_146 : decode cX8_goesOn 146 = .ok (.iaload, 1) := by decide +kernel
theorem dX8_goesOn_147 : decode cX8_goesOn 147 = .ok (.iconst 1, 1) := by decide +kernel
theorem dX8_goesOn_148 : decode cX8_goesOn 148 = .ok (.iadd, 1) := by decide +kernel
theorem dX8_goesOn_149 : decode cX8_goesOn 149 = .ok (.iastore, 1) := by decide +kernel
theorem dX8_goesOn_150 : decode cX8_goesOn 150 = .ok (.aload_n 0, 1) := by decide +kernel
theorem dX8_goesOn_151 : decode cX8_goesOn 151 = .ok (.dup, 1) := by decide +kernel
theorem dX8_goesOn_152 : decode cX8_goesOn 152 = .ok (.getfield 246, 3) := by decide +kernel
theorem dX8_goesOn_155 : decode cX8_goesOn 155 = .ok (.iconst 1, 1) := by decide +kernel
theorem dX8_goesOn_156 : decode cX8_goesOn 156 = .ok (.iadd, 1) := by decide +kernel
theorem dX8_goesOn_157 : decode cX8_goesOn 157 = .ok (.putfield 246, 3) := by decide +kernel
theorem dX8_goesOn_160 : decode cX8_goesOn 160 = .ok (.iconst 1, 1) := by decide +kernel
theorem dX8_goesOn_161 : decode cX8_goesOn 161 = .ok (.ireturn, 1) := by decide +kernel
theorem dX8_goesOn_162 : decode cX8_goesOn 162 = .ok (.aload_n 0, 1) := by decide +kernel
theorem dX8_goesOn_163 : decode cX8_goesOn 163 = .ok (.aload_n 0, 1) := by decide +kernel
theorem dX8_goesOn_164 : decode cX8_goesOn 164 = .ok (.getfield 262, 3) := by decide +kernel
theorem dX8_goesOn_167 : decode cX8_goesOn 167 = .ok (.ifCond .gt 14, 3) := by decide +kernel
theorem dX8_goesOn_170 : decode cX8_goesOn 170 = .ok (.aload_n 0, 1) := by decide +kernel
theorem dX8_goesOn_171 : decode cX8_goesOn 171 = .ok (.getfield 246, 3) := by decide +kernel
theorem dX8_goesOn_174 : decode cX8_goesOn 174 = .ok (.aload_n 0, 1) := by decide +kernel
theorem dX8_goesOn_175 : decode cX8_goesOn 175 = .ok (.getfield 243, 3) := by decide +kernel
theorem dX8_goesOn_178 : decode cX8_goesOn 178 = .ok (.if_icmp .ge 7, 3) := by decide +kernel
theorem dX8_goesOn_181 : decode cX8_goesOn 181 = .ok (.iconst 1, 1) := by decide +kernel
theorem dX8_goesOn_182 : decode cX8_goesOn 182 = .ok (.goto 4, 3) := by decide +kernel
theorem dX8_goesOn_185 : decode cX8_goesOn 185 = .ok (.iconst 0, 1) := by decide +kernel
theorem dX8_goesOn_186 : decode cX8_goesOn 186 = .ok (.putfield 259, 3) := by decide +kernel
theorem dX8_goesOn_189 : decode cX8_goesOn 189 = .ok (.iconst 0, 1) := by decide +kernel
theorem dX8_goesOn_190 : decode cX8_goesOn 190 = .ok (.ireturn, 1) := by decide +kernel
theorem dX8_readTree_0 : decode cX8_readTree 0 = .ok (.aload_n 0, 1) := by decide +kernel
theorem dX8_readTree_1 : decode cX8_readTree 1 = .ok (.iconst 0, 1) := by decide +kernel
theorem dX8_readTree_2 : decode cX8_readTree 2 = .ok (.putfield 246, 3) := by decide +kernel
theorem dX8_readTree_5 : decode cX8_readTree 5 = .ok (.aload_n 0, 1) := by decide +kernel
theorem dX8_readTree_6 : decode cX8_readTree 6 = .ok (.iconst 0, 1) := by decide +kernel
theorem dX8_readTree_7 : decode cX8_readTree 7 = .ok (.putfield 259, 3) := by decide +kernel
theorem dX8_readTree_10 : decode cX8_readTree 10 = .ok (.aload_n 0, 1) := by decide +kernel
theorem dX8_readTree_11 : decode cX8_readTree 11 = .ok (.iconst 0, 1) := by decide +kernel
theorem dX8_readTree_12 : decode cX8_readTree 12 = .ok (.putfield 249, 3) := by decide +kernel
theorem dX8_readTree_15 : decode cX8_readTree 15 = .ok (.aload_n 0, 1) := by decide +kernel
theorem dX8_readTree_16 : decode cX8_readTree 16 = .ok (.iconst 0, 1) := by decide +kernel
theorem dX8_readTree_17 : decode cX8_readTree 17 = .ok (.putfield 262, 3) := by decide +kernel
theorem dX8_readTree_20 : decode cX8_readTree 20 = .ok (.iconst 1, 1) := by decide +kernel
theorem dX8_readTree_21 : decode cX8_readTree 21 = .ok (.istore_n 1, 1) := by decide +kernel
theorem dX8_readTree_22 : decode cX8_readTree 22 = .ok (.iload_n 1, 1) := by decide +kernel
theorem dX8_readTree_23 : decode cX8_readTree 23 = .ok (.ifCond .eq 37, 3) := by decide +kernel
theorem dX8_readTree_26 : decode cX8_readTree 26 = .ok (.aload_n 0, 1) := by decide +kernel
theorem dX8_readTree_27 : decode cX8_readTree 27 = .ok (.getfield 259, 3) := by decide +kernel
theorem dX8_readTree_30 : decode cX8_readTree 30 = .ok (.ifCond .ne 30, 3) := by decide +kernel
theorem dX8_readTree_33 : decode cX8_readTree 33 = .ok (.aload_n 0, 1) := by decide +kernel
theorem dX8_readTree_34 : decode cX8_readTree 34 = .ok (.invokevirtual 265, 3) := by decide +kernel
theorem dX8_readTree_37 : decode cX8_readTree 37 = .ok (.aload_n 0, 1) := by decide +kernel
theorem dX8_readTree_38 : decode cX8_readTree 38 = .ok (.getfield 259, 3) := by decide +kernel
theorem dX8_readTree_41 : decode cX8_readTree 41 = .ok (.ifCond .ne 14, 3) := by decide +kernel
theorem dX8_readTree_44 : decode cX8_readTree 44 = .ok (.aload_n 0, 1) := by decide +kernel
theorem dX8_readTree_45 : decode cX8_readTree 45 = .ok (.invokevirtual 268, 3) := by decide +kernel
theorem dX8_readTree_48 : decode cX8_readTree 48 = .ok (.ifCond .eq 7, 3) := by decide +kernel
theorem dX8_readTree_51 : decode cX8_readTree 51 = .ok (.iconst 1, 1) := by decide +kernel
theorem dX8_readTree_52 : decode cX8_readTree 52 = .ok (.goto 4, 3) := by decide +kernel
end
section
theorem dX8_readTree_55 : decode cX8_readTree 55 = .ok (.iconst 0, 1) := by decide +kernel
theorem dX8_readTree_56 : decode cX8_readTree 56 = .ok (.istore_n 1, 1) := by decide +kernel
theorem dX8_readTree_57 : decode cX8_readTree 57 = .ok (.goto (-35), 3) := by decide +kernel
theorem dX8_readTree_60 : decode cX8_readTree 60 = .ok (.aload_n 0, 1) := by decide +kernel
theorem dX8_readTree_61 : decode cX8_readTree 61 = .ok (.getfield 259, 3) := by decide +kernel
theorem dX8_readTree_64 : decode cX8_readTree 64 = .ok (.ifCond .ne 7, 3) := by decide +kernel
theorem dX8_readTree_67 : decode cX8_readTree 67 = .ok (.iconst 1, 1) := by decide +kernel
theorem dX8_readTree_68 : decode cX8_readTree 68 = .ok (.goto 4, 3) := by decide +kernel
theorem dX8_readTree_71 : decode cX8_readTree 71 = .ok (.iconst 0, 1) := by decide +kernel
theorem dX8_readTree_72 : decode cX8_readTree 72 = .ok (.ireturn, 1) := by decide +kernel
theorem dX8_tree_0 : decode cX8_tree 0 = .ok (.aload_n 0, 1) := by decide +kernel
theorem dX8_tree_1 : decode cX8_tree 1 = .ok (.iconst 0, 1) := by decide +kernel
theorem dX8_tree_2 : decode cX8_tree 2 = .ok (.putfield 124, 3) := by decide +kernel
theorem dX8_tree_5 : decode cX8_tree 5 = .ok (.aload_n 0, 1) := by decide +kernel
theorem dX8_tree_6 : decode cX8_tree 6 = .ok (.iload_n 1, 1) := by decide +kernel
theorem dX8_tree_7 : decode cX8_tree 7 = .ok (.invokevirtual 272, 3) := by decide +kernel
theorem dX8_tree_10 : decode cX8_tree 10 = .ok (.ifCond .ne 5, 3) := by decide +kernel
theorem dX8_tree_13 : decode cX8_tree 13 = .ok (.iconst (-1), 1) := by decide +kernel
theorem dX8_tree_14 : decode cX8_tree 14 = .ok (.ireturn, 1) := by decide +kernel
theorem dX8_tree_15 : decode cX8_tree 15 = .ok (.aload_n 0, 1) := by decide +kernel
theorem dX8_tree_16 : decode cX8_tree 16 = .ok (.invokevirtual 275, 3) := by decide +kernel
theorem dX8_tree_19 : decode cX8_tree 19 = .ok (.ifCond .ne 16, 3) := by decide +kernel
theorem dX8_tree_22 : decode cX8_tree 22 = .ok (.aload_n 0, 1) := by decide +kernel
theorem dX8_tree_23 : decode cX8_tree 23 = .ok (.iconst 0, 1) := by decide +kernel
theorem dX8_tree_24 : decode cX8_tree 24 = .ok (.putfield 243, 3) := by decide +kernel
theorem dX8_tree_27 : decode cX8_tree 27 = .ok (.bipush (-10), 2) := by decide +kernel
theorem dX8_tree_29 : decode cX8_tree 29 = .ok (.aload_n 0, 1) := by decide +kernel
theorem dX8_tree_30 : decode cX8_tree 30 = .ok (.getfield 246, 3) := by decide +kernel
theorem dX8_tree_33 : decode cX8_tree 33 = .ok (.isub, 1) := by decide +kernel
theorem dX8_tree_34 : decode cX8_tree 34 = .ok (.ireturn, 1) := by decide +kernel
theorem dX8_tree_35 : decode cX8_tree 35 = .ok (.aload_n 0, 1) := by decide +kernel
theorem dX8_tree_36 : decode cX8_tree 36 = .ok (.iconst 0, 1) := by decide +kernel
theorem dX8_tree_37 : decode cX8_tree 37 = .ok (.putfield 243, 3) := by decide +kernel
theorem dX8_tree_40 : decode cX8_tree 40 = .ok (.aload_n 0, 1) := by decide +kernel
theorem dX8_tree_41 : decode cX8_tree 41 = .ok (.getfield 127, 3) := by decide +kernel
theorem dX8_tree_44 : decode cX8_tree 44 = .ok (.aload_n 0, 1) := by decide +kernel
theorem dX8_tree_45 : decode cX8_tree 45 = .ok (.getfield 249, 3) := by decide +kernel
theorem dX8_tree_48 : decode cX8_tree 48 = .ok (.iadd, 1) := by decide +kernel
theorem dX8_tree_49 : decode cX8_tree 49 = .ok (.bipush 32, 2) := by decide +kernel
theorem dX8_tree_51 : decode cX8_tree 51 = .ok (.if_icmp .le 6, 3) := by decide +kernel
theorem dX8_tree_54 : decode cX8_tree 54 = .ok (.bipush (-4), 2) := by decide +kernel
theorem dX8_tree_56 : decode cX8_tree 56 = .ok (.ireturn, 1) := by decide +kernel
theorem dX8_tree_57 : decode cX8_tree 57 = .ok (.aload_n 0, 1) := by decide +kernel
theorem dX8_tree_58 : decode cX8_tree 58 = .ok (.getfield 127, 3) := by decide +kernel
theorem dX8_tree_61 : decode cX8_tree 61 = .ok (.istore_n 2, 1) := by decide +kernel
theorem dX8_tree_62 : decode cX8_tree 62 = .ok (.iconst 0, 1) := by decide +kernel
theorem dX8_tree_63 : decode cX8_tree 63 = .ok (.istore_n 3, 1) := by decide +kernel
theorem dX8_tree_64 : decode cX8_tree 64 = .ok (.iload_n 3, 1) := by decide +kernel
theorem dX8_tree_65 : decode cX8_tree 65 = .ok (.aload_n 0, 1) := by decide +kernel
theorem dX8_tree_66 : decode cX8_tree 66 = .ok (.getfield 249, 3) := by decide +kernel
theorem dX8_tree_69 : decode cX8_tree 69 = .ok (.if_icmp .ge 107, 3) := by decide +kernel
theorem dX8_tree_72 : decode cX8_tree 72 = .ok (.iload_n 2, 1) := by decide +kernel
theorem dX8_tree_73 : decode cX8_tree 73 = .ok (.iload_n 3, 1) := by decide +kernel
theorem dX8_tree_74 : decode cX8_tree 74 = .ok (.iadd, 1) := by decide +kernel
theorem dX8_tree_75 : decode cX8_tree 75 = .ok (.istore 4, 2) := by decide +kernel
theorem dX8_tree_77 : decode cX8_tree 77 = .ok (.aload_n 0, 1) := by decide +kernel
theorem dX8_tree_78 : decode cX8_tree 78 = .ok (.getfield 29, 3) := by decide +kernel
theorem dX8_tree_81 : decode cX8_tree 81 = .ok (.iload 4, 2) := by decide +kernel
theorem dX8_tree_83 : decode cX8_tree 83 = .ok (.iconst 0, 1) := by decide +kernel
theorem dX8_tree_84 : decode cX8_tree 84 = .ok (.iastore, 1) := by decide +kernel
theorem dX8_tree_85 : decode cX8_tree 85 = .ok (.aload_n 0, 1) := by decide +kernel
theorem dX8_tree_86 : decode cX8_tree 86 = .ok (.getfield 32, 3) := by decide +kernel
theorem dX8_tree_89 : decode cX8_tree 89 = .ok (.iload 4, 2) := by decide +kernel
theorem dX8_tree_91 : decode cX8_tree 91 = .ok (.aload_n 0, 1) := by decide +kernel
theorem dX8_tree_92 : decode cX8_tree 92 = .ok (.getfield 87, 3) := by decide +kernel
theorem dX8_tree_95 : decode cX8_tree 95 = .ok (.iload_n 3, 1) := by decide +kernel
theorem dX8_tree_96 : decode cX8_tree 96 = .ok (.iaload, 1) := by decide +kernel
theorem dX8_tree_97 : decode cX8_tree 97 = .ok (.iastore, 1) := by decide +kernel
theorem dX8_tree_98 : decode cX8_tree 98 = .ok (.aload_n 0, 1) := by decide +kernel
theorem dX8_tree_99 : decode cX8_tree 99 = .ok (.getfield 35, 3) := by decide +kernel
theorem dX8_tree_102 : decode cX8_tree 102 = .ok (.iload 4, 2) := by decide +kernel
theorem dX8_tree_104 : decode cX8_tree 104 = .ok (.aload_n 0, 1) := by decide +kernel
theorem dX8_tree_105 : decode cX8_tree 105 = .ok (.getfield 87, 3) := by decide +kernel
theorem dX8_tree_108 : decode cX8_tree 108 = .ok (.iload_n 3, 1) := by decide +kernel
theorem dX8_tree_109 : decode cX8_tree 109 = .ok (.iaload, 1) := by decide +kernel
theorem dX8_tree_110 : decode cX8_tree 110 = .ok (.iastore, 1) := by decide +kernel
theorem dX8_tree_111 : decode cX8_tree 111 = .ok (.aload_n 0, 1) := by decide +kernel
theorem dX8_tree_112 : decode cX8_tree 112 = .ok (.getfield 38, 3) := by decide +kernel
theorem dX8_tree_115 : decode cX8_tree 115 = .ok (.iload 4, 2) := by decide +kernel
theorem dX8_tree_117 : decode cX8_tree 117 = .ok (.iconst 0, 1) := by decide +kernel
theorem dX8_tree_118 : decode cX8_tree 118 = .ok (.iastore, 1) := by decide +kernel
theorem dX8_tree_119 : decode cX8_tree 119 = .ok (.aload_n 0, 1) := by decide +kernel
theorem dX8_tree_120 : decode cX8_tree 120 = .ok (.getfield 41, 3) := by decide +kernel
theorem dX8_tree_123 : decode cX8_tree 123 = .ok (.iload 4, 2) := by decide +kernel
theorem dX8_tree_125 : decode cX8_tree 125 = .ok (.aload_n 0, 1) := by decide +kernel
theorem dX8_tree_126 : decode cX8_tree 126 = .ok (.getfield 93, 3) := by decide +kernel
theorem dX8_tree_129 : decode cX8_tree 129 = .ok (.iload_n 3, 1) := by decide +kernel
theorem dX8_tree_130 : decode cX8_tree 130 = .ok (.iaload, 1) := by decide +kernel
theorem dX8_tree_131 : decode cX8_tree 131 = .ok (.ifCond .ge 8, 3) := by decide +kernel
theorem dX8_tree_134 : decode cX8_tree 134 = .ok (.bipush (-5), 2) := by decide +kernel
theorem dX8_tree_136 : decode cX8_tree 136 = .ok (.goto 11, 3) := by decide +kernel
theorem dX8_tree_139 : decode cX8_tree 139 = .ok (.iload_n 2, 1) := by decide +kernel
theorem dX8_tree_140 : decode cX8_tree 140 = .ok (.aload_n 0, 1) := by decide +kernel
theorem dX8_tree_141 : decode cX8_tree 141 = .ok (.getfield 93, 3) := by decide +kernel
theorem dX8_tree_144 : decode cX8_tree 144 = .ok (.iload_n 3, 1) := by decide +kernel
theorem dX8_tree_145 : decode cX8_tree 145 = .ok (.iaload, 1) := by decide +kernel
theorem dX8_tree_146 : decode cX8_tree 146 = .ok (.iadd, 1) := by decide +kernel
theorem dX8_tree_147 : decode cX8_tree 147 = .ok (.iastore, 1) := by decide +kernel
theorem dX8_tree_148 : decode cX8_tree 148 = .ok (.aload_n 0, 1) := by decide +kernel
theorem dX8_tree_149 : decode cX8_tree 149 = .ok (.getfield 44, 3) := by decide +kernel
theorem dX8_tree_152 : decode cX8_tree 152 = .ok (.iload 4, 2) := by decide +kernel
theorem dX8_tree_154 : decode cX8_tree 154 = .ok (.aload_n 0, 1) := by decide +kernel
theorem dX8_tree_155 : decode cX8_tree 155 = .ok (.getfield 90, 3) := by decide +kernel
theorem dX8_tree_158 : decode cX8_tree 158 = .ok (.iload_n 3, 1) := by decide +kernel
theorem dX8_tree_159 : decode cX8_tree 159 = .ok (.iaload, 1) := by decide +kernel
theorem dX8_tree_160 : decode cX8_tree 160 = .ok (.iastore, 1) := by decide +kernel
theorem dX8_tree_161 : decode cX8_tree 161 = .ok (.aload_n 0, 1) := by decide +kernel
theorem dX8_tree_162 : decode cX8_tree 162 = .ok (.getfield 47, 3) := by decide +kernel
theorem dX8_tree_165 : decode cX8_tree 165 = .ok (.iload 4, 2) := by decide +kernel
theorem dX8_tree_167 : decode cX8_tree 167 = .ok (.bipush (-5), 2) := by decide +kernel
theorem dX8_tree_169 : decode cX8_tree 169 = .ok (.iastore, 1) := by decide +kernel
theorem dX8_tree_170 : decode cX8_tree 170 = .ok (.iinc 3 1, 3) := by decide +kernel
theorem dX8_tree_173 : decode cX8_tree 173 = .ok (.goto (-109), 3) := by decide +kernel
theorem dX8_tree_176 : decode cX8_tree 176 = .ok (.aload_n 0, 1) := by decide +kernel
theorem dX8_tree_177 : decode cX8_tree 177 = .ok (.dup, 1) := by decide +kernel
theorem dX8_tree_178 : decode cX8_tree 178 = .ok (.getfield 127, 3) := by decide +kernel
theorem dX8_tree_181 : decode cX8_tree 181 = .ok (.aload_n 0, 1) := by decide +kernel
theorem dX8_tree_182 : decode cX8_tree 182 = .ok (.getfield 249, 3) := by decide +kernel
theorem dX8_tree_185 : decode cX8_tree 185 = .ok (.iadd, 1) := by decide +kernel
theorem dX8_tree_186 : decode cX8_tree 186 = .ok (.putfield 127, 3) := by decide +kernel
theorem dX8_tree_189 : decode cX8_tree 189 = .ok (.aload_n 0, 1) := by decide +kernel
theorem dX8_tree_190 : decode cX8_tree 190 = .ok (.iload_n 1, 1) := by decide +kernel
theorem dX8_tree_191 : decode cX8_tree 191 = .ok (.iload_n 2, 1) := by decide +kernel
theorem dX8_tree_192 : decode cX8_tree 192 = .ok (.invokevirtual 210, 3) := by decide +kernel
theorem dX8_tree_195 : decode cX8_tree 195 = .ok (.iload_n 2, 1) := by decide +kernel
theorem dX8_tree_196 : decode cX8_tree 196 = .ok (.ireturn, 1) := by decide +kernel
theorem dX8_rowOf_0 : decode cX8_rowOf 0 = .ok (.bipush (-5), 2) := by decide +kernel
theorem dX8_rowOf_2 : decode cX8_rowOf 2 = .ok (.istore_n 2, 1) := by decide +kernel
theorem dX8_rowOf_3 : decode cX8_rowOf 3 = .ok (.iconst 0, 1) := by decide +kernel
theorem dX8_rowOf_4 : decode cX8_rowOf 4 = .ok (.istore_n 3, 1) := by decide +kernel
theorem dX8_rowOf_5 : decode cX8_rowOf 5 = .ok (.iload_n 3, 1) := by decide +kernel
theorem dX8_rowOf_6 : decode cX8_rowOf 6 = .ok (.aload_n 0, 1) := by decide +kernel
theorem dX8_rowOf_7 : decode cX8_rowOf 7 = .ok (.getfield 7, 3) := by decide +kernel
theorem dX8_rowOf_10 : decode cX8_rowOf 10 = .ok (.if_icmp .ge 51, 3) := by decide +kernel
theorem dX8_rowOf_13 : decode cX8_rowOf 13 = .ok (.iconst 0, 1) := by decide +kernel
theorem dX8_rowOf_14 : decode cX8_rowOf 14 = .ok (.istore 4, 2) := by decide +kernel
theorem dX8_rowOf_16 : decode cX8_rowOf 16 = .ok (.iload 4, 2) := by decide +kernel
theorem dX8_rowOf_18 : decode cX8_rowOf 18 = .ok (.aload_n 0, 1) := by decide +kernel
theorem dX8_rowOf_19 : decode cX8_rowOf 19 = .ok (.getfield 13, 3) := by decide +kernel
theorem dX8_rowOf_22 : decode cX8_rowOf 22 = .ok (.iload_n 3, 1) := by decide +kernel
theorem dX8_rowOf_23 : decode cX8_rowOf 23 = .ok (.iaload, 1) := by decide +kernel
theorem dX8_rowOf_24 : decode cX8_rowOf 24 = .ok (.if_icmp .ge 31, 3) := by decide +kernel
theorem dX8_rowOf_27 : decode cX8_rowOf 27 = .ok (.aload_n 0, 1) := by decide +kernel
theorem dX8_rowOf_28 : decode cX8_rowOf 28 = .ok (.getfield 17, 3) := by decide +kernel
theorem dX8_rowOf_31 : decode cX8_rowOf 31 = .ok (.bipush 32, 2) := by decide +kernel
theorem dX8_rowOf_33 : decode cX8_rowOf 33 = .ok (.iload_n 3, 1) := by decide +kernel
theorem dX8_rowOf_34 : decode cX8_rowOf 34 = .ok (.imul, 1) := by decide +kernel
theorem dX8_rowOf_35 : decode cX8_rowOf 35 = .ok (.iload 4, 2) := by decide +kernel
theorem dX8_rowOf_37 : decode cX8_rowOf 37 = .ok (.iadd, 1) := by decide +kernel
theorem dX8_rowOf_38 : decode cX8_rowOf 38 = .ok (.iaload, 1) := by decide +kernel
theorem dX8_rowOf_39 : decode cX8_rowOf 39 = .ok (.iload_n 1, 1) := by decide +kernel
theorem dX8_rowOf_40 : decode cX8_rowOf 40 = .ok (.if_icmp .ne 7, 3) := by decide +kernel
theorem dX8_rowOf_43 : decode cX8_rowOf 43 = .ok (.iload_n 3, 1) := by decide +kernel
theorem dX8_rowOf_44 : decode cX8_rowOf 44 = .ok (.goto 4, 3) := by decide +kernel
theorem dX8_rowOf_47 : decode cX8_rowOf 47 = .ok (.iload_n 2, 1) := by decide +kernel
theorem dX8_rowOf_48 : decode cX8_rowOf 48 = .ok (.istore_n 2, 1) := by decide +kernel
theorem dX8_rowOf_49 : decode cX8_rowOf 49 = .ok (.iinc 4 1, 3) := by decide +kernel
theorem dX8_rowOf_52 : decode cX8_rowOf 52 = .ok (.goto (-36), 3) := by decide +kernel
theorem dX8_rowOf_55 : decode cX8_rowOf 55 = .ok (.iinc 3 1, 3) := by decide +kernel
theorem dX8_rowOf_58 : decode cX8_rowOf 58 = .ok (.goto (-53), 3) := by decide +kernel
theorem dX8_rowOf_61 : decode cX8_rowOf 61 = .ok (.iload_n 2, 1) := by decide +kernel
theorem dX8_rowOf_62 : decode cX8_rowOf 62 = .ok (.ireturn, 1) := by decide +kernel
theorem dX8_workedBy_0 : decode cX8_workedBy 0 = .ok (.bipush (-5), 2) := by decide +kernel
theorem dX8_workedBy_2 : decode cX8_workedBy 2 = .ok (.istore_n 2, 1) := by decide +kernel
theorem dX8_workedBy_3 : decode cX8_workedBy 3 = .ok (.iconst 0, 1) := by decide +kernel
theorem dX8_workedBy_4 : decode cX8_workedBy 4 = .ok (.istore_n 3, 1) := by decide +kernel
theorem dX8_workedBy_5 : decode cX8_workedBy 5 = .ok (.iload_n 3, 1) := by decide +kernel
theorem dX8_workedBy_6 : decode cX8_workedBy 6 = .ok (.aload_n 0, 1) := by decide +kernel
theorem dX8_workedBy_7 : decode cX8_workedBy 7 = .ok (.getfield 7, 3) := by decide +kernel
theorem dX8_workedBy_10 : decode cX8_workedBy 10 = .ok (.if_icmp .ge 25, 3) := by decide +kernel
theorem dX8_workedBy_13 : decode cX8_workedBy 13 = .ok (.aload_n 0, 1) := by decide +kernel
theorem dX8_workedBy_14 : decode cX8_workedBy 14 = .ok (.getfield 20, 3) := by decide +kernel
theorem dX8_workedBy_17 : decode cX8_workedBy 17 = .ok (.iload_n 3, 1) := by decide +kernel
theorem dX8_workedBy_18 : decode cX8_workedBy 18 = .ok (.iaload, 1) := by decide +kernel
theorem dX8_workedBy_19 : decode cX8_workedBy 19 = .ok (.iload_n 1, 1) := by decide +kernel
theorem dX8_workedBy_20 : decode cX8_workedBy 20 = .ok (.if_icmp .ne 7, 3) := by decide +kernel
theorem dX8_workedBy_23 : decode cX8_workedBy 23 = .ok (.iload_n 3, 1) := by decide +kernel
theorem dX8_workedBy_24 : decode cX8_workedBy 24 = .ok (.goto 4, 3) := by decide +kernel
theorem dX8_workedBy_27 : decode cX8_workedBy 27 = .ok (.iload_n 2, 1) := by decide +kernel
theorem dX8_workedBy_28 : decode cX8_workedBy 28 = .ok (.istore_n 2, 1) := by decide +kernel
theorem dX8_workedBy_29 : decode cX8_workedBy 29 = .ok (.iinc 3 1, 3) := by decide +kernel
theorem dX8_workedBy_32 : decode cX8_workedBy 32 = .ok (.goto (-27), 3) := by decide +kernel
theorem dX8_workedBy_35 : decode cX8_workedBy 35 = .ok (.iload_n 2, 1) := by decide +kernel
theorem dX8_workedBy_36 : decode cX8_workedBy 36 = .ok (.ireturn, 1) := by decide +kernel
theorem dX8_laySpans_0 : decode cX8_laySpans 0 = .ok (.iconst 0, 1) := by decide +kernel
theorem dX8_laySpans_1 : decode cX8_laySpans 1 = .ok (.istore_n 1, 1) := by decide +kernel
theorem dX8_laySpans_2 : decode cX8_laySpans 2 = .ok (.iload_n 1, 1) := by decide +kernel
theorem dX8_laySpans_3 : decode cX8_laySpans 3 = .ok (.aload_n 0, 1) := by decide +kernel
theorem dX8_laySpans_4 : decode cX8_laySpans 4 = .ok (.getfield 127, 3) := by decide +kernel
theorem dX8_laySpans_7 : decode cX8_laySpans 7 = .ok (.if_icmp .ge 23, 3) := by decide +kernel
theorem dX8_laySpans_10 : decode cX8_laySpans 10 = .ok (.aload_n 0, 1) := by decide +kernel
theorem dX8_laySpans_11 : decode cX8_laySpans 11 = .ok (.getfield 102, 3) := by decide +kernel
theorem dX8_laySpans_14 : decode cX8_laySpans 14 = .ok (.iload_n 1, 1) := by decide +kernel
theorem dX8_laySpans_15 : decode cX8_laySpans 15 = .ok (.iconst 0, 1) := by decide +kernel
theorem dX8_laySpans_16 : decode cX8_laySpans 16 = .ok (.iastore, 1) := by decide +kernel
theorem dX8_laySpans_17 : decode cX8_laySpans 17 = .ok (.aload_n 0, 1) := by decide +kernel
theorem dX8_laySpans_18 : decode cX8_laySpans 18 = .ok (.getfield 105, 3) := by decide +kernel
theorem dX8_laySpans_21 : decode cX8_laySpans 21 = .ok (.iload_n 1, 1) := by decide +kernel
theorem dX8_laySpans_22 : decode cX8_laySpans 22 = .ok (.iconst 0, 1) := by decide +kernel
theorem dX8_laySpans_23 : decode cX8_laySpans 23 = .ok (.iastore, 1) := by decide +kernel
theorem dX8_laySpans_24 : decode cX8_laySpans 24 = .ok (.iinc 1 1, 3) := by decide +kernel
theorem dX8_laySpans_27 : decode cX8_laySpans 27 = .ok (.goto (-25), 3) := by decide +kernel
theorem dX8_laySpans_30 : decode cX8_laySpans 30 = .ok (.aload_n 0, 1) := by decide +kernel
theorem dX8_laySpans_31 : decode cX8_laySpans 31 = .ok (.getfield 127, 3) := by decide +kernel
theorem dX8_laySpans_34 : decode cX8_laySpans 34 = .ok (.iconst 1, 1) := by decide +kernel
theorem dX8_laySpans_35 : decode cX8_laySpans 35 = .ok (.isub, 1) := by decide +kernel
theorem dX8_laySpans_36 : decode cX8_laySpans 36 = .ok (.istore_n 1, 1) := by decide +kernel
theorem dX8_laySpans_37 : decode cX8_laySpans 37 = .ok (.iload_n 1, 1) := by decide +kernel
theorem dX8_laySpans_38 : decode cX8_laySpans 38 = .ok (.ifCond .lt 101, 3) := by decide +kernel
theorem dX8_laySpans_41 : decode cX8_laySpans 41 = .ok (.aload_n 0, 1) := by decide +kernel
theorem dX8_laySpans_42 : decode cX8_laySpans 42 = .ok (.getfield 102, 3) := by decide +kernel
theorem dX8_laySpans_45 : decode cX8_laySpans 45 = .ok (.iload_n 1, 1) := by decide +kernel
theorem dX8_laySpans_46 : decode cX8_laySpans 46 = .ok (.dup2, 1) := by decide +kernel
theorem dX8_laySpans_47 : decode cX8_laySpans 47 = .ok (.iaload, 1) := by decide +kernel
theorem dX8_laySpans_48 : decode cX8_laySpans 48 = .ok (.aload_n 0, 1) := by decide +kernel
theorem dX8_laySpans_49 : decode cX8_laySpans 49 = .ok (.getfield 32, 3) := by decide +kernel
theorem dX8_laySpans_52 : decode cX8_laySpans 52 = .ok (.iload_n 1, 1) := by decide +kernel
theorem dX8_laySpans_53 : decode cX8_laySpans 53 = .ok (.iaload, 1) := by decide +kernel
theorem dX8_laySpans_54 : decode cX8_laySpans 54 = .ok (.iadd, 1) := by decide +kernel
theorem dX8_laySpans_55 : decode cX8_laySpans 55 = .ok (.iastore, 1) := by decide +kernel
theorem dX8_laySpans_56 : decode cX8_laySpans 56 = .ok (.aload_n 0, 1) := by decide +kernel
theorem dX8_laySpans_57 : decode cX8_laySpans 57 = .ok (.getfield 105, 3) := by decide +kernel
theorem dX8_laySpans_60 : decode cX8_laySpans 60 = .ok (.iload_n 1, 1) := by decide +kernel
theorem dX8_laySpans_61 : decode cX8_laySpans 61 = .ok (.dup2, 1) := by decide +kernel
theorem dX8_laySpans_62 : decode cX8_laySpans 62 = .ok (.iaload, 1) := by decide +kernel
theorem dX8_laySpans_63 : decode cX8_laySpans 63 = .ok (.aload_n 0, 1) := by decide +kernel
theorem dX8_laySpans_64 : decode cX8_laySpans 64 = .ok (.getfield 32, 3) := by decide +kernel
theorem dX8_laySpans_67 : decode cX8_laySpans 67 = .ok (.iload_n 1, 1) := by decide +kernel
theorem dX8_laySpans_68 : decode cX8_laySpans 68 = .ok (.iaload, 1) := by decide +kernel
theorem dX8_laySpans_69 : decode cX8_laySpans 69 = .ok (.iadd, 1) := by decide +kernel
theorem dX8_laySpans_70 : decode cX8_laySpans 70 = .ok (.iastore, 1) := by decide +kernel
theorem dX8_laySpans_71 : decode cX8_laySpans 71 = .ok (.aload_n 0, 1) := by decide +kernel
theorem dX8_laySpans_72 : decode cX8_laySpans 72 = .ok (.getfield 41, 3) := by decide +kernel
theorem dX8_laySpans_75 : decode cX8_laySpans 75 = .ok (.iload_n 1, 1) := by decide +kernel
theorem dX8_laySpans_76 : decode cX8_laySpans 76 = .ok (.iaload, 1) := by decide +kernel
theorem dX8_laySpans_77 : decode cX8_laySpans 77 = .ok (.istore_n 2, 1) := by decide +kernel
theorem dX8_laySpans_78 : decode cX8_laySpans 78 = .ok (.iload_n 2, 1) := by decide +kernel
theorem dX8_laySpans_79 : decode cX8_laySpans 79 = .ok (.ifCond .lt 54, 3) := by decide +kernel
theorem dX8_laySpans_82 : decode cX8_laySpans 82 = .ok (.aload_n 0, 1) := by decide +kernel
theorem dX8_laySpans_83 : decode cX8_laySpans 83 = .ok (.getfield 102, 3) := by decide +kernel
theorem dX8_laySpans_86 : decode cX8_laySpans 86 = .ok (.iload_n 2, 1) := by decide +kernel
theorem dX8_laySpans_87 : decode cX8_laySpans 87 = .ok (.aload_n 0, 1) := by decide +kernel
theorem dX8_laySpans_88 : decode cX8_laySpans 88 = .ok (.getfield 102, 3) := by decide +kernel
theorem dX8_laySpans_91 : decode cX8_laySpans 91 = .ok (.iload_n 1, 1) := by decide +kernel
theorem dX8_laySpans_92 : decode cX8_laySpans 92 = .ok (.iaload, 1) := by decide +kernel
theorem dX8_laySpans_93 : decode cX8_laySpans 93 = .ok (.aload_n 0, 1) := by decide +kernel
theorem dX8_laySpans_94 : decode cX8_laySpans 94 = .ok (.getfield 102, 3) := by decide +kernel
theorem dX8_laySpans_97 : decode cX8_laySpans 97 = .ok (.iload_n 2, 1) := by decide +kernel
theorem dX8_laySpans_98 : decode cX8_laySpans 98 = .ok (.iaload, 1) := by decide +kernel
theorem dX8_laySpans_99 : decode cX8_laySpans 99 = .ok (.if_icmp .le 12, 3) := by decide +kernel
theorem dX8_laySpans_102 : decode cX8_laySpans 102 = .ok (.aload_n 0, 1) := by decide +kernel
theorem dX8_laySpans_103 : decode cX8_laySpans 103 = .ok (.getfield 102, 3) := by decide +kernel
theorem dX8_laySpans_106 : decode cX8_laySpans 106 = .ok (.iload_n 1, 1) := by decide +kernel
theorem dX8_laySpans_107 : decode cX8_laySpans 107 = .ok (.iaload, 1) := by decide +kernel
theorem dX8_laySpans_108 : decode cX8_laySpans 108 = .ok (.goto 9, 3) := by decide +kernel
theorem dX8_laySpans_111 : decode cX8_laySpans 111 = .ok (.aload_n 0, 1) := by decide +kernel
theorem dX8_laySpans_112 : decode cX8_laySpans 112 = .ok (.getfield 102, 3) := by decide +kernel
theorem dX8_laySpans_115 : decode cX8_laySpans 115 = .ok (.iload_n 2, 1) := by decide +kernel
theorem dX8_laySpans_116 : decode cX8_laySpans 116 = .ok (.iaload, 1) := by decide +kernel
theorem dX8_laySpans_117 : decode cX8_laySpans 117 = .ok (.iastore, 1) := by decide +kernel
theorem dX8_laySpans_118 : decode cX8_laySpans 118 = .ok (.aload_n 0, 1) := by decide +kernel
theorem dX8_laySpans_119 : decode cX8_laySpans 119 = .ok (.getfield 105, 3) := by decide +kernel
theorem dX8_laySpans_122 : decode cX8_laySpans 122 = .ok (.iload_n 2, 1) := by decide +kernel
theorem dX8_laySpans_123 : decode cX8_laySpans 123 = .ok (.dup2, 1) := by decide +kernel
theorem dX8_laySpans_124 : decode cX8_laySpans 124 = .ok (.iaload, 1) := by decide +kernel
theorem dX8_laySpans_125 : decode cX8_laySpans 125 = .ok (.aload_n 0, 1) := by decide +kernel
theorem dX8_laySpans_126 : decode cX8_laySpans 126 = .ok (.getfield 105, 3) := by decide +kernel
theorem dX8_laySpans_129 : decode cX8_laySpans 129 = .ok (.iload_n 1, 1) := by decide +kernel
theorem dX8_laySpans_130 : decode cX8_laySpans 130 = .ok (.iaload, 1) := by decide +kernel
theorem dX8_laySpans_131 : decode cX8_laySpans 131 = .ok (.iadd, 1) := by decide +kernel
theorem dX8_laySpans_132 : decode cX8_laySpans 132 = .ok (.iastore, 1) := by decide +kernel
theorem dX8_laySpans_133 : decode cX8_laySpans 133 = .ok (.iinc 1 (-1), 3) := by decide +kernel
theorem dX8_laySpans_136 : decode cX8_laySpans 136 = .ok (.goto (-99), 3) := by decide +kernel
theorem dX8_laySpans_139 : decode cX8_laySpans 139 = .ok (.return_, 1) := by decide +kernel
theorem dX8_depthOf_0 : decode cX8_depthOf 0 = .ok (.iconst 0, 1) := by decide +kernel
theorem dX8_depthOf_1 : decode cX8_depthOf 1 = .ok (.istore_n 2, 1) := by decide +kernel
theorem dX8_depthOf_2 : decode cX8_depthOf 2 = .ok (.aload_n 0, 1) := by decide +kernel
theorem dX8_depthOf_3 : decode cX8_depthOf 3 = .ok (.getfield 41, 3) := by decide +kernel
theorem dX8_depthOf_6 : decode cX8_depthOf 6 = .ok (.iload_n 1, 1) := by decide +kernel
theorem dX8_depthOf_7 : decode cX8_depthOf 7 = .ok (.iaload, 1) := by decide +kernel
theorem dX8_depthOf_8 : decode cX8_depthOf 8 = .ok (.istore_n 3, 1) := by decide +kernel
theorem dX8_depthOf_9 : decode cX8_depthOf 9 = .ok (.iload_n 3, 1) := by decide +kernel
theorem dX8_depthOf_10 : decode cX8_depthOf 10 = .ok (.ifCond .lt 16, 3) := by decide +kernel
theorem dX8_depthOf_13 : decode cX8_depthOf 13 = .ok (.iinc 2 1, 3) := by decide +kernel
theorem dX8_depthOf_16 : decode cX8_depthOf 16 = .ok (.aload_n 0, 1) := by decide +kernel
theorem dX8_depthOf_17 : decode cX8_depthOf 17 = .ok (.getfield 41, 3) := by decide +kernel
theorem dX8_depthOf_20 : decode cX8_depthOf 20 = .ok (.iload_n 3, 1) := by decide +kernel
theorem dX8_depthOf_21 : decode cX8_depthOf 21 = .ok (.iaload, 1) := by decide +kernel
theorem dX8_depthOf_22 : decode cX8_depthOf 22 = .ok (.istore_n 3, 1) := by decide +kernel
theorem dX8_depthOf_23 : decode cX8_depthOf 23 = .ok (.goto (-14), 3) := by decide +kernel
theorem dX8_depthOf_26 : decode cX8_depthOf 26 = .ok (.iload_n 2, 1) := by decide +kernel
theorem dX8_depthOf_27 : decode cX8_depthOf 27 = .ok (.ireturn, 1) := by decide +kernel
theorem dX8_treeOf_0 : decode cX8_treeOf 0 = .ok (.aload_n 0, 1) := by decide +kernel
theorem dX8_treeOf_1 : decode cX8_treeOf 1 = .ok (.invokevirtual 278, 3) := by decide +kernel
theorem dX8_treeOf_4 : decode cX8_treeOf 4 = .ok (.iload_n 2, 1) := by decide +kernel
theorem dX8_treeOf_5 : decode cX8_treeOf 5 = .ok (.tableswitch 68 6 10 #[35, 42, 49, 56, 62], 35) := by decide +kernel
theorem dX8_treeOf_40 : decode cX8_treeOf 40 = .ok (.aload_n 0, 1) := by decide +kernel
theorem dX8_treeOf_41 : decode cX8_treeOf 41 = .ok (.getfield 44, 3) := by decide +kernel
theorem dX8_treeOf_44 : decode cX8_treeOf 44 = .ok (.iload_n 1, 1) := by decide +kernel
theorem dX8_treeOf_45 : decode cX8_treeOf 45 = .ok (.iaload, 1) := by decide +kernel
theorem dX8_treeOf_46 : decode cX8_treeOf 46 = .ok (.ireturn, 1) := by decide +kernel
theorem dX8_treeOf_47 : decode cX8_treeOf 47 = .ok (.aload_n 0, 1) := by decide +kernel
theorem dX8_treeOf_48 : decode cX8_treeOf 48 = .ok (.getfield 102, 3) := by decide +kernel
theorem dX8_treeOf_51 : decode cX8_treeOf 51 = .ok (.iload_n 1, 1) := by decide +kernel
theorem dX8_treeOf_52 : decode cX8_treeOf 52 = .ok (.iaload, 1) := by decide +kernel
theorem dX8_treeOf_53 : decode cX8_treeOf 53 = .ok (.ireturn, 1) := by decide +kernel
theorem dX8_treeOf_54 : decode cX8_treeOf 54 = .ok (.aload_n 0, 1) := by decide +kernel
theorem dX8_treeOf_55 : decode cX8_treeOf 55 = .ok (.getfield 105, 3) := by decide +kernel
theorem dX8_treeOf_58 : decode cX8_treeOf 58 = .ok (.iload_n 1, 1) := by decide +kernel
theorem dX8_treeOf_59 : decode cX8_treeOf 59 = .ok (.iaload, 1) := by decide +kernel
theorem dX8_treeOf_60 : decode cX8_treeOf 60 = .ok (.ireturn, 1) := by decide +kernel
theorem dX8_treeOf_61 : decode cX8_treeOf 61 = .ok (.aload_n 0, 1) := by decide +kernel
theorem dX8_treeOf_62 : decode cX8_treeOf 62 = .ok (.iload_n 1, 1) := by decide +kernel
theorem dX8_treeOf_63 : decode cX8_treeOf 63 = .ok (.invokevirtual 281, 3) := by decide +kernel
theorem dX8_treeOf_66 : decode cX8_treeOf 66 = .ok (.ireturn, 1) := by decide +kernel
theorem dX8_treeOf_67 : decode cX8_treeOf 67 = .ok (.aload_n 0, 1) := by decide +kernel
theorem dX8_treeOf_68 : decode cX8_treeOf 68 = .ok (.iload_n 1, 1) := by decide +kernel
theorem dX8_treeOf_69 : decode cX8_treeOf 69 = .ok (.invokevirtual 284, 3) := by decide +kernel
theorem dX8_treeOf_72 : decode cX8_treeOf 72 = .ok (.ireturn, 1) := by decide +kernel
theorem dX8_treeOf_73 : decode cX8_treeOf 73 = .ok (.aload_n 0, 1) := by decide +kernel
theorem dX8_treeOf_74 : decode cX8_treeOf 74 = .ok (.iload_n 1, 1) := by decide +kernel
theorem dX8_treeOf_75 : decode cX8_treeOf 75 = .ok (.invokevirtual 287, 3) := by decide +kernel
theorem dX8_treeOf_78 : decode cX8_treeOf 78 = .ok (.ireturn, 1) := by decide +kernel
theorem dX8_of_0 : decode cX8_of 0 = .ok (.aload_n 0, 1) := by decide +kernel
theorem dX8_of_1 : decode cX8_of 1 = .ok (.iconst 0, 1) := by decide +kernel
theorem dX8_of_2 : decode cX8_of 2 = .ok (.putfield 124, 3) := by decide +kernel
theorem dX8_of_5 : decode cX8_of 5 = .ok (.aload_n 0, 1) := by decide +kernel
theorem dX8_of_6 : decode cX8_of 6 = .ok (.iload_n 1, 1) := by decide +kernel
theorem dX8_of_7 : decode cX8_of 7 = .ok (.invokevirtual 290, 3) := by decide +kernel
theorem dX8_of_10 : decode cX8_of 10 = .ok (.ifCond .eq 15, 3) := by decide +kernel
theorem dX8_of_13 : decode cX8_of 13 = .ok (.iload_n 2, 1) := by decide +kernel
theorem dX8_of_14 : decode cX8_of 14 = .ok (.i2l, 1) := by decide +kernel
theorem dX8_of_15 : decode cX8_of 15 = .ok (.lconst 0, 1) := by decide +kernel
theorem dX8_of_16 : decode cX8_of 16 = .ok (.ldc2_w 293, 3) := by decide +kernel
theorem dX8_of_19 : decode cX8_of 19 = .ok (.invokestatic 130, 3) := by decide +kernel
theorem dX8_of_22 : decode cX8_of 22 = .ok (.ifCond .ne 5, 3) := by decide +kernel
theorem dX8_of_25 : decode cX8_of 25 = .ok (.iconst (-1), 1) := by decide +kernel
theorem dX8_of_26 : decode cX8_of 26 = .ok (.ireturn, 1) := by decide +kernel
theorem dX8_of_27 : decode cX8_of 27 = .ok (.iload_n 2, 1) := by decide +kernel
theorem dX8_of_28 : decode cX8_of 28 = .ok (.tableswitch 81 0 5 #[40, 47, 54, 61, 68, 75], 40) := by decide +kernel
theorem dX8_of_68 : decode cX8_of 68 = .ok (.aload_n 0, 1) := by decide +kernel
theorem dX8_of_69 : decode cX8_of 69 = .ok (.getfield 29, 3) := by decide +kernel
theorem dX8_of_72 : decode cX8_of 72 = .ok (.iload_n 1, 1) := by decide +kernel
theorem dX8_of_73 : decode cX8_of 73 = .ok (.iaload, 1) := by decide +kernel
theorem dX8_of_74 : decode cX8_of 74 = .ok (.ireturn, 1) := by decide +kernel
theorem dX8_of_75 : decode cX8_of 75 = .ok (.aload_n 0, 1) := by decide +kernel
theorem dX8_of_76 : decode cX8_of 76 = .ok (.getfield 32, 3) := by decide +kernel
theorem dX8_of_79 : decode cX8_of 79 = .ok (.iload_n 1, 1) := by decide +kernel
theorem dX8_of_80 : decode cX8_of 80 = .ok (.iaload, 1) := by decide +kernel
theorem dX8_of_81 : decode cX8_of 81 = .ok (.ireturn, 1) := by decide +kernel
theorem dX8_of_82 : decode cX8_of 82 = .ok (.aload_n 0, 1) := by decide +kernel
theorem dX8_of_83 : decode cX8_of 83 = .ok (.getfield 35, 3) := by decide +kernel
theorem dX8_of_86 : decode cX8_of 86 = .ok (.iload_n 1, 1) := by decide +kernel
theorem dX8_of_87 : decode cX8_of 87 = .ok (.iaload, 1) := by decide +kernel
theorem dX8_of_88 : decode cX8_of 88 = .ok (.ireturn, 1) := by decide +kernel
theorem dX8_of_89 : decode cX8_of 89 = .ok (.aload_n 0, 1) := by decide +kernel
theorem dX8_of_90 : decode cX8_of 90 = .ok (.getfield 38, 3) := by decide +kernel
theorem dX8_of_93 : decode cX8_of 93 = .ok (.iload_n 1, 1) := by decide +kernel
theorem dX8_of_94 : decode cX8_of 94 = .ok (.iaload, 1) := by decide +kernel
theorem dX8_of_95 : decode cX8_of 95 = .ok (.ireturn, 1) := by decide +kernel
theorem dX8_of_96 : decode cX8_of 96 = .ok (.aload_n 0, 1) := by decide +kernel
theorem dX8_of_97 : decode cX8_of 97 = .ok (.getfield 41, 3) := by decide +kernel
theorem dX8_of_100 : decode cX8_of 100 = .ok (.iload_n 1, 1) := by decide +kernel
theorem dX8_of_101 : decode cX8_of 101 = .ok (.iaload, 1) := by decide +kernel
theorem dX8_of_102 : decode cX8_of 102 = .ok (.ireturn, 1) := by decide +kernel
theorem dX8_of_103 : decode cX8_of 103 = .ok (.aload_n 0, 1) := by decide +kernel
theorem dX8_of_104 : decode cX8_of 104 = .ok (.iload_n 1, 1) := by decide +kernel
theorem dX8_of_105 : decode cX8_of 105 = .ok (.invokevirtual 295, 3) := by decide +kernel
theorem dX8_of_108 : decode cX8_of 108 = .ok (.ireturn, 1) := by decide +kernel
theorem dX8_of_109 : decode cX8_of 109 = .ok (.aload_n 0, 1) := by decide +kernel
theorem dX8_of_110 : decode cX8_of 110 = .ok (.iload_n 1, 1) := by decide +kernel
theorem dX8_of_111 : decode cX8_of 111 = .ok (.iload_n 2, 1) := by decide +kernel
theorem dX8_of_112 : decode cX8_of 112 = .ok (.invokevirtual 298, 3) := by decide +kernel
theorem dX8_of_115 : decode cX8_of 115 = .ok (.ireturn, 1) := by decide +kernel
theorem dX8_cause_0 : decode cX8_cause 0 = .ok (.aload_n 0, 1) := by decide +kernel
theorem dX8_cause_1 : decode cX8_cause 1 = .ok (.iconst 0, 1) := by decide +kernel
theorem dX8_cause_2 : decode cX8_cause 2 = .ok (.putfield 124, 3) := by decide +kernel
theorem dX8_cause_5 : decode cX8_cause 5 = .ok (.aload_n 0, 1) := by decide +kernel
theorem dX8_cause_6 : decode cX8_cause 6 = .ok (.iload_n 1, 1) := by decide +kernel
theorem dX8_cause_7 : decode cX8_cause 7 = .ok (.invokevirtual 290, 3) := by decide +kernel
theorem dX8_cause_10 : decode cX8_cause 10 = .ok (.ifCond .eq 7, 3) := by decide +kernel
theorem dX8_cause_13 : decode cX8_cause 13 = .ok (.iload_n 2, 1) := by decide +kernel
theorem dX8_cause_14 : decode cX8_cause 14 = .ok (.ifCond .ge 5, 3) := by decide +kernel
theorem dX8_cause_17 : decode cX8_cause 17 = .ok (.iconst (-1), 1) := by decide +kernel
theorem dX8_cause_18 : decode cX8_cause 18 = .ok (.ireturn, 1) := by decide +kernel
theorem dX8_cause_19 : decode cX8_cause 19 = .ok (.aload_n 0, 1) := by decide +kernel
theorem dX8_cause_20 : decode cX8_cause 20 = .ok (.getfield 29, 3) := by decide +kernel
theorem dX8_cause_23 : decode cX8_cause 23 = .ok (.iload_n 1, 1) := by decide +kernel
theorem dX8_cause_24 : decode cX8_cause 24 = .ok (.iaload, 1) := by decide +kernel
theorem dX8_cause_25 : decode cX8_cause 25 = .ok (.iconst 4, 1) := by decide +kernel
theorem dX8_cause_26 : decode cX8_cause 26 = .ok (.if_icmp .ne 7, 3) := by decide +kernel
theorem dX8_cause_29 : decode cX8_cause 29 = .ok (.iload_n 1, 1) := by decide +kernel
theorem dX8_cause_30 : decode cX8_cause 30 = .ok (.goto 5, 3) := by decide +kernel
theorem dX8_cause_33 : decode cX8_cause 33 = .ok (.bipush (-5), 2) := by decide +kernel
theorem dX8_cause_35 : decode cX8_cause 35 = .ok (.istore_n 3, 1) := by decide +kernel
theorem dX8_cause_36 : decode cX8_cause 36 = .ok (.iconst 0, 1) := by decide +kernel
theorem dX8_cause_37 : decode cX8_cause 37 = .ok (.istore 4, 2) := by decide +kernel
theorem dX8_cause_39 : decode cX8_cause 39 = .ok (.iload 4, 2) := by decide +kernel
theorem dX8_cause_41 : decode cX8_cause 41 = .ok (.iload_n 2, 1) := by decide +kernel
theorem dX8_cause_42 : decode cX8_cause 42 = .ok (.if_icmp .ge 20, 3) := by decide +kernel
theorem dX8_cause_45 : decode cX8_cause 45 = .ok (.iload_n 3, 1) := by decide +kernel
theorem dX8_cause_46 : decode cX8_cause 46 = .ok (.ifCond .lt 16, 3) := by decide +kernel
theorem dX8_cause_49 : decode cX8_cause 49 = .ok (.aload_n 0, 1) := by decide +kernel
theorem dX8_cause_50 : decode cX8_cause 50 = .ok (.getfield 47, 3) := by decide +kernel
theorem dX8_cause_53 : decode cX8_cause 53 = .ok (.iload_n 3, 1) := by decide +kernel
theorem dX8_cause_54 : decode cX8_cause 54 = .ok (.iaload, 1) := by decide +kernel
theorem dX8_cause_55 : decode cX8_cause 55 = .ok (.istore_n 3, 1) := by decide +kernel
theorem dX8_cause_56 : decode cX8_cause 56 = .ok (.iinc 4 1, 3) := by decide +kernel
theorem dX8_cause_59 : decode cX8_cause 59 = .ok (.goto (-20), 3) := by decide +kernel
theorem dX8_cause_62 : decode cX8_cause 62 = .ok (.iload_n 3, 1) := by decide +kernel
theorem dX8_cause_63 : decode cX8_cause 63 = .ok (.ireturn, 1) := by decide +kernel
theorem dX8_arm_0 : decode cX8_arm 0 = .ok (.aload_n 0, 1) := by decide +kernel
theorem dX8_arm_1 : decode cX8_arm 1 = .ok (.iconst 0, 1) := by decide +kernel
theorem dX8_arm_2 : decode cX8_arm 2 = .ok (.putfield 124, 3) := by decide +kernel
theorem dX8_arm_5 : decode cX8_arm 5 = .ok (.aload_n 0, 1) := by decide +kernel
theorem dX8_arm_6 : decode cX8_arm 6 = .ok (.iload_n 1, 1) := by decide +kernel
theorem dX8_arm_7 : decode cX8_arm 7 = .ok (.invokevirtual 272, 3) := by decide +kernel
theorem dX8_arm_10 : decode cX8_arm 10 = .ok (.ifCond .eq 21, 3) := by decide +kernel
theorem dX8_arm_13 : decode cX8_arm 13 = .ok (.iload_n 2, 1) := by decide +kernel
theorem dX8_arm_14 : decode cX8_arm 14 = .ok (.i2l, 1) := by decide +kernel
theorem dX8_arm_15 : decode cX8_arm 15 = .ok (.lconst 0, 1) := by decide +kernel
theorem dX8_arm_16 : decode cX8_arm 16 = .ok (.ldc2_w 302, 3) := by decide +kernel
theorem dX8_arm_19 : decode cX8_arm 19 = .ok (.invokestatic 130, 3) := by decide +kernel
theorem dX8_arm_22 : decode cX8_arm 22 = .ok (.ifCond .ne 11, 3) := by decide +kernel
theorem dX8_arm_25 : decode cX8_arm 25 = .ok (.iload_n 2, 1) := by decide +kernel
theorem dX8_arm_26 : decode cX8_arm 26 = .ok (.bipush 10, 2) := by decide +kernel
theorem dX8_arm_28 : decode cX8_arm 28 = .ok (.if_icmp .ge 5, 3) := by decide +kernel
theorem dX8_arm_31 : decode cX8_arm 31 = .ok (.iconst (-1), 1) := by decide +kernel
theorem dX8_arm_32 : decode cX8_arm 32 = .ok (.ireturn, 1) := by decide +kernel
theorem dX8_arm_33 : decode cX8_arm 33 = .ok (.iload_n 2, 1) := by decide +kernel
theorem dX8_arm_34 : decode cX8_arm 34 = .ok (.tableswitch 58 0 3 #[30, 37, 44, 51], 30) := by decide +kernel
theorem dX8_arm_64 : decode cX8_arm 64 = .ok (.aload_n 0, 1) := by decide +kernel
theorem dX8_arm_65 : decode cX8_arm 65 = .ok (.getfield 13, 3) := by decide +kernel
theorem dX8_arm_68 : decode cX8_arm 68 = .ok (.iload_n 1, 1) := by decide +kernel
theorem dX8_arm_69 : decode cX8_arm 69 = .ok (.iaload, 1) := by decide +kernel
theorem dX8_arm_70 : decode cX8_arm 70 = .ok (.ireturn, 1) := by decide +kernel
theorem dX8_arm_71 : decode cX8_arm 71 = .ok (.aload_n 0, 1) := by decide +kernel
theorem dX8_arm_72 : decode cX8_arm 72 = .ok (.getfield 20, 3) := by decide +kernel
theorem dX8_arm_75 : decode cX8_arm 75 = .ok (.iload_n 1, 1) := by decide +kernel
theorem dX8_arm_76 : decode cX8_arm 76 = .ok (.iaload, 1) := by decide +kernel
theorem dX8_arm_77 : decode cX8_arm 77 = .ok (.ireturn, 1) := by decide +kernel
theorem dX8_arm_78 : decode cX8_arm 78 = .ok (.aload_n 0, 1) := by decide +kernel
theorem dX8_arm_79 : decode cX8_arm 79 = .ok (.getfield 23, 3) := by decide +kernel
theorem dX8_arm_82 : decode cX8_arm 82 = .ok (.iload_n 1, 1) := by decide +kernel
theorem dX8_arm_83 : decode cX8_arm 83 = .ok (.iaload, 1) := by decide +kernel
theorem dX8_arm_84 : decode cX8_arm 84 = .ok (.ireturn, 1) := by decide +kernel
theorem dX8_arm_85 : decode cX8_arm 85 = .ok (.aload_n 0, 1) := by decide +kernel
theorem dX8_arm_86 : decode cX8_arm 86 = .ok (.getfield 26, 3) := by decide +kernel
theorem dX8_arm_89 : decode cX8_arm 89 = .ok (.iload_n 1, 1) := by decide +kernel
theorem dX8_arm_90 : decode cX8_arm 90 = .ok (.iaload, 1) := by decide +kernel
theorem dX8_arm_91 : decode cX8_arm 91 = .ok (.ireturn, 1) := by decide +kernel
theorem dX8_arm_92 : decode cX8_arm 92 = .ok (.iload_n 2, 1) := by decide +kernel
theorem dX8_arm_93 : decode cX8_arm 93 = .ok (.bipush 10, 2) := by decide +kernel
theorem dX8_arm_95 : decode cX8_arm 95 = .ok (.aload_n 0, 1) := by decide +kernel
theorem dX8_arm_96 : decode cX8_arm 96 = .ok (.getfield 13, 3) := by decide +kernel
theorem dX8_arm_99 : decode cX8_arm 99 = .ok (.iload_n 1, 1) := by decide +kernel
theorem dX8_arm_100 : decode cX8_arm 100 = .ok (.iaload, 1) := by decide +kernel
theorem dX8_arm_101 : decode cX8_arm 101 = .ok (.iadd, 1) := by decide +kernel
theorem dX8_arm_102 : decode cX8_arm 102 = .ok (.if_icmp .ge 20, 3) := by decide +kernel
theorem dX8_arm_105 : decode cX8_arm 105 = .ok (.aload_n 0, 1) := by decide +kernel
theorem dX8_arm_106 : decode cX8_arm 106 = .ok (.getfield 17, 3) := by decide +kernel
theorem dX8_arm_109 : decode cX8_arm 109 = .ok (.bipush 32, 2) := by decide +kernel
theorem dX8_arm_111 : decode cX8_arm 111 = .ok (.iload_n 1, 1) := by decide +kernel
theorem dX8_arm_112 : decode cX8_arm 112 = .ok (.imul, 1) := by decide +kernel
theorem dX8_arm_113 : decode cX8_arm 113 = .ok (.iload_n 2, 1) := by decide +kernel
theorem dX8_arm_114 : decode cX8_arm 114 = .ok (.iadd, 1) := by decide +kernel
theorem dX8_arm_115 : decode cX8_arm 115 = .ok (.bipush 10, 2) := by decide +kernel
theorem dX8_arm_117 : decode cX8_arm 117 = .ok (.isub, 1) := by decide +kernel
theorem dX8_arm_118 : decode cX8_arm 118 = .ok (.iaload, 1) := by decide +kernel
theorem dX8_arm_119 : decode cX8_arm 119 = .ok (.goto 5, 3) := by decide +kernel
theorem dX8_arm_122 : decode cX8_arm 122 = .ok (.bipush (-5), 2) := by decide +kernel
theorem dX8_arm_124 : decode cX8_arm 124 = .ok (.ireturn, 1) := by decide +kernel
theorem dX8_pass_0 : decode cX8_pass 0 = .ok (.aload_n 0, 1) := by decide +kernel
theorem dX8_pass_1 : decode cX8_pass 1 = .ok (.iconst 0, 1) := by decide +kernel
theorem dX8_pass_2 : decode cX8_pass 2 = .ok (.putfield 124, 3) := by decide +kernel
theorem dX8_pass_5 : decode cX8_pass 5 = .ok (.iload_n 1, 1) := by decide +kernel
theorem dX8_pass_6 : decode cX8_pass 6 = .ok (.i2l, 1) := by decide +kernel
theorem dX8_pass_7 : decode cX8_pass 7 = .ok (.lconst 0, 1) := by decide +kernel
theorem dX8_pass_8 : decode cX8_pass 8 = .ok (.ldc2_w 304, 3) := by decide +kernel
theorem dX8_pass_11 : decode cX8_pass 11 = .ok (.invokestatic 130, 3) := by decide +kernel
theorem dX8_pass_14 : decode cX8_pass 14 = .ok (.ifCond .ne 6, 3) := by decide +kernel
theorem dX8_pass_17 : decode cX8_pass 17 = .ok (.bipush (-2), 2) := by decide +kernel
theorem dX8_pass_19 : decode cX8_pass 19 = .ok (.ireturn, 1) := by decide +kernel
theorem dX8_pass_20 : decode cX8_pass 20 = .ok (.aload_n 0, 1) := by decide +kernel
theorem dX8_pass_21 : decode cX8_pass 21 = .ok (.getfield 157, 3) := by decide +kernel
theorem dX8_pass_24 : decode cX8_pass 24 = .ok (.iload_n 1, 1) := by decide +kernel
theorem dX8_pass_25 : decode cX8_pass 25 = .ok (.iadd, 1) := by decide +kernel
theorem dX8_pass_26 : decode cX8_pass 26 = .ok (.sipush 9999, 3) := by decide +kernel
theorem dX8_pass_29 : decode cX8_pass 29 = .ok (.if_icmp .le 6, 3) := by decide +kernel
theorem dX8_pass_32 : decode cX8_pass 32 = .ok (.bipush (-3), 2) := by decide +kernel
theorem dX8_pass_34 : decode cX8_pass 34 = .ok (.ireturn, 1) := by decide +kernel
theorem dX8_pass_35 : decode cX8_pass 35 = .ok (.aload_n 0, 1) := by decide +kernel
theorem dX8_pass_36 : decode cX8_pass 36 = .ok (.iload_n 1, 1) := by decide +kernel
theorem dX8_pass_37 : decode cX8_pass 37 = .ok (.invokevirtual 306, 3) := by decide +kernel
theorem dX8_pass_40 : decode cX8_pass 40 = .ok (.aload_n 0, 1) := by decide +kernel
theorem dX8_pass_41 : decode cX8_pass 41 = .ok (.getfield 157, 3) := by decide +kernel
theorem dX8_pass_44 : decode cX8_pass 44 = .ok (.ireturn, 1) := by decide +kernel
theorem dX8_cancel_0 : decode cX8_cancel 0 = .ok (.aload_n 0, 1) := by decide +kernel
theorem dX8_cancel_1 : decode cX8_cancel 1 = .ok (.iconst 0, 1) := by decide +kernel
theorem dX8_cancel_2 : decode cX8_cancel 2 = .ok (.putfield 124, 3) := by decide +kernel
theorem dX8_cancel_5 : decode cX8_cancel 5 = .ok (.aload_n 0, 1) := by decide +kernel
theorem dX8_cancel_6 : decode cX8_cancel 6 = .ok (.iload_n 1, 1) := by decide +kernel
theorem dX8_cancel_7 : decode cX8_cancel 7 = .ok (.invokevirtual 290, 3) := by decide +kernel
theorem dX8_cancel_10 : decode cX8_cancel 10 = .ok (.ifCond .ne 5, 3) := by decide +kernel
theorem dX8_cancel_13 : decode cX8_cancel 13 = .ok (.iconst (-1), 1) := by decide +kernel
theorem dX8_cancel_14 : decode cX8_cancel 14 = .ok (.ireturn, 1) := by decide +kernel
theorem dX8_cancel_15 : decode cX8_cancel 15 = .ok (.aload_n 0, 1) := by decide +kernel
theorem dX8_cancel_16 : decode cX8_cancel 16 = .ok (.iload_n 1, 1) := by decide +kernel
theorem dX8_cancel_17 : decode cX8_cancel 17 = .ok (.invokevirtual 183, 3) := by decide +kernel
theorem dX8_cancel_20 : decode cX8_cancel 20 = .ok (.ifCond .eq 6, 3) := by decide +kernel
theorem dX8_cancel_23 : decode cX8_cancel 23 = .ok (.bipush (-3), 2) := by decide +kernel
theorem dX8_cancel_25 : decode cX8_cancel 25 = .ok (.ireturn, 1) := by decide +kernel
theorem dX8_cancel_26 : decode cX8_cancel 26 = .ok (.aload_n 0, 1) := by decide +kernel
theorem dX8_cancel_27 : decode cX8_cancel 27 = .ok (.iload_n 1, 1) := by decide +kernel
theorem dX8_cancel_28 : decode cX8_cancel 28 = .ok (.invokevirtual 309, 3) := by decide +kernel
theorem dX8_cancel_31 : decode cX8_cancel 31 = .ok (.istore_n 2, 1) := by decide +kernel
theorem dX8_cancel_32 : decode cX8_cancel 32 = .ok (.aload_n 0, 1) := by decide +kernel
theorem dX8_cancel_33 : decode cX8_cancel 33 = .ok (.iload_n 1, 1) := by decide +kernel
theorem dX8_cancel_34 : decode cX8_cancel 34 = .ok (.invokevirtual 207, 3) := by decide +kernel
theorem dX8_cancel_37 : decode cX8_cancel 37 = .ok (.iload_n 2, 1) := by decide +kernel
theorem dX8_cancel_38 : decode cX8_cancel 38 = .ok (.ireturn, 1) := by decide +kernel
theorem dX8_tillOver_0 : decode cX8_tillOver 0 = .ok (.iconst 0, 1) := by decide +kernel
theorem dX8_tillOver_1 : decode cX8_tillOver 1 = .ok (.istore_n 1, 1) := by decide +kernel
theorem dX8_tillOver_2 : decode cX8_tillOver 2 = .ok (.iload_n 1, 1) := by decide +kernel
theorem dX8_tillOver_3 : decode cX8_tillOver 3 = .ok (.sipush 300, 3) := by decide +kernel
theorem dX8_tillOver_6 : decode cX8_tillOver 6 = .ok (.if_icmp .gt 20, 3) := by decide +kernel
theorem dX8_tillOver_9 : decode cX8_tillOver 9 = .ok (.aload_n 0, 1) := by decide +kernel
theorem dX8_tillOver_10 : decode cX8_tillOver 10 = .ok (.invokevirtual 312, 3) := by decide +kernel
theorem dX8_tillOver_13 : decode cX8_tillOver 13 = .ok (.ifCond .ne 13, 3) := by decide +kernel
theorem dX8_tillOver_16 : decode cX8_tillOver 16 = .ok (.aload_n 0, 1) := by decide +kernel
theorem dX8_tillOver_17 : decode cX8_tillOver 17 = .ok (.invokevirtual 233, 3) := by decide +kernel
theorem dX8_tillOver_20 : decode cX8_tillOver 20 = .ok (.iinc 1 1, 3) := by decide +kernel
theorem dX8_tillOver_23 : decode cX8_tillOver 23 = .ok (.goto (-21), 3) := by decide +kernel
theorem dX8_tillOver_26 : decode cX8_tillOver 26 = .ok (.iload_n 1, 1) := by decide +kernel
theorem dX8_tillOver_27 : decode cX8_tillOver 27 = .ok (.sipush 300, 3) := by decide +kernel
theorem dX8_tillOver_30 : decode cX8_tillOver 30 = .ok (.if_icmp .le 8, 3) := by decide +kernel
theorem dX8_tillOver_33 : decode cX8_tillOver 33 = .ok (.bipush (-5), 2) := by decide +kernel
theorem dX8_tillOver_35 : decode cX8_tillOver 35 = .ok (.goto 4, 3) := by decide +kernel
theorem dX8_tillOver_38 : decode cX8_tillOver 38 = .ok (.iload_n 1, 1) := by decide +kernel
theorem dX8_tillOver_39 : decode cX8_tillOver 39 = .ok (.ireturn, 1) := by decide +kernel
theorem dX8_tillBy_0 : decode cX8_tillBy 0 = .ok (.aload_n 0, 1) := by decide +kernel
theorem dX8_tillBy_1 : decode cX8_tillBy 1 = .ok (.invokevirtual 315, 3) := by decide +kernel
theorem dX8_tillBy_4 : decode cX8_tillBy 4 = .ok (.aload_n 0, 1) := by decide +kernel
theorem dX8_tillBy_5 : decode cX8_tillBy 5 = .ok (.iload_n 1, 1) := by decide +kernel
theorem dX8_tillBy_6 : decode cX8_tillBy 6 = .ok (.invokevirtual 238, 3) := by decide +kernel
theorem dX8_tillBy_9 : decode cX8_tillBy 9 = .ok (.aload_n 0, 1) := by decide +kernel
theorem dX8_tillBy_10 : decode cX8_tillBy 10 = .ok (.invokevirtual 318, 3) := by decide +kernel
theorem dX8_tillBy_13 : decode cX8_tillBy 13 = .ok (.istore_n 2, 1) := by decide +kernel
theorem dX8_tillBy_14 : decode cX8_tillBy 14 = .ok (.aload_n 0, 1) := by decide +kernel
theorem dX8_tillBy_15 : decode cX8_tillBy 15 = .ok (.invokevirtual 321, 3) := by decide +kernel
theorem dX8_tillBy_18 : decode cX8_tillBy 18 = .ok (.iload_n 2, 1) := by decide +kernel
theorem dX8_tillBy_19 : decode cX8_tillBy 19 = .ok (.ireturn, 1) := by decide +kernel
theorem dX8_bestArms_0 : decode cX8_bestArms 0 = .ok (.bipush (-5), 2) := by decide +kernel
theorem dX8_bestArms_2 : decode cX8_bestArms 2 = .ok (.istore_n 1, 1) := by decide +kernel
theorem dX8_bestArms_3 : decode cX8_bestArms 3 = .ok (.sipush 301, 3) := by decide +kernel
theorem dX8_bestArms_6 : decode cX8_bestArms 6 = .ok (.istore_n 2, 1) := by decide +kernel
theorem dX8_bestArms_7 : decode cX8_bestArms 7 = .ok (.iconst 1, 1) := by decide +kernel
theorem dX8_bestArms_8 : decode cX8_bestArms 8 = .ok (.istore_n 3, 1) := by decide +kernel
theorem dX8_bestArms_9 : decode cX8_bestArms 9 = .ok (.iload_n 3, 1) := by decide +kernel
theorem dX8_bestArms_10 : decode cX8_bestArms 10 = .ok (.iconst 4, 1) := by decide +kernel
theorem dX8_bestArms_11 : decode cX8_bestArms 11 = .ok (.if_icmp .gt 51, 3) := by decide +kernel
theorem dX8_bestArms_14 : decode cX8_bestArms 14 = .ok (.aload_n 0, 1) := by decide +kernel
theorem dX8_bestArms_15 : decode cX8_bestArms 15 = .ok (.iload_n 3, 1) := by decide +kernel
theorem dX8_bestArms_16 : decode cX8_bestArms 16 = .ok (.invokevirtual 324, 3) := by decide +kernel
theorem dX8_bestArms_19 : decode cX8_bestArms 19 = .ok (.istore 4, 2) := by decide +kernel
theorem dX8_bestArms_21 : decode cX8_bestArms 21 = .ok (.iload 4, 2) := by decide +kernel
theorem dX8_bestArms_23 : decode cX8_bestArms 23 = .ok (.ifCond .lt 13, 3) := by decide +kernel
theorem dX8_bestArms_26 : decode cX8_bestArms 26 = .ok (.iload 4, 2) := by decide +kernel
theorem dX8_bestArms_28 : decode cX8_bestArms 28 = .ok (.iload_n 2, 1) := by decide +kernel
theorem dX8_bestArms_29 : decode cX8_bestArms 29 = .ok (.if_icmp .ge 7, 3) := by decide +kernel
theorem dX8_bestArms_32 : decode cX8_bestArms 32 = .ok (.iload_n 3, 1) := by decide +kernel
theorem dX8_bestArms_33 : decode cX8_bestArms 33 = .ok (.goto 4, 3) := by decide +kernel
theorem dX8_bestArms_36 : decode cX8_bestArms 36 = .ok (.iload_n 1, 1) := by decide +kernel
theorem dX8_bestArms_37 : decode cX8_bestArms 37 = .ok (.istore_n 1, 1) := by decide +kernel
theorem dX8_bestArms_38 : decode cX8_bestArms 38 = .ok (.iload 4, 2) := by decide +kernel
theorem dX8_bestArms_40 : decode cX8_bestArms 40 = .ok (.ifCond .lt 14, 3) := by decide +kernel
theorem dX8_bestArms_43 : decode cX8_bestArms 43 = .ok (.iload 4, 2) := by decide +kernel
theorem dX8_bestArms_45 : decode cX8_bestArms 45 = .ok (.iload_n 2, 1) := by decide +kernel
theorem dX8_bestArms_46 : decode cX8_bestArms 46 = .ok (.if_icmp .ge 8, 3) := by decide +kernel
theorem dX8_bestArms_49 : decode cX8_bestArms 49 = .ok (.iload 4, 2) := by decide +kernel
theorem dX8_bestArms_51 : decode cX8_bestArms 51 = .ok (.goto 4, 3) := by decide +kernel
theorem dX8_bestArms_54 : decode cX8_bestArms 54 = .ok (.iload_n 2, 1) := by decide +kernel
theorem dX8_bestArms_55 : decode cX8_bestArms 55 = .ok (.istore_n 2, 1) := by decide +kernel
theorem dX8_bestArms_56 : decode cX8_bestArms 56 = .ok (.iinc 3 1, 3) := by decide +kernel
theorem dX8_bestArms_59 : decode cX8_bestArms 59 = .ok (.goto (-50), 3) := by decide +kernel
theorem dX8_bestArms_62 : decode cX8_bestArms 62 = .ok (.iload_n 1, 1) := by decide +kernel
theorem dX8_bestArms_63 : decode cX8_bestArms 63 = .ok (.ireturn, 1) := by decide +kernel
theorem dX8_told_0 : decode cX8_told 0 = .ok (.aload_n 0, 1) := by decide +kernel
theorem dX8_told_1 : decode cX8_told 1 = .ok (.iconst 0, 1) := by decide +kernel
theorem dX8_told_2 : decode cX8_told 2 = .ok (.putfield 124, 3) := by decide +kernel
theorem dX8_told_5 : decode cX8_told 5 = .ok (.iload_n 1, 1) := by decide +kernel
theorem dX8_told_6 : decode cX8_told 6 = .ok (.tableswitch 89 0 6 #[42, 47, 52, 57, 70, 79, 84], 42) := by decide +kernel
theorem dX8_told_48 : decode cX8_told 48 = .ok (.aload_n 0, 1) := by decide +kernel
theorem dX8_told_49 : decode cX8_told 49 = .ok (.getfield 157, 3) := by decide +kernel
theorem dX8_told_52 : decode cX8_told 52 = .ok (.ireturn, 1) := by decide +kernel
theorem dX8_told_53 : decode cX8_told 53 = .ok (.aload_n 0, 1) := by decide +kernel
theorem dX8_told_54 : decode cX8_told 54 = .ok (.getfield 50, 3) := by decide +kernel
theorem dX8_told_57 : decode cX8_told 57 = .ok (.ireturn, 1) := by decide +kernel
theorem dX8_told_58 : decode cX8_told 58 = .ok (.aload_n 0, 1) := by decide +kernel
theorem dX8_told_59 : decode cX8_told 59 = .ok (.getfield 7, 3) := by decide +kernel
theorem dX8_told_62 : decode cX8_told 62 = .ok (.ireturn, 1) := by decide +kernel
theorem dX8_told_63 : decode cX8_told 63 = .ok (.aload_n 0, 1) := by decide +kernel
theorem dX8_told_64 : decode cX8_told 64 = .ok (.invokevirtual 312, 3) := by decide +kernel
theorem dX8_told_67 : decode cX8_told 67 = .ok (.ifCond .eq 7, 3) := by decide +kernel
theorem dX8_told_70 : decode cX8_told 70 = .ok (.iconst 1, 1) := by decide +kernel
theorem dX8_told_71 : decode cX8_told 71 = .ok (.goto 4, 3) := by decide +kernel
theorem dX8_told_74 : decode cX8_told 74 = .ok (.iconst 0, 1) := by decide +kernel
theorem dX8_told_75 : decode cX8_told 75 = .ok (.ireturn, 1) := by decide +kernel
theorem dX8_told_76 : decode cX8_told 76 = .ok (.aload_n 0, 1) := by decide +kernel
theorem dX8_told_77 : decode cX8_told 77 = .ok (.aload_n 0, 1) := by decide +kernel
theorem dX8_told_78 : decode cX8_told 78 = .ok (.getfield 7, 3) := by decide +kernel
theorem dX8_told_81 : decode cX8_told 81 = .ok (.invokevirtual 324, 3) := by decide +kernel
theorem dX8_told_84 : decode cX8_told 84 = .ok (.ireturn, 1) := by decide +kernel
theorem dX8_told_85 : decode cX8_told 85 = .ok (.aload_n 0, 1) := by decide +kernel
theorem dX8_told_86 : decode cX8_told 86 = .ok (.invokevirtual 327, 3) := by decide +kernel
theorem dX8_told_89 : decode cX8_told 89 = .ok (.ireturn, 1) := by decide +kernel
theorem dX8_told_90 : decode cX8_told 90 = .ok (.aload_n 0, 1) := by decide +kernel
theorem dX8_told_91 : decode cX8_told 91 = .ok (.getfield 160, 3) := by decide +kernel
theorem dX8_told_94 : decode cX8_told 94 = .ok (.ireturn, 1) := by decide +kernel
theorem dX8_told_95 : decode cX8_told 95 = .ok (.sipush (-10001), 3) := by decide +kernel
theorem dX8_told_98 : decode cX8_told 98 = .ok (.ireturn, 1) := by decide +kernel
theorem dX8_trace_0 : decode cX8_trace 0 = .ok (.aload_n 0, 1) := by decide +kernel
theorem dX8_trace_1 : decode cX8_trace 1 = .ok (.iconst 0, 1) := by decide +kernel
theorem dX8_trace_2 : decode cX8_trace 2 = .ok (.putfield 124, 3) := by decide +kernel
theorem dX8_trace_5 : decode cX8_trace 5 = .ok (.iload_n 1, 1) := by decide +kernel
theorem dX8_trace_6 : decode cX8_trace 6 = .ok (.i2l, 1) := by decide +kernel
theorem dX8_trace_7 : decode cX8_trace 7 = .ok (.lconst 0, 1) := by decide +kernel
theorem dX8_trace_8 : decode cX8_trace 8 = .ok (.aload_n 0, 1) := by decide +kernel
theorem dX8_trace_9 : decode cX8_trace 9 = .ok (.getfield 160, 3) := by decide +kernel
theorem dX8_trace_12 : decode cX8_trace 12 = .ok (.iconst 1, 1) := by decide +kernel
theorem dX8_trace_13 : decode cX8_trace 13 = .ok (.isub, 1) := by decide +kernel
theorem dX8_trace_14 : decode cX8_trace 14 = .ok (.i2l, 1) := by decide +kernel
theorem dX8_trace_15 : decode cX8_trace 15 = .ok (.invokestatic 130, 3) := by decide +kernel
theorem dX8_trace_18 : decode cX8_trace 18 = .ok (.ifCond .eq 28, 3) := by decide +kernel
theorem dX8_trace_21 : decode cX8_trace 21 = .ok (.iload_n 2, 1) := by decide +kernel
theorem dX8_trace_22 : decode cX8_trace 22 = .ok (.i2l, 1) := by decide +kernel
theorem dX8_trace_23 : decode cX8_trace 23 = .ok (.lconst 0, 1) := by decide +kernel
theorem dX8_trace_24 : decode cX8_trace 24 = .ok (.ldc2_w 302, 3) := by decide +kernel
theorem dX8_trace_27 : decode cX8_trace 27 = .ok (.invokestatic 130, 3) := by decide +kernel
theorem dX8_trace_30 : decode cX8_trace 30 = .ok (.ifCond .eq 16, 3) := by decide +kernel
theorem dX8_trace_33 : decode cX8_trace 33 = .ok (.aload_n 0, 1) := by decide +kernel
theorem dX8_trace_34 : decode cX8_trace 34 = .ok (.getfield 53, 3) := by decide +kernel
theorem dX8_trace_37 : decode cX8_trace 37 = .ok (.iconst 4, 1) := by decide +kernel
theorem dX8_trace_38 : decode cX8_trace 38 = .ok (.iload_n 1, 1) := by decide +kernel
theorem dX8_trace_39 : decode cX8_trace 39 = .ok (.imul, 1) := by decide +kernel
theorem dX8_trace_40 : decode cX8_trace 40 = .ok (.iload_n 2, 1) := by decide +kernel
theorem dX8_trace_41 : decode cX8_trace 41 = .ok (.iadd, 1) := by decide +kernel
theorem dX8_trace_42 : decode cX8_trace 42 = .ok (.iaload, 1) := by decide +kernel
theorem dX8_trace_43 : decode cX8_trace 43 = .ok (.goto 4, 3) := by decide +kernel
theorem dX8_trace_46 : decode cX8_trace 46 = .ok (.iconst (-1), 1) := by decide +kernel
theorem dX8_trace_47 : decode cX8_trace 47 = .ok (.ireturn, 1) := by decide +kernel
theorem dX8_endedMany_0 : decode cX8_endedMany 0 = .ok (.iconst 0, 1) := by decide +kernel
theorem dX8_endedMany_1 : decode cX8_endedMany 1 = .ok (.istore_n 1, 1) := by decide +kernel
theorem dX8_endedMany_2 : decode cX8_endedMany 2 = .ok (.iconst 0, 1) := by decide +kernel
theorem dX8_endedMany_3 : decode cX8_endedMany 3 = .ok (.istore_n 2, 1) := by decide +kernel
theorem dX8_endedMany_4 : decode cX8_endedMany 4 = .ok (.iload_n 2, 1) := by decide +kernel
theorem dX8_endedMany_5 : decode cX8_endedMany 5 = .ok (.aload_n 0, 1) := by decide +kernel
theorem dX8_endedMany_6 : decode cX8_endedMany 6 = .ok (.getfield 127, 3) := by decide +kernel
theorem dX8_endedMany_9 : decode cX8_endedMany 9 = .ok (.if_icmp .ge 25, 3) := by decide +kernel
theorem dX8_endedMany_12 : decode cX8_endedMany 12 = .ok (.iload_n 1, 1) := by decide +kernel
theorem dX8_endedMany_13 : decode cX8_endedMany 13 = .ok (.aload_n 0, 1) := by decide +kernel
theorem dX8_endedMany_14 : decode cX8_endedMany 14 = .ok (.iload_n 2, 1) := by decide +kernel
theorem dX8_endedMany_15 : decode cX8_endedMany 15 = .ok (.invokevirtual 183, 3) := by decide +kernel
theorem dX8_endedMany_18 : decode cX8_endedMany 18 = .ok (.ifCond .eq 7, 3) := by decide +kernel
theorem dX8_endedMany_21 : decode cX8_endedMany 21 = .ok (.iconst 1, 1) := by decide +kernel
theorem dX8_endedMany_22 : decode cX8_endedMany 22 = .ok (.goto 4, 3) := by decide +kernel
theorem dX8_endedMany_25 : decode cX8_endedMany 25 = .ok (.iconst 0, 1) := by decide +kernel
theorem dX8_endedMany_26 : decode cX8_endedMany 26 = .ok (.iadd, 1) := by decide +kernel
theorem dX8_endedMany_27 : decode cX8_endedMany 27 = .ok (.istore_n 1, 1) := by decide +kernel
theorem dX8_endedMany_28 : decode cX8_endedMany 28 = .ok (.iinc 2 1, 3) := by decide +kernel
theorem dX8_endedMany_31 : decode cX8_endedMany 31 = .ok (.goto (-27), 3) := by decide +kernel
theorem dX8_endedMany_34 : decode cX8_endedMany 34 = .ok (.iload_n 1, 1) := by decide +kernel
theorem dX8_endedMany_35 : decode cX8_endedMany 35 = .ok (.ireturn, 1) := by decide +kernel
theorem dX8_doneMany_0 : decode cX8_doneMany 0 = .ok (.iconst 0, 1) := by decide +kernel
theorem dX8_doneMany_1 : decode cX8_doneMany 1 = .ok (.istore_n 1, 1) := by decide +kernel
theorem dX8_doneMany_2 : decode cX8_doneMany 2 = .ok (.iconst 0, 1) := by decide +kernel
theorem dX8_doneMany_3 : decode cX8_doneMany 3 = .ok (.istore_n 2, 1) := by decide +kernel
theorem dX8_doneMany_4 : decode cX8_doneMany 4 = .ok (.iload_n 2, 1) := by decide +kernel
theorem dX8_doneMany_5 : decode cX8_doneMany 5 = .ok (.aload_n 0, 1) := by decide +kernel
theorem dX8_doneMany_6 : decode cX8_doneMany 6 = .ok (.getfield 127, 3) := by decide +kernel
theorem dX8_doneMany_9 : decode cX8_doneMany 9 = .ok (.if_icmp .ge 27, 3) := by decide +kernel
theorem dX8_doneMany_12 : decode cX8_doneMany 12 = .ok (.iload_n 1, 1) := by decide +kernel
theorem dX8_doneMany_13 : decode cX8_doneMany 13 = .ok (.aload_n 0, 1) := by decide +kernel
theorem dX8_doneMany_14 : decode cX8_doneMany 14 = .ok (.getfield 29, 3) := by decide +kernel
theorem dX8_doneMany_17 : decode cX8_doneMany 17 = .ok (.iload_n 2, 1) := by decide +kernel
theorem dX8_doneMany_18 : decode cX8_doneMany 18 = .ok (.iaload, 1) := by decide +kernel
theorem dX8_doneMany_19 : decode cX8_doneMany 19 = .ok (.iconst 3, 1) := by decide +kernel
theorem dX8_doneMany_20 : decode cX8_doneMany 20 = .ok (.if_icmp .ne 7, 3) := by decide +kernel
theorem dX8_doneMany_23 : decode cX8_doneMany 23 = .ok (.iconst 1, 1) := by decide +kernel
theorem dX8_doneMany_24 : decode cX8_doneMany 24 = .ok (.goto 4, 3) := by decide +kernel
theorem dX8_doneMany_27 : decode cX8_doneMany 27 = .ok (.iconst 0, 1) := by decide +kernel
theorem dX8_doneMany_28 : decode cX8_doneMany 28 = .ok (.iadd, 1) := by decide +kernel
theorem dX8_doneMany_29 : decode cX8_doneMany 29 = .ok (.istore_n 1, 1) := by decide +kernel
theorem dX8_doneMany_30 : decode cX8_doneMany 30 = .ok (.iinc 2 1, 3) := by decide +kernel
theorem dX8_doneMany_33 : decode cX8_doneMany 33 = .ok (.goto (-29), 3) := by decide +kernel
theorem dX8_doneMany_36 : decode cX8_doneMany 36 = .ok (.iload_n 1, 1) := by decide +kernel
theorem dX8_doneMany_37 : decode cX8_doneMany 37 = .ok (.ireturn, 1) := by decide +kernel
theorem dX8_worthAll_0 : decode cX8_worthAll 0 = .ok (.iconst 0, 1) := by decide +kernel
theorem dX8_worthAll_1 : decode cX8_worthAll 1 = .ok (.istore_n 1, 1) := by decide +kernel
theorem dX8_worthAll_2 : decode cX8_worthAll 2 = .ok (.iconst 0, 1) := by decide +kernel
theorem dX8_worthAll_3 : decode cX8_worthAll 3 = .ok (.istore_n 2, 1) := by decide +kernel
theorem dX8_worthAll_4 : decode cX8_worthAll 4 = .ok (.iload_n 2, 1) := by decide +kernel
theorem dX8_worthAll_5 : decode cX8_worthAll 5 = .ok (.aload_n 0, 1) := by decide +kernel
theorem dX8_worthAll_6 : decode cX8_worthAll 6 = .ok (.getfield 127, 3) := by decide +kernel
theorem dX8_worthAll_9 : decode cX8_worthAll 9 = .ok (.if_icmp .ge 32, 3) := by decide +kernel
theorem dX8_worthAll_12 : decode cX8_worthAll 12 = .ok (.iload_n 1, 1) := by decide +kernel
theorem dX8_worthAll_13 : decode cX8_worthAll 13 = .ok (.aload_n 0, 1) := by decide +kernel
theorem dX8_worthAll_14 : decode cX8_worthAll 14 = .ok (.getfield 29, 3) := by decide +kernel
theorem dX8_worthAll_17 : decode cX8_worthAll 17 = .ok (.iload_n 2, 1) := by decide +kernel
theorem dX8_worthAll_18 : decode cX8_worthAll 18 = .ok (.iaload, 1) := by decide +kernel
theorem dX8_worthAll_19 : decode cX8_worthAll 19 = .ok (.iconst 3, 1) := by decide +kernel
theorem dX8_worthAll_20 : decode cX8_worthAll 20 = .ok (.if_icmp .ne 12, 3) := by decide +kernel
theorem dX8_worthAll_23 : decode cX8_worthAll 23 = .ok (.aload_n 0, 1) := by decide +kernel
theorem dX8_worthAll_24 : decode cX8_worthAll 24 = .ok (.getfield 38, 3) := by decide +kernel
theorem dX8_worthAll_27 : decode cX8_worthAll 27 = .ok (.iload_n 2, 1) := by decide +kernel
theorem dX8_worthAll_28 : decode cX8_worthAll 28 = .ok (.iaload, 1) := by decide +kernel
theorem dX8_worthAll_29 : decode cX8_worthAll 29 = .ok (.goto 4, 3) := by decide +kernel
theorem dX8_worthAll_32 : decode cX8_worthAll 32 = .ok (.iconst 0, 1) := by decide +kernel
theorem dX8_worthAll_33 : decode cX8_worthAll 33 = .ok (.iadd, 1) := by decide +kernel
theorem dX8_worthAll_34 : decode cX8_worthAll 34 = .ok (.istore_n 1, 1) := by decide +kernel
theorem dX8_worthAll_35 : decode cX8_worthAll 35 = .ok (.iinc 2 1, 3) := by decide +kernel
theorem dX8_worthAll_38 : decode cX8_worthAll 38 = .ok (.goto (-34), 3) := by decide +kernel
theorem dX8_worthAll_41 : decode cX8_worthAll 41 = .ok (.iload_n 1, 1) := by decide +kernel
theorem dX8_worthAll_42 : decode cX8_worthAll 42 = .ok (.ireturn, 1) := by decide +kernel
theorem dX8_ofArms_0 : decode cX8_ofArms 0 = .ok (.iconst 0, 1) := by decide +kernel
theorem dX8_ofArms_1 : decode cX8_ofArms 1 = .ok (.istore_n 2, 1) := by decide +kernel
theorem dX8_ofArms_2 : decode cX8_ofArms 2 = .ok (.iconst 0, 1) := by decide +kernel
theorem dX8_ofArms_3 : decode cX8_ofArms 3 = .ok (.istore_n 3, 1) := by decide +kernel
theorem dX8_ofArms_4 : decode cX8_ofArms 4 = .ok (.iload_n 3, 1) := by decide +kernel
theorem dX8_ofArms_5 : decode cX8_ofArms 5 = .ok (.aload_n 0, 1) := by decide +kernel
theorem dX8_ofArms_6 : decode cX8_ofArms 6 = .ok (.getfield 7, 3) := by decide +kernel
theorem dX8_ofArms_9 : decode cX8_ofArms 9 = .ok (.if_icmp .ge 32, 3) := by decide +kernel
theorem dX8_ofArms_12 : decode cX8_ofArms 12 = .ok (.iload_n 2, 1) := by decide +kernel
theorem dX8_ofArms_13 : decode cX8_ofArms 13 = .ok (.iload_n 1, 1) := by decide +kernel
theorem dX8_ofArms_14 : decode cX8_ofArms 14 = .ok (.iconst 2, 1) := by decide +kernel
theorem dX8_ofArms_15 : decode cX8_ofArms 15 = .ok (.if_icmp .ne 12, 3) := by decide +kernel
theorem dX8_ofArms_18 : decode cX8_ofArms 18 = .ok (.aload_n 0, 1) := by decide +kernel
theorem dX8_ofArms_19 : decode cX8_ofArms 19 = .ok (.getfield 23, 3) := by decide +kernel
theorem dX8_ofArms_22 : decode cX8_ofArms 22 = .ok (.iload_n 3, 1) := by decide +kernel
theorem dX8_ofArms_23 : decode cX8_ofArms 23 = .ok (.iaload, 1) := by decide +kernel
theorem dX8_ofArms_24 : decode cX8_ofArms 24 = .ok (.goto 9, 3) := by decide +kernel
theorem dX8_ofArms_27 : decode cX8_ofArms 27 = .ok (.aload_n 0, 1) := by decide +kernel
theorem dX8_ofArms_28 : decode cX8_ofArms 28 = .ok (.getfield 26, 3) := by decide +kernel
theorem dX8_ofArms_31 : decode cX8_ofArms 31 = .ok (.iload_n 3, 1) := by decide +kernel
theorem dX8_ofArms_32 : decode cX8_ofArms 32 = .ok (.iaload, 1) := by decide +kernel
theorem dX8_ofArms_33 : decode cX8_ofArms 33 = .ok (.iadd, 1) := by decide +kernel
theorem dX8_ofArms_34 : decode cX8_ofArms 34 = .ok (.istore_n 2, 1) := by decide +kernel
theorem dX8_ofArms_35 : decode cX8_ofArms 35 = .ok (.iinc 3 1, 3) := by decide +kernel
theorem dX8_ofArms_38 : decode cX8_ofArms 38 = .ok (.goto (-34), 3) := by decide +kernel
theorem dX8_ofArms_41 : decode cX8_ofArms 41 = .ok (.iload_n 2, 1) := by decide +kernel
theorem dX8_ofArms_42 : decode cX8_ofArms 42 = .ok (.ireturn, 1) := by decide +kernel
theorem dX8_on_0 : decode cX8_on 0 = .ok (.aload_n 0, 1) := by decide +kernel
theorem dX8_on_1 : decode cX8_on 1 = .ok (.iconst 0, 1) := by decide +kernel
theorem dX8_on_2 : decode cX8_on 2 = .ok (.putfield 124, 3) := by decide +kernel
theorem dX8_on_5 : decode cX8_on 5 = .ok (.iload_n 2, 1) := by decide +kernel
theorem dX8_on_6 : decode cX8_on 6 = .ok (.i2l, 1) := by decide +kernel
theorem dX8_on_7 : decode cX8_on 7 = .ok (.lconst 0, 1) := by decide +kernel
theorem dX8_on_8 : decode cX8_on 8 = .ok (.ldc2_w 302, 3) := by decide +kernel
theorem dX8_on_11 : decode cX8_on 11 = .ok (.invokestatic 130, 3) := by decide +kernel
theorem dX8_on_14 : decode cX8_on 14 = .ok (.ifCond .ne 5, 3) := by decide +kernel
theorem dX8_on_17 : decode cX8_on 17 = .ok (.iconst (-1), 1) := by decide +kernel
theorem dX8_on_18 : decode cX8_on 18 = .ok (.ireturn, 1) := by decide +kernel
theorem dX8_on_19 : decode cX8_on 19 = .ok (.iload_n 1, 1) := by decide +kernel
theorem dX8_on_20 : decode cX8_on 20 = .ok (.i2l, 1) := by decide +kernel
theorem dX8_on_21 : decode cX8_on 21 = .ok (.lconst 0, 1) := by decide +kernel
theorem dX8_on_22 : decode cX8_on 22 = .ok (.ldc2_w 304, 3) := by decide +kernel
theorem dX8_on_25 : decode cX8_on 25 = .ok (.invokestatic 130, 3) := by decide +kernel
theorem dX8_on_28 : decode cX8_on 28 = .ok (.ifCond .ne 6, 3) := by decide +kernel
theorem dX8_on_31 : decode cX8_on 31 = .ok (.bipush (-2), 2) := by decide +kernel
theorem dX8_on_33 : decode cX8_on 33 = .ok (.ireturn, 1) := by decide +kernel
theorem dX8_on_34 : decode cX8_on 34 = .ok (.aload_n 0, 1) := by decide +kernel
theorem dX8_on_35 : decode cX8_on 35 = .ok (.invokevirtual 315, 3) := by decide +kernel
theorem dX8_on_38 : decode cX8_on 38 = .ok (.aload_n 0, 1) := by decide +kernel
theorem dX8_on_39 : decode cX8_on 39 = .ok (.iload_n 1, 1) := by decide +kernel
theorem dX8_on_40 : decode cX8_on 40 = .ok (.invokevirtual 306, 3) := by decide +kernel
theorem dX8_on_43 : decode cX8_on 43 = .ok (.iload_n 2, 1) := by decide +kernel
theorem dX8_on_44 : decode cX8_on 44 = .ok (.ifCond .ne 10, 3) := by decide +kernel
theorem dX8_on_47 : decode cX8_on 47 = .ok (.aload_n 0, 1) := by decide +kernel
theorem dX8_on_48 : decode cX8_on 48 = .ok (.invokevirtual 330, 3) := by decide +kernel
theorem dX8_on_51 : decode cX8_on 51 = .ok (.goto 20, 3) := by decide +kernel
theorem dX8_on_54 : decode cX8_on 54 = .ok (.iload_n 2, 1) := by decide +kernel
theorem dX8_on_55 : decode cX8_on 55 = .ok (.iconst 1, 1) := by decide +kernel
theorem dX8_on_56 : decode cX8_on 56 = .ok (.if_icmp .ne 10, 3) := by decide +kernel
theorem dX8_on_59 : decode cX8_on 59 = .ok (.aload_n 0, 1) := by decide +kernel
theorem dX8_on_60 : decode cX8_on 60 = .ok (.invokevirtual 333, 3) := by decide +kernel
theorem dX8_on_63 : decode cX8_on 63 = .ok (.goto 8, 3) := by decide +kernel
theorem dX8_on_66 : decode cX8_on 66 = .ok (.aload_n 0, 1) := by decide +kernel
theorem dX8_on_67 : decode cX8_on 67 = .ok (.iload_n 2, 1) := by decide +kernel
theorem dX8_on_68 : decode cX8_on 68 = .ok (.invokevirtual 336, 3) := by decide +kernel
theorem dX8_on_71 : decode cX8_on 71 = .ok (.istore_n 3, 1) := by decide +kernel
theorem dX8_on_72 : decode cX8_on 72 = .ok (.aload_n 0, 1) := by decide +kernel
theorem dX8_on_73 : decode cX8_on 73 = .ok (.invokevirtual 321, 3) := by decide +kernel
theorem dX8_on_76 : decode cX8_on 76 = .ok (.iload_n 3, 1) := by decide +kernel
theorem dX8_on_77 : decode cX8_on 77 = .ok (.ireturn, 1) := by decide +kernel
theorem dX8_till_0 : decode cX8_till 0 = .ok (.aload_n 0, 1) := by decide +kernel
theorem dX8_till_1 : decode cX8_till 1 = .ok (.iconst 0, 1) := by decide +kernel
theorem dX8_till_2 : decode cX8_till 2 = .ok (.putfield 124, 3) := by decide +kernel
theorem dX8_till_5 : decode cX8_till 5 = .ok (.iload_n 1, 1) := by decide +kernel
theorem dX8_till_6 : decode cX8_till 6 = .ok (.i2l, 1) := by decide +kernel
theorem dX8_till_7 : decode cX8_till 7 = .ok (.lconst 1, 1) := by decide +kernel
theorem dX8_till_8 : decode cX8_till 8 = .ok (.ldc2_w 236, 3) := by decide +kernel
theorem dX8_till_11 : decode cX8_till 11 = .ok (.invokestatic 130, 3) := by decide +kernel
theorem dX8_till_14 : decode cX8_till 14 = .ok (.ifCond .eq 11, 3) := by decide +kernel
theorem dX8_till_17 : decode cX8_till 17 = .ok (.aload_n 0, 1) := by decide +kernel
theorem dX8_till_18 : decode cX8_till 18 = .ok (.iload_n 1, 1) := by decide +kernel
theorem dX8_till_19 : decode cX8_till 19 = .ok (.invokevirtual 324, 3) := by decide +kernel
theorem dX8_till_22 : decode cX8_till 22 = .ok (.goto 5, 3) := by decide +kernel
theorem dX8_till_25 : decode cX8_till 25 = .ok (.bipush (-2), 2) := by decide +kernel
theorem dX8_till_27 : decode cX8_till 27 = .ok (.ireturn, 1) := by decide +kernel
theorem dX8_see_0 : decode cX8_see 0 = .ok (.aload_n 0, 1) := by decide +kernel
theorem dX8_see_1 : decode cX8_see 1 = .ok (.iconst 0, 1) := by decide +kernel
theorem dX8_see_2 : decode cX8_see 2 = .ok (.putfield 124, 3) := by decide +kernel
theorem dX8_see_5 : decode cX8_see 5 = .ok (.iload_n 1, 1) := by decide +kernel
theorem dX8_see_6 : decode cX8_see 6 = .ok (.iconst (-1), 1) := by decide +kernel
theorem dX8_see_7 : decode cX8_see 7 = .ok (.if_icmp .ne 10, 3) := by decide +kernel
theorem dX8_see_10 : decode cX8_see 10 = .ok (.aload_n 0, 1) := by decide +kernel
theorem dX8_see_11 : decode cX8_see 11 = .ok (.iconst 0, 1) := by decide +kernel
theorem dX8_see_12 : decode cX8_see 12 = .ok (.putfield 144, 3) := by decide +kernel
theorem dX8_see_15 : decode cX8_see 15 = .ok (.iconst 0, 1) := by decide +kernel
theorem dX8_see_16 : decode cX8_see 16 = .ok (.ireturn, 1) := by decide +kernel
theorem dX8_see_17 : decode cX8_see 17 = .ok (.aload_n 0, 1) := by decide +kernel
theorem dX8_see_18 : decode cX8_see 18 = .ok (.iload_n 1, 1) := by decide +kernel
theorem dX8_see_19 : decode cX8_see 19 = .ok (.invokevirtual 290, 3) := by decide +kernel
theorem dX8_see_22 : decode cX8_see 22 = .ok (.ifCond .ne 5, 3) := by decide +kernel
theorem dX8_see_25 : decode cX8_see 25 = .ok (.iconst (-1), 1) := by decide +kernel
theorem dX8_see_26 : decode cX8_see 26 = .ok (.ireturn, 1) := by decide +kernel
theorem dX8_see_27 : decode cX8_see 27 = .ok (.iload_n 2, 1) := by decide +kernel
theorem dX8_see_28 : decode cX8_see 28 = .ok (.i2l, 1) := by decide +kernel
theorem dX8_see_29 : decode cX8_see 29 = .ok (.lconst 0, 1) := by decide +kernel
theorem dX8_see_30 : decode cX8_see 30 = .ok (.ldc2_w 339, 3) := by decide +kernel
theorem dX8_see_33 : decode cX8_see 33 = .ok (.invokestatic 130, 3) := by decide +kernel
theorem dX8_see_36 : decode cX8_see 36 = .ok (.ifCond .ne 6, 3) := by decide +kernel
theorem dX8_see_39 : decode cX8_see 39 = .ok (.bipush (-2), 2) := by decide +kernel
theorem dX8_see_41 : decode cX8_see 41 = .ok (.ireturn, 1) := by decide +kernel
theorem dX8_see_42 : decode cX8_see 42 = .ok (.aload_n 0, 1) := by decide +kernel
theorem dX8_see_43 : decode cX8_see 43 = .ok (.getfield 144, 3) := by decide +kernel
theorem dX8_see_46 : decode cX8_see 46 = .ok (.iconst 5, 1) := by decide +kernel
theorem dX8_see_47 : decode cX8_see 47 = .ok (.if_icmp .ne 6, 3) := by decide +kernel
theorem dX8_see_50 : decode cX8_see 50 = .ok (.bipush (-4), 2) := by decide +kernel
theorem dX8_see_52 : decode cX8_see 52 = .ok (.ireturn, 1) := by decide +kernel
theorem dX8_see_53 : decode cX8_see 53 = .ok (.aload_n 0, 1) := by decide +kernel
theorem dX8_see_54 : decode cX8_see 54 = .ok (.getfield 56, 3) := by decide +kernel
theorem dX8_see_57 : decode cX8_see 57 = .ok (.aload_n 0, 1) := by decide +kernel
theorem dX8_see_58 : decode cX8_see 58 = .ok (.getfield 144, 3) := by decide +kernel
theorem dX8_see_61 : decode cX8_see 61 = .ok (.iload_n 1, 1) := by decide +kernel
theorem dX8_see_62 : decode cX8_see 62 = .ok (.iastore, 1) := by decide +kernel
theorem dX8_see_63 : decode cX8_see 63 = .ok (.aload_n 0, 1) := by decide +kernel
theorem dX8_see_64 : decode cX8_see 64 = .ok (.getfield 59, 3) := by decide +kernel
theorem dX8_see_67 : decode cX8_see 67 = .ok (.aload_n 0, 1) := by decide +kernel
theorem dX8_see_68 : decode cX8_see 68 = .ok (.getfield 144, 3) := by decide +kernel
theorem dX8_see_71 : decode cX8_see 71 = .ok (.iload_n 2, 1) := by decide +kernel
theorem dX8_see_72 : decode cX8_see 72 = .ok (.iastore, 1) := by decide +kernel
theorem dX8_see_73 : decode cX8_see 73 = .ok (.aload_n 0, 1) := by decide +kernel
theorem dX8_see_74 : decode cX8_see 74 = .ok (.dup, 1) := by decide +kernel
theorem dX8_see_75 : decode cX8_see 75 = .ok (.getfield 144, 3) := by decide +kernel
theorem dX8_see_78 : decode cX8_see 78 = .ok (.iconst 1, 1) := by decide +kernel
theorem dX8_see_79 : decode cX8_see 79 = .ok (.iadd, 1) := by decide +kernel
theorem dX8_see_80 : decode cX8_see 80 = .ok (.putfield 144, 3) := by decide +kernel
theorem dX8_see_83 : decode cX8_see 83 = .ok (.aload_n 0, 1) := by decide +kernel
theorem dX8_see_84 : decode cX8_see 84 = .ok (.getfield 144, 3) := by decide +kernel
theorem dX8_see_87 : decode cX8_see 87 = .ok (.ireturn, 1) := by decide +kernel
theorem dX8_allSeen_0 : decode cX8_allSeen 0 = .ok (.iconst (-1), 1) := by decide +kernel
theorem dX8_allSeen_1 : decode cX8_allSeen 1 = .ok (.istore_n 2, 1) := by decide +kernel
theorem dX8_allSeen_2 : decode cX8_allSeen 2 = .ok (.iconst 0, 1) := by decide +kernel
theorem dX8_allSeen_3 : decode cX8_allSeen 3 = .ok (.istore_n 3, 1) := by decide +kernel
theorem dX8_allSeen_4 : decode cX8_allSeen 4 = .ok (.iload_n 3, 1) := by decide +kernel
theorem dX8_allSeen_5 : decode cX8_allSeen 5 = .ok (.aload_n 0, 1) := by decide +kernel
theorem dX8_allSeen_6 : decode cX8_allSeen 6 = .ok (.getfield 144, 3) := by decide +kernel
theorem dX8_allSeen_9 : decode cX8_allSeen 9 = .ok (.if_icmp .ge 30, 3) := by decide +kernel
theorem dX8_allSeen_12 : decode cX8_allSeen 12 = .ok (.aload_n 0, 1) := by decide +kernel
theorem dX8_allSeen_13 : decode cX8_allSeen 13 = .ok (.getfield 59, 3) := by decide +kernel
theorem dX8_allSeen_16 : decode cX8_allSeen 16 = .ok (.iload_n 3, 1) := by decide +kernel
theorem dX8_allSeen_17 : decode cX8_allSeen 17 = .ok (.iaload, 1) := by decide +kernel
theorem dX8_allSeen_18 : decode cX8_allSeen 18 = .ok (.iload_n 2, 1) := by decide +kernel
theorem dX8_allSeen_19 : decode cX8_allSeen 19 = .ok (.if_icmp .le 12, 3) := by decide +kernel
theorem dX8_allSeen_22 : decode cX8_allSeen 22 = .ok (.aload_n 0, 1) := by decide +kernel
theorem dX8_allSeen_23 : decode cX8_allSeen 23 = .ok (.getfield 59, 3) := by decide +kernel
theorem dX8_allSeen_26 : decode cX8_allSeen 26 = .ok (.iload_n 3, 1) := by decide +kernel
theorem dX8_allSeen_27 : decode cX8_allSeen 27 = .ok (.iaload, 1) := by decide +kernel
theorem dX8_allSeen_28 : decode cX8_allSeen 28 = .ok (.goto 4, 3) := by decide +kernel
theorem dX8_allSeen_31 : decode cX8_allSeen 31 = .ok (.iload_n 2, 1) := by decide +kernel
theorem dX8_allSeen_32 : decode cX8_allSeen 32 = .ok (.istore_n 2, 1) := by decide +kernel
theorem dX8_allSeen_33 : decode cX8_allSeen 33 = .ok (.iinc 3 1, 3) := by decide +kernel
theorem dX8_allSeen_36 : decode cX8_allSeen 36 = .ok (.goto (-32), 3) := by decide +kernel
theorem dX8_allSeen_39 : decode cX8_allSeen 39 = .ok (.aload_n 0, 1) := by decide +kernel
theorem dX8_allSeen_40 : decode cX8_allSeen 40 = .ok (.iload_n 1, 1) := by decide +kernel
theorem dX8_allSeen_41 : decode cX8_allSeen 41 = .ok (.putfield 50, 3) := by decide +kernel
theorem dX8_allSeen_44 : decode cX8_allSeen 44 = .ok (.aload_n 0, 1) := by decide +kernel
theorem dX8_allSeen_45 : decode cX8_allSeen 45 = .ok (.iconst 0, 1) := by decide +kernel
theorem dX8_allSeen_46 : decode cX8_allSeen 46 = .ok (.putfield 176, 3) := by decide +kernel
theorem dX8_allSeen_49 : decode cX8_allSeen 49 = .ok (.aload_n 0, 1) := by decide +kernel
theorem dX8_allSeen_50 : decode cX8_allSeen 50 = .ok (.iconst 0, 1) := by decide +kernel
theorem dX8_allSeen_51 : decode cX8_allSeen 51 = .ok (.putfield 173, 3) := by decide +kernel
theorem dX8_allSeen_54 : decode cX8_allSeen 54 = .ok (.iconst 0, 1) := by decide +kernel
theorem dX8_allSeen_55 : decode cX8_allSeen 55 = .ok (.istore_n 3, 1) := by decide +kernel
theorem dX8_allSeen_56 : decode cX8_allSeen 56 = .ok (.iload_n 3, 1) := by decide +kernel
theorem dX8_allSeen_57 : decode cX8_allSeen 57 = .ok (.bipush 60, 2) := by decide +kernel
theorem dX8_allSeen_59 : decode cX8_allSeen 59 = .ok (.if_icmp .ge 28, 3) := by decide +kernel
theorem dX8_allSeen_62 : decode cX8_allSeen 62 = .ok (.aload_n 0, 1) := by decide +kernel
theorem dX8_allSeen_63 : decode cX8_allSeen 63 = .ok (.getfield 176, 3) := by decide +kernel
theorem dX8_allSeen_66 : decode cX8_allSeen 66 = .ok (.iload_n 2, 1) := by decide +kernel
theorem dX8_allSeen_67 : decode cX8_allSeen 67 = .ok (.if_icmp .gt 20, 3) := by decide +kernel
theorem dX8_allSeen_70 : decode cX8_allSeen 70 = .ok (.aload_n 0, 1) := by decide +kernel
theorem dX8_allSeen_71 : decode cX8_allSeen 71 = .ok (.getfield 173, 3) := by decide +kernel
theorem dX8_allSeen_74 : decode cX8_allSeen 74 = .ok (.ifCond .ne 13, 3) := by decide +kernel
theorem dX8_allSeen_77 : decode cX8_allSeen 77 = .ok (.aload_n 0, 1) := by decide +kernel
theorem dX8_allSeen_78 : decode cX8_allSeen 78 = .ok (.invokevirtual 233, 3) := by decide +kernel
theorem dX8_allSeen_81 : decode cX8_allSeen 81 = .ok (.iinc 3 1, 3) := by decide +kernel
theorem dX8_allSeen_84 : decode cX8_allSeen 84 = .ok (.goto (-28), 3) := by decide +kernel
theorem dX8_allSeen_87 : decode cX8_allSeen 87 = .ok (.aload_n 0, 1) := by decide +kernel
theorem dX8_allSeen_88 : decode cX8_allSeen 88 = .ok (.getfield 176, 3) := by decide +kernel
theorem dX8_allSeen_91 : decode cX8_allSeen 91 = .ok (.iload_n 2, 1) := by decide +kernel
theorem dX8_allSeen_92 : decode cX8_allSeen 92 = .ok (.if_icmp .le 14, 3) := by decide +kernel
theorem dX8_allSeen_95 : decode cX8_allSeen 95 = .ok (.aload_n 0, 1) := by decide +kernel
theorem dX8_allSeen_96 : decode cX8_allSeen 96 = .ok (.getfield 173, 3) := by decide +kernel
theorem dX8_allSeen_99 : decode cX8_allSeen 99 = .ok (.ifCond .ne 7, 3) := by decide +kernel
theorem dX8_allSeen_102 : decode cX8_allSeen 102 = .ok (.iconst 1, 1) := by decide +kernel
theorem dX8_allSeen_103 : decode cX8_allSeen 103 = .ok (.goto 4, 3) := by decide +kernel
theorem dX8_allSeen_106 : decode cX8_allSeen 106 = .ok (.iconst 0, 1) := by decide +kernel
theorem dX8_allSeen_107 : decode cX8_allSeen 107 = .ok (.istore_n 3, 1) := by decide +kernel
theorem dX8_allSeen_108 : decode cX8_allSeen 108 = .ok (.aload_n 0, 1) := by decide +kernel
theorem dX8_allSeen_109 : decode cX8_allSeen 109 = .ok (.invokevirtual 321, 3) := by decide +kernel
theorem dX8_allSeen_112 : decode cX8_allSeen 112 = .ok (.iload_n 3, 1) := by decide +kernel
theorem dX8_allSeen_113 : decode cX8_allSeen 113 = .ok (.ireturn, 1) := by decide +kernel
theorem dX8_seeds_0 : decode cX8_seeds 0 = .ok (.aload_n 0, 1) := by decide +kernel
theorem dX8_seeds_1 : decode cX8_seeds 1 = .ok (.iconst 0, 1) := by decide +kernel
theorem dX8_seeds_2 : decode cX8_seeds 2 = .ok (.putfield 124, 3) := by decide +kernel
theorem dX8_seeds_5 : decode cX8_seeds 5 = .ok (.iconst 0, 1) := by decide +kernel
theorem dX8_seeds_6 : decode cX8_seeds 6 = .ok (.istore_n 1, 1) := by decide +kernel
theorem dX8_seeds_7 : decode cX8_seeds 7 = .ok (.aload_n 0, 1) := by decide +kernel
theorem dX8_seeds_8 : decode cX8_seeds 8 = .ok (.invokevirtual 315, 3) := by decide +kernel
theorem dX8_seeds_11 : decode cX8_seeds 11 = .ok (.iconst 0, 1) := by decide +kernel
theorem dX8_seeds_12 : decode cX8_seeds 12 = .ok (.istore_n 2, 1) := by decide +kernel
theorem dX8_seeds_13 : decode cX8_seeds 13 = .ok (.iload_n 2, 1) := by decide +kernel
theorem dX8_seeds_14 : decode cX8_seeds 14 = .ok (.bipush 30, 2) := by decide +kernel
theorem dX8_seeds_16 : decode cX8_seeds 16 = .ok (.if_icmp .gt 27, 3) := by decide +kernel
theorem dX8_seeds_19 : decode cX8_seeds 19 = .ok (.iload_n 1, 1) := by decide +kernel
theorem dX8_seeds_20 : decode cX8_seeds 20 = .ok (.aload_n 0, 1) := by decide +kernel
theorem dX8_seeds_21 : decode cX8_seeds 21 = .ok (.iload_n 2, 1) := by decide +kernel
theorem dX8_seeds_22 : decode cX8_seeds 22 = .ok (.invokevirtual 341, 3) := by decide +kernel
theorem dX8_seeds_25 : decode cX8_seeds 25 = .ok (.ifCond .eq 9, 3) := by decide +kernel
theorem dX8_seeds_28 : decode cX8_seeds 28 = .ok (.iconst 1, 1) := by decide +kernel
theorem dX8_seeds_29 : decode cX8_seeds 29 = .ok (.iload_n 2, 1) := by decide +kernel
theorem dX8_seeds_30 : decode cX8_seeds 30 = .ok (.ishl, 1) := by decide +kernel
theorem dX8_seeds_31 : decode cX8_seeds 31 = .ok (.goto 4, 3) := by decide +kernel
theorem dX8_seeds_34 : decode cX8_seeds 34 = .ok (.iconst 0, 1) := by decide +kernel
theorem dX8_seeds_35 : decode cX8_seeds 35 = .ok (.ior, 1) := by decide +kernel
theorem dX8_seeds_36 : decode cX8_seeds 36 = .ok (.istore_n 1, 1) := by decide +kernel
theorem dX8_seeds_37 : decode cX8_seeds 37 = .ok (.iinc 2 1, 3) := by decide +kernel
theorem dX8_seeds_40 : decode cX8_seeds 40 = .ok (.goto (-27), 3) := by decide +kernel
theorem dX8_seeds_43 : decode cX8_seeds 43 = .ok (.iload_n 1, 1) := by decide +kernel
theorem dX8_seeds_44 : decode cX8_seeds 44 = .ok (.ireturn, 1) := by decide +kernel
theorem dX8_divisor_0 : decode cX8_divisor 0 = .ok (.lload_n 0, 1) := by decide +kernel
theorem dX8_divisor_1 : decode cX8_divisor 1 = .ok (.lstore 4, 2) := by decide +kernel
theorem dX8_divisor_3 : decode cX8_divisor 3 = .ok (.lload_n 2, 1) := by decide +kernel
theorem dX8_divisor_4 : decode cX8_divisor 4 = .ok (.lstore 6, 2) := by decide +kernel
theorem dX8_divisor_6 : decode cX8_divisor 6 = .ok (.lload 6, 2) := by decide +kernel
theorem dX8_divisor_8 : decode cX8_divisor 8 = .ok (.lconst 0, 1) := by decide +kernel
theorem dX8_divisor_9 : decode cX8_divisor 9 = .ok (.lcmp, 1) := by decide +kernel
theorem dX8_divisor_10 : decode cX8_divisor 10 = .ok (.ifCond .eq 21, 3) := by decide +kernel
theorem dX8_divisor_13 : decode cX8_divisor 13 = .ok (.lload 4, 2) := by decide +kernel
theorem dX8_divisor_15 : decode cX8_divisor 15 = .ok (.lload 6, 2) := by decide +kernel
theorem dX8_divisor_17 : decode cX8_divisor 17 = .ok (.lrem, 1) := by decide +kernel
theorem dX8_divisor_18 : decode cX8_divisor 18 = .ok (.lstore 8, 2) := by decide +kernel
theorem dX8_divisor_20 : decode cX8_divisor 20 = .ok (.lload 6, 2) := by decide +kernel
theorem dX8_divisor_22 : decode cX8_divisor 22 = .ok (.lstore 4, 2) := by decide +kernel
theorem dX8_divisor_24 : decode cX8_divisor 24 = .ok (.lload 8, 2) := by decide +kernel
theorem dX8_divisor_26 : decode cX8_divisor 26 = .ok (.lstore 6, 2) := by decide +kernel
theorem dX8_divisor_28 : decode cX8_divisor 28 = .ok (.goto (-22), 3) := by decide +kernel
theorem dX8_divisor_31 : decode cX8_divisor 31 = .ok (.lload 4, 2) := by decide +kernel
theorem dX8_divisor_33 : decode cX8_divisor 33 = .ok (.lreturn, 1) := by decide +kernel
theorem dX8_partOf_0 : decode cX8_partOf 0 = .ok (.lload_n 0, 1) := by decide +kernel
theorem dX8_partOf_1 : decode cX8_partOf 1 = .ok (.lload_n 2, 1) := by decide +kernel
theorem dX8_partOf_2 : decode cX8_partOf 2 = .ok (.invokestatic 344, 3) := by decide +kernel
theorem dX8_partOf_5 : decode cX8_partOf 5 = .ok (.lstore 5, 2) := by decide +kernel
theorem dX8_partOf_7 : decode cX8_partOf 7 = .ok (.iload 4, 2) := by decide +kernel
theorem dX8_partOf_9 : decode cX8_partOf 9 = .ok (.ifCond .ne 10, 3) := by decide +kernel
theorem dX8_partOf_12 : decode cX8_partOf 12 = .ok (.lload_n 0, 1) := by decide +kernel
theorem dX8_partOf_13 : decode cX8_partOf 13 = .ok (.lload 5, 2) := by decide +kernel
theorem dX8_partOf_15 : decode cX8_partOf 15 = .ok (.ldiv, 1) := by decide +kernel
theorem dX8_partOf_16 : decode cX8_partOf 16 = .ok (.goto 7, 3) := by decide +kernel
theorem dX8_partOf_19 : decode cX8_partOf 19 = .ok (.lload_n 2, 1) := by decide +kernel
theorem dX8_partOf_20 : decode cX8_partOf 20 = .ok (.lload 5, 2) := by decide +kernel
theorem dX8_partOf_22 : decode cX8_partOf 22 = .ok (.ldiv, 1) := by decide +kernel
theorem dX8_partOf_23 : decode cX8_partOf 23 = .ok (.lreturn, 1) := by decide +kernel
theorem dX8_odds_0 : decode cX8_odds 0 = .ok (.aload_n 0, 1) := by decide +kernel
theorem dX8_odds_1 : decode cX8_odds 1 = .ok (.iconst 0, 1) := by decide +kernel
theorem dX8_odds_2 : decode cX8_odds 2 = .ok (.putfield 124, 3) := by decide +kernel
theorem dX8_odds_5 : decode cX8_odds 5 = .ok (.iload_n 1, 1) := by decide +kernel
theorem dX8_odds_6 : decode cX8_odds 6 = .ok (.i2l, 1) := by decide +kernel
theorem dX8_odds_7 : decode cX8_odds 7 = .ok (.lconst 0, 1) := by decide +kernel
theorem dX8_odds_8 : decode cX8_odds 8 = .ok (.ldc2_w 304, 3) := by decide +kernel
theorem dX8_odds_11 : decode cX8_odds 11 = .ok (.invokestatic 130, 3) := by decide +kernel
theorem dX8_odds_14 : decode cX8_odds 14 = .ok (.ifCond .eq 13, 3) := by decide +kernel
theorem dX8_odds_17 : decode cX8_odds 17 = .ok (.iload_n 2, 1) := by decide +kernel
theorem dX8_odds_18 : decode cX8_odds 18 = .ok (.i2l, 1) := by decide +kernel
theorem dX8_odds_19 : decode cX8_odds 19 = .ok (.lconst 0, 1) := by decide +kernel
theorem dX8_odds_20 : decode cX8_odds 20 = .ok (.lconst 1, 1) := by decide +kernel
theorem dX8_odds_21 : decode cX8_odds 21 = .ok (.invokestatic 130, 3) := by decide +kernel
theorem dX8_odds_24 : decode cX8_odds 24 = .ok (.ifCond .ne 7, 3) := by decide +kernel
theorem dX8_odds_27 : decode cX8_odds 27 = .ok (.ldc2_w 348, 3) := by decide +kernel
theorem dX8_odds_30 : decode cX8_odds 30 = .ok (.lreturn, 1) := by decide +kernel
theorem dX8_odds_31 : decode cX8_odds 31 = .ok (.iconst 0, 1) := by decide +kernel
theorem dX8_odds_32 : decode cX8_odds 32 = .ok (.istore_n 3, 1) := by decide +kernel
theorem dX8_odds_33 : decode cX8_odds 33 = .ok (.aload_n 0, 1) := by decide +kernel
theorem dX8_odds_34 : decode cX8_odds 34 = .ok (.invokevirtual 315, 3) := by decide +kernel
theorem dX8_odds_37 : decode cX8_odds 37 = .ok (.iconst 0, 1) := by decide +kernel
theorem dX8_odds_38 : decode cX8_odds 38 = .ok (.istore 4, 2) := by decide +kernel
theorem dX8_odds_40 : decode cX8_odds 40 = .ok (.iload 4, 2) := by decide +kernel
theorem dX8_odds_42 : decode cX8_odds 42 = .ok (.bipush 20, 2) := by decide +kernel
theorem dX8_odds_44 : decode cX8_odds 44 = .ok (.if_icmp .ge 39, 3) := by decide +kernel
theorem dX8_odds_47 : decode cX8_odds 47 = .ok (.aload_n 0, 1) := by decide +kernel
theorem dX8_odds_48 : decode cX8_odds 48 = .ok (.iload 4, 2) := by decide +kernel
theorem dX8_odds_50 : decode cX8_odds 50 = .ok (.putfield 50, 3) := by decide +kernel
theorem dX8_odds_53 : decode cX8_odds 53 = .ok (.aload_n 0, 1) := by decide +kernel
theorem dX8_odds_54 : decode cX8_odds 54 = .ok (.iload_n 1, 1) := by decide +kernel
theorem dX8_odds_55 : decode cX8_odds 55 = .ok (.invokevirtual 306, 3) := by decide +kernel
theorem dX8_odds_58 : decode cX8_odds 58 = .ok (.iload_n 3, 1) := by decide +kernel
theorem dX8_odds_59 : decode cX8_odds 59 = .ok (.aload_n 0, 1) := by decide +kernel
theorem dX8_odds_60 : decode cX8_odds 60 = .ok (.invokevirtual 312, 3) := by decide +kernel
theorem dX8_odds_63 : decode cX8_odds 63 = .ok (.ifCond .eq 7, 3) := by decide +kernel
theorem dX8_odds_66 : decode cX8_odds 66 = .ok (.iconst 1, 1) := by decide +kernel
theorem dX8_odds_67 : decode cX8_odds 67 = .ok (.goto 4, 3) := by decide +kernel
theorem dX8_odds_70 : decode cX8_odds 70 = .ok (.iconst 0, 1) := by decide +kernel
theorem dX8_odds_71 : decode cX8_odds 71 = .ok (.iadd, 1) := by decide +kernel
theorem dX8_odds_72 : decode cX8_odds 72 = .ok (.istore_n 3, 1) := by decide +kernel
theorem dX8_odds_73 : decode cX8_odds 73 = .ok (.aload_n 0, 1) := by decide +kernel
theorem dX8_odds_74 : decode cX8_odds 74 = .ok (.invokevirtual 321, 3) := by decide +kernel
theorem dX8_odds_77 : decode cX8_odds 77 = .ok (.iinc 4 1, 3) := by decide +kernel
theorem dX8_odds_80 : decode cX8_odds 80 = .ok (.goto (-40), 3) := by decide +kernel
theorem dX8_odds_83 : decode cX8_odds 83 = .ok (.iload_n 3, 1) := by decide +kernel
theorem dX8_odds_84 : decode cX8_odds 84 = .ok (.i2l, 1) := by decide +kernel
theorem dX8_odds_85 : decode cX8_odds 85 = .ok (.ldc2_w 350, 3) := by decide +kernel
theorem dX8_odds_88 : decode cX8_odds 88 = .ok (.iload_n 2, 1) := by decide +kernel
theorem dX8_odds_89 : decode cX8_odds 89 = .ok (.invokestatic 352, 3) := by decide +kernel
theorem dX8_odds_92 : decode cX8_odds 92 = .ok (.lreturn, 1) := by decide +kernel
theorem dX8_mean_0 : decode cX8_mean 0 = .ok (.aload_n 0, 1) := by decide +kernel
theorem dX8_mean_1 : decode cX8_mean 1 = .ok (.iconst 0, 1) := by decide +kernel
theorem dX8_mean_2 : decode cX8_mean 2 = .ok (.putfield 124, 3) := by decide +kernel
theorem dX8_mean_5 : decode cX8_mean 5 = .ok (.iload_n 1, 1) := by decide +kernel
theorem dX8_mean_6 : decode cX8_mean 6 = .ok (.i2l, 1) := by decide +kernel
theorem dX8_mean_7 : decode cX8_mean 7 = .ok (.lconst 0, 1) := by decide +kernel
theorem dX8_mean_8 : decode cX8_mean 8 = .ok (.lconst 1, 1) := by decide +kernel
theorem dX8_mean_9 : decode cX8_mean 9 = .ok (.invokestatic 130, 3) := by decide +kernel
theorem dX8_mean_12 : decode cX8_mean 12 = .ok (.ifCond .eq 27, 3) := by decide +kernel
theorem dX8_mean_15 : decode cX8_mean 15 = .ok (.aload_n 0, 1) := by decide +kernel
theorem dX8_mean_16 : decode cX8_mean 16 = .ok (.invokevirtual 333, 3) := by decide +kernel
theorem dX8_mean_19 : decode cX8_mean 19 = .ok (.ifCond .le 20, 3) := by decide +kernel
theorem dX8_mean_22 : decode cX8_mean 22 = .ok (.aload_n 0, 1) := by decide +kernel
theorem dX8_mean_23 : decode cX8_mean 23 = .ok (.invokevirtual 356, 3) := by decide +kernel
theorem dX8_mean_26 : decode cX8_mean 26 = .ok (.i2l, 1) := by decide +kernel
theorem dX8_mean_27 : decode cX8_mean 27 = .ok (.aload_n 0, 1) := by decide +kernel
theorem dX8_mean_28 : decode cX8_mean 28 = .ok (.invokevirtual 333, 3) := by decide +kernel
theorem dX8_mean_31 : decode cX8_mean 31 = .ok (.i2l, 1) := by decide +kernel
theorem dX8_mean_32 : decode cX8_mean 32 = .ok (.iload_n 1, 1) := by decide +kernel
theorem dX8_mean_33 : decode cX8_mean 33 = .ok (.invokestatic 352, 3) := by decide +kernel
theorem dX8_mean_36 : decode cX8_mean 36 = .ok (.goto 6, 3) := by decide +kernel
theorem dX8_mean_39 : decode cX8_mean 39 = .ok (.ldc2_w 348, 3) := by decide +kernel
theorem dX8_mean_42 : decode cX8_mean 42 = .ok (.lreturn, 1) := by decide +kernel
theorem dX8_plan_0 : decode cX8_plan 0 = .ok (.aload_n 0, 1) := by decide +kernel
theorem dX8_plan_1 : decode cX8_plan 1 = .ok (.iconst 0, 1) := by decide +kernel
theorem dX8_plan_2 : decode cX8_plan 2 = .ok (.putfield 124, 3) := by decide +kernel
theorem dX8_plan_5 : decode cX8_plan 5 = .ok (.iload_n 1, 1) := by decide +kernel
theorem dX8_plan_6 : decode cX8_plan 6 = .ok (.iconst (-1), 1) := by decide +kernel
theorem dX8_plan_7 : decode cX8_plan 7 = .ok (.if_icmp .ne 10, 3) := by decide +kernel
theorem dX8_plan_10 : decode cX8_plan 10 = .ok (.aload_n 0, 1) := by decide +kernel
theorem dX8_plan_11 : decode cX8_plan 11 = .ok (.iconst 0, 1) := by decide +kernel
theorem dX8_plan_12 : decode cX8_plan 12 = .ok (.putfield 151, 3) := by decide +kernel
theorem dX8_plan_15 : decode cX8_plan 15 = .ok (.iconst 0, 1) := by decide +kernel
theorem dX8_plan_16 : decode cX8_plan 16 = .ok (.ireturn, 1) := by decide +kernel
theorem dX8_plan_17 : decode cX8_plan 17 = .ok (.iload_n 1, 1) := by decide +kernel
theorem dX8_plan_18 : decode cX8_plan 18 = .ok (.i2l, 1) := by decide +kernel
theorem dX8_plan_19 : decode cX8_plan 19 = .ok (.lconst 0, 1) := by decide +kernel
theorem dX8_plan_20 : decode cX8_plan 20 = .ok (.ldc2_w 359, 3) := by decide +kernel
theorem dX8_plan_23 : decode cX8_plan 23 = .ok (.invokestatic 130, 3) := by decide +kernel
theorem dX8_plan_26 : decode cX8_plan 26 = .ok (.ifCond .eq 16, 3) := by decide +kernel
theorem dX8_plan_29 : decode cX8_plan 29 = .ok (.iload_n 1, 1) := by decide +kernel
theorem dX8_plan_30 : decode cX8_plan 30 = .ok (.iconst 1, 1) := by decide +kernel
theorem dX8_plan_31 : decode cX8_plan 31 = .ok (.if_icmp .ne 13, 3) := by decide +kernel
theorem dX8_plan_34 : decode cX8_plan 34 = .ok (.aload_n 0, 1) := by decide +kernel
theorem dX8_plan_35 : decode cX8_plan 35 = .ok (.iload_n 2, 1) := by decide +kernel
theorem dX8_plan_36 : decode cX8_plan 36 = .ok (.invokevirtual 290, 3) := by decide +kernel
theorem dX8_plan_39 : decode cX8_plan 39 = .ok (.ifCond .ne 5, 3) := by decide +kernel
theorem dX8_plan_42 : decode cX8_plan 42 = .ok (.iconst (-1), 1) := by decide +kernel
theorem dX8_plan_43 : decode cX8_plan 43 = .ok (.ireturn, 1) := by decide +kernel
theorem dX8_plan_44 : decode cX8_plan 44 = .ok (.aload_n 0, 1) := by decide +kernel
theorem dX8_plan_45 : decode cX8_plan 45 = .ok (.getfield 151, 3) := by decide +kernel
theorem dX8_plan_48 : decode cX8_plan 48 = .ok (.bipush 10, 2) := by decide +kernel
theorem dX8_plan_50 : decode cX8_plan 50 = .ok (.if_icmp .ne 6, 3) := by decide +kernel
theorem dX8_plan_53 : decode cX8_plan 53 = .ok (.bipush (-4), 2) := by decide +kernel
theorem dX8_plan_55 : decode cX8_plan 55 = .ok (.ireturn, 1) := by decide +kernel
theorem dX8_plan_56 : decode cX8_plan 56 = .ok (.aload_n 0, 1) := by decide +kernel
theorem dX8_plan_57 : decode cX8_plan 57 = .ok (.getfield 62, 3) := by decide +kernel
theorem dX8_plan_60 : decode cX8_plan 60 = .ok (.aload_n 0, 1) := by decide +kernel
theorem dX8_plan_61 : decode cX8_plan 61 = .ok (.getfield 151, 3) := by decide +kernel
theorem dX8_plan_64 : decode cX8_plan 64 = .ok (.iload_n 1, 1) := by decide +kernel
theorem dX8_plan_65 : decode cX8_plan 65 = .ok (.iastore, 1) := by decide +kernel
theorem dX8_plan_66 : decode cX8_plan 66 = .ok (.aload_n 0, 1) := by decide +kernel
theorem dX8_plan_67 : decode cX8_plan 67 = .ok (.getfield 65, 3) := by decide +kernel
theorem dX8_plan_70 : decode cX8_plan 70 = .ok (.aload_n 0, 1) := by decide +kernel
theorem dX8_plan_71 : decode cX8_plan 71 = .ok (.getfield 151, 3) := by decide +kernel
theorem dX8_plan_74 : decode cX8_plan 74 = .ok (.iload_n 2, 1) := by decide +kernel
theorem dX8_plan_75 : decode cX8_plan 75 = .ok (.iastore, 1) := by decide +kernel
theorem dX8_plan_76 : decode cX8_plan 76 = .ok (.aload_n 0, 1) := by decide +kernel
theorem dX8_plan_77 : decode cX8_plan 77 = .ok (.dup, 1) := by decide +kernel
theorem dX8_plan_78 : decode cX8_plan 78 = .ok (.getfield 151, 3) := by decide +kernel
theorem dX8_plan_81 : decode cX8_plan 81 = .ok (.iconst 1, 1) := by decide +kernel
theorem dX8_plan_82 : decode cX8_plan 82 = .ok (.iadd, 1) := by decide +kernel
theorem dX8_plan_83 : decode cX8_plan 83 = .ok (.putfield 151, 3) := by decide +kernel
theorem dX8_plan_86 : decode cX8_plan 86 = .ok (.aload_n 0, 1) := by decide +kernel
theorem dX8_plan_87 : decode cX8_plan 87 = .ok (.getfield 151, 3) := by decide +kernel
theorem dX8_plan_90 : decode cX8_plan 90 = .ok (.ireturn, 1) := by decide +kernel
theorem dX8_planned_0 : decode cX8_planned 0 = .ok (.aload_n 0, 1) := by decide +kernel
theorem dX8_planned_1 : decode cX8_planned 1 = .ok (.getfield 65, 3) := by decide +kernel
theorem dX8_planned_4 : decode cX8_planned 4 = .ok (.iload_n 1, 1) := by decide +kernel
theorem dX8_planned_5 : decode cX8_planned 5 = .ok (.iaload, 1) := by decide +kernel
theorem dX8_planned_6 : decode cX8_planned 6 = .ok (.istore_n 2, 1) := by decide +kernel
theorem dX8_planned_7 : decode cX8_planned 7 = .ok (.aload_n 0, 1) := by decide +kernel
theorem dX8_planned_8 : decode cX8_planned 8 = .ok (.getfield 62, 3) := by decide +kernel
theorem dX8_planned_11 : decode cX8_planned 11 = .ok (.iload_n 1, 1) := by decide +kernel
theorem dX8_planned_12 : decode cX8_planned 12 = .ok (.iaload, 1) := by decide +kernel
theorem dX8_planned_13 : decode cX8_planned 13 = .ok (.ifCond .ne 10, 3) := by decide +kernel
theorem dX8_planned_16 : decode cX8_planned 16 = .ok (.aload_n 0, 1) := by decide +kernel
theorem dX8_planned_17 : decode cX8_planned 17 = .ok (.invokevirtual 233, 3) := by decide +kernel
theorem dX8_planned_20 : decode cX8_planned 20 = .ok (.goto 40, 3) := by decide +kernel
theorem dX8_planned_23 : decode cX8_planned 23 = .ok (.aload_n 0, 1) := by decide +kernel
theorem dX8_planned_24 : decode cX8_planned 24 = .ok (.getfield 62, 3) := by decide +kernel
theorem dX8_planned_27 : decode cX8_planned 27 = .ok (.iload_n 1, 1) := by decide +kernel
theorem dX8_planned_28 : decode cX8_planned 28 = .ok (.iaload, 1) := by decide +kernel
theorem dX8_planned_29 : decode cX8_planned 29 = .ok (.iconst 2, 1) := by decide +kernel
theorem dX8_planned_30 : decode cX8_planned 30 = .ok (.if_icmp .ne 11, 3) := by decide +kernel
theorem dX8_planned_33 : decode cX8_planned 33 = .ok (.aload_n 0, 1) := by decide +kernel
theorem dX8_planned_34 : decode cX8_planned 34 = .ok (.iload_n 2, 1) := by decide +kernel
theorem dX8_planned_35 : decode cX8_planned 35 = .ok (.putfield 50, 3) := by decide +kernel
theorem dX8_planned_38 : decode cX8_planned 38 = .ok (.goto 22, 3) := by decide +kernel
theorem dX8_planned_41 : decode cX8_planned 41 = .ok (.aload_n 0, 1) := by decide +kernel
theorem dX8_planned_42 : decode cX8_planned 42 = .ok (.iload_n 2, 1) := by decide +kernel
theorem dX8_planned_43 : decode cX8_planned 43 = .ok (.invokevirtual 183, 3) := by decide +kernel
theorem dX8_planned_46 : decode cX8_planned 46 = .ok (.ifCond .ne 14, 3) := by decide +kernel
theorem dX8_planned_49 : decode cX8_planned 49 = .ok (.aload_n 0, 1) := by decide +kernel
theorem dX8_planned_50 : decode cX8_planned 50 = .ok (.iload_n 2, 1) := by decide +kernel
theorem dX8_planned_51 : decode cX8_planned 51 = .ok (.invokevirtual 309, 3) := by decide +kernel
theorem dX8_planned_54 : decode cX8_planned 54 = .ok (.pop, 1) := by decide +kernel
theorem dX8_planned_55 : decode cX8_planned 55 = .ok (.aload_n 0, 1) := by decide +kernel
theorem dX8_planned_56 : decode cX8_planned 56 = .ok (.iload_n 2, 1) := by decide +kernel
theorem dX8_planned_57 : decode cX8_planned 57 = .ok (.invokevirtual 207, 3) := by decide +kernel
theorem dX8_planned_60 : decode cX8_planned 60 = .ok (.return_, 1) := by decide +kernel
theorem dX8_ends_0 : decode cX8_ends 0 = .ok (.aload_n 0, 1) := by decide +kernel
theorem dX8_ends_1 : decode cX8_ends 1 = .ok (.iconst 0, 1) := by decide +kernel
theorem dX8_ends_2 : decode cX8_ends 2 = .ok (.putfield 124, 3) := by decide +kernel
theorem dX8_ends_5 : decode cX8_ends 5 = .ok (.iload_n 1, 1) := by decide +kernel
theorem dX8_ends_6 : decode cX8_ends 6 = .ok (.i2l, 1) := by decide +kernel
theorem dX8_ends_7 : decode cX8_ends 7 = .ok (.lconst 0, 1) := by decide +kernel
theorem dX8_ends_8 : decode cX8_ends 8 = .ok (.lconst 1, 1) := by decide +kernel
theorem dX8_ends_9 : decode cX8_ends 9 = .ok (.invokestatic 130, 3) := by decide +kernel
theorem dX8_ends_12 : decode cX8_ends 12 = .ok (.ifCond .ne 5, 3) := by decide +kernel
theorem dX8_ends_15 : decode cX8_ends 15 = .ok (.iconst (-1), 1) := by decide +kernel
theorem dX8_ends_16 : decode cX8_ends 16 = .ok (.ireturn, 1) := by decide +kernel
theorem dX8_ends_17 : decode cX8_ends 17 = .ok (.aload_n 0, 1) := by decide +kernel
theorem dX8_ends_18 : decode cX8_ends 18 = .ok (.invokevirtual 315, 3) := by decide +kernel
theorem dX8_ends_21 : decode cX8_ends 21 = .ok (.iconst 0, 1) := by decide +kernel
theorem dX8_ends_22 : decode cX8_ends 22 = .ok (.istore_n 2, 1) := by decide +kernel
theorem dX8_ends_23 : decode cX8_ends 23 = .ok (.iload_n 2, 1) := by decide +kernel
theorem dX8_ends_24 : decode cX8_ends 24 = .ok (.aload_n 0, 1) := by decide +kernel
theorem dX8_ends_25 : decode cX8_ends 25 = .ok (.getfield 151, 3) := by decide +kernel
theorem dX8_ends_28 : decode cX8_ends 28 = .ok (.if_icmp .ge 14, 3) := by decide +kernel
theorem dX8_ends_31 : decode cX8_ends 31 = .ok (.aload_n 0, 1) := by decide +kernel
theorem dX8_ends_32 : decode cX8_ends 32 = .ok (.iload_n 2, 1) := by decide +kernel
theorem dX8_ends_33 : decode cX8_ends 33 = .ok (.invokevirtual 361, 3) := by decide +kernel
theorem dX8_ends_36 : decode cX8_ends 36 = .ok (.iinc 2 1, 3) := by decide +kernel
theorem dX8_ends_39 : decode cX8_ends 39 = .ok (.goto (-16), 3) := by decide +kernel
theorem dX8_ends_42 : decode cX8_ends 42 = .ok (.iload_n 1, 1) := by decide +kernel
theorem dX8_ends_43 : decode cX8_ends 43 = .ok (.ifCond .ne 10, 3) := by decide +kernel
theorem dX8_ends_46 : decode cX8_ends 46 = .ok (.aload_n 0, 1) := by decide +kernel
theorem dX8_ends_47 : decode cX8_ends 47 = .ok (.invokevirtual 330, 3) := by decide +kernel
theorem dX8_ends_50 : decode cX8_ends 50 = .ok (.goto 7, 3) := by decide +kernel
theorem dX8_ends_53 : decode cX8_ends 53 = .ok (.aload_n 0, 1) := by decide +kernel
theorem dX8_ends_54 : decode cX8_ends 54 = .ok (.invokevirtual 356, 3) := by decide +kernel
theorem dX8_ends_57 : decode cX8_ends 57 = .ok (.istore_n 2, 1) := by decide +kernel
theorem dX8_ends_58 : decode cX8_ends 58 = .ok (.aload_n 0, 1) := by decide +kernel
theorem dX8_ends_59 : decode cX8_ends 59 = .ok (.invokevirtual 321, 3) := by decide +kernel
theorem dX8_ends_62 : decode cX8_ends 62 = .ok (.iload_n 2, 1) := by decide +kernel
theorem dX8_ends_63 : decode cX8_ends 63 = .ok (.ireturn, 1) := by decide +kernel
theorem dX8_book_0 : decode cX8_book 0 = .ok (.aload_n 0, 1) := by decide +kernel
theorem dX8_book_1 : decode cX8_book 1 = .ok (.iconst 0, 1) := by decide +kernel
theorem dX8_book_2 : decode cX8_book 2 = .ok (.putfield 124, 3) := by decide +kernel
theorem dX8_book_5 : decode cX8_book 5 = .ok (.iload_n 1, 1) := by decide +kernel
theorem dX8_book_6 : decode cX8_book 6 = .ok (.iconst (-1), 1) := by decide +kernel
theorem dX8_book_7 : decode cX8_book 7 = .ok (.if_icmp .ne 10, 3) := by decide +kernel
theorem dX8_book_10 : decode cX8_book 10 = .ok (.aload_n 0, 1) := by decide +kernel
theorem dX8_book_11 : decode cX8_book 11 = .ok (.iconst 0, 1) := by decide +kernel
theorem dX8_book_12 : decode cX8_book 12 = .ok (.putfield 154, 3) := by decide +kernel
theorem dX8_book_15 : decode cX8_book 15 = .ok (.iconst 0, 1) := by decide +kernel
theorem dX8_book_16 : decode cX8_book 16 = .ok (.ireturn, 1) := by decide +kernel
theorem dX8_book_17 : decode cX8_book 17 = .ok (.aload_n 0, 1) := by decide +kernel
theorem dX8_book_18 : decode cX8_book 18 = .ok (.iload_n 1, 1) := by decide +kernel
theorem dX8_book_19 : decode cX8_book 19 = .ok (.invokevirtual 290, 3) := by decide +kernel
theorem dX8_book_22 : decode cX8_book 22 = .ok (.ifCond .ne 5, 3) := by decide +kernel
theorem dX8_book_25 : decode cX8_book 25 = .ok (.iconst (-1), 1) := by decide +kernel
theorem dX8_book_26 : decode cX8_book 26 = .ok (.ireturn, 1) := by decide +kernel
theorem dX8_book_27 : decode cX8_book 27 = .ok (.iload_n 2, 1) := by decide +kernel
theorem dX8_book_28 : decode cX8_book 28 = .ok (.i2l, 1) := by decide +kernel
theorem dX8_book_29 : decode cX8_book 29 = .ok (.lconst 0, 1) := by decide +kernel
theorem dX8_book_30 : decode cX8_book 30 = .ok (.ldc2_w 364, 3) := by decide +kernel
theorem dX8_book_33 : decode cX8_book 33 = .ok (.invokestatic 130, 3) := by decide +kernel
theorem dX8_book_36 : decode cX8_book 36 = .ok (.ifCond .ne 6, 3) := by decide +kernel
theorem dX8_book_39 : decode cX8_book 39 = .ok (.bipush (-2), 2) := by decide +kernel
theorem dX8_book_41 : decode cX8_book 41 = .ok (.ireturn, 1) := by decide +kernel
theorem dX8_book_42 : decode cX8_book 42 = .ok (.aload_n 0, 1) := by decide +kernel
theorem dX8_book_43 : decode cX8_book 43 = .ok (.getfield 154, 3) := by decide +kernel
theorem dX8_book_46 : decode cX8_book 46 = .ok (.bipush 8, 2) := by decide +kernel
theorem dX8_book_48 : decode cX8_book 48 = .ok (.if_icmp .ne 6, 3) := by decide +kernel
theorem dX8_book_51 : decode cX8_book 51 = .ok (.bipush (-4), 2) := by decide +kernel
theorem dX8_book_53 : decode cX8_book 53 = .ok (.ireturn, 1) := by decide +kernel
theorem dX8_book_54 : decode cX8_book 54 = .ok (.aload_n 0, 1) := by decide +kernel
theorem dX8_book_55 : decode cX8_book 55 = .ok (.getfield 68, 3) := by decide +kernel
theorem dX8_book_58 : decode cX8_book 58 = .ok (.aload_n 0, 1) := by decide +kernel
theorem dX8_book_59 : decode cX8_book 59 = .ok (.getfield 154, 3) := by decide +kernel
theorem dX8_book_62 : decode cX8_book 62 = .ok (.iload_n 1, 1) := by decide +kernel
theorem dX8_book_63 : decode cX8_book 63 = .ok (.iastore, 1) := by decide +kernel
theorem dX8_book_64 : decode cX8_book 64 = .ok (.aload_n 0, 1) := by decide +kernel
theorem dX8_book_65 : decode cX8_book 65 = .ok (.getfield 71, 3) := by decide +kernel
theorem dX8_book_68 : decode cX8_book 68 = .ok (.aload_n 0, 1) := by decide +kernel
theorem dX8_book_69 : decode cX8_book 69 = .ok (.getfield 154, 3) := by decide +kernel
theorem dX8_book_72 : decode cX8_book 72 = .ok (.iload_n 2, 1) := by decide +kernel
theorem dX8_book_73 : decode cX8_book 73 = .ok (.iastore, 1) := by decide +kernel
theorem dX8_book_74 : decode cX8_book 74 = .ok (.aload_n 0, 1) := by decide +kernel
theorem dX8_book_75 : decode cX8_book 75 = .ok (.dup, 1) := by decide +kernel
theorem dX8_book_76 : decode cX8_book 76 = .ok (.getfield 154, 3) := by decide +kernel
theorem dX8_book_79 : decode cX8_book 79 = .ok (.iconst 1, 1) := by decide +kernel
theorem dX8_book_80 : decode cX8_book 80 = .ok (.iadd, 1) := by decide +kernel
theorem dX8_book_81 : decode cX8_book 81 = .ok (.putfield 154, 3) := by decide +kernel
theorem dX8_book_84 : decode cX8_book 84 = .ok (.aload_n 0, 1) := by decide +kernel
theorem dX8_book_85 : decode cX8_book 85 = .ok (.getfield 154, 3) := by decide +kernel
theorem dX8_book_88 : decode cX8_book 88 = .ok (.ireturn, 1) := by decide +kernel
theorem dX8_looked_0 : decode cX8_looked 0 = .ok (.aload_n 0, 1) := by decide +kernel
theorem dX8_looked_1 : decode cX8_looked 1 = .ok (.iconst 0, 1) := by decide +kernel
theorem dX8_looked_2 : decode cX8_looked 2 = .ok (.putfield 124, 3) := by decide +kernel
theorem dX8_looked_5 : decode cX8_looked 5 = .ok (.iconst 0, 1) := by decide +kernel
theorem dX8_looked_6 : decode cX8_looked 6 = .ok (.istore_n 1, 1) := by decide +kernel
theorem dX8_looked_7 : decode cX8_looked 7 = .ok (.iload_n 1, 1) := by decide +kernel
theorem dX8_looked_8 : decode cX8_looked 8 = .ok (.aload_n 0, 1) := by decide +kernel
theorem dX8_looked_9 : decode cX8_looked 9 = .ok (.getfield 154, 3) := by decide +kernel
theorem dX8_looked_12 : decode cX8_looked 12 = .ok (.if_icmp .ge 31, 3) := by decide +kernel
theorem dX8_looked_15 : decode cX8_looked 15 = .ok (.aload_n 0, 1) := by decide +kernel
theorem dX8_looked_16 : decode cX8_looked 16 = .ok (.getfield 29, 3) := by decide +kernel
theorem dX8_looked_19 : decode cX8_looked 19 = .ok (.aload_n 0, 1) := by decide +kernel
theorem dX8_looked_20 : decode cX8_looked 20 = .ok (.getfield 68, 3) := by decide +kernel
theorem dX8_looked_23 : decode cX8_looked 23 = .ok (.iload_n 1, 1) := by decide +kernel
theorem dX8_looked_24 : decode cX8_looked 24 = .ok (.iaload, 1) := by decide +kernel
theorem dX8_looked_25 : decode cX8_looked 25 = .ok (.iaload, 1) := by decide +kernel
theorem dX8_looked_26 : decode cX8_looked 26 = .ok (.aload_n 0, 1) := by decide +kernel
theorem dX8_looked_27 : decode cX8_looked 27 = .ok (.getfield 71, 3) := by decide +kernel
theorem dX8_looked_30 : decode cX8_looked 30 = .ok (.iload_n 1, 1) := by decide +kernel
theorem dX8_looked_31 : decode cX8_looked 31 = .ok (.iaload, 1) := by decide +kernel
theorem dX8_looked_32 : decode cX8_looked 32 = .ok (.if_icmp .eq 5, 3) := by decide +kernel
theorem dX8_looked_35 : decode cX8_looked 35 = .ok (.iload_n 1, 1) := by decide +kernel
theorem dX8_looked_36 : decode cX8_looked 36 = .ok (.ireturn, 1) := by decide +kernel
theorem dX8_looked_37 : decode cX8_looked 37 = .ok (.iinc 1 1, 3) := by decide +kernel
theorem dX8_looked_40 : decode cX8_looked 40 = .ok (.goto (-33), 3) := by decide +kernel
theorem dX8_looked_43 : decode cX8_looked 43 = .ok (.bipush (-5), 2) := by decide +kernel
theorem dX8_looked_45 : decode cX8_looked 45 = .ok (.ireturn, 1) := by decide +kernel
theorem dX8_count_0 : decode cX8_count 0 = .ok (.aload_n 0, 1) := by decide +kernel
theorem dX8_count_1 : decode cX8_count 1 = .ok (.iconst 0, 1) := by decide +kernel
theorem dX8_count_2 : decode cX8_count 2 = .ok (.putfield 124, 3) := by decide +kernel
theorem dX8_count_5 : decode cX8_count 5 = .ok (.iload_n 1, 1) := by decide +kernel
theorem dX8_count_6 : decode cX8_count 6 = .ok (.tableswitch 68 0 5 #[38, 43, 48, 53, 58, 63], 38) := by decide +kernel
theorem dX8_count_44 : decode cX8_count 44 = .ok (.aload_n 0, 1) := by decide +kernel
theorem dX8_count_45 : decode cX8_count 45 = .ok (.getfield 127, 3) := by decide +kernel
theorem dX8_count_48 : decode cX8_count 48 = .ok (.ireturn, 1) := by decide +kernel
theorem dX8_count_49 : decode cX8_count 49 = .ok (.aload_n 0, 1) := by decide +kernel
theorem dX8_count_50 : decode cX8_count 50 = .ok (.invokevirtual 330, 3) := by decide +kernel
theorem dX8_count_53 : decode cX8_count 53 = .ok (.ireturn, 1) := by decide +kernel
theorem dX8_count_54 : decode cX8_count 54 = .ok (.aload_n 0, 1) := by decide +kernel
theorem dX8_count_55 : decode cX8_count 55 = .ok (.getfield 144, 3) := by decide +kernel
theorem dX8_count_58 : decode cX8_count 58 = .ok (.ireturn, 1) := by decide +kernel
theorem dX8_count_59 : decode cX8_count 59 = .ok (.aload_n 0, 1) := by decide +kernel
theorem dX8_count_60 : decode cX8_count 60 = .ok (.getfield 151, 3) := by decide +kernel
theorem dX8_count_63 : decode cX8_count 63 = .ok (.ireturn, 1) := by decide +kernel
theorem dX8_count_64 : decode cX8_count 64 = .ok (.aload_n 0, 1) := by decide +kernel
theorem dX8_count_65 : decode cX8_count 65 = .ok (.getfield 154, 3) := by decide +kernel
theorem dX8_count_68 : decode cX8_count 68 = .ok (.ireturn, 1) := by decide +kernel
theorem dX8_count_69 : decode cX8_count 69 = .ok (.aload_n 0, 1) := by decide +kernel
theorem dX8_count_70 : decode cX8_count 70 = .ok (.getfield 243, 3) := by decide +kernel
theorem dX8_count_73 : decode cX8_count 73 = .ok (.ireturn, 1) := by decide +kernel
theorem dX8_count_74 : decode cX8_count 74 = .ok (.bipush (-2), 2) := by decide +kernel
theorem dX8_count_76 : decode cX8_count 76 = .ok (.ireturn, 1) := by decide +kernel
theorem dX8_isTape_0 : decode cX8_isTape 0 = .ok (.iload_n 1, 1) := by decide +kernel
theorem dX8_isTape_1 : decode cX8_isTape 1 = .ok (.i2l, 1) := by decide +kernel
theorem dX8_isTape_2 : decode cX8_isTape 2 = .ok (.lconst 0, 1) := by decide +kernel
theorem dX8_isTape_3 : decode cX8_isTape 3 = .ok (.ldc2_w 364, 3) := by decide +kernel
theorem dX8_isTape_6 : decode cX8_isTape 6 = .ok (.invokestatic 130, 3) := by decide +kernel
theorem dX8_isTape_9 : decode cX8_isTape 9 = .ok (.ireturn, 1) := by decide +kernel
theorem dX8_tape_0 : decode cX8_tape 0 = .ok (.aload_n 0, 1) := by decide +kernel
theorem dX8_tape_1 : decode cX8_tape 1 = .ok (.iconst 0, 1) := by decide +kernel
theorem dX8_tape_2 : decode cX8_tape 2 = .ok (.putfield 124, 3) := by decide +kernel
theorem dX8_tape_5 : decode cX8_tape 5 = .ok (.aload_n 0, 1) := by decide +kernel
theorem dX8_tape_6 : decode cX8_tape 6 = .ok (.iload_n 1, 1) := by decide +kernel
theorem dX8_tape_7 : decode cX8_tape 7 = .ok (.invokevirtual 366, 3) := by decide +kernel
theorem dX8_tape_10 : decode cX8_tape 10 = .ok (.ifCond .ne 5, 3) := by decide +kernel
theorem dX8_tape_13 : decode cX8_tape 13 = .ok (.iconst (-1), 1) := by decide +kernel
theorem dX8_tape_14 : decode cX8_tape 14 = .ok (.ireturn, 1) := by decide +kernel
theorem dX8_tape_15 : decode cX8_tape 15 = .ok (.iload_n 2, 1) := by decide +kernel
theorem dX8_tape_16 : decode cX8_tape 16 = .ok (.i2l, 1) := by decide +kernel
theorem dX8_tape_17 : decode cX8_tape 17 = .ok (.ldc2_w 369, 3) := by decide +kernel
theorem dX8_tape_20 : decode cX8_tape 20 = .ok (.ldc2_w 236, 3) := by decide +kernel
theorem dX8_tape_23 : decode cX8_tape 23 = .ok (.invokestatic 130, 3) := by decide +kernel
theorem dX8_tape_26 : decode cX8_tape 26 = .ok (.ifCond .eq 13, 3) := by decide +kernel
theorem dX8_tape_29 : decode cX8_tape 29 = .ok (.iload_n 2, 1) := by decide +kernel
theorem dX8_tape_30 : decode cX8_tape 30 = .ok (.ifCond .lt 12, 3) := by decide +kernel
theorem dX8_tape_33 : decode cX8_tape 33 = .ok (.iload_n 3, 1) := by decide +kernel
theorem dX8_tape_34 : decode cX8_tape 34 = .ok (.bipush 60, 2) := by decide +kernel
theorem dX8_tape_36 : decode cX8_tape 36 = .ok (.if_icmp .le 6, 3) := by decide +kernel
theorem dX8_tape_39 : decode cX8_tape 39 = .ok (.bipush (-2), 2) := by decide +kernel
theorem dX8_tape_41 : decode cX8_tape 41 = .ok (.ireturn, 1) := by decide +kernel
theorem dX8_tape_42 : decode cX8_tape 42 = .ok (.iload_n 2, 1) := by decide +kernel
theorem dX8_tape_43 : decode cX8_tape 43 = .ok (.ifCond .lt 10, 3) := by decide +kernel
theorem dX8_tape_46 : decode cX8_tape 46 = .ok (.iload_n 3, 1) := by decide +kernel
theorem dX8_tape_47 : decode cX8_tape 47 = .ok (.ifCond .ge 6, 3) := by decide +kernel
theorem dX8_tape_50 : decode cX8_tape 50 = .ok (.bipush (-14), 2) := by decide +kernel
theorem dX8_tape_52 : decode cX8_tape 52 = .ok (.ireturn, 1) := by decide +kernel
theorem dX8_tape_53 : decode cX8_tape 53 = .ok (.aload_n 0, 1) := by decide +kernel
theorem dX8_tape_54 : decode cX8_tape 54 = .ok (.getfield 121, 3) := by decide +kernel
theorem dX8_tape_57 : decode cX8_tape 57 = .ok (.iload_n 1, 1) := by decide +kernel
theorem dX8_tape_58 : decode cX8_tape 58 = .ok (.iload_n 2, 1) := by decide +kernel
theorem dX8_tape_59 : decode cX8_tape 59 = .ok (.ifCond .lt 7, 3) := by decide +kernel
theorem dX8_tape_62 : decode cX8_tape 62 = .ok (.iconst 1, 1) := by decide +kernel
theorem dX8_tape_63 : decode cX8_tape 63 = .ok (.goto 4, 3) := by decide +kernel
theorem dX8_tape_66 : decode cX8_tape 66 = .ok (.iconst 0, 1) := by decide +kernel
theorem dX8_tape_67 : decode cX8_tape 67 = .ok (.bastore, 1) := by decide +kernel
theorem dX8_tape_68 : decode cX8_tape 68 = .ok (.aload_n 0, 1) := by decide +kernel
theorem dX8_tape_69 : decode cX8_tape 69 = .ok (.getfield 108, 3) := by decide +kernel
theorem dX8_tape_72 : decode cX8_tape 72 = .ok (.iload_n 1, 1) := by decide +kernel
theorem dX8_tape_73 : decode cX8_tape 73 = .ok (.iload_n 2, 1) := by decide +kernel
theorem dX8_tape_74 : decode cX8_tape 74 = .ok (.iastore, 1) := by decide +kernel
theorem dX8_tape_75 : decode cX8_tape 75 = .ok (.aload_n 0, 1) := by decide +kernel
theorem dX8_tape_76 : decode cX8_tape 76 = .ok (.getfield 111, 3) := by decide +kernel
theorem dX8_tape_79 : decode cX8_tape 79 = .ok (.iload_n 1, 1) := by decide +kernel
theorem dX8_tape_80 : decode cX8_tape 80 = .ok (.iload_n 2, 1) := by decide +kernel
theorem dX8_tape_81 : decode cX8_tape 81 = .ok (.ifCond .ge 7, 3) := by decide +kernel
theorem dX8_tape_84 : decode cX8_tape 84 = .ok (.iconst 0, 1) := by decide +kernel
theorem dX8_tape_85 : decode cX8_tape 85 = .ok (.goto 4, 3) := by decide +kernel
theorem dX8_tape_88 : decode cX8_tape 88 = .ok (.iload_n 3, 1) := by decide +kernel
theorem dX8_tape_89 : decode cX8_tape 89 = .ok (.iastore, 1) := by decide +kernel
theorem dX8_tape_90 : decode cX8_tape 90 = .ok (.iconst 0, 1) := by decide +kernel
theorem dX8_tape_91 : decode cX8_tape 91 = .ok (.istore 4, 2) := by decide +kernel
theorem dX8_tape_93 : decode cX8_tape 93 = .ok (.iload 4, 2) := by decide +kernel
theorem dX8_tape_95 : decode cX8_tape 95 = .ok (.bipush 60, 2) := by decide +kernel
theorem dX8_tape_97 : decode cX8_tape 97 = .ok (.if_icmp .ge 22, 3) := by decide +kernel
theorem dX8_tape_100 : decode cX8_tape 100 = .ok (.aload_n 0, 1) := by decide +kernel
theorem dX8_tape_101 : decode cX8_tape 101 = .ok (.getfield 114, 3) := by decide +kernel
theorem dX8_tape_104 : decode cX8_tape 104 = .ok (.bipush 60, 2) := by decide +kernel
theorem dX8_tape_106 : decode cX8_tape 106 = .ok (.iload_n 1, 1) := by decide +kernel
theorem dX8_tape_107 : decode cX8_tape 107 = .ok (.imul, 1) := by decide +kernel
theorem dX8_tape_108 : decode cX8_tape 108 = .ok (.iload 4, 2) := by decide +kernel
theorem dX8_tape_110 : decode cX8_tape 110 = .ok (.iadd, 1) := by decide +kernel
theorem dX8_tape_111 : decode cX8_tape 111 = .ok (.lconst 0, 1) := by decide +kernel
theorem dX8_tape_112 : decode cX8_tape 112 = .ok (.lastore, 1) := by decide +kernel
theorem dX8_tape_113 : decode cX8_tape 113 = .ok (.iinc 4 1, 3) := by decide +kernel
theorem dX8_tape_116 : decode cX8_tape 116 = .ok (.goto (-23), 3) := by decide +kernel
theorem dX8_tape_119 : decode cX8_tape 119 = .ok (.iconst 1, 1) := by decide +kernel
theorem dX8_tape_120 : decode cX8_tape 120 = .ok (.ireturn, 1) := by decide +kernel
theorem dX8_narrowed_0 : decode cX8_narrowed 0 = .ok (.iload_n 2, 1) := by decide +kernel
theorem dX8_narrowed_1 : decode cX8_narrowed 1 = .ok (.tableswitch 47 0 3 #[31, 36, 41, 45], 31) := by decide +kernel
theorem dX8_narrowed_32 : decode cX8_narrowed 32 = .ok (.lload_n 0, 1) := by decide +kernel
theorem dX8_narrowed_33 : decode cX8_narrowed 33 = .ok (.l2i, 1) := by decide +kernel
theorem dX8_narrowed_34 : decode cX8_narrowed 34 = .ok (.i2b, 1) := by decide +kernel
theorem dX8_narrowed_35 : decode cX8_narrowed 35 = .ok (.i2l, 1) := by decide +kernel
theorem dX8_narrowed_36 : decode cX8_narrowed 36 = .ok (.lreturn, 1) := by decide +kernel
theorem dX8_narrowed_37 : decode cX8_narrowed 37 = .ok (.lload_n 0, 1) := by decide +kernel
theorem dX8_narrowed_38 : decode cX8_narrowed 38 = .ok (.l2i, 1) := by decide +kernel
theorem dX8_narrowed_39 : decode cX8_narrowed 39 = .ok (.i2s, 1) := by decide +kernel
theorem dX8_narrowed_40 : decode cX8_narrowed 40 = .ok (.i2l, 1) := by decide +kernel
theorem dX8_narrowed_41 : decode cX8_narrowed 41 = .ok (.lreturn, 1) := by decide +kernel
theorem dX8_narrowed_42 : decode cX8_narrowed 42 = .ok (.lload_n 0, 1) := by decide +kernel
theorem dX8_narrowed_43 : decode cX8_narrowed 43 = .ok (.l2i, 1) := by decide +kernel
theorem dX8_narrowed_44 : decode cX8_narrowed 44 = .ok (.i2l, 1) := by decide +kernel
theorem dX8_narrowed_45 : decode cX8_narrowed 45 = .ok (.lreturn, 1) := by decide +kernel
theorem dX8_narrowed_46 : decode cX8_narrowed 46 = .ok (.lload_n 0, 1) := by decide +kernel
theorem dX8_narrowed_47 : decode cX8_narrowed 47 = .ok (.lreturn, 1) := by decide +kernel
theorem dX8_narrowed_48 : decode cX8_narrowed 48 = .ok (.lload_n 0, 1) := by decide +kernel
theorem dX8_narrowed_49 : decode cX8_narrowed 49 = .ok (.lconst 0, 1) := by decide +kernel
theorem dX8_narrowed_50 : decode cX8_narrowed 50 = .ok (.lcmp, 1) := by decide +kernel
theorem dX8_narrowed_51 : decode cX8_narrowed 51 = .ok (.ifCond .ne 7, 3) := by decide +kernel
theorem dX8_narrowed_54 : decode cX8_narrowed 54 = .ok (.lconst 0, 1) := by decide +kernel
theorem dX8_narrowed_55 : decode cX8_narrowed 55 = .ok (.goto 4, 3) := by decide +kernel
theorem dX8_narrowed_58 : decode cX8_narrowed 58 = .ok (.lconst 1, 1) := by decide +kernel
theorem dX8_narrowed_59 : decode cX8_narrowed 59 = .ok (.lreturn, 1) := by decide +kernel
theorem dX8_item_0 : decode cX8_item 0 = .ok (.aload_n 0, 1) := by decide +kernel
theorem dX8_item_1 : decode cX8_item 1 = .ok (.iconst 0, 1) := by decide +kernel
theorem dX8_item_2 : decode cX8_item 2 = .ok (.putfield 124, 3) := by decide +kernel
theorem dX8_item_5 : decode cX8_item 5 = .ok (.aload_n 0, 1) := by decide +kernel
theorem dX8_item_6 : decode cX8_item 6 = .ok (.iload_n 1, 1) := by decide +kernel
theorem dX8_item_7 : decode cX8_item 7 = .ok (.invokevirtual 366, 3) := by decide +kernel
theorem dX8_item_10 : decode cX8_item 10 = .ok (.ifCond .ne 5, 3) := by decide +kernel
theorem dX8_item_13 : decode cX8_item 13 = .ok (.iconst (-1), 1) := by decide +kernel
theorem dX8_item_14 : decode cX8_item 14 = .ok (.ireturn, 1) := by decide +kernel
theorem dX8_item_15 : decode cX8_item 15 = .ok (.aload_n 0, 1) := by decide +kernel
theorem dX8_item_16 : decode cX8_item 16 = .ok (.getfield 121, 3) := by decide +kernel
theorem dX8_item_19 : decode cX8_item 19 = .ok (.iload_n 1, 1) := by decide +kernel
theorem dX8_item_20 : decode cX8_item 20 = .ok (.baload, 1) := by decide +kernel
theorem dX8_item_21 : decode cX8_item 21 = .ok (.ifCond .ne 6, 3) := by decide +kernel
theorem dX8_item_24 : decode cX8_item 24 = .ok (.bipush (-11), 2) := by decide +kernel
theorem dX8_item_26 : decode cX8_item 26 = .ok (.ireturn, 1) := by decide +kernel
theorem dX8_item_27 : decode cX8_item 27 = .ok (.iload_n 2, 1) := by decide +kernel
theorem dX8_item_28 : decode cX8_item 28 = .ok (.i2l, 1) := by decide +kernel
theorem dX8_item_29 : decode cX8_item 29 = .ok (.lconst 0, 1) := by decide +kernel
theorem dX8_item_30 : decode cX8_item 30 = .ok (.aload_n 0, 1) := by decide +kernel
theorem dX8_item_31 : decode cX8_item 31 = .ok (.getfield 111, 3) := by decide +kernel
theorem dX8_item_34 : decode cX8_item 34 = .ok (.iload_n 1, 1) := by decide +kernel
theorem dX8_item_35 : decode cX8_item 35 = .ok (.iaload, 1) := by decide +kernel
theorem dX8_item_36 : decode cX8_item 36 = .ok (.iconst 1, 1) := by decide +kernel
theorem dX8_item_37 : decode cX8_item 37 = .ok (.isub, 1) := by decide +kernel
theorem dX8_item_38 : decode cX8_item 38 = .ok (.i2l, 1) := by decide +kernel
theorem dX8_item_39 : decode cX8_item 39 = .ok (.invokestatic 130, 3) := by decide +kernel
theorem dX8_item_42 : decode cX8_item 42 = .ok (.ifCond .ne 6, 3) := by decide +kernel
theorem dX8_item_45 : decode cX8_item 45 = .ok (.bipush (-13), 2) := by decide +kernel
theorem dX8_item_47 : decode cX8_item 47 = .ok (.ireturn, 1) := by decide +kernel
theorem dX8_item_48 : decode cX8_item 48 = .ok (.aload_n 0, 1) := by decide +kernel
theorem dX8_item_49 : decode cX8_item 49 = .ok (.getfield 114, 3) := by decide +kernel
theorem dX8_item_52 : decode cX8_item 52 = .ok (.bipush 60, 2) := by decide +kernel
theorem dX8_item_54 : decode cX8_item 54 = .ok (.iload_n 1, 1) := by decide +kernel
theorem dX8_item_55 : decode cX8_item 55 = .ok (.imul, 1) := by decide +kernel
theorem dX8_item_56 : decode cX8_item 56 = .ok (.iload_n 2, 1) := by decide +kernel
theorem dX8_item_57 : decode cX8_item 57 = .ok (.iadd, 1) := by decide +kernel
theorem dX8_item_58 : decode cX8_item 58 = .ok (.lload_n 3, 1) := by decide +kernel
theorem dX8_item_59 : decode cX8_item 59 = .ok (.aload_n 0, 1) := by decide +kernel
theorem dX8_item_60 : decode cX8_item 60 = .ok (.getfield 108, 3) := by decide +kernel
theorem dX8_item_63 : decode cX8_item 63 = .ok (.iload_n 1, 1) := by decide +kernel
theorem dX8_item_64 : decode cX8_item 64 = .ok (.iaload, 1) := by decide +kernel
theorem dX8_item_65 : decode cX8_item 65 = .ok (.invokestatic 371, 3) := by decide +kernel
theorem dX8_item_68 : decode cX8_item 68 = .ok (.lastore, 1) := by decide +kernel
theorem dX8_item_69 : decode cX8_item 69 = .ok (.iconst 1, 1) := by decide +kernel
theorem dX8_item_70 : decode cX8_item 70 = .ok (.ireturn, 1) := by decide +kernel
theorem dX8_read_0 : decode cX8_read 0 = .ok (.aload_n 0, 1) := by decide +kernel
theorem dX8_read_1 : decode cX8_read 1 = .ok (.iconst 0, 1) := by decide +kernel
theorem dX8_read_2 : decode cX8_read 2 = .ok (.putfield 124, 3) := by decide +kernel
theorem dX8_read_5 : decode cX8_read 5 = .ok (.aload_n 0, 1) := by decide +kernel
theorem dX8_read_6 : decode cX8_read 6 = .ok (.iload_n 1, 1) := by decide +kernel
theorem dX8_read_7 : decode cX8_read 7 = .ok (.invokevirtual 366, 3) := by decide +kernel
theorem dX8_read_10 : decode cX8_read 10 = .ok (.ifCond .eq 44, 3) := by decide +kernel
theorem dX8_read_13 : decode cX8_read 13 = .ok (.aload_n 0, 1) := by decide +kernel
theorem dX8_read_14 : decode cX8_read 14 = .ok (.getfield 121, 3) := by decide +kernel
theorem dX8_read_17 : decode cX8_read 17 = .ok (.iload_n 1, 1) := by decide +kernel
theorem dX8_read_18 : decode cX8_read 18 = .ok (.baload, 1) := by decide +kernel
theorem dX8_read_19 : decode cX8_read 19 = .ok (.ifCond .eq 35, 3) := by decide +kernel
theorem dX8_read_22 : decode cX8_read 22 = .ok (.iload_n 2, 1) := by decide +kernel
theorem dX8_read_23 : decode cX8_read 23 = .ok (.i2l, 1) := by decide +kernel
theorem dX8_read_24 : decode cX8_read 24 = .ok (.lconst 0, 1) := by decide +kernel
theorem dX8_read_25 : decode cX8_read 25 = .ok (.aload_n 0, 1) := by decide +kernel
theorem dX8_read_26 : decode cX8_read 26 = .ok (.getfield 111, 3) := by decide +kernel
theorem dX8_read_29 : decode cX8_read 29 = .ok (.iload_n 1, 1) := by decide +kernel
theorem dX8_read_30 : decode cX8_read 30 = .ok (.iaload, 1) := by decide +kernel
theorem dX8_read_31 : decode cX8_read 31 = .ok (.iconst 1, 1) := by decide +kernel
theorem dX8_read_32 : decode cX8_read 32 = .ok (.isub, 1) := by decide +kernel
theorem dX8_read_33 : decode cX8_read 33 = .ok (.i2l, 1) := by decide +kernel
theorem dX8_read_34 : decode cX8_read 34 = .ok (.invokestatic 130, 3) := by decide +kernel
theorem dX8_read_37 : decode cX8_read 37 = .ok (.ifCond .eq 17, 3) := by decide +kernel
theorem dX8_read_40 : decode cX8_read 40 = .ok (.aload_n 0, 1) := by decide +kernel
theorem dX8_read_41 : decode cX8_read 41 = .ok (.getfield 114, 3) := by decide +kernel
theorem dX8_read_44 : decode cX8_read 44 = .ok (.bipush 60, 2) := by decide +kernel
theorem dX8_read_46 : decode cX8_read 46 = .ok (.iload_n 1, 1) := by decide +kernel
theorem dX8_read_47 : decode cX8_read 47 = .ok (.imul, 1) := by decide +kernel
theorem dX8_read_48 : decode cX8_read 48 = .ok (.iload_n 2, 1) := by decide +kernel
theorem dX8_read_49 : decode cX8_read 49 = .ok (.iadd, 1) := by decide +kernel
theorem dX8_read_50 : decode cX8_read 50 = .ok (.laload, 1) := by decide +kernel
theorem dX8_read_51 : decode cX8_read 51 = .ok (.goto 6, 3) := by decide +kernel
theorem dX8_read_54 : decode cX8_read 54 = .ok (.ldc2_w 348, 3) := by decide +kernel
theorem dX8_read_57 : decode cX8_read 57 = .ok (.lreturn, 1) := by decide +kernel
theorem dX8_shift_0 : decode cX8_shift 0 = .ok (.aload_n 0, 1) := by decide +kernel
theorem dX8_shift_1 : decode cX8_shift 1 = .ok (.iconst 0, 1) := by decide +kernel
theorem dX8_shift_2 : decode cX8_shift 2 = .ok (.putfield 124, 3) := by decide +kernel
theorem dX8_shift_5 : decode cX8_shift 5 = .ok (.aload_n 0, 1) := by decide +kernel
theorem dX8_shift_6 : decode cX8_shift 6 = .ok (.iload_n 1, 1) := by decide +kernel
theorem dX8_shift_7 : decode cX8_shift 7 = .ok (.invokevirtual 366, 3) := by decide +kernel
theorem dX8_shift_10 : decode cX8_shift 10 = .ok (.ifCond .eq 11, 3) := by decide +kernel
theorem dX8_shift_13 : decode cX8_shift 13 = .ok (.aload_n 0, 1) := by decide +kernel
theorem dX8_shift_14 : decode cX8_shift 14 = .ok (.iload_n 3, 1) := by decide +kernel
theorem dX8_shift_15 : decode cX8_shift 15 = .ok (.invokevirtual 366, 3) := by decide +kernel
theorem dX8_shift_18 : decode cX8_shift 18 = .ok (.ifCond .ne 5, 3) := by decide +kernel
theorem dX8_shift_21 : decode cX8_shift 21 = .ok (.iconst (-1), 1) := by decide +kernel
theorem dX8_shift_22 : decode cX8_shift 22 = .ok (.ireturn, 1) := by decide +kernel
theorem dX8_shift_23 : decode cX8_shift 23 = .ok (.aload_n 0, 1) := by decide +kernel
theorem dX8_shift_24 : decode cX8_shift 24 = .ok (.getfield 121, 3) := by decide +kernel
theorem dX8_shift_27 : decode cX8_shift 27 = .ok (.iload_n 1, 1) := by decide +kernel
theorem dX8_shift_28 : decode cX8_shift 28 = .ok (.baload, 1) := by decide +kernel
theorem dX8_shift_29 : decode cX8_shift 29 = .ok (.ifCond .eq 12, 3) := by decide +kernel
theorem dX8_shift_32 : decode cX8_shift 32 = .ok (.aload_n 0, 1) := by decide +kernel
theorem dX8_shift_33 : decode cX8_shift 33 = .ok (.getfield 121, 3) := by decide +kernel
theorem dX8_shift_36 : decode cX8_shift 36 = .ok (.iload_n 3, 1) := by decide +kernel
theorem dX8_shift_37 : decode cX8_shift 37 = .ok (.baload, 1) := by decide +kernel
theorem dX8_shift_38 : decode cX8_shift 38 = .ok (.ifCond .ne 6, 3) := by decide +kernel
theorem dX8_shift_41 : decode cX8_shift 41 = .ok (.bipush (-11), 2) := by decide +kernel
theorem dX8_shift_43 : decode cX8_shift 43 = .ok (.ireturn, 1) := by decide +kernel
theorem dX8_shift_44 : decode cX8_shift 44 = .ok (.aload_n 0, 1) := by decide +kernel
theorem dX8_shift_45 : decode cX8_shift 45 = .ok (.getfield 108, 3) := by decide +kernel
theorem dX8_shift_48 : decode cX8_shift 48 = .ok (.iload_n 1, 1) := by decide +kernel
theorem dX8_shift_49 : decode cX8_shift 49 = .ok (.iaload, 1) := by decide +kernel
theorem dX8_shift_50 : decode cX8_shift 50 = .ok (.aload_n 0, 1) := by decide +kernel
theorem dX8_shift_51 : decode cX8_shift 51 = .ok (.getfield 108, 3) := by decide +kernel
theorem dX8_shift_54 : decode cX8_shift 54 = .ok (.iload_n 3, 1) := by decide +kernel
theorem dX8_shift_55 : decode cX8_shift 55 = .ok (.iaload, 1) := by decide +kernel
theorem dX8_shift_56 : decode cX8_shift 56 = .ok (.if_icmp .eq 6, 3) := by decide +kernel
theorem dX8_shift_59 : decode cX8_shift 59 = .ok (.bipush (-12), 2) := by decide +kernel
theorem dX8_shift_61 : decode cX8_shift 61 = .ok (.ireturn, 1) := by decide +kernel
theorem dX8_shift_62 : decode cX8_shift 62 = .ok (.iload 5, 2) := by decide +kernel
theorem dX8_shift_64 : decode cX8_shift 64 = .ok (.ifCond .lt 47, 3) := by decide +kernel
theorem dX8_shift_67 : decode cX8_shift 67 = .ok (.iload_n 2, 1) := by decide +kernel
theorem dX8_shift_68 : decode cX8_shift 68 = .ok (.ifCond .lt 43, 3) := by decide +kernel
theorem dX8_shift_71 : decode cX8_shift 71 = .ok (.iload 4, 2) := by decide +kernel
theorem dX8_shift_73 : decode cX8_shift 73 = .ok (.ifCond .lt 38, 3) := by decide +kernel
theorem dX8_shift_76 : decode cX8_shift 76 = .ok (.iload_n 2, 1) := by decide +kernel
theorem dX8_shift_77 : decode cX8_shift 77 = .ok (.i2l, 1) := by decide +kernel
theorem dX8_shift_78 : decode cX8_shift 78 = .ok (.iload 5, 2) := by decide +kernel
theorem dX8_shift_80 : decode cX8_shift 80 = .ok (.i2l, 1) := by decide +kernel
theorem dX8_shift_81 : decode cX8_shift 81 = .ok (.ladd, 1) := by decide +kernel
theorem dX8_shift_82 : decode cX8_shift 82 = .ok (.aload_n 0, 1) := by decide +kernel
theorem dX8_shift_83 : decode cX8_shift 83 = .ok (.getfield 111, 3) := by decide +kernel
theorem dX8_shift_86 : decode cX8_shift 86 = .ok (.iload_n 1, 1) := by decide +kernel
theorem dX8_shift_87 : decode cX8_shift 87 = .ok (.iaload, 1) := by decide +kernel
theorem dX8_shift_88 : decode cX8_shift 88 = .ok (.i2l, 1) := by decide +kernel
theorem dX8_shift_89 : decode cX8_shift 89 = .ok (.lcmp, 1) := by decide +kernel
theorem dX8_shift_90 : decode cX8_shift 90 = .ok (.ifCond .gt 21, 3) := by decide +kernel
theorem dX8_shift_93 : decode cX8_shift 93 = .ok (.iload 4, 2) := by decide +kernel
theorem dX8_shift_95 : decode cX8_shift 95 = .ok (.i2l, 1) := by decide +kernel
theorem dX8_shift_96 : decode cX8_shift 96 = .ok (.iload 5, 2) := by decide +kernel
theorem dX8_shift_98 : decode cX8_shift 98 = .ok (.i2l, 1) := by decide +kernel
theorem dX8_shift_99 : decode cX8_shift 99 = .ok (.ladd, 1) := by decide +kernel
theorem dX8_shift_100 : decode cX8_shift 100 = .ok (.aload_n 0, 1) := by decide +kernel
theorem dX8_shift_101 : decode cX8_shift 101 = .ok (.getfield 111, 3) := by decide +kernel
theorem dX8_shift_104 : decode cX8_shift 104 = .ok (.iload_n 3, 1) := by decide +kernel
theorem dX8_shift_105 : decode cX8_shift 105 = .ok (.iaload, 1) := by decide +kernel
theorem dX8_shift_106 : decode cX8_shift 106 = .ok (.i2l, 1) := by decide +kernel
theorem dX8_shift_107 : decode cX8_shift 107 = .ok (.lcmp, 1) := by decide +kernel
theorem dX8_shift_108 : decode cX8_shift 108 = .ok (.ifCond .le 6, 3) := by decide +kernel
theorem dX8_shift_111 : decode cX8_shift 111 = .ok (.bipush (-13), 2) := by decide +kernel
theorem dX8_shift_113 : decode cX8_shift 113 = .ok (.ireturn, 1) := by decide +kernel
theorem dX8_shift_114 : decode cX8_shift 114 = .ok (.iconst 0, 1) := by decide +kernel
theorem dX8_shift_115 : decode cX8_shift 115 = .ok (.istore 6, 2) := by decide +kernel
theorem dX8_shift_117 : decode cX8_shift 117 = .ok (.iload 6, 2) := by decide +kernel
theorem dX8_shift_119 : decode cX8_shift 119 = .ok (.iload 5, 2) := by decide +kernel
theorem dX8_shift_121 : decode cX8_shift 121 = .ok (.if_icmp .ge 30, 3) := by decide +kernel
theorem dX8_shift_124 : decode cX8_shift 124 = .ok (.aload_n 0, 1) := by decide +kernel
theorem dX8_shift_125 : decode cX8_shift 125 = .ok (.getfield 118, 3) := by decide +kernel
theorem dX8_shift_128 : decode cX8_shift 128 = .ok (.iload 6, 2) := by decide +kernel
theorem dX8_shift_130 : decode cX8_shift 130 = .ok (.aload_n 0, 1) := by decide +kernel
theorem dX8_shift_131 : decode cX8_shift 131 = .ok (.getfield 114, 3) := by decide +kernel
theorem dX8_shift_134 : decode cX8_shift 134 = .ok (.bipush 60, 2) := by decide +kernel
theorem dX8_shift_136 : decode cX8_shift 136 = .ok (.iload_n 1, 1) := by decide +kernel
theorem dX8_shift_137 : decode cX8_shift 137 = .ok (.imul, 1) := by decide +kernel
theorem dX8_shift_138 : decode cX8_shift 138 = .ok (.iload_n 2, 1) := by decide +kernel
theorem dX8_shift_139 : decode cX8_shift 139 = .ok (.iadd, 1) := by decide +kernel
theorem dX8_shift_140 : decode cX8_shift 140 = .ok (.iload 6, 2) := by decide +kernel
theorem dX8_shift_142 : decode cX8_shift 142 = .ok (.iadd, 1) := by decide +kernel
theorem dX8_shift_143 : decode cX8_shift 143 = .ok (.laload, 1) := by decide +kernel
theorem dX8_shift_144 : decode cX8_shift 144 = .ok (.lastore, 1) := by decide +kernel
theorem dX8_shift_145 : decode cX8_shift 145 = .ok (.iinc 6 1, 3) := by decide +kernel
theorem dX8_shift_148 : decode cX8_shift 148 = .ok (.goto (-31), 3) := by decide +kernel
theorem dX8_shift_151 : decode cX8_shift 151 = .ok (.iconst 0, 1) := by decide +kernel
theorem dX8_shift_152 : decode cX8_shift 152 = .ok (.istore 6, 2) := by decide +kernel
theorem dX8_shift_154 : decode cX8_shift 154 = .ok (.iload 6, 2) := by decide +kernel
theorem dX8_shift_156 : decode cX8_shift 156 = .ok (.iload 5, 2) := by decide +kernel
theorem dX8_shift_158 : decode cX8_shift 158 = .ok (.if_icmp .ge 31, 3) := by decide +kernel
theorem dX8_shift_161 : decode cX8_shift 161 = .ok (.aload_n 0, 1) := by decide +kernel
theorem dX8_shift_162 : decode cX8_shift 162 = .ok (.getfield 114, 3) := by decide +kernel
theorem dX8_shift_165 : decode cX8_shift 165 = .ok (.bipush 60, 2) := by decide +kernel
theorem dX8_shift_167 : decode cX8_shift 167 = .ok (.iload_n 3, 1) := by decide +kernel
theorem dX8_shift_168 : decode cX8_shift 168 = .ok (.imul, 1) := by decide +kernel
theorem dX8_shift_169 : decode cX8_shift 169 = .ok (.iload 4, 2) := by decide +kernel
theorem dX8_shift_171 : decode cX8_shift 171 = .ok (.iadd, 1) := by decide +kernel
theorem dX8_shift_172 : decode cX8_shift 172 = .ok (.iload 6, 2) := by decide +kernel
theorem dX8_shift_174 : decode cX8_shift 174 = .ok (.iadd, 1) := by decide +kernel
theorem dX8_shift_175 : decode cX8_shift 175 = .ok (.aload_n 0, 1) := by decide +kernel
theorem dX8_shift_176 : decode cX8_shift 176 = .ok (.getfield 118, 3) := by decide +kernel
theorem dX8_shift_179 : decode cX8_shift 179 = .ok (.iload 6, 2) := by decide +kernel
theorem dX8_shift_181 : decode cX8_shift 181 = .ok (.laload, 1) := by decide +kernel
theorem dX8_shift_182 : decode cX8_shift 182 = .ok (.lastore, 1) := by decide +kernel
theorem dX8_shift_183 : decode cX8_shift 183 = .ok (.iinc 6 1, 3) := by decide +kernel
theorem dX8_shift_186 : decode cX8_shift 186 = .ok (.goto (-32), 3) := by decide +kernel
theorem dX8_shift_189 : decode cX8_shift 189 = .ok (.iload 5, 2) := by decide +kernel
theorem dX8_shift_191 : decode cX8_shift 191 = .ok (.ireturn, 1) := by decide +kernel
theorem dX8_judge_0 : decode cX8_judge 0 = .ok (.aload_n 0, 1) := by decide +kernel
theorem dX8_judge_1 : decode cX8_judge 1 = .ok (.iconst 0, 1) := by decide +kernel
theorem dX8_judge_2 : decode cX8_judge 2 = .ok (.putfield 124, 3) := by decide +kernel
theorem dX8_judge_5 : decode cX8_judge 5 = .ok (.aload_n 0, 1) := by decide +kernel
theorem dX8_judge_6 : decode cX8_judge 6 = .ok (.iload_n 1, 1) := by decide +kernel
theorem dX8_judge_7 : decode cX8_judge 7 = .ok (.invokevirtual 366, 3) := by decide +kernel
theorem dX8_judge_10 : decode cX8_judge 10 = .ok (.ifCond .ne 5, 3) := by decide +kernel
theorem dX8_judge_13 : decode cX8_judge 13 = .ok (.iconst (-1), 1) := by decide +kernel
theorem dX8_judge_14 : decode cX8_judge 14 = .ok (.ireturn, 1) := by decide +kernel
theorem dX8_judge_15 : decode cX8_judge 15 = .ok (.aload_n 0, 1) := by decide +kernel
theorem dX8_judge_16 : decode cX8_judge 16 = .ok (.getfield 121, 3) := by decide +kernel
theorem dX8_judge_19 : decode cX8_judge 19 = .ok (.iload_n 1, 1) := by decide +kernel
theorem dX8_judge_20 : decode cX8_judge 20 = .ok (.baload, 1) := by decide +kernel
theorem dX8_judge_21 : decode cX8_judge 21 = .ok (.ifCond .eq 15, 3) := by decide +kernel
theorem dX8_judge_24 : decode cX8_judge 24 = .ok (.aload_n 0, 1) := by decide +kernel
theorem dX8_judge_25 : decode cX8_judge 25 = .ok (.getfield 108, 3) := by decide +kernel
theorem dX8_judge_28 : decode cX8_judge 28 = .ok (.iload_n 1, 1) := by decide +kernel
theorem dX8_judge_29 : decode cX8_judge 29 = .ok (.iaload, 1) := by decide +kernel
theorem dX8_judge_30 : decode cX8_judge 30 = .ok (.ifCond .eq 6, 3) := by decide +kernel
theorem dX8_judge_33 : decode cX8_judge 33 = .ok (.bipush (-12), 2) := by decide +kernel
theorem dX8_judge_35 : decode cX8_judge 35 = .ok (.ireturn, 1) := by decide +kernel
theorem dX8_judge_36 : decode cX8_judge 36 = .ok (.iconst 0, 1) := by decide +kernel
theorem dX8_judge_37 : decode cX8_judge 37 = .ok (.istore_n 3, 1) := by decide +kernel
theorem dX8_judge_38 : decode cX8_judge 38 = .ok (.iload_n 3, 1) := by decide +kernel
theorem dX8_judge_39 : decode cX8_judge 39 = .ok (.aload_n 0, 1) := by decide +kernel
theorem dX8_judge_40 : decode cX8_judge 40 = .ok (.getfield 127, 3) := by decide +kernel
theorem dX8_judge_43 : decode cX8_judge 43 = .ok (.if_icmp .ge 69, 3) := by decide +kernel
theorem dX8_judge_46 : decode cX8_judge 46 = .ok (.aload_n 0, 1) := by decide +kernel
theorem dX8_judge_47 : decode cX8_judge 47 = .ok (.getfield 121, 3) := by decide +kernel
theorem dX8_judge_50 : decode cX8_judge 50 = .ok (.iload_n 1, 1) := by decide +kernel
theorem dX8_judge_51 : decode cX8_judge 51 = .ok (.baload, 1) := by decide +kernel
theorem dX8_judge_52 : decode cX8_judge 52 = .ok (.ifCond .eq 23, 3) := by decide +kernel
theorem dX8_judge_55 : decode cX8_judge 55 = .ok (.iload_n 2, 1) := by decide +kernel
theorem dX8_judge_56 : decode cX8_judge 56 = .ok (.ifCond .lt 19, 3) := by decide +kernel
theorem dX8_judge_59 : decode cX8_judge 59 = .ok (.iload_n 2, 1) := by decide +kernel
theorem dX8_judge_60 : decode cX8_judge 60 = .ok (.i2l, 1) := by decide +kernel
theorem dX8_judge_61 : decode cX8_judge 61 = .ok (.iload_n 3, 1) := by decide +kernel
theorem dX8_judge_62 : decode cX8_judge 62 = .ok (.i2l, 1) := by decide +kernel
theorem dX8_judge_63 : decode cX8_judge 63 = .ok (.ladd, 1) := by decide +kernel
theorem dX8_judge_64 : decode cX8_judge 64 = .ok (.aload_n 0, 1) := by decide +kernel
theorem dX8_judge_65 : decode cX8_judge 65 = .ok (.getfield 111, 3) := by decide +kernel
theorem dX8_judge_68 : decode cX8_judge 68 = .ok (.iload_n 1, 1) := by decide +kernel
theorem dX8_judge_69 : decode cX8_judge 69 = .ok (.iaload, 1) := by decide +kernel
theorem dX8_judge_70 : decode cX8_judge 70 = .ok (.i2l, 1) := by decide +kernel
theorem dX8_judge_71 : decode cX8_judge 71 = .ok (.lcmp, 1) := by decide +kernel
theorem dX8_judge_72 : decode cX8_judge 72 = .ok (.ifCond .lt 8, 3) := by decide +kernel
theorem dX8_judge_75 : decode cX8_judge 75 = .ok (.bipush 100, 2) := by decide +kernel
theorem dX8_judge_77 : decode cX8_judge 77 = .ok (.iload_n 3, 1) := by decide +kernel
theorem dX8_judge_78 : decode cX8_judge 78 = .ok (.iadd, 1) := by decide +kernel
theorem dX8_judge_79 : decode cX8_judge 79 = .ok (.ireturn, 1) := by decide +kernel
theorem dX8_judge_80 : decode cX8_judge 80 = .ok (.aload_n 0, 1) := by decide +kernel
theorem dX8_judge_81 : decode cX8_judge 81 = .ok (.getfield 114, 3) := by decide +kernel
theorem dX8_judge_84 : decode cX8_judge 84 = .ok (.bipush 60, 2) := by decide +kernel
theorem dX8_judge_86 : decode cX8_judge 86 = .ok (.iload_n 1, 1) := by decide +kernel
theorem dX8_judge_87 : decode cX8_judge 87 = .ok (.imul, 1) := by decide +kernel
theorem dX8_judge_88 : decode cX8_judge 88 = .ok (.iload_n 2, 1) := by decide +kernel
theorem dX8_judge_89 : decode cX8_judge 89 = .ok (.iadd, 1) := by decide +kernel
theorem dX8_judge_90 : decode cX8_judge 90 = .ok (.iload_n 3, 1) := by decide +kernel
theorem dX8_judge_91 : decode cX8_judge 91 = .ok (.iadd, 1) := by decide +kernel
theorem dX8_judge_92 : decode cX8_judge 92 = .ok (.laload, 1) := by decide +kernel
theorem dX8_judge_93 : decode cX8_judge 93 = .ok (.aload_n 0, 1) := by decide +kernel
theorem dX8_judge_94 : decode cX8_judge 94 = .ok (.getfield 38, 3) := by decide +kernel
theorem dX8_judge_97 : decode cX8_judge 97 = .ok (.iload_n 3, 1) := by decide +kernel
theorem dX8_judge_98 : decode cX8_judge 98 = .ok (.iaload, 1) := by decide +kernel
theorem dX8_judge_99 : decode cX8_judge 99 = .ok (.i2l, 1) := by decide +kernel
theorem dX8_judge_100 : decode cX8_judge 100 = .ok (.lcmp, 1) := by decide +kernel
theorem dX8_judge_101 : decode cX8_judge 101 = .ok (.ifCond .eq 5, 3) := by decide +kernel
theorem dX8_judge_104 : decode cX8_judge 104 = .ok (.iload_n 3, 1) := by decide +kernel
theorem dX8_judge_105 : decode cX8_judge 105 = .ok (.ireturn, 1) := by decide +kernel
theorem dX8_judge_106 : decode cX8_judge 106 = .ok (.iinc 3 1, 3) := by decide +kernel
theorem dX8_judge_109 : decode cX8_judge 109 = .ok (.goto (-71), 3) := by decide +kernel
theorem dX8_judge_112 : decode cX8_judge 112 = .ok (.bipush (-5), 2) := by decide +kernel
theorem dX8_judge_114 : decode cX8_judge 114 = .ok (.ireturn, 1) := by decide +kernel
end
section
theorem dL_law_0 : decode cL_law 0 = .ok (.new 7, 3) := by decide +kernel
theorem dL_law_3 : decode cL_law 3 = .ok (.dup, 1) := by decide +kernel
theorem dL_law_4 : decode cL_law 4 = .ok (.invokespecial 9, 3) := by decide +kernel
theorem dL_law_7 : decode cL_law 7 = .ok (.astore_n 1, 1) := by decide +kernel
theorem dL_law_8 : decode cL_law 8 = .ok (.new 10, 3) := by decide +kernel
theorem dL_law_11 : decode cL_law 11 = .ok (.dup, 1) := by decide +kernel
theorem dL_law_12 : decode cL_law 12 = .ok (.invokespecial 12, 3) := by decide +kernel
theorem dL_law_15 : decode cL_law 15 = .ok (.astore_n 2, 1) := by decide +kernel
theorem dL_law_16 : decode cL_law 16 = .ok (.iconst 0, 1) := by decide +kernel
theorem dL_law_17 : decode cL_law 17 = .ok (.istore_n 3, 1) := by decide +kernel
theorem dL_law_18 : decode cL_law 18 = .ok (.iload_n 3, 1) := by decide +kernel
theorem dL_law_19 : decode cL_law 19 = .ok (.aload_n 0, 1) := by decide +kernel
theorem dL_law_20 : decode cL_law 20 = .ok (.arraylength, 1) := by decide +kernel
theorem dL_law_21 : decode cL_law 21 = .ok (.bipush 6, 2) := by decide +kernel
theorem dL_law_23 : decode cL_law 23 = .ok (.isub, 1) := by decide +kernel
theorem dL_law_24 : decode cL_law 24 = .ok (.if_icmp .gt 996, 3) := by decide +kernel
theorem dL_law_27 : decode cL_law 27 = .ok (.aload_n 0, 1) := by decide +kernel
theorem dL_law_28 : decode cL_law 28 = .ok (.iload_n 3, 1) := by decide +kernel
theorem dL_law_29 : decode cL_law 29 = .ok (.iaload, 1) := by decide +kernel
theorem dL_law_30 : decode cL_law 30 = .ok (.bipush 31, 2) := by decide +kernel
theorem dL_law_32 : decode cL_law 32 = .ok (.iand, 1) := by decide +kernel
theorem dL_law_33 : decode cL_law 33 = .ok (.tableswitch 981 0 28 #[131, 154, 177, 200, 223, 256, 289, 322, 345, 368, 391, 424, 457, 480, 513, 526, 560, 584, 617, 640, 673, 686, 719, 732, 745, 768, 811, 884, 918], 131) := by decide +kernel
theorem dL_law_164 : decode cL_law 164 = .ok (.aload_n 1, 1) := by decide +kernel
theorem dL_law_165 : decode cL_law 165 = .ok (.aload_n 0, 1) := by decide +kernel
theorem dL_law_166 : decode cL_law 166 = .ok (.iload_n 3, 1) := by decide +kernel
theorem dL_law_167 : decode cL_law 167 = .ok (.iconst 1, 1) := by decide +kernel
theorem dL_law_168 : decode cL_law 168 = .ok (.iadd, 1) := by decide +kernel
theorem dL_law_169 : decode cL_law 169 = .ok (.iaload, 1) := by decide +kernel
theorem dL_law_170 : decode cL_law 170 = .ok (.invokevirtual 13, 3) := by decide +kernel
theorem dL_law_173 : decode cL_law 173 = .ok (.aload_n 2, 1) := by decide +kernel
theorem dL_law_174 : decode cL_law 174 = .ok (.aload_n 0, 1) := by decide +kernel
theorem dL_law_175 : decode cL_law 175 = .ok (.iload_n 3, 1) := by decide +kernel
theorem dL_law_176 : decode cL_law 176 = .ok (.iconst 1, 1) := by decide +kernel
theorem dL_law_177 : decode cL_law 177 = .ok (.iadd, 1) := by decide +kernel
theorem dL_law_178 : decode cL_law 178 = .ok (.iaload, 1) := by decide +kernel
theorem dL_law_179 : decode cL_law 179 = .ok (.invokevirtual 17, 3) := by decide +kernel
theorem dL_law_182 : decode cL_law 182 = .ok (.if_icmp .eq 832, 3) := by decide +kernel
theorem dL_law_185 : decode cL_law 185 = .ok (.iconst 0, 1) := by decide +kernel
theorem dL_law_186 : decode cL_law 186 = .ok (.ireturn, 1) := by decide +kernel
theorem dL_law_187 : decode cL_law 187 = .ok (.aload_n 1, 1) := by decide +kernel
theorem dL_law_188 : decode cL_law 188 = .ok (.aload_n 0, 1) := by decide +kernel
theorem dL_law_189 : decode cL_law 189 = .ok (.iload_n 3, 1) := by decide +kernel
theorem dL_law_190 : decode cL_law 190 = .ok (.iconst 1, 1) := by decide +kernel
theorem dL_law_191 : decode cL_law 191 = .ok (.iadd, 1) := by decide +kernel
theorem dL_law_192 : decode cL_law 192 = .ok (.iaload, 1) := by decide +kernel
theorem dL_law_193 : decode cL_law 193 = .ok (.invokevirtual 18, 3) := by decide +kernel
theorem dL_law_196 : decode cL_law 196 = .ok (.aload_n 2, 1) := by decide +kernel
theorem dL_law_197 : decode cL_law 197 = .ok (.aload_n 0, 1) := by decide +kernel
theorem dL_law_198 : decode cL_law 198 = .ok (.iload_n 3, 1) := by decide +kernel
theorem dL_law_199 : decode cL_law 199 = .ok (.iconst 1, 1) := by decide +kernel
theorem dL_law_200 : decode cL_law 200 = .ok (.iadd, 1) := by decide +kernel
theorem dL_law_201 : decode cL_law 201 = .ok (.iaload, 1) := by decide +kernel
theorem dL_law_202 : decode cL_law 202 = .ok (.invokevirtual 21, 3) := by decide +kernel
theorem dL_law_205 : decode cL_law 205 = .ok (.if_icmp .eq 809, 3) := by decide +kernel
theorem dL_law_208 : decode cL_law 208 = .ok (.iconst 0, 1) := by decide +kernel
theorem dL_law_209 : decode cL_law 209 = .ok (.ireturn, 1) := by decide +kernel
theorem dL_law_210 : decode cL_law 210 = .ok (.aload_n 1, 1) := by decide +kernel
theorem dL_law_211 : decode cL_law 211 = .ok (.aload_n 0, 1) := by decide +kernel
theorem dL_law_212 : decode cL_law 212 = .ok (.iload_n 3, 1) := by decide +kernel
theorem dL_law_213 : decode cL_law 213 = .ok (.iconst 1, 1) := by decide +kernel
theorem dL_law_214 : decode cL_law 214 = .ok (.iadd, 1) := by decide +kernel
theorem dL_law_215 : decode cL_law 215 = .ok (.iaload, 1) := by decide +kernel
theorem dL_law_216 : decode cL_law 216 = .ok (.invokevirtual 22, 3) := by decide +kernel
theorem dL_law_219 : decode cL_law 219 = .ok (.aload_n 2, 1) := by decide +kernel
theorem dL_law_220 : decode cL_law 220 = .ok (.aload_n 0, 1) := by decide +kernel
theorem dL_law_221 : decode cL_law 221 = .ok (.iload_n 3, 1) := by decide +kernel
theorem dL_law_222 : decode cL_law 222 = .ok (.iconst 1, 1) := by decide +kernel
theorem dL_law_223 : decode cL_law 223 = .ok (.iadd, 1) := by decide +kernel
theorem dL_law_224 : decode cL_law 224 = .ok (.iaload, 1) := by decide +kernel
theorem dL_law_225 : decode cL_law 225 = .ok (.invokevirtual 25, 3) := by decide +kernel
theorem dL_law_228 : decode cL_law 228 = .ok (.if_icmp .eq 786, 3) := by decide +kernel
theorem dL_law_231 : decode cL_law 231 = .ok (.iconst 0, 1) := by decide +kernel
theorem dL_law_232 : decode cL_law 232 = .ok (.ireturn, 1) := by decide +kernel
theorem dL_law_233 : decode cL_law 233 = .ok (.aload_n 1, 1) := by decide +kernel
theorem dL_law_234 : decode cL_law 234 = .ok (.aload_n 0, 1) := by decide +kernel
theorem dL_law_235 : decode cL_law 235 = .ok (.iload_n 3, 1) := by decide +kernel
theorem dL_law_236 : decode cL_law 236 = .ok (.iconst 1, 1) := by decide +kernel
theorem dL_law_237 : decode cL_law 237 = .ok (.iadd, 1) := by decide +kernel
theorem dL_law_238 : decode cL_law 238 = .ok (.iaload, 1) := by decide +kernel
theorem dL_law_239 : decode cL_law 239 = .ok (.invokevirtual 26, 3) := by decide +kernel
theorem dL_law_242 : decode cL_law 242 = .ok (.aload_n 2, 1) := by decide +kernel
theorem dL_law_243 : decode cL_law 243 = .ok (.aload_n 0, 1) := by decide +kernel
theorem dL_law_244 : decode cL_law 244 = .ok (.iload_n 3, 1) := by decide +kernel
theorem dL_law_245 : decode cL_law 245 = .ok (.iconst 1, 1) := by decide +kernel
theorem dL_law_246 : decode cL_law 246 = .ok (.iadd, 1) := by decide +kernel
theorem dL_law_247 : decode cL_law 247 = .ok (.iaload, 1) := by decide +kernel
theorem dL_law_248 : decode cL_law 248 = .ok (.invokevirtual 29, 3) := by decide +kernel
theorem dL_law_251 : decode cL_law 251 = .ok (.if_icmp .eq 763, 3) := by decide +kernel
theorem dL_law_254 : decode cL_law 254 = .ok (.iconst 0, 1) := by decide +kernel
theorem dL_law_255 : decode cL_law 255 = .ok (.ireturn, 1) := by decide +kernel
theorem dL_law_256 : decode cL_law 256 = .ok (.aload_n 1, 1) := by decide +kernel
theorem dL_law_257 : decode cL_law 257 = .ok (.aload_n 0, 1) := by decide +kernel
theorem dL_law_258 : decode cL_law 258 = .ok (.iload_n 3, 1) := by decide +kernel
theorem dL_law_259 : decode cL_law 259 = .ok (.iconst 1, 1) := by decide +kernel
theorem dL_law_260 : decode cL_law 260 = .ok (.iadd, 1) := by decide +kernel
theorem dL_law_261 : decode cL_law 261 = .ok (.iaload, 1) := by decide +kernel
theorem dL_law_262 : decode cL_law 262 = .ok (.aload_n 0, 1) := by decide +kernel
theorem dL_law_263 : decode cL_law 263 = .ok (.iload_n 3, 1) := by decide +kernel
theorem dL_law_264 : decode cL_law 264 = .ok (.iconst 2, 1) := by decide +kernel
theorem dL_law_265 : decode cL_law 265 = .ok (.iadd, 1) := by decide +kernel
theorem dL_law_266 : decode cL_law 266 = .ok (.iaload, 1) := by decide +kernel
theorem dL_law_267 : decode cL_law 267 = .ok (.invokevirtual 30, 3) := by decide +kernel
theorem dL_law_270 : decode cL_law 270 = .ok (.aload_n 2, 1) := by decide +kernel
theorem dL_law_271 : decode cL_law 271 = .ok (.aload_n 0, 1) := by decide +kernel
theorem dL_law_272 : decode cL_law 272 = .ok (.iload_n 3, 1) := by decide +kernel
theorem dL_law_273 : decode cL_law 273 = .ok (.iconst 1, 1) := by decide +kernel
theorem dL_law_274 : decode cL_law 274 = .ok (.iadd, 1) := by decide +kernel
theorem dL_law_275 : decode cL_law 275 = .ok (.iaload, 1) := by decide +kernel
theorem dL_law_276 : decode cL_law 276 = .ok (.aload_n 0, 1) := by decide +kernel
theorem dL_law_277 : decode cL_law 277 = .ok (.iload_n 3, 1) := by decide +kernel
theorem dL_law_278 : decode cL_law 278 = .ok (.iconst 2, 1) := by decide +kernel
theorem dL_law_279 : decode cL_law 279 = .ok (.iadd, 1) := by decide +kernel
theorem dL_law_280 : decode cL_law 280 = .ok (.iaload, 1) := by decide +kernel
theorem dL_law_281 : decode cL_law 281 = .ok (.invokevirtual 34, 3) := by decide +kernel
theorem dL_law_284 : decode cL_law 284 = .ok (.if_icmp .eq 730, 3) := by decide +kernel
theorem dL_law_287 : decode cL_law 287 = .ok (.iconst 0, 1) := by decide +kernel
theorem dL_law_288 : decode cL_law 288 = .ok (.ireturn, 1) := by decide +kernel
theorem dL_law_289 : decode cL_law 289 = .ok (.aload_n 1, 1) := by decide +kernel
theorem dL_law_290 : decode cL_law 290 = .ok (.aload_n 0, 1) := by decide +kernel
theorem dL_law_291 : decode cL_law 291 = .ok (.iload_n 3, 1) := by decide +kernel
theorem dL_law_292 : decode cL_law 292 = .ok (.iconst 1, 1) := by decide +kernel
theorem dL_law_293 : decode cL_law 293 = .ok (.iadd, 1) := by decide +kernel
theorem dL_law_294 : decode cL_law 294 = .ok (.iaload, 1) := by decide +kernel
theorem dL_law_295 : decode cL_law 295 = .ok (.aload_n 0, 1) := by decide +kernel
theorem dL_law_296 : decode cL_law 296 = .ok (.iload_n 3, 1) := by decide +kernel
theorem dL_law_297 : decode cL_law 297 = .ok (.iconst 2, 1) := by decide +kernel
theorem dL_law_298 : decode cL_law 298 = .ok (.iadd, 1) := by decide +kernel
theorem dL_law_299 : decode cL_law 299 = .ok (.iaload, 1) := by decide +kernel
theorem dL_law_300 : decode cL_law 300 = .ok (.invokevirtual 35, 3) := by decide +kernel
theorem dL_law_303 : decode cL_law 303 = .ok (.aload_n 2, 1) := by decide +kernel
theorem dL_law_304 : decode cL_law 304 = .ok (.aload_n 0, 1) := by decide +kernel
theorem dL_law_305 : decode cL_law 305 = .ok (.iload_n 3, 1) := by decide +kernel
theorem dL_law_306 : decode cL_law 306 = .ok (.iconst 1, 1) := by decide +kernel
theorem dL_law_307 : decode cL_law 307 = .ok (.iadd, 1) := by decide +kernel
theorem dL_law_308 : decode cL_law 308 = .ok (.iaload, 1) := by decide +kernel
theorem dL_law_309 : decode cL_law 309 = .ok (.aload_n 0, 1) := by decide +kernel
theorem dL_law_310 : decode cL_law 310 = .ok (.iload_n 3, 1) := by decide +kernel
theorem dL_law_311 : decode cL_law 311 = .ok (.iconst 2, 1) := by decide +kernel
theorem dL_law_312 : decode cL_law 312 = .ok (.iadd, 1) := by decide +kernel
theorem dL_law_313 : decode cL_law 313 = .ok (.iaload, 1) := by decide +kernel
theorem dL_law_314 : decode cL_law 314 = .ok (.invokevirtual 38, 3) := by decide +kernel
theorem dL_law_317 : decode cL_law 317 = .ok (.if_icmp .eq 697, 3) := by decide +kernel
theorem dL_law_320 : decode cL_law 320 = .ok (.iconst 0, 1) := by decide +kernel
theorem dL_law_321 : decode cL_law 321 = .ok (.ireturn, 1) := by decide +kernel
theorem dL_law_322 : decode cL_law 322 = .ok (.aload_n 1, 1) := by decide +kernel
theorem dL_law_323 : decode cL_law 323 = .ok (.aload_n 0, 1) := by decide +kernel
theorem dL_law_324 : decode cL_law 324 = .ok (.iload_n 3, 1) := by decide +kernel
theorem dL_law_325 : decode cL_law 325 = .ok (.iconst 1, 1) := by decide +kernel
theorem dL_law_326 : decode cL_law 326 = .ok (.iadd, 1) := by decide +kernel
theorem dL_law_327 : decode cL_law 327 = .ok (.iaload, 1) := by decide +kernel
theorem dL_law_328 : decode cL_law 328 = .ok (.aload_n 0, 1) := by decide +kernel
theorem dL_law_329 : decode cL_law 329 = .ok (.iload_n 3, 1) := by decide +kernel
theorem dL_law_330 : decode cL_law 330 = .ok (.iconst 2, 1) := by decide +kernel
theorem dL_law_331 : decode cL_law 331 = .ok (.iadd, 1) := by decide +kernel
theorem dL_law_332 : decode cL_law 332 = .ok (.iaload, 1) := by decide +kernel
theorem dL_law_333 : decode cL_law 333 = .ok (.invokevirtual 39, 3) := by decide +kernel
theorem dL_law_336 : decode cL_law 336 = .ok (.aload_n 2, 1) := by decide +kernel
theorem dL_law_337 : decode cL_law 337 = .ok (.aload_n 0, 1) := by decide +kernel
theorem dL_law_338 : decode cL_law 338 = .ok (.iload_n 3, 1) := by decide +kernel
theorem dL_law_339 : decode cL_law 339 = .ok (.iconst 1, 1) := by decide +kernel
theorem dL_law_340 : decode cL_law 340 = .ok (.iadd, 1) := by decide +kernel
theorem dL_law_341 : decode cL_law 341 = .ok (.iaload, 1) := by decide +kernel
theorem dL_law_342 : decode cL_law 342 = .ok (.aload_n 0, 1) := by decide +kernel
theorem dL_law_343 : decode cL_law 343 = .ok (.iload_n 3, 1) := by decide +kernel
theorem dL_law_344 : decode cL_law 344 = .ok (.iconst 2, 1) := by decide +kernel
theorem dL_law_345 : decode cL_law 345 = .ok (.iadd, 1) := by decide +kernel
theorem dL_law_346 : decode cL_law 346 = .ok (.iaload, 1) := by decide +kernel
theorem dL_law_347 : decode cL_law 347 = .ok (.invokevirtual 42, 3) := by decide +kernel
theorem dL_law_350 : decode cL_law 350 = .ok (.if_icmp .eq 664, 3) := by decide +kernel
theorem dL_law_353 : decode cL_law 353 = .ok (.iconst 0, 1) := by decide +kernel
theorem dL_law_354 : decode cL_law 354 = .ok (.ireturn, 1) := by decide +kernel
theorem dL_law_355 : decode cL_law 355 = .ok (.aload_n 1, 1) := by decide +kernel
theorem dL_law_356 : decode cL_law 356 = .ok (.aload_n 0, 1) := by decide +kernel
theorem dL_law_357 : decode cL_law 357 = .ok (.iload_n 3, 1) := by decide +kernel
theorem dL_law_358 : decode cL_law 358 = .ok (.iconst 1, 1) := by decide +kernel
theorem dL_law_359 : decode cL_law 359 = .ok (.iadd, 1) := by decide +kernel
theorem dL_law_360 : decode cL_law 360 = .ok (.iaload, 1) := by decide +kernel
theorem dL_law_361 : decode cL_law 361 = .ok (.invokevirtual 43, 3) := by decide +kernel
theorem dL_law_364 : decode cL_law 364 = .ok (.aload_n 2, 1) := by decide +kernel
theorem dL_law_365 : decode cL_law 365 = .ok (.aload_n 0, 1) := by decide +kernel
theorem dL_law_366 : decode cL_law 366 = .ok (.iload_n 3, 1) := by decide +kernel
theorem dL_law_367 : decode cL_law 367 = .ok (.iconst 1, 1) := by decide +kernel
theorem dL_law_368 : decode cL_law 368 = .ok (.iadd, 1) := by decide +kernel
theorem dL_law_369 : decode cL_law 369 = .ok (.iaload, 1) := by decide +kernel
theorem dL_law_370 : decode cL_law 370 = .ok (.invokevirtual 46, 3) := by decide +kernel
theorem dL_law_373 : decode cL_law 373 = .ok (.if_icmp .eq 641, 3) := by decide +kernel
theorem dL_law_376 : decode cL_law 376 = .ok (.iconst 0, 1) := by decide +kernel
theorem dL_law_377 : decode cL_law 377 = .ok (.ireturn, 1) := by decide +kernel
theorem dL_law_378 : decode cL_law 378 = .ok (.aload_n 1, 1) := by decide +kernel
theorem dL_law_379 : decode cL_law 379 = .ok (.aload_n 0, 1) := by decide +kernel
theorem dL_law_380 : decode cL_law 380 = .ok (.iload_n 3, 1) := by decide +kernel
theorem dL_law_381 : decode cL_law 381 = .ok (.iconst 1, 1) := by decide +kernel
theorem dL_law_382 : decode cL_law 382 = .ok (.iadd, 1) := by decide +kernel
theorem dL_law_383 : decode cL_law 383 = .ok (.iaload, 1) := by decide +kernel
theorem dL_law_384 : decode cL_law 384 = .ok (.invokevirtual 47, 3) := by decide +kernel
theorem dL_law_387 : decode cL_law 387 = .ok (.aload_n 2, 1) := by decide +kernel
theorem dL_law_388 : decode cL_law 388 = .ok (.aload_n 0, 1) := by decide +kernel
theorem dL_law_389 : decode cL_law 389 = .ok (.iload_n 3, 1) := by decide +kernel
theorem dL_law_390 : decode cL_law 390 = .ok (.iconst 1, 1) := by decide +kernel
theorem dL_law_391 : decode cL_law 391 = .ok (.iadd, 1) := by decide +kernel
theorem dL_law_392 : decode cL_law 392 = .ok (.iaload, 1) := by decide +kernel
theorem dL_law_393 : decode cL_law 393 = .ok (.invokevirtual 50, 3) := by decide +kernel
theorem dL_law_396 : decode cL_law 396 = .ok (.if_icmp .eq 618, 3) := by decide +kernel
theorem dL_law_399 : decode cL_law 399 = .ok (.iconst 0, 1) := by decide +kernel
theorem dL_law_400 : decode cL_law 400 = .ok (.ireturn, 1) := by decide +kernel
theorem dL_law_401 : decode cL_law 401 = .ok (.aload_n 1, 1) := by decide +kernel
theorem dL_law_402 : decode cL_law 402 = .ok (.aload_n 0, 1) := by decide +kernel
theorem dL_law_403 : decode cL_law 403 = .ok (.iload_n 3, 1) := by decide +kernel
theorem dL_law_404 : decode cL_law 404 = .ok (.iconst 1, 1) := by decide +kernel
theorem dL_law_405 : decode cL_law 405 = .ok (.iadd, 1) := by decide +kernel
theorem dL_law_406 : decode cL_law 406 = .ok (.iaload, 1) := by decide +kernel
theorem dL_law_407 : decode cL_law 407 = .ok (.invokevirtual 51, 3) := by decide +kernel
theorem dL_law_410 : decode cL_law 410 = .ok (.aload_n 2, 1) := by decide +kernel
theorem dL_law_411 : decode cL_law 411 = .ok (.aload_n 0, 1) := by decide +kernel
theorem dL_law_412 : decode cL_law 412 = .ok (.iload_n 3, 1) := by decide +kernel
theorem dL_law_413 : decode cL_law 413 = .ok (.iconst 1, 1) := by decide +kernel
theorem dL_law_414 : decode cL_law 414 = .ok (.iadd, 1) := by decide +kernel
theorem dL_law_415 : decode cL_law 415 = .ok (.iaload, 1) := by decide +kernel
theorem dL_law_416 : decode cL_law 416 = .ok (.invokevirtual 54, 3) := by decide +kernel
theorem dL_law_419 : decode cL_law 419 = .ok (.if_icmp .eq 595, 3) := by decide +kernel
theorem dL_law_422 : decode cL_law 422 = .ok (.iconst 0, 1) := by decide +kernel
theorem dL_law_423 : decode cL_law 423 = .ok (.ireturn, 1) := by decide +kernel
theorem dL_law_424 : decode cL_law 424 = .ok (.aload_n 1, 1) := by decide +kernel
theorem dL_law_425 : decode cL_law 425 = .ok (.aload_n 0, 1) := by decide +kernel
theorem dL_law_426 : decode cL_law 426 = .ok (.iload_n 3, 1) := by decide +kernel
theorem dL_law_427 : decode cL_law 427 = .ok (.iconst 1, 1) := by decide +kernel
theorem dL_law_428 : decode cL_law 428 = .ok (.iadd, 1) := by decide +kernel
theorem dL_law_429 : decode cL_law 429 = .ok (.iaload, 1) := by decide +kernel
theorem dL_law_430 : decode cL_law 430 = .ok (.aload_n 0, 1) := by decide +kernel
theorem dL_law_431 : decode cL_law 431 = .ok (.iload_n 3, 1) := by decide +kernel
theorem dL_law_432 : decode cL_law 432 = .ok (.iconst 2, 1) := by decide +kernel
theorem dL_law_433 : decode cL_law 433 = .ok (.iadd, 1) := by decide +kernel
theorem dL_law_434 : decode cL_law 434 = .ok (.iaload, 1) := by decide +kernel
theorem dL_law_435 : decode cL_law 435 = .ok (.invokevirtual 55, 3) := by decide +kernel
theorem dL_law_438 : decode cL_law 438 = .ok (.aload_n 2, 1) := by decide +kernel
theorem dL_law_439 : decode cL_law 439 = .ok (.aload_n 0, 1) := by decide +kernel
theorem dL_law_440 : decode cL_law 440 = .ok (.iload_n 3, 1) := by decide +kernel
theorem dL_law_441 : decode cL_law 441 = .ok (.iconst 1, 1) := by decide +kernel
theorem dL_law_442 : decode cL_law 442 = .ok (.iadd, 1) := by decide +kernel
theorem dL_law_443 : decode cL_law 443 = .ok (.iaload, 1) := by decide +kernel
theorem dL_law_444 : decode cL_law 444 = .ok (.aload_n 0, 1) := by decide +kernel
theorem dL_law_445 : decode cL_law 445 = .ok (.iload_n 3, 1) := by decide +kernel
theorem dL_law_446 : decode cL_law 446 = .ok (.iconst 2, 1) := by decide +kernel
theorem dL_law_447 : decode cL_law 447 = .ok (.iadd, 1) := by decide +kernel
theorem dL_law_448 : decode cL_law 448 = .ok (.iaload, 1) := by decide +kernel
theorem dL_law_449 : decode cL_law 449 = .ok (.invokevirtual 58, 3) := by decide +kernel
theorem dL_law_452 : decode cL_law 452 = .ok (.if_icmp .eq 562, 3) := by decide +kernel
theorem dL_law_455 : decode cL_law 455 = .ok (.iconst 0, 1) := by decide +kernel
theorem dL_law_456 : decode cL_law 456 = .ok (.ireturn, 1) := by decide +kernel
theorem dL_law_457 : decode cL_law 457 = .ok (.aload_n 1, 1) := by decide +kernel
theorem dL_law_458 : decode cL_law 458 = .ok (.aload_n 0, 1) := by decide +kernel
theorem dL_law_459 : decode cL_law 459 = .ok (.iload_n 3, 1) := by decide +kernel
theorem dL_law_460 : decode cL_law 460 = .ok (.iconst 1, 1) := by decide +kernel
theorem dL_law_461 : decode cL_law 461 = .ok (.iadd, 1) := by decide +kernel
theorem dL_law_462 : decode cL_law 462 = .ok (.iaload, 1) := by decide +kernel
theorem dL_law_463 : decode cL_law 463 = .ok (.aload_n 0, 1) := by decide +kernel
theorem dL_law_464 : decode cL_law 464 = .ok (.iload_n 3, 1) := by decide +kernel
theorem dL_law_465 : decode cL_law 465 = .ok (.iconst 2, 1) := by decide +kernel
theorem dL_law_466 : decode cL_law 466 = .ok (.iadd, 1) := by decide +kernel
theorem dL_law_467 : decode cL_law 467 = .ok (.iaload, 1) := by decide +kernel
theorem dL_law_468 : decode cL_law 468 = .ok (.invokevirtual 59, 3) := by decide +kernel
theorem dL_law_471 : decode cL_law 471 = .ok (.aload_n 2, 1) := by decide +kernel
theorem dL_law_472 : decode cL_law 472 = .ok (.aload_n 0, 1) := by decide +kernel
theorem dL_law_473 : decode cL_law 473 = .ok (.iload_n 3, 1) := by decide +kernel
theorem dL_law_474 : decode cL_law 474 = .ok (.iconst 1, 1) := by decide +kernel
theorem dL_law_475 : decode cL_law 475 = .ok (.iadd, 1) := by decide +kernel
theorem dL_law_476 : decode cL_law 476 = .ok (.iaload, 1) := by decide +kernel
theorem dL_law_477 : decode cL_law 477 = .ok (.aload_n 0, 1) := by decide +kernel
theorem dL_law_478 : decode cL_law 478 = .ok (.iload_n 3, 1) := by decide +kernel
theorem dL_law_479 : decode cL_law 479 = .ok (.iconst 2, 1) := by decide +kernel
theorem dL_law_480 : decode cL_law 480 = .ok (.iadd, 1) := by decide +kernel
theorem dL_law_481 : decode cL_law 481 = .ok (.iaload, 1) := by decide +kernel
theorem dL_law_482 : decode cL_law 482 = .ok (.invokevirtual 62, 3) := by decide +kernel
theorem dL_law_485 : decode cL_law 485 = .ok (.if_icmp .eq 529, 3) := by decide +kernel
theorem dL_law_488 : decode cL_law 488 = .ok (.iconst 0, 1) := by decide +kernel
theorem dL_law_489 : decode cL_law 489 = .ok (.ireturn, 1) := by decide +kernel
theorem dL_law_490 : decode cL_law 490 = .ok (.aload_n 1, 1) := by decide +kernel
theorem dL_law_491 : decode cL_law 491 = .ok (.aload_n 0, 1) := by decide +kernel
theorem dL_law_492 : decode cL_law 492 = .ok (.iload_n 3, 1) := by decide +kernel
theorem dL_law_493 : decode cL_law 493 = .ok (.iconst 1, 1) := by decide +kernel
theorem dL_law_494 : decode cL_law 494 = .ok (.iadd, 1) := by decide +kernel
theorem dL_law_495 : decode cL_law 495 = .ok (.iaload, 1) := by decide +kernel
theorem dL_law_496 : decode cL_law 496 = .ok (.invokevirtual 63, 3) := by decide +kernel
theorem dL_law_499 : decode cL_law 499 = .ok (.aload_n 2, 1) := by decide +kernel
theorem dL_law_500 : decode cL_law 500 = .ok (.aload_n 0, 1) := by decide +kernel
theorem dL_law_501 : decode cL_law 501 = .ok (.iload_n 3, 1) := by decide +kernel
theorem dL_law_502 : decode cL_law 502 = .ok (.iconst 1, 1) := by decide +kernel
theorem dL_law_503 : decode cL_law 503 = .ok (.iadd, 1) := by decide +kernel
theorem dL_law_504 : decode cL_law 504 = .ok (.iaload, 1) := by decide +kernel
theorem dL_law_505 : decode cL_law 505 = .ok (.invokevirtual 66, 3) := by decide +kernel
theorem dL_law_508 : decode cL_law 508 = .ok (.if_icmp .eq 506, 3) := by decide +kernel
theorem dL_law_511 : decode cL_law 511 = .ok (.iconst 0, 1) := by decide +kernel
theorem dL_law_512 : decode cL_law 512 = .ok (.ireturn, 1) := by decide +kernel
theorem dL_law_513 : decode cL_law 513 = .ok (.aload_n 1, 1) := by decide +kernel
theorem dL_law_514 : decode cL_law 514 = .ok (.aload_n 0, 1) := by decide +kernel
theorem dL_law_515 : decode cL_law 515 = .ok (.iload_n 3, 1) := by decide +kernel
theorem dL_law_516 : decode cL_law 516 = .ok (.iconst 1, 1) := by decide +kernel
theorem dL_law_517 : decode cL_law 517 = .ok (.iadd, 1) := by decide +kernel
theorem dL_law_518 : decode cL_law 518 = .ok (.iaload, 1) := by decide +kernel
theorem dL_law_519 : decode cL_law 519 = .ok (.aload_n 0, 1) := by decide +kernel
theorem dL_law_520 : decode cL_law 520 = .ok (.iload_n 3, 1) := by decide +kernel
theorem dL_law_521 : decode cL_law 521 = .ok (.iconst 2, 1) := by decide +kernel
theorem dL_law_522 : decode cL_law 522 = .ok (.iadd, 1) := by decide +kernel
theorem dL_law_523 : decode cL_law 523 = .ok (.iaload, 1) := by decide +kernel
theorem dL_law_524 : decode cL_law 524 = .ok (.invokevirtual 67, 3) := by decide +kernel
theorem dL_law_527 : decode cL_law 527 = .ok (.aload_n 2, 1) := by decide +kernel
theorem dL_law_528 : decode cL_law 528 = .ok (.aload_n 0, 1) := by decide +kernel
theorem dL_law_529 : decode cL_law 529 = .ok (.iload_n 3, 1) := by decide +kernel
theorem dL_law_530 : decode cL_law 530 = .ok (.iconst 1, 1) := by decide +kernel
theorem dL_law_531 : decode cL_law 531 = .ok (.iadd, 1) := by decide +kernel
theorem dL_law_532 : decode cL_law 532 = .ok (.iaload, 1) := by decide +kernel
theorem dL_law_533 : decode cL_law 533 = .ok (.aload_n 0, 1) := by decide +kernel
theorem dL_law_534 : decode cL_law 534 = .ok (.iload_n 3, 1) := by decide +kernel
theorem dL_law_535 : decode cL_law 535 = .ok (.iconst 2, 1) := by decide +kernel
theorem dL_law_536 : decode cL_law 536 = .ok (.iadd, 1) := by decide +kernel
theorem dL_law_537 : decode cL_law 537 = .ok (.iaload, 1) := by decide +kernel
theorem dL_law_538 : decode cL_law 538 = .ok (.invokevirtual 70, 3) := by decide +kernel
theorem dL_law_541 : decode cL_law 541 = .ok (.if_icmp .eq 473, 3) := by decide +kernel
theorem dL_law_544 : decode cL_law 544 = .ok (.iconst 0, 1) := by decide +kernel
theorem dL_law_545 : decode cL_law 545 = .ok (.ireturn, 1) := by decide +kernel
theorem dL_law_546 : decode cL_law 546 = .ok (.aload_n 1, 1) := by decide +kernel
theorem dL_law_547 : decode cL_law 547 = .ok (.invokevirtual 71, 3) := by decide +kernel
theorem dL_law_550 : decode cL_law 550 = .ok (.aload_n 2, 1) := by decide +kernel
theorem dL_law_551 : decode cL_law 551 = .ok (.invokevirtual 75, 3) := by decide +kernel
theorem dL_law_554 : decode cL_law 554 = .ok (.if_icmp .eq 460, 3) := by decide +kernel
theorem dL_law_557 : decode cL_law 557 = .ok (.iconst 0, 1) := by decide +kernel
theorem dL_law_558 : decode cL_law 558 = .ok (.ireturn, 1) := by decide +kernel
theorem dL_law_559 : decode cL_law 559 = .ok (.aload_n 1, 1) := by decide +kernel
theorem dL_law_560 : decode cL_law 560 = .ok (.aload_n 0, 1) := by decide +kernel
theorem dL_law_561 : decode cL_law 561 = .ok (.iload_n 3, 1) := by decide +kernel
theorem dL_law_562 : decode cL_law 562 = .ok (.iconst 1, 1) := by decide +kernel
theorem dL_law_563 : decode cL_law 563 = .ok (.iadd, 1) := by decide +kernel
theorem dL_law_564 : decode cL_law 564 = .ok (.iaload, 1) := by decide +kernel
theorem dL_law_565 : decode cL_law 565 = .ok (.aload_n 0, 1) := by decide +kernel
theorem dL_law_566 : decode cL_law 566 = .ok (.iload_n 3, 1) := by decide +kernel
theorem dL_law_567 : decode cL_law 567 = .ok (.iconst 2, 1) := by decide +kernel
theorem dL_law_568 : decode cL_law 568 = .ok (.iadd, 1) := by decide +kernel
theorem dL_law_569 : decode cL_law 569 = .ok (.iaload, 1) := by decide +kernel
theorem dL_law_570 : decode cL_law 570 = .ok (.invokevirtual 76, 3) := by decide +kernel
theorem dL_law_573 : decode cL_law 573 = .ok (.aload_n 2, 1) := by decide +kernel
theorem dL_law_574 : decode cL_law 574 = .ok (.aload_n 0, 1) := by decide +kernel
theorem dL_law_575 : decode cL_law 575 = .ok (.iload_n 3, 1) := by decide +kernel
theorem dL_law_576 : decode cL_law 576 = .ok (.iconst 1, 1) := by decide +kernel
theorem dL_law_577 : decode cL_law 577 = .ok (.iadd, 1) := by decide +kernel
theorem dL_law_578 : decode cL_law 578 = .ok (.iaload, 1) := by decide +kernel
theorem dL_law_579 : decode cL_law 579 = .ok (.aload_n 0, 1) := by decide +kernel
theorem dL_law_580 : decode cL_law 580 = .ok (.iload_n 3, 1) := by decide +kernel
theorem dL_law_581 : decode cL_law 581 = .ok (.iconst 2, 1) := by decide +kernel
theorem dL_law_582 : decode cL_law 582 = .ok (.iadd, 1) := by decide +kernel
theorem dL_law_583 : decode cL_law 583 = .ok (.iaload, 1) := by decide +kernel
theorem dL_law_584 : decode cL_law 584 = .ok (.invokevirtual 80, 3) := by decide +kernel
theorem dL_law_587 : decode cL_law 587 = .ok (.lcmp, 1) := by decide +kernel
theorem dL_law_588 : decode cL_law 588 = .ok (.ifCond .eq 426, 3) := by decide +kernel
theorem dL_law_591 : decode cL_law 591 = .ok (.iconst 0, 1) := by decide +kernel
theorem dL_law_592 : decode cL_law 592 = .ok (.ireturn, 1) := by decide +kernel
theorem dL_law_593 : decode cL_law 593 = .ok (.aload_n 1, 1) := by decide +kernel
theorem dL_law_594 : decode cL_law 594 = .ok (.aload_n 0, 1) := by decide +kernel
theorem dL_law_595 : decode cL_law 595 = .ok (.iload_n 3, 1) := by decide +kernel
theorem dL_law_596 : decode cL_law 596 = .ok (.iconst 1, 1) := by decide +kernel
theorem dL_law_597 : decode cL_law 597 = .ok (.iadd, 1) := by decide +kernel
theorem dL_law_598 : decode cL_law 598 = .ok (.iaload, 1) := by decide +kernel
theorem dL_law_599 : decode cL_law 599 = .ok (.invokevirtual 81, 3) := by decide +kernel
theorem dL_law_602 : decode cL_law 602 = .ok (.aload_n 2, 1) := by decide +kernel
theorem dL_law_603 : decode cL_law 603 = .ok (.aload_n 0, 1) := by decide +kernel
theorem dL_law_604 : decode cL_law 604 = .ok (.iload_n 3, 1) := by decide +kernel
theorem dL_law_605 : decode cL_law 605 = .ok (.iconst 1, 1) := by decide +kernel
theorem dL_law_606 : decode cL_law 606 = .ok (.iadd, 1) := by decide +kernel
theorem dL_law_607 : decode cL_law 607 = .ok (.iaload, 1) := by decide +kernel
theorem dL_law_608 : decode cL_law 608 = .ok (.invokevirtual 85, 3) := by decide +kernel
theorem dL_law_611 : decode cL_law 611 = .ok (.lcmp, 1) := by decide +kernel
theorem dL_law_612 : decode cL_law 612 = .ok (.ifCond .eq 402, 3) := by decide +kernel
theorem dL_law_615 : decode cL_law 615 = .ok (.iconst 0, 1) := by decide +kernel
theorem dL_law_616 : decode cL_law 616 = .ok (.ireturn, 1) := by decide +kernel
theorem dL_law_617 : decode cL_law 617 = .ok (.aload_n 1, 1) := by decide +kernel
theorem dL_law_618 : decode cL_law 618 = .ok (.aload_n 0, 1) := by decide +kernel
theorem dL_law_619 : decode cL_law 619 = .ok (.iload_n 3, 1) := by decide +kernel
theorem dL_law_620 : decode cL_law 620 = .ok (.iconst 1, 1) := by decide +kernel
theorem dL_law_621 : decode cL_law 621 = .ok (.iadd, 1) := by decide +kernel
theorem dL_law_622 : decode cL_law 622 = .ok (.iaload, 1) := by decide +kernel
theorem dL_law_623 : decode cL_law 623 = .ok (.aload_n 0, 1) := by decide +kernel
theorem dL_law_624 : decode cL_law 624 = .ok (.iload_n 3, 1) := by decide +kernel
theorem dL_law_625 : decode cL_law 625 = .ok (.iconst 2, 1) := by decide +kernel
theorem dL_law_626 : decode cL_law 626 = .ok (.iadd, 1) := by decide +kernel
theorem dL_law_627 : decode cL_law 627 = .ok (.iaload, 1) := by decide +kernel
theorem dL_law_628 : decode cL_law 628 = .ok (.invokevirtual 86, 3) := by decide +kernel
theorem dL_law_631 : decode cL_law 631 = .ok (.aload_n 2, 1) := by decide +kernel
theorem dL_law_632 : decode cL_law 632 = .ok (.aload_n 0, 1) := by decide +kernel
theorem dL_law_633 : decode cL_law 633 = .ok (.iload_n 3, 1) := by decide +kernel
theorem dL_law_634 : decode cL_law 634 = .ok (.iconst 1, 1) := by decide +kernel
theorem dL_law_635 : decode cL_law 635 = .ok (.iadd, 1) := by decide +kernel
theorem dL_law_636 : decode cL_law 636 = .ok (.iaload, 1) := by decide +kernel
theorem dL_law_637 : decode cL_law 637 = .ok (.aload_n 0, 1) := by decide +kernel
theorem dL_law_638 : decode cL_law 638 = .ok (.iload_n 3, 1) := by decide +kernel
theorem dL_law_639 : decode cL_law 639 = .ok (.iconst 2, 1) := by decide +kernel
theorem dL_law_640 : decode cL_law 640 = .ok (.iadd, 1) := by decide +kernel
theorem dL_law_641 : decode cL_law 641 = .ok (.iaload, 1) := by decide +kernel
theorem dL_law_642 : decode cL_law 642 = .ok (.invokevirtual 89, 3) := by decide +kernel
theorem dL_law_645 : decode cL_law 645 = .ok (.if_icmp .eq 369, 3) := by decide +kernel
theorem dL_law_648 : decode cL_law 648 = .ok (.iconst 0, 1) := by decide +kernel
theorem dL_law_649 : decode cL_law 649 = .ok (.ireturn, 1) := by decide +kernel
theorem dL_law_650 : decode cL_law 650 = .ok (.aload_n 1, 1) := by decide +kernel
theorem dL_law_651 : decode cL_law 651 = .ok (.aload_n 0, 1) := by decide +kernel
theorem dL_law_652 : decode cL_law 652 = .ok (.iload_n 3, 1) := by decide +kernel
theorem dL_law_653 : decode cL_law 653 = .ok (.iconst 1, 1) := by decide +kernel
theorem dL_law_654 : decode cL_law 654 = .ok (.iadd, 1) := by decide +kernel
theorem dL_law_655 : decode cL_law 655 = .ok (.iaload, 1) := by decide +kernel
theorem dL_law_656 : decode cL_law 656 = .ok (.invokevirtual 90, 3) := by decide +kernel
theorem dL_law_659 : decode cL_law 659 = .ok (.aload_n 2, 1) := by decide +kernel
theorem dL_law_660 : decode cL_law 660 = .ok (.aload_n 0, 1) := by decide +kernel
theorem dL_law_661 : decode cL_law 661 = .ok (.iload_n 3, 1) := by decide +kernel
theorem dL_law_662 : decode cL_law 662 = .ok (.iconst 1, 1) := by decide +kernel
theorem dL_law_663 : decode cL_law 663 = .ok (.iadd, 1) := by decide +kernel
theorem dL_law_664 : decode cL_law 664 = .ok (.iaload, 1) := by decide +kernel
theorem dL_law_665 : decode cL_law 665 = .ok (.invokevirtual 93, 3) := by decide +kernel
theorem dL_law_668 : decode cL_law 668 = .ok (.if_icmp .eq 346, 3) := by decide +kernel
theorem dL_law_671 : decode cL_law 671 = .ok (.iconst 0, 1) := by decide +kernel
theorem dL_law_672 : decode cL_law 672 = .ok (.ireturn, 1) := by decide +kernel
theorem dL_law_673 : decode cL_law 673 = .ok (.aload_n 1, 1) := by decide +kernel
theorem dL_law_674 : decode cL_law 674 = .ok (.aload_n 0, 1) := by decide +kernel
theorem dL_law_675 : decode cL_law 675 = .ok (.iload_n 3, 1) := by decide +kernel
theorem dL_law_676 : decode cL_law 676 = .ok (.iconst 1, 1) := by decide +kernel
theorem dL_law_677 : decode cL_law 677 = .ok (.iadd, 1) := by decide +kernel
theorem dL_law_678 : decode cL_law 678 = .ok (.iaload, 1) := by decide +kernel
theorem dL_law_679 : decode cL_law 679 = .ok (.aload_n 0, 1) := by decide +kernel
theorem dL_law_680 : decode cL_law 680 = .ok (.iload_n 3, 1) := by decide +kernel
theorem dL_law_681 : decode cL_law 681 = .ok (.iconst 2, 1) := by decide +kernel
theorem dL_law_682 : decode cL_law 682 = .ok (.iadd, 1) := by decide +kernel
theorem dL_law_683 : decode cL_law 683 = .ok (.iaload, 1) := by decide +kernel
theorem dL_law_684 : decode cL_law 684 = .ok (.invokevirtual 94, 3) := by decide +kernel
theorem dL_law_687 : decode cL_law 687 = .ok (.aload_n 2, 1) := by decide +kernel
theorem dL_law_688 : decode cL_law 688 = .ok (.aload_n 0, 1) := by decide +kernel
theorem dL_law_689 : decode cL_law 689 = .ok (.iload_n 3, 1) := by decide +kernel
theorem dL_law_690 : decode cL_law 690 = .ok (.iconst 1, 1) := by decide +kernel
theorem dL_law_691 : decode cL_law 691 = .ok (.iadd, 1) := by decide +kernel
theorem dL_law_692 : decode cL_law 692 = .ok (.iaload, 1) := by decide +kernel
theorem dL_law_693 : decode cL_law 693 = .ok (.aload_n 0, 1) := by decide +kernel
theorem dL_law_694 : decode cL_law 694 = .ok (.iload_n 3, 1) := by decide +kernel
theorem dL_law_695 : decode cL_law 695 = .ok (.iconst 2, 1) := by decide +kernel
theorem dL_law_696 : decode cL_law 696 = .ok (.iadd, 1) := by decide +kernel
theorem dL_law_697 : decode cL_law 697 = .ok (.iaload, 1) := by decide +kernel
theorem dL_law_698 : decode cL_law 698 = .ok (.invokevirtual 97, 3) := by decide +kernel
theorem dL_law_701 : decode cL_law 701 = .ok (.if_icmp .eq 313, 3) := by decide +kernel
theorem dL_law_704 : decode cL_law 704 = .ok (.iconst 0, 1) := by decide +kernel
theorem dL_law_705 : decode cL_law 705 = .ok (.ireturn, 1) := by decide +kernel
theorem dL_law_706 : decode cL_law 706 = .ok (.aload_n 1, 1) := by decide +kernel
theorem dL_law_707 : decode cL_law 707 = .ok (.invokevirtual 98, 3) := by decide +kernel
theorem dL_law_710 : decode cL_law 710 = .ok (.aload_n 2, 1) := by decide +kernel
theorem dL_law_711 : decode cL_law 711 = .ok (.invokevirtual 101, 3) := by decide +kernel
theorem dL_law_714 : decode cL_law 714 = .ok (.if_icmp .eq 300, 3) := by decide +kernel
theorem dL_law_717 : decode cL_law 717 = .ok (.iconst 0, 1) := by decide +kernel
theorem dL_law_718 : decode cL_law 718 = .ok (.ireturn, 1) := by decide +kernel
theorem dL_law_719 : decode cL_law 719 = .ok (.aload_n 1, 1) := by decide +kernel
theorem dL_law_720 : decode cL_law 720 = .ok (.aload_n 0, 1) := by decide +kernel
theorem dL_law_721 : decode cL_law 721 = .ok (.iload_n 3, 1) := by decide +kernel
theorem dL_law_722 : decode cL_law 722 = .ok (.iconst 1, 1) := by decide +kernel
theorem dL_law_723 : decode cL_law 723 = .ok (.iadd, 1) := by decide +kernel
theorem dL_law_724 : decode cL_law 724 = .ok (.iaload, 1) := by decide +kernel
theorem dL_law_725 : decode cL_law 725 = .ok (.aload_n 0, 1) := by decide +kernel
theorem dL_law_726 : decode cL_law 726 = .ok (.iload_n 3, 1) := by decide +kernel
theorem dL_law_727 : decode cL_law 727 = .ok (.iconst 2, 1) := by decide +kernel
theorem dL_law_728 : decode cL_law 728 = .ok (.iadd, 1) := by decide +kernel
theorem dL_law_729 : decode cL_law 729 = .ok (.iaload, 1) := by decide +kernel
theorem dL_law_730 : decode cL_law 730 = .ok (.invokevirtual 102, 3) := by decide +kernel
theorem dL_law_733 : decode cL_law 733 = .ok (.aload_n 2, 1) := by decide +kernel
theorem dL_law_734 : decode cL_law 734 = .ok (.aload_n 0, 1) := by decide +kernel
theorem dL_law_735 : decode cL_law 735 = .ok (.iload_n 3, 1) := by decide +kernel
theorem dL_law_736 : decode cL_law 736 = .ok (.iconst 1, 1) := by decide +kernel
theorem dL_law_737 : decode cL_law 737 = .ok (.iadd, 1) := by decide +kernel
theorem dL_law_738 : decode cL_law 738 = .ok (.iaload, 1) := by decide +kernel
theorem dL_law_739 : decode cL_law 739 = .ok (.aload_n 0, 1) := by decide +kernel
theorem dL_law_740 : decode cL_law 740 = .ok (.iload_n 3, 1) := by decide +kernel
theorem dL_law_741 : decode cL_law 741 = .ok (.iconst 2, 1) := by decide +kernel
theorem dL_law_742 : decode cL_law 742 = .ok (.iadd, 1) := by decide +kernel
theorem dL_law_743 : decode cL_law 743 = .ok (.iaload, 1) := by decide +kernel
theorem dL_law_744 : decode cL_law 744 = .ok (.invokevirtual 105, 3) := by decide +kernel
theorem dL_law_747 : decode cL_law 747 = .ok (.if_icmp .eq 267, 3) := by decide +kernel
theorem dL_law_750 : decode cL_law 750 = .ok (.iconst 0, 1) := by decide +kernel
theorem dL_law_751 : decode cL_law 751 = .ok (.ireturn, 1) := by decide +kernel
theorem dL_law_752 : decode cL_law 752 = .ok (.aload_n 1, 1) := by decide +kernel
theorem dL_law_753 : decode cL_law 753 = .ok (.invokevirtual 106, 3) := by decide +kernel
theorem dL_law_756 : decode cL_law 756 = .ok (.aload_n 2, 1) := by decide +kernel
theorem dL_law_757 : decode cL_law 757 = .ok (.invokevirtual 109, 3) := by decide +kernel
theorem dL_law_760 : decode cL_law 760 = .ok (.if_icmp .eq 254, 3) := by decide +kernel
theorem dL_law_763 : decode cL_law 763 = .ok (.iconst 0, 1) := by decide +kernel
theorem dL_law_764 : decode cL_law 764 = .ok (.ireturn, 1) := by decide +kernel
theorem dL_law_765 : decode cL_law 765 = .ok (.aload_n 1, 1) := by decide +kernel
theorem dL_law_766 : decode cL_law 766 = .ok (.invokevirtual 110, 3) := by decide +kernel
theorem dL_law_769 : decode cL_law 769 = .ok (.aload_n 2, 1) := by decide +kernel
theorem dL_law_770 : decode cL_law 770 = .ok (.invokevirtual 113, 3) := by decide +kernel
theorem dL_law_773 : decode cL_law 773 = .ok (.if_icmp .eq 241, 3) := by decide +kernel
theorem dL_law_776 : decode cL_law 776 = .ok (.iconst 0, 1) := by decide +kernel
theorem dL_law_777 : decode cL_law 777 = .ok (.ireturn, 1) := by decide +kernel
theorem dL_law_778 : decode cL_law 778 = .ok (.aload_n 1, 1) := by decide +kernel
theorem dL_law_779 : decode cL_law 779 = .ok (.aload_n 0, 1) := by decide +kernel
theorem dL_law_780 : decode cL_law 780 = .ok (.iload_n 3, 1) := by decide +kernel
theorem dL_law_781 : decode cL_law 781 = .ok (.iconst 1, 1) := by decide +kernel
theorem dL_law_782 : decode cL_law 782 = .ok (.iadd, 1) := by decide +kernel
theorem dL_law_783 : decode cL_law 783 = .ok (.iaload, 1) := by decide +kernel
theorem dL_law_784 : decode cL_law 784 = .ok (.invokevirtual 114, 3) := by decide +kernel
theorem dL_law_787 : decode cL_law 787 = .ok (.aload_n 2, 1) := by decide +kernel
theorem dL_law_788 : decode cL_law 788 = .ok (.aload_n 0, 1) := by decide +kernel
theorem dL_law_789 : decode cL_law 789 = .ok (.iload_n 3, 1) := by decide +kernel
theorem dL_law_790 : decode cL_law 790 = .ok (.iconst 1, 1) := by decide +kernel
theorem dL_law_791 : decode cL_law 791 = .ok (.iadd, 1) := by decide +kernel
theorem dL_law_792 : decode cL_law 792 = .ok (.iaload, 1) := by decide +kernel
theorem dL_law_793 : decode cL_law 793 = .ok (.invokevirtual 117, 3) := by decide +kernel
theorem dL_law_796 : decode cL_law 796 = .ok (.if_icmp .eq 218, 3) := by decide +kernel
theorem dL_law_799 : decode cL_law 799 = .ok (.iconst 0, 1) := by decide +kernel
theorem dL_law_800 : decode cL_law 800 = .ok (.ireturn, 1) := by decide +kernel
theorem dL_law_801 : decode cL_law 801 = .ok (.aload_n 1, 1) := by decide +kernel
theorem dL_law_802 : decode cL_law 802 = .ok (.aload_n 0, 1) := by decide +kernel
theorem dL_law_803 : decode cL_law 803 = .ok (.iload_n 3, 1) := by decide +kernel
theorem dL_law_804 : decode cL_law 804 = .ok (.iconst 1, 1) := by decide +kernel
theorem dL_law_805 : decode cL_law 805 = .ok (.iadd, 1) := by decide +kernel
theorem dL_law_806 : decode cL_law 806 = .ok (.iaload, 1) := by decide +kernel
theorem dL_law_807 : decode cL_law 807 = .ok (.aload_n 0, 1) := by decide +kernel
theorem dL_law_808 : decode cL_law 808 = .ok (.iload_n 3, 1) := by decide +kernel
theorem dL_law_809 : decode cL_law 809 = .ok (.iconst 2, 1) := by decide +kernel
theorem dL_law_810 : decode cL_law 810 = .ok (.iadd, 1) := by decide +kernel
theorem dL_law_811 : decode cL_law 811 = .ok (.iaload, 1) := by decide +kernel
theorem dL_law_812 : decode cL_law 812 = .ok (.aload_n 0, 1) := by decide +kernel
theorem dL_law_813 : decode cL_law 813 = .ok (.iload_n 3, 1) := by decide +kernel
theorem dL_law_814 : decode cL_law 814 = .ok (.iconst 3, 1) := by decide +kernel
theorem dL_law_815 : decode cL_law 815 = .ok (.iadd, 1) := by decide +kernel
theorem dL_law_816 : decode cL_law 816 = .ok (.iaload, 1) := by decide +kernel
theorem dL_law_817 : decode cL_law 817 = .ok (.invokevirtual 118, 3) := by decide +kernel
theorem dL_law_820 : decode cL_law 820 = .ok (.aload_n 2, 1) := by decide +kernel
theorem dL_law_821 : decode cL_law 821 = .ok (.aload_n 0, 1) := by decide +kernel
theorem dL_law_822 : decode cL_law 822 = .ok (.iload_n 3, 1) := by decide +kernel
theorem dL_law_823 : decode cL_law 823 = .ok (.iconst 1, 1) := by decide +kernel
theorem dL_law_824 : decode cL_law 824 = .ok (.iadd, 1) := by decide +kernel
theorem dL_law_825 : decode cL_law 825 = .ok (.iaload, 1) := by decide +kernel
theorem dL_law_826 : decode cL_law 826 = .ok (.aload_n 0, 1) := by decide +kernel
theorem dL_law_827 : decode cL_law 827 = .ok (.iload_n 3, 1) := by decide +kernel
theorem dL_law_828 : decode cL_law 828 = .ok (.iconst 2, 1) := by decide +kernel
theorem dL_law_829 : decode cL_law 829 = .ok (.iadd, 1) := by decide +kernel
theorem dL_law_830 : decode cL_law 830 = .ok (.iaload, 1) := by decide +kernel
theorem dL_law_831 : decode cL_law 831 = .ok (.aload_n 0, 1) := by decide +kernel
theorem dL_law_832 : decode cL_law 832 = .ok (.iload_n 3, 1) := by decide +kernel
theorem dL_law_833 : decode cL_law 833 = .ok (.iconst 3, 1) := by decide +kernel
theorem dL_law_834 : decode cL_law 834 = .ok (.iadd, 1) := by decide +kernel
theorem dL_law_835 : decode cL_law 835 = .ok (.iaload, 1) := by decide +kernel
theorem dL_law_836 : decode cL_law 836 = .ok (.invokevirtual 122, 3) := by decide +kernel
theorem dL_law_839 : decode cL_law 839 = .ok (.if_icmp .eq 175, 3) := by decide +kernel
theorem dL_law_842 : decode cL_law 842 = .ok (.iconst 0, 1) := by decide +kernel
theorem dL_law_843 : decode cL_law 843 = .ok (.ireturn, 1) := by decide +kernel
theorem dL_law_844 : decode cL_law 844 = .ok (.aload_n 1, 1) := by decide +kernel
theorem dL_law_845 : decode cL_law 845 = .ok (.aload_n 0, 1) := by decide +kernel
theorem dL_law_846 : decode cL_law 846 = .ok (.iload_n 3, 1) := by decide +kernel
theorem dL_law_847 : decode cL_law 847 = .ok (.iconst 1, 1) := by decide +kernel
theorem dL_law_848 : decode cL_law 848 = .ok (.iadd, 1) := by decide +kernel
theorem dL_law_849 : decode cL_law 849 = .ok (.iaload, 1) := by decide +kernel
theorem dL_law_850 : decode cL_law 850 = .ok (.aload_n 0, 1) := by decide +kernel
theorem dL_law_851 : decode cL_law 851 = .ok (.iload_n 3, 1) := by decide +kernel
theorem dL_law_852 : decode cL_law 852 = .ok (.iconst 2, 1) := by decide +kernel
theorem dL_law_853 : decode cL_law 853 = .ok (.iadd, 1) := by decide +kernel
theorem dL_law_854 : decode cL_law 854 = .ok (.iaload, 1) := by decide +kernel
theorem dL_law_855 : decode cL_law 855 = .ok (.aload_n 0, 1) := by decide +kernel
theorem dL_law_856 : decode cL_law 856 = .ok (.iload_n 3, 1) := by decide +kernel
theorem dL_law_857 : decode cL_law 857 = .ok (.iconst 3, 1) := by decide +kernel
theorem dL_law_858 : decode cL_law 858 = .ok (.iadd, 1) := by decide +kernel
theorem dL_law_859 : decode cL_law 859 = .ok (.iaload, 1) := by decide +kernel
theorem dL_law_860 : decode cL_law 860 = .ok (.i2l, 1) := by decide +kernel
theorem dL_law_861 : decode cL_law 861 = .ok (.bipush 32, 2) := by decide +kernel
theorem dL_law_863 : decode cL_law 863 = .ok (.lshl, 1) := by decide +kernel
theorem dL_law_864 : decode cL_law 864 = .ok (.aload_n 0, 1) := by decide +kernel
theorem dL_law_865 : decode cL_law 865 = .ok (.iload_n 3, 1) := by decide +kernel
theorem dL_law_866 : decode cL_law 866 = .ok (.iconst 4, 1) := by decide +kernel
theorem dL_law_867 : decode cL_law 867 = .ok (.iadd, 1) := by decide +kernel
theorem dL_law_868 : decode cL_law 868 = .ok (.iaload, 1) := by decide +kernel
theorem dL_law_869 : decode cL_law 869 = .ok (.i2l, 1) := by decide +kernel
theorem dL_law_870 : decode cL_law 870 = .ok (.ldc2_w 123, 3) := by decide +kernel
theorem dL_law_873 : decode cL_law 873 = .ok (.land, 1) := by decide +kernel
theorem dL_law_874 : decode cL_law 874 = .ok (.lor, 1) := by decide +kernel
theorem dL_law_875 : decode cL_law 875 = .ok (.invokevirtual 125, 3) := by decide +kernel
theorem dL_law_878 : decode cL_law 878 = .ok (.aload_n 2, 1) := by decide +kernel
theorem dL_law_879 : decode cL_law 879 = .ok (.aload_n 0, 1) := by decide +kernel
theorem dL_law_880 : decode cL_law 880 = .ok (.iload_n 3, 1) := by decide +kernel
theorem dL_law_881 : decode cL_law 881 = .ok (.iconst 1, 1) := by decide +kernel
theorem dL_law_882 : decode cL_law 882 = .ok (.iadd, 1) := by decide +kernel
theorem dL_law_883 : decode cL_law 883 = .ok (.iaload, 1) := by decide +kernel
theorem dL_law_884 : decode cL_law 884 = .ok (.aload_n 0, 1) := by decide +kernel
theorem dL_law_885 : decode cL_law 885 = .ok (.iload_n 3, 1) := by decide +kernel
theorem dL_law_886 : decode cL_law 886 = .ok (.iconst 2, 1) := by decide +kernel
theorem dL_law_887 : decode cL_law 887 = .ok (.iadd, 1) := by decide +kernel
theorem dL_law_888 : decode cL_law 888 = .ok (.iaload, 1) := by decide +kernel
theorem dL_law_889 : decode cL_law 889 = .ok (.aload_n 0, 1) := by decide +kernel
theorem dL_law_890 : decode cL_law 890 = .ok (.iload_n 3, 1) := by decide +kernel
theorem dL_law_891 : decode cL_law 891 = .ok (.iconst 3, 1) := by decide +kernel
theorem dL_law_892 : decode cL_law 892 = .ok (.iadd, 1) := by decide +kernel
theorem dL_law_893 : decode cL_law 893 = .ok (.iaload, 1) := by decide +kernel
theorem dL_law_894 : decode cL_law 894 = .ok (.i2l, 1) := by decide +kernel
theorem dL_law_895 : decode cL_law 895 = .ok (.bipush 32, 2) := by decide +kernel
theorem dL_law_897 : decode cL_law 897 = .ok (.lshl, 1) := by decide +kernel
theorem dL_law_898 : decode cL_law 898 = .ok (.aload_n 0, 1) := by decide +kernel
theorem dL_law_899 : decode cL_law 899 = .ok (.iload_n 3, 1) := by decide +kernel
theorem dL_law_900 : decode cL_law 900 = .ok (.iconst 4, 1) := by decide +kernel
theorem dL_law_901 : decode cL_law 901 = .ok (.iadd, 1) := by decide +kernel
theorem dL_law_902 : decode cL_law 902 = .ok (.iaload, 1) := by decide +kernel
theorem dL_law_903 : decode cL_law 903 = .ok (.i2l, 1) := by decide +kernel
theorem dL_law_904 : decode cL_law 904 = .ok (.ldc2_w 123, 3) := by decide +kernel
theorem dL_law_907 : decode cL_law 907 = .ok (.land, 1) := by decide +kernel
theorem dL_law_908 : decode cL_law 908 = .ok (.lor, 1) := by decide +kernel
theorem dL_law_909 : decode cL_law 909 = .ok (.invokevirtual 129, 3) := by decide +kernel
theorem dL_law_912 : decode cL_law 912 = .ok (.if_icmp .eq 102, 3) := by decide +kernel
theorem dL_law_915 : decode cL_law 915 = .ok (.iconst 0, 1) := by decide +kernel
theorem dL_law_916 : decode cL_law 916 = .ok (.ireturn, 1) := by decide +kernel
theorem dL_law_917 : decode cL_law 917 = .ok (.aload_n 1, 1) := by decide +kernel
theorem dL_law_918 : decode cL_law 918 = .ok (.aload_n 0, 1) := by decide +kernel
theorem dL_law_919 : decode cL_law 919 = .ok (.iload_n 3, 1) := by decide +kernel
theorem dL_law_920 : decode cL_law 920 = .ok (.iconst 1, 1) := by decide +kernel
theorem dL_law_921 : decode cL_law 921 = .ok (.iadd, 1) := by decide +kernel
theorem dL_law_922 : decode cL_law 922 = .ok (.iaload, 1) := by decide +kernel
theorem dL_law_923 : decode cL_law 923 = .ok (.aload_n 0, 1) := by decide +kernel
theorem dL_law_924 : decode cL_law 924 = .ok (.iload_n 3, 1) := by decide +kernel
theorem dL_law_925 : decode cL_law 925 = .ok (.iconst 2, 1) := by decide +kernel
theorem dL_law_926 : decode cL_law 926 = .ok (.iadd, 1) := by decide +kernel
theorem dL_law_927 : decode cL_law 927 = .ok (.iaload, 1) := by decide +kernel
theorem dL_law_928 : decode cL_law 928 = .ok (.invokevirtual 130, 3) := by decide +kernel
theorem dL_law_931 : decode cL_law 931 = .ok (.aload_n 2, 1) := by decide +kernel
theorem dL_law_932 : decode cL_law 932 = .ok (.aload_n 0, 1) := by decide +kernel
theorem dL_law_933 : decode cL_law 933 = .ok (.iload_n 3, 1) := by decide +kernel
theorem dL_law_934 : decode cL_law 934 = .ok (.iconst 1, 1) := by decide +kernel
theorem dL_law_935 : decode cL_law 935 = .ok (.iadd, 1) := by decide +kernel
theorem dL_law_936 : decode cL_law 936 = .ok (.iaload, 1) := by decide +kernel
theorem dL_law_937 : decode cL_law 937 = .ok (.aload_n 0, 1) := by decide +kernel
theorem dL_law_938 : decode cL_law 938 = .ok (.iload_n 3, 1) := by decide +kernel
theorem dL_law_939 : decode cL_law 939 = .ok (.iconst 2, 1) := by decide +kernel
theorem dL_law_940 : decode cL_law 940 = .ok (.iadd, 1) := by decide +kernel
theorem dL_law_941 : decode cL_law 941 = .ok (.iaload, 1) := by decide +kernel
theorem dL_law_942 : decode cL_law 942 = .ok (.invokevirtual 133, 3) := by decide +kernel
theorem dL_law_945 : decode cL_law 945 = .ok (.lcmp, 1) := by decide +kernel
theorem dL_law_946 : decode cL_law 946 = .ok (.ifCond .eq 68, 3) := by decide +kernel
theorem dL_law_949 : decode cL_law 949 = .ok (.iconst 0, 1) := by decide +kernel
theorem dL_law_950 : decode cL_law 950 = .ok (.ireturn, 1) := by decide +kernel
theorem dL_law_951 : decode cL_law 951 = .ok (.aload_n 1, 1) := by decide +kernel
theorem dL_law_952 : decode cL_law 952 = .ok (.aload_n 0, 1) := by decide +kernel
theorem dL_law_953 : decode cL_law 953 = .ok (.iload_n 3, 1) := by decide +kernel
theorem dL_law_954 : decode cL_law 954 = .ok (.iconst 1, 1) := by decide +kernel
theorem dL_law_955 : decode cL_law 955 = .ok (.iadd, 1) := by decide +kernel
theorem dL_law_956 : decode cL_law 956 = .ok (.iaload, 1) := by decide +kernel
theorem dL_law_957 : decode cL_law 957 = .ok (.aload_n 0, 1) := by decide +kernel
theorem dL_law_958 : decode cL_law 958 = .ok (.iload_n 3, 1) := by decide +kernel
theorem dL_law_959 : decode cL_law 959 = .ok (.iconst 2, 1) := by decide +kernel
theorem dL_law_960 : decode cL_law 960 = .ok (.iadd, 1) := by decide +kernel
theorem dL_law_961 : decode cL_law 961 = .ok (.iaload, 1) := by decide +kernel
theorem dL_law_962 : decode cL_law 962 = .ok (.aload_n 0, 1) := by decide +kernel
theorem dL_law_963 : decode cL_law 963 = .ok (.iload_n 3, 1) := by decide +kernel
theorem dL_law_964 : decode cL_law 964 = .ok (.iconst 3, 1) := by decide +kernel
theorem dL_law_965 : decode cL_law 965 = .ok (.iadd, 1) := by decide +kernel
theorem dL_law_966 : decode cL_law 966 = .ok (.iaload, 1) := by decide +kernel
theorem dL_law_967 : decode cL_law 967 = .ok (.aload_n 0, 1) := by decide +kernel
theorem dL_law_968 : decode cL_law 968 = .ok (.iload_n 3, 1) := by decide +kernel
theorem dL_law_969 : decode cL_law 969 = .ok (.iconst 4, 1) := by decide +kernel
theorem dL_law_970 : decode cL_law 970 = .ok (.iadd, 1) := by decide +kernel
theorem dL_law_971 : decode cL_law 971 = .ok (.iaload, 1) := by decide +kernel
theorem dL_law_972 : decode cL_law 972 = .ok (.aload_n 0, 1) := by decide +kernel
theorem dL_law_973 : decode cL_law 973 = .ok (.iload_n 3, 1) := by decide +kernel
theorem dL_law_974 : decode cL_law 974 = .ok (.iconst 5, 1) := by decide +kernel
theorem dL_law_975 : decode cL_law 975 = .ok (.iadd, 1) := by decide +kernel
theorem dL_law_976 : decode cL_law 976 = .ok (.iaload, 1) := by decide +kernel
theorem dL_law_977 : decode cL_law 977 = .ok (.invokevirtual 134, 3) := by decide +kernel
theorem dL_law_980 : decode cL_law 980 = .ok (.aload_n 2, 1) := by decide +kernel
theorem dL_law_981 : decode cL_law 981 = .ok (.aload_n 0, 1) := by decide +kernel
theorem dL_law_982 : decode cL_law 982 = .ok (.iload_n 3, 1) := by decide +kernel
theorem dL_law_983 : decode cL_law 983 = .ok (.iconst 1, 1) := by decide +kernel
theorem dL_law_984 : decode cL_law 984 = .ok (.iadd, 1) := by decide +kernel
theorem dL_law_985 : decode cL_law 985 = .ok (.iaload, 1) := by decide +kernel
theorem dL_law_986 : decode cL_law 986 = .ok (.aload_n 0, 1) := by decide +kernel
theorem dL_law_987 : decode cL_law 987 = .ok (.iload_n 3, 1) := by decide +kernel
theorem dL_law_988 : decode cL_law 988 = .ok (.iconst 2, 1) := by decide +kernel
theorem dL_law_989 : decode cL_law 989 = .ok (.iadd, 1) := by decide +kernel
theorem dL_law_990 : decode cL_law 990 = .ok (.iaload, 1) := by decide +kernel
theorem dL_law_991 : decode cL_law 991 = .ok (.aload_n 0, 1) := by decide +kernel
theorem dL_law_992 : decode cL_law 992 = .ok (.iload_n 3, 1) := by decide +kernel
theorem dL_law_993 : decode cL_law 993 = .ok (.iconst 3, 1) := by decide +kernel
theorem dL_law_994 : decode cL_law 994 = .ok (.iadd, 1) := by decide +kernel
theorem dL_law_995 : decode cL_law 995 = .ok (.iaload, 1) := by decide +kernel
theorem dL_law_996 : decode cL_law 996 = .ok (.aload_n 0, 1) := by decide +kernel
theorem dL_law_997 : decode cL_law 997 = .ok (.iload_n 3, 1) := by decide +kernel
theorem dL_law_998 : decode cL_law 998 = .ok (.iconst 4, 1) := by decide +kernel
theorem dL_law_999 : decode cL_law 999 = .ok (.iadd, 1) := by decide +kernel
theorem dL_law_1000 : decode cL_law 1000 = .ok (.iaload, 1) := by decide +kernel
theorem dL_law_1001 : decode cL_law 1001 = .ok (.aload_n 0, 1) := by decide +kernel
theorem dL_law_1002 : decode cL_law 1002 = .ok (.iload_n 3, 1) := by decide +kernel
theorem dL_law_1003 : decode cL_law 1003 = .ok (.iconst 5, 1) := by decide +kernel
theorem dL_law_1004 : decode cL_law 1004 = .ok (.iadd, 1) := by decide +kernel
theorem dL_law_1005 : decode cL_law 1005 = .ok (.iaload, 1) := by decide +kernel
theorem dL_law_1006 : decode cL_law 1006 = .ok (.invokevirtual 138, 3) := by decide +kernel
theorem dL_law_1009 : decode cL_law 1009 = .ok (.if_icmp .eq 5, 3) := by decide +kernel
theorem dL_law_1012 : decode cL_law 1012 = .ok (.iconst 0, 1) := by decide +kernel
theorem dL_law_1013 : decode cL_law 1013 = .ok (.ireturn, 1) := by decide +kernel
theorem dL_law_1014 : decode cL_law 1014 = .ok (.iinc 3 6, 3) := by decide +kernel
theorem dL_law_1017 : decode cL_law 1017 = .ok (.goto (-999), 3) := by decide +kernel
theorem dL_law_1020 : decode cL_law 1020 = .ok (.iconst 1, 1) := by decide +kernel
theorem dL_law_1021 : decode cL_law 1021 = .ok (.ireturn, 1) := by decide +kernel
end
section
/-- the tables' words that stay good in a callee -/
def gw_tbl : List Cond := lw_tbl.filter goodWord
theorem gw_in {w : Cond} (h : w ∈ lw_tbl) (g : goodWord w = true) : w ∈ gw_tbl := List.mem_filter.mpr ⟨h, g⟩
/-! ===== the abstract machine: cells by numbers; a method's world is N cells, cell i lies at ad i ===== -/
abbrev IS : Type := Nat → Nat → Int32
abbrev JS : Type := Nat → Nat → Int64
/-- a field: an int; a fixed cell; one of two cells or none, by a code -/
abbrev FK : Type := Option (Nat ⊕ (Nat × Nat))
/-- a cell: an object of a class, with its fields; an array of a kind, of a length, of numbers or of fixed cells -/
abbrev SH : Type := (Nat × List FK) ⊕ (Nat × Nat × Option (Nat → Nat))
abbrev SF : Type := Nat → SH
def cv (ad : Nat → Nat) : Value → Value
  | .ref a => .ref (ad a)
  | v => v
theorem cv_cat (ad : Nat → Nat) (v : Value) : (cv ad v).category = v.category := by cases v <;> rfl
theorem cv_cv (ad φ : Nat → Nat) (v : Value) : cv ad (cv φ v) = cv (fun i => ad (φ i)) v := by cases v <;> rfl
def fv (ad : Nat → Nat) (f : Nat → Int32) (k : Nat) : FK → Value
  | none => .int (f k)
  | some (.inl j) => .ref (ad j)
  | some (.inr q) => if f k = 1 then .ref (ad q.1) else if f k = 2 then .ref (ad q.2) else .null
def cel (cA : Nat → ClassId) (S : SF) (ad : Nat → Nat) (I : IS) (J : JS) (i : Nat) : va_E := match S i with
  | .inl (ci, fks) => .inr (ci, fks.mapIdx (fun k fk => fv ad (I i) k fk))
  | .inr (t, n, none) => if t = 1 then .inl (cA t, n, .inr (.inl (J i))) else .inl (cA t, n, .inl (I i))
  | .inr (t, n, some g) => .inl (cA t, n, .inr (.inr (.inr (.inr (fun j => if j < n then some (ad (g j)) else none)))))
def wls (cA : Nat → ClassId) (S : SF) (N : Nat) (ad : Nat → Nat) (I : IS) (J : JS) : va_W := (List.range N).map (fun i => (ad i, cel cA S ad I J i))
theorem wls_get {cA : Nat → ClassId} {S : SF} {N : Nat} {ad : Nat → Nat} {I : IS} {J : JS} {i : Nat} (h : i < N) : (wls cA S N ad I J)[i]? = some (ad i, cel cA S ad I J i) := by
  simp [wls, h]
theorem wls_inv {cA : Nat → ClassId} {S : SF} {N : Nat} {ad : Nat → Nat} {I : IS} {J : JS} {i : Nat} {q : Nat × va_E} (h : (wls cA S N ad I J)[i]? = some q) : i < N ∧ q = (ad i, cel cA S ad I J i) := by
  have hl : i < N := by
    have := (List.getElem?_eq_some_iff.mp h).1
    simpa [wls] using this
  exact ⟨hl, (Option.some.inj ((wls_get hl).symm.trans h)).symm⟩
theorem wls_set {cA : Nat → ClassId} {S : SF} {N : Nat} {ad : Nat → Nat} {I I' : IS} {J J' : JS} {i : Nat} {e : va_E} (_ : i < N) (he : cel cA S ad I' J' i = e) (ho : ∀ j, j < N → j ≠ i → cel cA S ad I' J' j = cel cA S ad I J j) : (wls cA S N ad I J).set i (ad i, e) = wls cA S N ad I' J' := by
  apply List.ext_getElem?
  intro k
  by_cases hk : k < N
  · by_cases hki : k = i
    · subst hki
      rw [List.getElem?_set_self (by simpa [wls] using hk), wls_get hk, he]
    · rw [List.getElem?_set_ne (Ne.symm hki), wls_get hk, wls_get hk, ho k hk hki]
  · rw [List.getElem?_eq_none (by simp [wls]; omega), List.getElem?_eq_none (by simp [wls]; omega)]
/-- one number of one cell changes -/
def u2 {α : Type} (I : Nat → Nat → α) (i k : Nat) (v : α) : Nat → Nat → α := fun j => if j = i then (fun b => if b = k then v else I i b) else I j
theorem cel_I {cA : Nat → ClassId} {S : SF} {ad : Nat → Nat} {I I' : IS} {J J' : JS} {i : Nat} (h : I' i = I i) (hJ : J' i = J i) : cel cA S ad I' J' i = cel cA S ad I J i := by
  unfold cel
  rw [h, hJ]
/-- the context of a walk -/
abbrev CTX : Type := Program × Launch × Env × Room × State × MethodId × Array Value × List Frame × Method × Code × (Nat → Prop) × Nat × va_G × (Nat → ClassId) × SF × Nat × (Nat → Nat)
abbrev OUT : Type := Option Value × IS × JS
def tysOf (cA : Nat → ClassId) : List (ClassId × FieldType) := [(cA 0, .int), (cA 1, .long), (cA 2, .boolean), (cA 3, .object RX0), (cA 4, .object RX3)]
def QC (D : va_G) (cA : Nat → ClassId) (S : SF) (N : Nat) (ad : Nat → Nat) (A : Nat → Prop) (out : OUT) : Array Value → State → Outcome → State → Prop := fun _ st o t => (o = .returned out.1 ∧ va_P D vwCl (wls cA S N ad out.2.1 out.2.2) t.heap ∧ va_K D vwCl (tysOf cA) t) ∧ va_F A st t
def lq (ad : Nat → Nat) (L : List (Nat × Value)) : List (Nat × Value) := L.map (fun q => (q.1, cv ad q.2))
/-- from here, with these locals, this stack and these numbers, the method comes to its end with 'out' -/
def G (z : CTX) (pc : Nat) (L : List (Nat × Value)) (st : List Value) (I : IS) (J : JS) (out : OUT) : Prop := match z with
  | (p, l, e, R, s, m, args, below, meth, c, A, nL, D, cA, S, N, ad) => ∀ (H : Heap) (locs : List Loc) (ls : Array Slot), va_P D vwCl (wls cA S N ad I J) H → va_S A s.heap H locs → lv_has ls nL (lq ad L) →
    W p l e R s m args below meth c H locs 0 0 (MQ below (QC D cA S N ad A out) args s 0 0 A) (F0 m pc ls (st.map (cv ad)))
/-- what a walk may use: the code, the class, the tables, the shapes, the room -/
def OK (z : CTX) (cc : ByteArray) (own : String) (nL' : Nat) (S' : SF) (N' : Nat) (R' : Room) (ret : Option FieldType) : Prop := match z with
  | (p, l, e, R, s, m, args, below, meth, c, A, nL, D, cA, S, N, ad) => p.tables.exec = Jvm.exec ∧ c.code = cc ∧ s.vm.findClass own = some m.cls ∧ c.maxLocals = nL ∧ (∀ w ∈ gw_tbl, w.before args s = true) ∧ va_K D vwCl (tysOf cA) s ∧ (∀ i j, i < N → j < N → ad i = ad j → i = j) ∧ (∀ i, i < N → A (ad i)) ∧ (∀ q, s.heap.size ≤ q → A q) ∧ nL = nL' ∧ S = S' ∧ N = N' ∧ R = R' ∧ meth.sig.returnType = ret ∧ meth.locks = false
theorem dOf {A : Nat → Prop} {cA : Nat → ClassId} {S : SF} {N : Nat} {ad : Nat → Nat} {I : IS} {J : JS} (hi : ∀ i j, i < N → j < N → ad i = ad j → i = j) (hA : ∀ i, i < N → A (ad i)) : va_D A (wls cA S N ad I J) := by
  refine ⟨fun i j p q h1 h2 h => ?_, fun k q h => ?_⟩
  · obtain ⟨a1, rfl⟩ := wls_inv h1
    obtain ⟨a2, rfl⟩ := wls_inv h2
    exact hi i j a1 a2 h
  · obtain ⟨a1, rfl⟩ := wls_inv h
    exact hA k a1
theorem lq_get {ad : Nat → Nat} {L : List (Nat × Value)} {k i : Nat} {v : Value} (h : L[k]? = some (i, v)) : (lq ad L)[k]? = some (i, cv ad v) := by
  simp [lq, h]
theorem lq_cons (ad : Nat → Nat) (q : Nat × Value) (L : List (Nat × Value)) : lq ad (q :: L) = (q.1, cv ad q.2) :: lq ad L := rfl
theorem lq_f1 (ad : Nat → Nat) (i : Nat) (v : Value) (L : List (Nat × Value)) : (i, cv ad v) :: (lq ad L).filter (fun q => !(q.1 == i) && !(q.1 + 1 == i && q.2.category == 2)) = lq ad ((i, v) :: L.filter (fun q => !(q.1 == i) && !(q.1 + 1 == i && q.2.category == 2))) := by
  rw [lq_cons]
  congr 1
  unfold lq
  rw [List.filter_map]
  congr 1
  congr 1
  funext q
  simp [Function.comp, cv_cat]
theorem lq_f2 (ad : Nat → Nat) (i : Nat) (v : Value) (L : List (Nat × Value)) : (i, cv ad v) :: (lq ad L).filter (fun q => !(q.1 == i) && (!(q.1 == i + 1) && !(q.1 + 1 == i && q.2.category == 2))) = lq ad ((i, v) :: L.filter (fun q => !(q.1 == i) && (!(q.1 == i + 1) && !(q.1 + 1 == i && q.2.category == 2)))) := by
  rw [lq_cons]
  congr 1
  unfold lq
  rw [List.filter_map]
  congr 1
  congr 1
  funext q
  simp [Function.comp, cv_cat]
theorem lq_pick (ad : Nat → Nat) (L : List (Nat × Value)) (ks : List Nat) : lv_pick (lq ad L) ks = lq ad (lv_pick L ks) := by
  induction ks with
  | nil => rfl
  | cons k ks ih =>
    have e1 : lv_pick (lq ad L) (k :: ks) = ((lq ad L)[k]?).toList ++ lv_pick (lq ad L) ks := by
      unfold lv_pick
      rw [List.filterMap_cons]
      cases (lq ad L)[k]? <;> rfl
    have e2 : lv_pick L (k :: ks) = (L[k]?).toList ++ lv_pick L ks := by
      unfold lv_pick
      rw [List.filterMap_cons]
      cases L[k]? <;> rfl
    rw [e1, e2, ih]
    unfold lq
    rw [List.map_append, List.getElem?_map]
    cases L[k]? <;> rfl
theorem lq_args (ad : Nat → Nat) (av : List Value) : ∀ i : Nat, lv_args i (av.map (cv ad)) = lq ad (lv_args i av) := by
  induction av with
  | nil => intro i; rfl
  | cons v vs ih =>
    intro i
    show (i, cv ad v) :: lv_args (if (cv ad v).category = 2 then i + 2 else i + 1) (vs.map (cv ad)) = (i, cv ad v) :: lq ad (lv_args (if v.category = 2 then i + 2 else i + 1) vs)
    rw [cv_cat, ih]
section GR
variable {z : CTX} {cc : ByteArray} {own : String} {nL N : Nat} {S : SF} {R : Room} {ret : Option FieldType} {pc : Nat} {L : List (Nat × Value)} {st : List Value} {I : IS} {J : JS} {out : OUT}
theorem g_sub (ks : List Nat) {L' : List (Nat × Value)} (h : lv_pick L ks = L') (K : G z pc L' st I J out) : G z pc L st I J out := by
  obtain ⟨p, l, e, R, s, m, args, below, meth, c, A, nL, D, cA, S, N, ad⟩ := z
  intro H locs ls hP hS hl
  exact K H locs ls hP hS (lv_sub hl ks (by rw [lq_pick, h]))
theorem g_iconst (O : OK z cc own nL S N R ret) {n : Int} {v : Int32} (d : decode cc pc = .ok (.iconst n, 1)) (hv : Int32.ofInt n = v) (K : G z (pc + 1) L (.int v :: st) I J out) : G z pc L st I J out := by
  obtain ⟨p, l, e, R, s, m, args, below, meth, c, A, nL, D, cA, S, N, ad⟩ := z
  obtain ⟨hx, hb, -⟩ := O
  intro H locs ls hP hS hl
  exact lv_iconst hx hb d hv (K H locs ls hP hS hl)
theorem g_bipush (O : OK z cc own nL S N R ret) {n : Int} {v : Int32} (d : decode cc pc = .ok (.bipush n, 2)) (hv : (Int8.ofInt n).toInt32 = v) (K : G z (pc + 2) L (.int v :: st) I J out) : G z pc L st I J out := by
  obtain ⟨p, l, e, R, s, m, args, below, meth, c, A, nL, D, cA, S, N, ad⟩ := z
  obtain ⟨hx, hb, -⟩ := O
  intro H locs ls hP hS hl
  exact lv_bipush hx hb d hv (K H locs ls hP hS hl)
theorem g_sipush (O : OK z cc own nL S N R ret) {n : Int} {v : Int32} (d : decode cc pc = .ok (.sipush n, 3)) (hv : (Int16.ofInt n).toInt32 = v) (K : G z (pc + 3) L (.int v :: st) I J out) : G z pc L st I J out := by
  obtain ⟨p, l, e, R, s, m, args, below, meth, c, A, nL, D, cA, S, N, ad⟩ := z
  obtain ⟨hx, hb, -⟩ := O
  intro H locs ls hP hS hl
  exact lv_sipush hx hb d hv (K H locs ls hP hS hl)
theorem g_lconst (O : OK z cc own nL S N R ret) {n : Fin 2} {v : Int64} (d : decode cc pc = .ok (.lconst n, 1)) (hv : Int64.ofNat (n : Nat) = v) (K : G z (pc + 1) L (.long v :: st) I J out) : G z pc L st I J out := by
  obtain ⟨p, l, e, R, s, m, args, below, meth, c, A, nL, D, cA, S, N, ad⟩ := z
  obtain ⟨hx, hb, -⟩ := O
  intro H locs ls hP hS hl
  exact lv_lconst hx hb d hv (K H locs ls hP hS hl)
theorem g_ldc (O : OK z cc own nL S N R ret) {index : Nat} {v : Int32} (hw : Cond.constant own index v ∈ gw_tbl) (d : decode cc pc = .ok (.ldc index, 2)) (K : G z (pc + 2) L (.int v :: st) I J out) : G z pc L st I J out := by
  obtain ⟨p, l, e, R, s, m, args, below, meth, c, A, nL, D, cA, S, N, ad⟩ := z
  obtain ⟨hx, hb, hown, -, hts, -⟩ := O
  intro H locs ls hP hS hl
  exact lv_ldc hx hb hown (hts _ hw) d (K H locs ls hP hS hl)
theorem g_ldc2 (O : OK z cc own nL S N R ret) {index : Nat} {v : Int64} (hw : Cond.constantLong own index v ∈ gw_tbl) (d : decode cc pc = .ok (.ldc2_w index, 3)) (K : G z (pc + 3) L (.long v :: st) I J out) : G z pc L st I J out := by
  obtain ⟨p, l, e, R, s, m, args, below, meth, c, A, nL, D, cA, S, N, ad⟩ := z
  obtain ⟨hx, hb, hown, -, hts, -⟩ := O
  intro H locs ls hP hS hl
  exact lv_ldc2 hx hb hown (hts _ hw) d (K H locs ls hP hS hl)
theorem g_iload_n (O : OK z cc own nL S N R ret) {k : Fin 4} {x : Int32} (d : decode cc pc = .ok (.iload_n k, 1)) (q : Nat) (h : L[q]? = some ((k : Nat), .int x)) (K : G z (pc + 1) L (.int x :: st) I J out) : G z pc L st I J out := by
  obtain ⟨p, l, e, R, s, m, args, below, meth, c, A, nL, D, cA, S, N, ad⟩ := z
  obtain ⟨hx, hb, -⟩ := O
  intro H locs ls hP hS hl
  exact lv_iload_n hx hb d rfl (lv_at hl q (lq_get h)) (K H locs ls hP hS hl)
theorem g_iload (O : OK z cc own nL S N R ret) {i : Nat} {x : Int32} (d : decode cc pc = .ok (.iload i, 2)) (q : Nat) (h : L[q]? = some (i, .int x)) (K : G z (pc + 2) L (.int x :: st) I J out) : G z pc L st I J out := by
  obtain ⟨p, l, e, R, s, m, args, below, meth, c, A, nL, D, cA, S, N, ad⟩ := z
  obtain ⟨hx, hb, -⟩ := O
  intro H locs ls hP hS hl
  exact lv_iload hx hb d (lv_at hl q (lq_get h)) (K H locs ls hP hS hl)
theorem g_lload_n (O : OK z cc own nL S N R ret) {k : Fin 4} {x : Int64} (d : decode cc pc = .ok (.lload_n k, 1)) (q : Nat) (h : L[q]? = some ((k : Nat), .long x)) (K : G z (pc + 1) L (.long x :: st) I J out) : G z pc L st I J out := by
  obtain ⟨p, l, e, R, s, m, args, below, meth, c, A, nL, D, cA, S, N, ad⟩ := z
  obtain ⟨hx, hb, -⟩ := O
  intro H locs ls hP hS hl
  exact lv_lload_n hx hb d rfl (lv_at hl q (lq_get h)) (K H locs ls hP hS hl)
theorem g_lload (O : OK z cc own nL S N R ret) {i : Nat} {x : Int64} (d : decode cc pc = .ok (.lload i, 2)) (q : Nat) (h : L[q]? = some (i, .long x)) (K : G z (pc + 2) L (.long x :: st) I J out) : G z pc L st I J out := by
  obtain ⟨p, l, e, R, s, m, args, below, meth, c, A, nL, D, cA, S, N, ad⟩ := z
  obtain ⟨hx, hb, -⟩ := O
  intro H locs ls hP hS hl
  exact lv_lload hx hb d (lv_at hl q (lq_get h)) (K H locs ls hP hS hl)
theorem g_aload_n (O : OK z cc own nL S N R ret) {k : Fin 4} {x : Nat} (d : decode cc pc = .ok (.aload_n k, 1)) (q : Nat) (h : L[q]? = some ((k : Nat), .ref x)) (K : G z (pc + 1) L (.ref x :: st) I J out) : G z pc L st I J out := by
  obtain ⟨p, l, e, R, s, m, args, below, meth, c, A, nL, D, cA, S, N, ad⟩ := z
  obtain ⟨hx, hb, -⟩ := O
  intro H locs ls hP hS hl
  exact lv_aload_n hx hb d rfl (lv_at hl q (lq_get h)) (K H locs ls hP hS hl)
theorem g_aload (O : OK z cc own nL S N R ret) {i : Nat} {x : Nat} (d : decode cc pc = .ok (.aload i, 2)) (q : Nat) (h : L[q]? = some (i, .ref x)) (K : G z (pc + 2) L (.ref x :: st) I J out) : G z pc L st I J out := by
  obtain ⟨p, l, e, R, s, m, args, below, meth, c, A, nL, D, cA, S, N, ad⟩ := z
  obtain ⟨hx, hb, -⟩ := O
  intro H locs ls hP hS hl
  exact lv_aload hx hb d (lv_at hl q (lq_get h)) (K H locs ls hP hS hl)
theorem g_istore_n (O : OK z cc own nL S N R ret) {k : Fin 4} {x : Int32} {L' : List (Nat × Value)} (d : decode cc pc = .ok (.istore_n k, 1)) (hn : (k : Nat) < nL) (h : ((k : Nat), Value.int x) :: L.filter (fun q => !(q.1 == (k : Nat)) && !(q.1 + 1 == (k : Nat) && q.2.category == 2)) = L') (K : G z (pc + 1) L' st I J out) : G z pc L (.int x :: st) I J out := by
  obtain ⟨p, l, e, R, s, m, args, below, meth, c, A, nL, D, cA, S, N, ad⟩ := z
  obtain ⟨hx, hb, -, -, -, -, -, -, -, rfl, -⟩ := O
  intro H locs ls hP hS hl
  exact lv_istore_n hx hb d rfl hl hn (by rw [← h]; exact lq_f1 ad _ (.int x) L) (fun ls' hl' => K H locs ls' hP hS hl')
theorem g_istore (O : OK z cc own nL S N R ret) {i : Nat} {x : Int32} {L' : List (Nat × Value)} (d : decode cc pc = .ok (.istore i, 2)) (hn : i < nL) (h : (i, Value.int x) :: L.filter (fun q => !(q.1 == i) && !(q.1 + 1 == i && q.2.category == 2)) = L') (K : G z (pc + 2) L' st I J out) : G z pc L (.int x :: st) I J out := by
  obtain ⟨p, l, e, R, s, m, args, below, meth, c, A, nL, D, cA, S, N, ad⟩ := z
  obtain ⟨hx, hb, -, -, -, -, -, -, -, rfl, -⟩ := O
  intro H locs ls hP hS hl
  exact lv_istore hx hb d hl hn (by rw [← h]; exact lq_f1 ad _ (.int x) L) (fun ls' hl' => K H locs ls' hP hS hl')
theorem g_astore_n (O : OK z cc own nL S N R ret) {k : Fin 4} {x : Nat} {L' : List (Nat × Value)} (d : decode cc pc = .ok (.astore_n k, 1)) (hn : (k : Nat) < nL) (h : ((k : Nat), Value.ref x) :: L.filter (fun q => !(q.1 == (k : Nat)) && !(q.1 + 1 == (k : Nat) && q.2.category == 2)) = L') (K : G z (pc + 1) L' st I J out) : G z pc L (.ref x :: st) I J out := by
  obtain ⟨p, l, e, R, s, m, args, below, meth, c, A, nL, D, cA, S, N, ad⟩ := z
  obtain ⟨hx, hb, -, -, -, -, -, -, -, rfl, -⟩ := O
  intro H locs ls hP hS hl
  exact lv_astore_n hx hb d rfl hl hn (by rw [← h]; exact lq_f1 ad _ (.ref x) L) (fun ls' hl' => K H locs ls' hP hS hl')
theorem g_astore (O : OK z cc own nL S N R ret) {i : Nat} {x : Nat} {L' : List (Nat × Value)} (d : decode cc pc = .ok (.astore i, 2)) (hn : i < nL) (h : (i, Value.ref x) :: L.filter (fun q => !(q.1 == i) && !(q.1 + 1 == i && q.2.category == 2)) = L') (K : G z (pc + 2) L' st I J out) : G z pc L (.ref x :: st) I J out := by
  obtain ⟨p, l, e, R, s, m, args, below, meth, c, A, nL, D, cA, S, N, ad⟩ := z
  obtain ⟨hx, hb, -, -, -, -, -, -, -, rfl, -⟩ := O
  intro H locs ls hP hS hl
  exact lv_astore hx hb d hl hn (by rw [← h]; exact lq_f1 ad _ (.ref x) L) (fun ls' hl' => K H locs ls' hP hS hl')
theorem g_lstore_n (O : OK z cc own nL S N R ret) {k : Fin 4} {x : Int64} {L' : List (Nat × Value)} (d : decode cc pc = .ok (.lstore_n k, 1)) (hn : (k : Nat) + 1 < nL) (h : ((k : Nat), Value.long x) :: L.filter (fun q => !(q.1 == (k : Nat)) && (!(q.1 == (k : Nat) + 1) && !(q.1 + 1 == (k : Nat) && q.2.category == 2))) = L') (K : G z (pc + 1) L' st I J out) : G z pc L (.long x :: st) I J out := by
  obtain ⟨p, l, e, R, s, m, args, below, meth, c, A, nL, D, cA, S, N, ad⟩ := z
  obtain ⟨hx, hb, -, -, -, -, -, -, -, rfl, -⟩ := O
  intro H locs ls hP hS hl
  exact lv_lstore_n hx hb d rfl hl hn (by rw [← h]; exact lq_f2 ad _ (.long x) L) (fun ls' hl' => K H locs ls' hP hS hl')
theorem g_lstore (O : OK z cc own nL S N R ret) {i : Nat} {x : Int64} {L' : List (Nat × Value)} (d : decode cc pc = .ok (.lstore i, 2)) (hn : i + 1 < nL) (h : (i, Value.long x) :: L.filter (fun q => !(q.1 == i) && (!(q.1 == i + 1) && !(q.1 + 1 == i && q.2.category == 2))) = L') (K : G z (pc + 2) L' st I J out) : G z pc L (.long x :: st) I J out := by
  obtain ⟨p, l, e, R, s, m, args, below, meth, c, A, nL, D, cA, S, N, ad⟩ := z
  obtain ⟨hx, hb, -, -, -, -, -, -, -, rfl, -⟩ := O
  intro H locs ls hP hS hl
  exact lv_lstore hx hb d hl hn (by rw [← h]; exact lq_f2 ad _ (.long x) L) (fun ls' hl' => K H locs ls' hP hS hl')
theorem g_iinc (O : OK z cc own nL S N R ret) {i : Nat} {n : Int} {x v : Int32} {L' : List (Nat × Value)} (d : decode cc pc = .ok (.iinc i n, 3)) (q : Nat) (hq : L[q]? = some (i, .int x)) (hv : x + Int32.ofInt n = v) (hn : i < nL) (h : (i, Value.int v) :: L.filter (fun q => !(q.1 == i) && !(q.1 + 1 == i && q.2.category == 2)) = L') (K : G z (pc + 3) L' st I J out) : G z pc L st I J out := by
  obtain ⟨p, l, e, R, s, m, args, below, meth, c, A, nL, D, cA, S, N, ad⟩ := z
  obtain ⟨hx, hb, -, -, -, -, -, -, -, rfl, -⟩ := O
  intro H locs ls hP hS hl
  exact lv_iinc hx hb d hl (lq_get hq) hv hn (by rw [← h]; exact lq_f1 ad _ (.int v) L) (fun ls' hl' => K H locs ls' hP hS hl')
end GR
end
section
section GR
variable {z : CTX} {cc : ByteArray} {own : String} {nL N : Nat} {S : SF} {R : Room} {ret : Option FieldType} {pc : Nat} {L : List (Nat × Value)} {st : List Value} {I : IS} {J : JS} {out : OUT}
theorem g_iadd (O : OK z cc own nL S N R ret) {x y : Int32} (d : decode cc pc = .ok (.iadd, 1)) (K : G z (pc + 1) L (.int (x + y) :: st) I J out) : G z pc L (.int y :: .int x :: st) I J out := by
  obtain ⟨p, l, e, R, s, m, args, below, meth, c, A, nL, D, cA, S, N, ad⟩ := z
  obtain ⟨hx, hb, -⟩ := O
  intro H locs ls hP hS hl
  exact lv_iadd hx hb d (K H locs ls hP hS hl)
theorem g_isub (O : OK z cc own nL S N R ret) {x y : Int32} (d : decode cc pc = .ok (.isub, 1)) (K : G z (pc + 1) L (.int (x - y) :: st) I J out) : G z pc L (.int y :: .int x :: st) I J out := by
  obtain ⟨p, l, e, R, s, m, args, below, meth, c, A, nL, D, cA, S, N, ad⟩ := z
  obtain ⟨hx, hb, -⟩ := O
  intro H locs ls hP hS hl
  exact lv_isub hx hb d (K H locs ls hP hS hl)
theorem g_imul (O : OK z cc own nL S N R ret) {x y : Int32} (d : decode cc pc = .ok (.imul, 1)) (K : G z (pc + 1) L (.int (x * y) :: st) I J out) : G z pc L (.int y :: .int x :: st) I J out := by
  obtain ⟨p, l, e, R, s, m, args, below, meth, c, A, nL, D, cA, S, N, ad⟩ := z
  obtain ⟨hx, hb, -⟩ := O
  intro H locs ls hP hS hl
  exact lv_imul hx hb d (K H locs ls hP hS hl)
theorem g_iand (O : OK z cc own nL S N R ret) {x y : Int32} (d : decode cc pc = .ok (.iand, 1)) (K : G z (pc + 1) L (.int (x &&& y) :: st) I J out) : G z pc L (.int y :: .int x :: st) I J out := by
  obtain ⟨p, l, e, R, s, m, args, below, meth, c, A, nL, D, cA, S, N, ad⟩ := z
  obtain ⟨hx, hb, -⟩ := O
  intro H locs ls hP hS hl
  exact lv_iand hx hb d (K H locs ls hP hS hl)
theorem g_ior (O : OK z cc own nL S N R ret) {x y : Int32} (d : decode cc pc = .ok (.ior, 1)) (K : G z (pc + 1) L (.int (x ||| y) :: st) I J out) : G z pc L (.int y :: .int x :: st) I J out := by
  obtain ⟨p, l, e, R, s, m, args, below, meth, c, A, nL, D, cA, S, N, ad⟩ := z
  obtain ⟨hx, hb, -⟩ := O
  intro H locs ls hP hS hl
  exact lv_ior hx hb d (K H locs ls hP hS hl)
theorem g_ishl (O : OK z cc own nL S N R ret) {x y : Int32} (d : decode cc pc = .ok (.ishl, 1)) (K : G z (pc + 1) L (.int (x <<< (y &&& 31)) :: st) I J out) : G z pc L (.int y :: .int x :: st) I J out := by
  obtain ⟨p, l, e, R, s, m, args, below, meth, c, A, nL, D, cA, S, N, ad⟩ := z
  obtain ⟨hx, hb, -⟩ := O
  intro H locs ls hP hS hl
  exact lv_ishl hx hb d (K H locs ls hP hS hl)
theorem g_ladd (O : OK z cc own nL S N R ret) {x y : Int64} (d : decode cc pc = .ok (.ladd, 1)) (K : G z (pc + 1) L (.long (x + y) :: st) I J out) : G z pc L (.long y :: .long x :: st) I J out := by
  obtain ⟨p, l, e, R, s, m, args, below, meth, c, A, nL, D, cA, S, N, ad⟩ := z
  obtain ⟨hx, hb, -⟩ := O
  intro H locs ls hP hS hl
  exact lv_ladd hx hb d (K H locs ls hP hS hl)
theorem g_land (O : OK z cc own nL S N R ret) {x y : Int64} (d : decode cc pc = .ok (.land, 1)) (K : G z (pc + 1) L (.long (x &&& y) :: st) I J out) : G z pc L (.long y :: .long x :: st) I J out := by
  obtain ⟨p, l, e, R, s, m, args, below, meth, c, A, nL, D, cA, S, N, ad⟩ := z
  obtain ⟨hx, hb, -⟩ := O
  intro H locs ls hP hS hl
  exact lv_land hx hb d (K H locs ls hP hS hl)
theorem g_lor (O : OK z cc own nL S N R ret) {x y : Int64} (d : decode cc pc = .ok (.lor, 1)) (K : G z (pc + 1) L (.long (x ||| y) :: st) I J out) : G z pc L (.long y :: .long x :: st) I J out := by
  obtain ⟨p, l, e, R, s, m, args, below, meth, c, A, nL, D, cA, S, N, ad⟩ := z
  obtain ⟨hx, hb, -⟩ := O
  intro H locs ls hP hS hl
  exact lv_lor hx hb d (K H locs ls hP hS hl)
theorem g_idiv (O : OK z cc own nL S N R ret) {x y : Int32} (d : decode cc pc = .ok (.idiv, 1)) (h : ¬ y = 0) (K : G z (pc + 1) L (.int (x / y) :: st) I J out) : G z pc L (.int y :: .int x :: st) I J out := by
  obtain ⟨p, l, e, R, s, m, args, below, meth, c, A, nL, D, cA, S, N, ad⟩ := z
  obtain ⟨hx, hb, -⟩ := O
  intro H locs ls hP hS hl
  exact lv_idiv hx hb d h (K H locs ls hP hS hl)
theorem g_irem (O : OK z cc own nL S N R ret) {x y : Int32} (d : decode cc pc = .ok (.irem, 1)) (h : ¬ y = 0) (K : G z (pc + 1) L (.int (x - x / y * y) :: st) I J out) : G z pc L (.int y :: .int x :: st) I J out := by
  obtain ⟨p, l, e, R, s, m, args, below, meth, c, A, nL, D, cA, S, N, ad⟩ := z
  obtain ⟨hx, hb, -⟩ := O
  intro H locs ls hP hS hl
  exact lv_irem hx hb d h (K H locs ls hP hS hl)
theorem g_ldiv (O : OK z cc own nL S N R ret) {x y : Int64} (d : decode cc pc = .ok (.ldiv, 1)) (h : ¬ y = 0) (K : G z (pc + 1) L (.long (x / y) :: st) I J out) : G z pc L (.long y :: .long x :: st) I J out := by
  obtain ⟨p, l, e, R, s, m, args, below, meth, c, A, nL, D, cA, S, N, ad⟩ := z
  obtain ⟨hx, hb, -⟩ := O
  intro H locs ls hP hS hl
  exact lv_ldiv hx hb d h (K H locs ls hP hS hl)
theorem g_lrem (O : OK z cc own nL S N R ret) {x y : Int64} (d : decode cc pc = .ok (.lrem, 1)) (h : ¬ y = 0) (K : G z (pc + 1) L (.long (x - x / y * y) :: st) I J out) : G z pc L (.long y :: .long x :: st) I J out := by
  obtain ⟨p, l, e, R, s, m, args, below, meth, c, A, nL, D, cA, S, N, ad⟩ := z
  obtain ⟨hx, hb, -⟩ := O
  intro H locs ls hP hS hl
  exact lv_lrem hx hb d h (K H locs ls hP hS hl)
theorem g_iushr (O : OK z cc own nL S N R ret) {x y : Int32} (d : decode cc pc = .ok (.iushr, 1)) (K : G z (pc + 1) L (.int ((x.toUInt32 >>> (y.toUInt32 &&& Int32.toUInt32 31)).toInt32) :: st) I J out) : G z pc L (.int y :: .int x :: st) I J out := by
  obtain ⟨p, l, e, R, s, m, args, below, meth, c, A, nL, D, cA, S, N, ad⟩ := z
  obtain ⟨hx, hb, -⟩ := O
  intro H locs ls hP hS hl
  exact lv_iushr hx hb d rfl (K H locs ls hP hS hl)
theorem g_lshl (O : OK z cc own nL S N R ret) {x : Int64} {y : Int32} (d : decode cc pc = .ok (.lshl, 1)) (K : G z (pc + 1) L (.long (x <<< (y.toInt64 &&& 63)) :: st) I J out) : G z pc L (.int y :: .long x :: st) I J out := by
  obtain ⟨p, l, e, R, s, m, args, below, meth, c, A, nL, D, cA, S, N, ad⟩ := z
  obtain ⟨hx, hb, -⟩ := O
  intro H locs ls hP hS hl
  exact lv_lshl hx hb d rfl (K H locs ls hP hS hl)
theorem g_i2l (O : OK z cc own nL S N R ret) {x : Int32} (d : decode cc pc = .ok (.i2l, 1)) (K : G z (pc + 1) L (.long x.toInt64 :: st) I J out) : G z pc L (.int x :: st) I J out := by
  obtain ⟨p, l, e, R, s, m, args, below, meth, c, A, nL, D, cA, S, N, ad⟩ := z
  obtain ⟨hx, hb, -⟩ := O
  intro H locs ls hP hS hl
  exact lv_i2l hx hb d rfl (K H locs ls hP hS hl)
theorem g_l2i (O : OK z cc own nL S N R ret) {x : Int64} (d : decode cc pc = .ok (.l2i, 1)) (K : G z (pc + 1) L (.int x.toInt32 :: st) I J out) : G z pc L (.long x :: st) I J out := by
  obtain ⟨p, l, e, R, s, m, args, below, meth, c, A, nL, D, cA, S, N, ad⟩ := z
  obtain ⟨hx, hb, -⟩ := O
  intro H locs ls hP hS hl
  exact lv_l2i hx hb d rfl (K H locs ls hP hS hl)
theorem g_i2b (O : OK z cc own nL S N R ret) {x : Int32} (d : decode cc pc = .ok (.i2b, 1)) (K : G z (pc + 1) L (.int x.toInt8.toInt32 :: st) I J out) : G z pc L (.int x :: st) I J out := by
  obtain ⟨p, l, e, R, s, m, args, below, meth, c, A, nL, D, cA, S, N, ad⟩ := z
  obtain ⟨hx, hb, -⟩ := O
  intro H locs ls hP hS hl
  exact lv_i2b hx hb d rfl (K H locs ls hP hS hl)
theorem g_i2s (O : OK z cc own nL S N R ret) {x : Int32} (d : decode cc pc = .ok (.i2s, 1)) (K : G z (pc + 1) L (.int x.toInt16.toInt32 :: st) I J out) : G z pc L (.int x :: st) I J out := by
  obtain ⟨p, l, e, R, s, m, args, below, meth, c, A, nL, D, cA, S, N, ad⟩ := z
  obtain ⟨hx, hb, -⟩ := O
  intro H locs ls hP hS hl
  exact lv_i2s hx hb d rfl (K H locs ls hP hS hl)
theorem g_dup (O : OK z cc own nL S N R ret) {v : Value} (d : decode cc pc = .ok (.dup, 1)) (h : v.category = 1) (K : G z (pc + 1) L (v :: v :: st) I J out) : G z pc L (v :: st) I J out := by
  obtain ⟨p, l, e, R, s, m, args, below, meth, c, A, nL, D, cA, S, N, ad⟩ := z
  obtain ⟨hx, hb, -⟩ := O
  intro H locs ls hP hS hl
  exact lv_dup hx hb d (by rw [cv_cat]; exact h) (K H locs ls hP hS hl)
theorem g_dup2 (O : OK z cc own nL S N R ret) {v u : Value} (d : decode cc pc = .ok (.dup2, 1)) (h : v.category = 1) (h2 : u.category = 1) (K : G z (pc + 1) L (v :: u :: v :: u :: st) I J out) : G z pc L (v :: u :: st) I J out := by
  obtain ⟨p, l, e, R, s, m, args, below, meth, c, A, nL, D, cA, S, N, ad⟩ := z
  obtain ⟨hx, hb, -⟩ := O
  intro H locs ls hP hS hl
  exact lv_dup2_11 hx hb d (by rw [cv_cat]; exact h) (by rw [cv_cat]; exact h2) (K H locs ls hP hS hl)
theorem g_lcmp (O : OK z cc own nL S N R ret) {x y : Int64} (d : decode cc pc = .ok (.lcmp, 1)) (K : G z (pc + 1) L (.int (lg_cmp x y) :: st) I J out) : G z pc L (.long y :: .long x :: st) I J out := by
  obtain ⟨p, l, e, R, s, m, args, below, meth, c, A, nL, D, cA, S, N, ad⟩ := z
  obtain ⟨hx, hb, -⟩ := O
  intro H locs ls hP hS hl
  exact W.lcmp hx hb d (K H locs ls hP hS hl)
theorem g_pop (O : OK z cc own nL S N R ret) {v : Value} (d : decode cc pc = .ok (.pop, 1)) (h : v.category = 1) (K : G z (pc + 1) L st I J out) : G z pc L (v :: st) I J out := by
  obtain ⟨p, l, e, R, s, m, args, below, meth, c, A, nL, D, cA, S, N, ad⟩ := z
  obtain ⟨hx, hb, -⟩ := O
  intro H locs ls hP hS hl
  exact lv_pop hx hb d (by rw [cv_cat]; exact h) (K H locs ls hP hS hl)
theorem g_goto (O : OK z cc own nL S N R ret) {off : Int} (tgt : Nat) (d : decode cc pc = .ok (.goto off, 3)) (ht : (pc : Int) + off = (tgt : Int)) (K : G z tgt L st I J out) : G z pc L st I J out := by
  obtain ⟨p, l, e, R, s, m, args, below, meth, c, A, nL, D, cA, S, N, ad⟩ := z
  obtain ⟨hx, hb, -⟩ := O
  intro H locs ls hP hS hl
  exact lv_goto hx hb d ht (K H locs ls hP hS hl)
theorem g_if_eq (O : OK z cc own nL S N R ret) {x : Int32} {off : Int} (tgt : Nat) (d : decode cc pc = .ok (.ifCond .eq off, 3)) (ht : (pc : Int) + off = (tgt : Int)) (K : x = 0 → G z tgt L st I J out) (K2 : ¬ x = 0 → G z (pc + 3) L st I J out) : G z pc L (.int x :: st) I J out := by
  obtain ⟨p, l, e, R, s, m, args, below, meth, c, A, nL, D, cA, S, N, ad⟩ := z
  obtain ⟨hx, hb, -⟩ := O
  intro H locs ls hP hS hl
  exact lv_if_eq hx hb d ht (fun q => K q H locs ls hP hS hl) (fun q => K2 q H locs ls hP hS hl)
theorem g_icmp_eq (O : OK z cc own nL S N R ret) {x y : Int32} {off : Int} (tgt : Nat) (d : decode cc pc = .ok (.if_icmp .eq off, 3)) (ht : (pc : Int) + off = (tgt : Int)) (K : x = y → G z tgt L st I J out) (K2 : ¬ x = y → G z (pc + 3) L st I J out) : G z pc L (.int y :: .int x :: st) I J out := by
  obtain ⟨p, l, e, R, s, m, args, below, meth, c, A, nL, D, cA, S, N, ad⟩ := z
  obtain ⟨hx, hb, -⟩ := O
  intro H locs ls hP hS hl
  exact lv_icmp_eq hx hb d ht (fun q => K q H locs ls hP hS hl) (fun q => K2 q H locs ls hP hS hl)
theorem g_if_ne (O : OK z cc own nL S N R ret) {x : Int32} {off : Int} (tgt : Nat) (d : decode cc pc = .ok (.ifCond .ne off, 3)) (ht : (pc : Int) + off = (tgt : Int)) (K : ¬ x = 0 → G z tgt L st I J out) (K2 : x = 0 → G z (pc + 3) L st I J out) : G z pc L (.int x :: st) I J out := by
  obtain ⟨p, l, e, R, s, m, args, below, meth, c, A, nL, D, cA, S, N, ad⟩ := z
  obtain ⟨hx, hb, -⟩ := O
  intro H locs ls hP hS hl
  exact lv_if_ne hx hb d ht (fun q => K q H locs ls hP hS hl) (fun q => K2 q H locs ls hP hS hl)
theorem g_icmp_ne (O : OK z cc own nL S N R ret) {x y : Int32} {off : Int} (tgt : Nat) (d : decode cc pc = .ok (.if_icmp .ne off, 3)) (ht : (pc : Int) + off = (tgt : Int)) (K : ¬ x = y → G z tgt L st I J out) (K2 : x = y → G z (pc + 3) L st I J out) : G z pc L (.int y :: .int x :: st) I J out := by
  obtain ⟨p, l, e, R, s, m, args, below, meth, c, A, nL, D, cA, S, N, ad⟩ := z
  obtain ⟨hx, hb, -⟩ := O
  intro H locs ls hP hS hl
  exact lv_icmp_ne hx hb d ht (fun q => K q H locs ls hP hS hl) (fun q => K2 q H locs ls hP hS hl)
theorem g_if_lt (O : OK z cc own nL S N R ret) {x : Int32} {off : Int} (tgt : Nat) (d : decode cc pc = .ok (.ifCond .lt off, 3)) (ht : (pc : Int) + off = (tgt : Int)) (K : x < 0 → G z tgt L st I J out) (K2 : ¬ x < 0 → G z (pc + 3) L st I J out) : G z pc L (.int x :: st) I J out := by
  obtain ⟨p, l, e, R, s, m, args, below, meth, c, A, nL, D, cA, S, N, ad⟩ := z
  obtain ⟨hx, hb, -⟩ := O
  intro H locs ls hP hS hl
  exact lv_if_lt hx hb d ht (fun q => K q H locs ls hP hS hl) (fun q => K2 q H locs ls hP hS hl)
theorem g_icmp_lt (O : OK z cc own nL S N R ret) {x y : Int32} {off : Int} (tgt : Nat) (d : decode cc pc = .ok (.if_icmp .lt off, 3)) (ht : (pc : Int) + off = (tgt : Int)) (K : x < y → G z tgt L st I J out) (K2 : ¬ x < y → G z (pc + 3) L st I J out) : G z pc L (.int y :: .int x :: st) I J out := by
  obtain ⟨p, l, e, R, s, m, args, below, meth, c, A, nL, D, cA, S, N, ad⟩ := z
  obtain ⟨hx, hb, -⟩ := O
  intro H locs ls hP hS hl
  exact lv_icmp_lt hx hb d ht (fun q => K q H locs ls hP hS hl) (fun q => K2 q H locs ls hP hS hl)
theorem g_if_ge (O : OK z cc own nL S N R ret) {x : Int32} {off : Int} (tgt : Nat) (d : decode cc pc = .ok (.ifCond .ge off, 3)) (ht : (pc : Int) + off = (tgt : Int)) (K : 0 ≤ x → G z tgt L st I J out) (K2 : ¬ 0 ≤ x → G z (pc + 3) L st I J out) : G z pc L (.int x :: st) I J out := by
  obtain ⟨p, l, e, R, s, m, args, below, meth, c, A, nL, D, cA, S, N, ad⟩ := z
  obtain ⟨hx, hb, -⟩ := O
  intro H locs ls hP hS hl
  exact lv_if_ge hx hb d ht (fun q => K q H locs ls hP hS hl) (fun q => K2 q H locs ls hP hS hl)
theorem g_icmp_ge (O : OK z cc own nL S N R ret) {x y : Int32} {off : Int} (tgt : Nat) (d : decode cc pc = .ok (.if_icmp .ge off, 3)) (ht : (pc : Int) + off = (tgt : Int)) (K : y ≤ x → G z tgt L st I J out) (K2 : ¬ y ≤ x → G z (pc + 3) L st I J out) : G z pc L (.int y :: .int x :: st) I J out := by
  obtain ⟨p, l, e, R, s, m, args, below, meth, c, A, nL, D, cA, S, N, ad⟩ := z
  obtain ⟨hx, hb, -⟩ := O
  intro H locs ls hP hS hl
  exact lv_icmp_ge hx hb d ht (fun q => K q H locs ls hP hS hl) (fun q => K2 q H locs ls hP hS hl)
theorem g_if_gt (O : OK z cc own nL S N R ret) {x : Int32} {off : Int} (tgt : Nat) (d : decode cc pc = .ok (.ifCond .gt off, 3)) (ht : (pc : Int) + off = (tgt : Int)) (K : 0 < x → G z tgt L st I J out) (K2 : ¬ 0 < x → G z (pc + 3) L st I J out) : G z pc L (.int x :: st) I J out := by
  obtain ⟨p, l, e, R, s, m, args, below, meth, c, A, nL, D, cA, S, N, ad⟩ := z
  obtain ⟨hx, hb, -⟩ := O
  intro H locs ls hP hS hl
  exact lv_if_gt hx hb d ht (fun q => K q H locs ls hP hS hl) (fun q => K2 q H locs ls hP hS hl)
theorem g_icmp_gt (O : OK z cc own nL S N R ret) {x y : Int32} {off : Int} (tgt : Nat) (d : decode cc pc = .ok (.if_icmp .gt off, 3)) (ht : (pc : Int) + off = (tgt : Int)) (K : y < x → G z tgt L st I J out) (K2 : ¬ y < x → G z (pc + 3) L st I J out) : G z pc L (.int y :: .int x :: st) I J out := by
  obtain ⟨p, l, e, R, s, m, args, below, meth, c, A, nL, D, cA, S, N, ad⟩ := z
  obtain ⟨hx, hb, -⟩ := O
  intro H locs ls hP hS hl
  exact lv_icmp_gt hx hb d ht (fun q => K q H locs ls hP hS hl) (fun q => K2 q H locs ls hP hS hl)
theorem g_if_le (O : OK z cc own nL S N R ret) {x : Int32} {off : Int} (tgt : Nat) (d : decode cc pc = .ok (.ifCond .le off, 3)) (ht : (pc : Int) + off = (tgt : Int)) (K : x ≤ 0 → G z tgt L st I J out) (K2 : ¬ x ≤ 0 → G z (pc + 3) L st I J out) : G z pc L (.int x :: st) I J out := by
  obtain ⟨p, l, e, R, s, m, args, below, meth, c, A, nL, D, cA, S, N, ad⟩ := z
  obtain ⟨hx, hb, -⟩ := O
  intro H locs ls hP hS hl
  exact lv_if_le hx hb d ht (fun q => K q H locs ls hP hS hl) (fun q => K2 q H locs ls hP hS hl)
theorem g_icmp_le (O : OK z cc own nL S N R ret) {x y : Int32} {off : Int} (tgt : Nat) (d : decode cc pc = .ok (.if_icmp .le off, 3)) (ht : (pc : Int) + off = (tgt : Int)) (K : x ≤ y → G z tgt L st I J out) (K2 : ¬ x ≤ y → G z (pc + 3) L st I J out) : G z pc L (.int y :: .int x :: st) I J out := by
  obtain ⟨p, l, e, R, s, m, args, below, meth, c, A, nL, D, cA, S, N, ad⟩ := z
  obtain ⟨hx, hb, -⟩ := O
  intro H locs ls hP hS hl
  exact lv_icmp_le hx hb d ht (fun q => K q H locs ls hP hS hl) (fun q => K2 q H locs ls hP hS hl)
theorem g_tabIn (O : OK z cc own nL S N R ret) {dflt lo hi : Int} {offs : Array Int} {len : Nat} {x v : Int32} (off : Int) (tgt : Nat) (d : decode cc pc = .ok (.tableswitch dflt lo hi offs, len)) (hv : x = v) (h1 : ¬ v.toInt < lo) (h2 : ¬ hi < v.toInt) (ho : offs[(v.toInt - lo).toNat]? = some off) (ht : (pc : Int) + off = (tgt : Int)) (K : G z tgt L st I J out) : G z pc L (.int x :: st) I J out := by
  subst hv
  obtain ⟨p, l, e, R, s, m, args, below, meth, c, A, nL, D, cA, S, N, ad⟩ := z
  obtain ⟨hx, hb, -⟩ := O
  intro H locs ls hP hS hl
  exact lv_tableIn hx hb d h1 h2 ho ht (K H locs ls hP hS hl)
theorem g_tabOut (O : OK z cc own nL S N R ret) {dflt lo hi : Int} {offs : Array Int} {len : Nat} {x : Int32} (tgt : Nat) (d : decode cc pc = .ok (.tableswitch dflt lo hi offs, len)) (h : x.toInt < lo ∨ hi < x.toInt) (ht : (pc : Int) + dflt = (tgt : Int)) (K : G z tgt L st I J out) : G z pc L (.int x :: st) I J out := by
  obtain ⟨p, l, e, R, s, m, args, below, meth, c, A, nL, D, cA, S, N, ad⟩ := z
  obtain ⟨hx, hb, -⟩ := O
  intro H locs ls hP hS hl
  exact lv_tableOut hx hb d h ht (K H locs ls hP hS hl)
theorem g_look (O : OK z cc own nL S N R ret) {dflt : Int} {ps : Array (Int × Int)} {len : Nat} {x : Int32} (off : Int) (tgt : Nat) (d : decode cc pc = .ok (.lookupswitch dflt ps, len)) (hp : (ps.toList.zip (ps.toList.drop 1)).all (fun (a, next) => a.1 < next.1) = true) (ho : Op.lookupswitch.offset ps.toList dflt x.toInt = off) (ht : (pc : Int) + off = (tgt : Int)) (K : G z tgt L st I J out) : G z pc L (.int x :: st) I J out := by
  obtain ⟨p, l, e, R, s, m, args, below, meth, c, A, nL, D, cA, S, N, ad⟩ := z
  obtain ⟨hx, hb, -⟩ := O
  intro H locs ls hP hS hl
  exact lv_lookup hx hb d hp ho ht (K H locs ls hP hS hl)
end GR
end
section
theorem u2_row {α : Type} (I : Nat → Nat → α) (i k : Nat) (v : α) : u2 I i k v i = fun b => if b = k then v else I i b := by
  funext b
  simp [u2]
theorem u2_oth {α : Type} (I : Nat → Nat → α) {i j : Nat} (k : Nat) (v : α) (h : j ≠ i) : u2 I i k v j = I j := by
  funext b
  simp [u2, h]
/-- within -/
def okI (x : Int32) (n : Nat) : Bool := decide (¬ (x < 0 ∨ n ≤ x.toNatClampNeg))
theorem okI_in {x : Int32} {n : Nat} (h : okI x n = true) : vp_in x n := by
  have h2 : ¬ (x < 0 ∨ n ≤ x.toNatClampNeg) := of_decide_eq_true h
  exact h2
def okZ (x : Int32) : Bool := decide (x = 0 ∨ x = 1)
theorem okZ_n {x : Int32} (h : okZ x = true) : narrow .boolean (.int x) = .int x := by
  rcases of_decide_eq_true h with rfl | rfl <;> rfl
theorem okZ_f {x : Int32} (h : okZ x = true) : fits .boolean (.int x) = true := by
  rcases of_decide_eq_true h with rfl | rfl <;> rfl
theorem okZ_v {x : Int32} (h : okZ x = true) : vp_nar .boolean x = x := by
  rcases of_decide_eq_true h with rfl | rfl <;> rfl
theorem fks_set {ad : Nat → Nat} {f f' : Nat → Int32} {fks : List FK} {k : Nat} {v : Value} (hk : k < fks.length) (hv : fv ad f' k (fks[k]) = v) (ho : ∀ j, j ≠ k → f' j = f j) : (fks.mapIdx (fun k fk => fv ad f k fk)).set k v = fks.mapIdx (fun k fk => fv ad f' k fk) := by
  apply List.ext_getElem?
  intro j
  by_cases hj : j = k
  · subst hj
    rw [List.getElem?_set_self (by simpa using hk), List.getElem?_mapIdx]
    simp [hk, hv]
  · rw [List.getElem?_set_ne (Ne.symm hj), List.getElem?_mapIdx, List.getElem?_mapIdx]
    cases h : fks[j]? with
    | none => rfl
    | some fk =>
      show some _ = some _
      congr 1
      unfold fv
      rw [ho j hj]
theorem cel_set1 {cA : Nat → ClassId} {S : SF} {N : Nat} {ad : Nat → Nat} {I I' : IS} {J : JS} {i k ci : Nat} {fks : List FK} {v : Value} (hi : i < N) (hS : S i = .inl (ci, fks)) (hk : k < fks.length) (hv : fv ad (I' i) k (fks[k]) = v) (ho : ∀ j, j ≠ k → I' i j = I i j) (hq : ∀ j, j ≠ i → I' j = I j) :
    (wls cA S N ad I J).set i (ad i, .inr (ci, (fks.mapIdx (fun k fk => fv ad (I i) k fk)).set k v)) = wls cA S N ad I' J := by
  refine wls_set hi ?_ (fun j _ hj => cel_I (hq j hj) rfl)
  rw [fks_set hk hv ho]
  simp only [cel, hS]
section GR
variable {z : CTX} {cc : ByteArray} {own : String} {nL N : Nat} {S : SF} {R : Room} {ret : Option FieldType} {pc : Nat} {L : List (Nat × Value)} {st : List Value} {I : IS} {J : JS} {out : OUT}
/-- the class number ci is class C with table T of n fields -/
def isC (ci : Nat) (C : String) (T : u_T) (n : Nat) : Prop := vwCl[ci]? = some (C, T, n) ∧ (∀ w ∈ u_ws C T n, w ∈ gw_tbl)
def isT (T : u_T) (ty : Nat → FieldType) (n : Nat) : Prop := (∀ k, k < n → parseFieldDescriptor (T k).2.2.1 = some (ty k)) ∧ (∀ a, a < n → ∀ b, b < n → a ≠ b → (T a).2.1 ≠ (T b).2.1)
/-- a field is read -/
theorem g_get (O : OK z cc own nL S N R ret) {ci n : Nat} {C ref : String} {T : u_T} (hC : isC ci C T n) {index : Nat} (k : Nat) (d : decode cc pc = .ok (.getfield index, 3)) (hw : Cond.fieldLink own index ref (T k).2.1 (T k).2.2.1 ∈ gw_tbl) (hr : (T k).1 = ref) (hk : k < n) {i : Nat} (hi : i < N) {fks : List FK} (hS : S i = .inl (ci, fks)) {fk : FK} (hf : fks[k]? = some fk) {v : Value} (hv : ∀ ad : Nat → Nat, fv ad (I i) k fk = cv ad v)
    (K : G z (pc + 3) L (v :: st) I J out) : G z pc L (.ref i :: st) I J out := by
  obtain ⟨p, l, e, R, s, m, args, below, meth, c, A, nL, D, cA, S, N, ad⟩ := z
  obtain ⟨hx, hb, hown, -, hts, hK, -, -, -, -, rfl, rfl, -⟩ := O
  intro H locs ls hP hSS hl
  subst hr
  refine va_get (q0 := i) (fs := fks.mapIdx (fun k fk => fv ad (I i) k fk)) (ci := ci) (C := C) (T := T) (N := n) hx hb hts hC.2 hown hK hP ?_ hC.1 k hk (hts _ hw) (fun _ h => h) (v := cv ad v) ?_ d (K H locs ls hP hSS hl)
  · rw [wls_get hi]
    simp only [cel, hS]
  · rw [List.getElem?_mapIdx, hf, ← hv ad]
    rfl
/-- an int field is written -/
theorem g_put (O : OK z cc own nL S N R ret) {ci n : Nat} {C ref : String} {T : u_T} {tys : Nat → FieldType} (hC : isC ci C T n) (hT : isT T tys n) {index : Nat} (k : Nat) (d : decode cc pc = .ok (.putfield index, 3)) (hw : Cond.fieldLink own index ref (T k).2.1 (T k).2.2.1 ∈ gw_tbl) (hr : (T k).1 = ref) (hk : k < n) (hfin : (T k).2.2.2 = false) {ty : FieldType} (hty : tys k = ty) {x : Int32} (hn : narrow ty (.int x) = .int x) (hfit : fits ty (.int x) = true) {i : Nat} (hi : i < N) {fks : List FK} (hS : S i = .inl (ci, fks)) (hf : fks[k]? = some none)
    (K : G z (pc + 3) L st (u2 I i k x) J out) : G z pc L (.int x :: .ref i :: st) I J out := by
  obtain ⟨p, l, e, R, s, m, args, below, meth, c, A, nL, D, cA, S, N, ad⟩ := z
  obtain ⟨hx, hb, hown, -, hts, hK, hij, hA, -, -, rfl, rfl, -⟩ := O
  intro H locs ls hP hSS hl
  subst hr; subst hty
  have hkl : k < fks.length := (List.getElem?_eq_some_iff.mp hf).1
  have hg : fks[k] = none := (List.getElem?_eq_some_iff.mp hf).2
  refine va_put (q0 := i) (fs := fks.mapIdx (fun k fk => fv ad (I i) k fk)) (ci := ci) (C := C) (T := T) (N := n) (v := .int x) hx hb hts hC.2 tys hT.1 hT.2 hown hK hP (dOf hij hA) hSS ?_ hC.1 k hk (hts _ hw) (fun _ h => h) hfin (hT.1 k hk) hn hfit (by simpa using hkl) d (fun H1 locs1 hP1 _ hS1 => ?_)
  · rw [wls_get hi]
    simp only [cel, hS]
  · rw [cel_set1 (I' := u2 I i k x) hi hS hkl (by rw [hg, u2_row]; simp [fv]) (fun j hj => by rw [u2_row]; simp [hj]) (fun j hj => u2_oth I k x hj)] at hP1
    exact K H1 locs1 ls hP1 hS1 hl
/-- a field that holds one of two cells is written -/
theorem g_putR (O : OK z cc own nL S N R ret) {ci n : Nat} {C ref : String} {T : u_T} {tys : Nat → FieldType} (hC : isC ci C T n) (hT : isT T tys n) {index : Nat} (k : Nat) (d : decode cc pc = .ok (.putfield index, 3)) (hw : Cond.fieldLink own index ref (T k).2.1 (T k).2.2.1 ∈ gw_tbl) (hr : (T k).1 = ref) (hk : k < n) (hfin : (T k).2.2.2 = false) {r : Nat} {x : Int32} (hn : ∀ a, narrow (tys k) (.ref a) = .ref a) (hfit : ∀ a, fits (tys k) (.ref a) = true) {i j1 j2 : Nat} (hi : i < N) {fks : List FK} (hS : S i = .inl (ci, fks)) (hf : fks[k]? = some (some (.inr (j1, j2)))) (hx : (x = 1 ∧ r = j1) ∨ (x = 2 ∧ r = j2))
    (K : G z (pc + 3) L st (u2 I i k x) J out) : G z pc L (.ref r :: .ref i :: st) I J out := by
  obtain ⟨p, l, e, R, s, m, args, below, meth, c, A, nL, D, cA, S, N, ad⟩ := z
  obtain ⟨hx0, hb, hown, -, hts, hK, hij, hA, -, -, rfl, rfl, -⟩ := O
  intro H locs ls hP hSS hl
  subst hr
  have hkl : k < fks.length := (List.getElem?_eq_some_iff.mp hf).1
  have hg : fks[k] = some (.inr (j1, j2)) := (List.getElem?_eq_some_iff.mp hf).2
  refine va_put (q0 := i) (fs := fks.mapIdx (fun k fk => fv ad (I i) k fk)) (ci := ci) (C := C) (T := T) (N := n) (v := .ref (ad r)) hx0 hb hts hC.2 tys hT.1 hT.2 hown hK hP (dOf hij hA) hSS ?_ hC.1 k hk (hts _ hw) (fun _ h => h) hfin (hT.1 k hk) (hn _) (hfit _) (by simpa using hkl) d (fun H1 locs1 hP1 _ hS1 => ?_)
  · rw [wls_get hi]
    simp only [cel, hS]
  · rw [cel_set1 (I' := u2 I i k x) hi hS hkl (by
      rw [hg, u2_row]
      rcases hx with ⟨rfl, rfl⟩ | ⟨rfl, rfl⟩ <;> simp [fv]) (fun j hj => by rw [u2_row]; simp [hj]) (fun j hj => u2_oth I k x hj)] at hP1
    exact K H1 locs1 ls hP1 hS1 hl
theorem g_iald (O : OK z cc own nL S N R ret) (d : decode cc pc = .ok (.iaload, 1)) {i n : Nat} (hi : i < N) (hS : S i = .inr (0, n, none)) {x : Int32} (hin : okI x n = true) (K : G z (pc + 1) L (.int (I i x.toNatClampNeg) :: st) I J out) : G z pc L (.int x :: .ref i :: st) I J out := by
  obtain ⟨p, l, e, R, s, m, args, below, meth, c, A, nL, D, cA, S, N, ad⟩ := z
  obtain ⟨hx, hb, hown, -, hts, hK, -, -, -, -, rfl, rfl, -⟩ := O
  intro H locs ls hP hSS hl
  exact va_iald (q0 := i) (t0 := 0) (cA := cA 0) (n := n) (f := I i) hx hb hK hP (by rw [wls_get hi]; simp only [cel, hS]; rfl) rfl (okI_in hin) d (K H locs ls hP hSS hl)
theorem g_zald (O : OK z cc own nL S N R ret) (d : decode cc pc = .ok (.baload, 1)) {i n : Nat} (hi : i < N) (hS : S i = .inr (2, n, none)) {x : Int32} (hin : okI x n = true) (K : G z (pc + 1) L (.int (I i x.toNatClampNeg) :: st) I J out) : G z pc L (.int x :: .ref i :: st) I J out := by
  obtain ⟨p, l, e, R, s, m, args, below, meth, c, A, nL, D, cA, S, N, ad⟩ := z
  obtain ⟨hx, hb, hown, -, hts, hK, -, -, -, -, rfl, rfl, -⟩ := O
  intro H locs ls hP hSS hl
  exact va_zald (q0 := i) (t0 := 2) (cA := cA 2) (n := n) (f := I i) hx hb hK hP (by rw [wls_get hi]; simp only [cel, hS]; rfl) rfl (okI_in hin) d (K H locs ls hP hSS hl)
theorem g_lald (O : OK z cc own nL S N R ret) (d : decode cc pc = .ok (.laload, 1)) {i n : Nat} (hi : i < N) (hS : S i = .inr (1, n, none)) {x : Int32} (hin : okI x n = true) (K : G z (pc + 1) L (.long (J i x.toNatClampNeg) :: st) I J out) : G z pc L (.int x :: .ref i :: st) I J out := by
  obtain ⟨p, l, e, R, s, m, args, below, meth, c, A, nL, D, cA, S, N, ad⟩ := z
  obtain ⟨hx, hb, hown, -, hts, hK, -, -, -, -, rfl, rfl, -⟩ := O
  intro H locs ls hP hSS hl
  exact va_lald (q0 := i) (t0 := 1) (cA := cA 1) (n := n) (f := J i) hx hb hK hP (by rw [wls_get hi]; simp only [cel, hS]; rfl) rfl (okI_in hin) d (K H locs ls hP hSS hl)
theorem g_aald (O : OK z cc own nL S N R ret) (d : decode cc pc = .ok (.aaload, 1)) {i n t : Nat} (hi : i < N) {g : Nat → Nat} (hS : S i = .inr (t, n, some g)) (ht : t = 3 ∨ t = 4) {x : Int32} (hin : okI x n = true) (K : G z (pc + 1) L (.ref (g x.toNatClampNeg) :: st) I J out) : G z pc L (.int x :: .ref i :: st) I J out := by
  obtain ⟨p, l, e, R, s, m, args, below, meth, c, A, nL, D, cA, S, N, ad⟩ := z
  obtain ⟨hx, hb, hown, -, hts, hK, -, -, -, -, rfl, rfl, -⟩ := O
  intro H locs ls hP hSS hl
  have hlt : x.toNatClampNeg < n := Nat.not_le.mp fun q => okI_in hin (Or.inr q)
  have key : ∀ C, (tysOf cA)[t]? = some (cA t, .object C) → W p l e R s m args below meth c H locs 0 0 (MQ below (QC D cA S N ad A out) args s 0 0 A) (F0 m pc ls ((Value.int x :: Value.ref i :: st).map (cv ad))) := by
    intro C hC
    refine va_aldq (q0 := i) (t0 := t) (cA := cA t) (n := n) (C := C) (f := fun j => if j < n then some (ad (g j)) else none) hx hb hK hP (by rw [wls_get hi]; simp only [cel, hS]) hC (okI_in hin) d ?_
    have := K H locs ls hP hSS hl
    rw [if_pos hlt]
    exact this
  rcases ht with rfl | rfl
  · exact key _ rfl
  · exact key _ rfl
theorem g_alen (O : OK z cc own nL S N R ret) (d : decode cc pc = .ok (.arraylength, 1)) {i n t : Nat} (hi : i < N) {gg : Option (Nat → Nat)} (hS : S i = .inr (t, n, gg)) (ht : t < 5) {v : Int32} (hv : Int32.ofNat n = v) (K : G z (pc + 1) L (.int v :: st) I J out) : G z pc L (.ref i :: st) I J out := by
  obtain ⟨p, l, e, R, s, m, args, below, meth, c, A, nL, D, cA, S, N, ad⟩ := z
  obtain ⟨hx, hb, hown, -, hts, hK, -, -, -, -, rfl, rfl, -⟩ := O
  intro H locs ls hP hSS hl
  have key : ∀ x : vp_A, x.1 = n → cel cA S ad I J i = .inl (cA t, x) → W p l e R s m args below meth c H locs 0 0 (MQ below (QC D cA S N ad A out) args s 0 0 A) (F0 m pc ls ((Value.ref i :: st).map (cv ad))) := by
    intro x hx1 hc
    have hty : ∃ ty, (tysOf cA)[t]? = some (cA t, ty) := by
      match t, ht with
      | 0, _ => exact ⟨_, rfl⟩
      | 1, _ => exact ⟨_, rfl⟩
      | 2, _ => exact ⟨_, rfl⟩
      | 3, _ => exact ⟨_, rfl⟩
      | 4, _ => exact ⟨_, rfl⟩
      | n + 5, h => omega
    obtain ⟨ty, hty⟩ := hty
    exact va_alen (q0 := i) (t0 := t) (x := x) hx hb hK hP (by rw [wls_get hi, hc]) hty (by rw [hx1]; exact hv) d (K H locs ls hP hSS hl)
  cases gg with
  | some g => exact key (n, .inr (.inr (.inr (.inr (fun j => if j < n then some (ad (g j)) else none))))) rfl (by simp only [cel, hS])
  | none =>
    by_cases h1 : t = 1
    · exact key (n, .inr (.inl (J i))) rfl (by simp only [cel, hS, h1, if_true])
    · exact key (n, .inl (I i)) rfl (by simp only [cel, hS, h1, if_false])
theorem g_iast (O : OK z cc own nL S N R ret) (d : decode cc pc = .ok (.iastore, 1)) {i n : Nat} (hi : i < N) (hS : S i = .inr (0, n, none)) {x y : Int32} (hin : okI x n = true) (K : G z (pc + 1) L st (u2 I i x.toNatClampNeg y) J out) : G z pc L (.int y :: .int x :: .ref i :: st) I J out := by
  obtain ⟨p, l, e, R, s, m, args, below, meth, c, A, nL, D, cA, S, N, ad⟩ := z
  obtain ⟨hx, hb, hown, -, hts, hK, hij, hA, -, -, rfl, rfl, -⟩ := O
  intro H locs ls hP hSS hl
  refine va_iast (q0 := i) (t0 := 0) (cA := cA 0) (n := n) (f := I i) hx hb hK hP (dOf hij hA) hSS (by rw [wls_get hi]; simp only [cel, hS]; rfl) rfl (okI_in hin) d (fun H1 locs1 hP1 _ hS1 => ?_)
  rw [wls_set (I' := u2 I i x.toNatClampNeg y) (J' := J) hi (by simp only [cel, hS, u2_row]; rfl) (fun j _ hj => cel_I (u2_oth I _ _ hj) rfl)] at hP1
  exact K H1 locs1 ls hP1 hS1 hl
theorem g_zast (O : OK z cc own nL S N R ret) (d : decode cc pc = .ok (.bastore, 1)) {i n : Nat} (hi : i < N) (hS : S i = .inr (2, n, none)) {x y : Int32} (hin : okI x n = true) (hz : okZ y = true) (K : G z (pc + 1) L st (u2 I i x.toNatClampNeg y) J out) : G z pc L (.int y :: .int x :: .ref i :: st) I J out := by
  obtain ⟨p, l, e, R, s, m, args, below, meth, c, A, nL, D, cA, S, N, ad⟩ := z
  obtain ⟨hx, hb, hown, -, hts, hK, hij, hA, -, -, rfl, rfl, -⟩ := O
  intro H locs ls hP hSS hl
  refine va_zast (q0 := i) (t0 := 2) (cA := cA 2) (n := n) (f := I i) hx hb hK hP (dOf hij hA) hSS (by rw [wls_get hi]; simp only [cel, hS]; rfl) rfl (okI_in hin) d (fun H1 locs1 hP1 _ hS1 => ?_)
  rw [okZ_v hz, wls_set (I' := u2 I i x.toNatClampNeg y) (J' := J) hi (by simp only [cel, hS, u2_row]; rfl) (fun j _ hj => cel_I (u2_oth I _ _ hj) rfl)] at hP1
  exact K H1 locs1 ls hP1 hS1 hl
theorem g_last (O : OK z cc own nL S N R ret) (d : decode cc pc = .ok (.lastore, 1)) {i n : Nat} (hi : i < N) (hS : S i = .inr (1, n, none)) {x : Int32} {y : Int64} (hin : okI x n = true) (K : G z (pc + 1) L st I (u2 J i x.toNatClampNeg y) out) : G z pc L (.long y :: .int x :: .ref i :: st) I J out := by
  obtain ⟨p, l, e, R, s, m, args, below, meth, c, A, nL, D, cA, S, N, ad⟩ := z
  obtain ⟨hx, hb, hown, -, hts, hK, hij, hA, -, -, rfl, rfl, -⟩ := O
  intro H locs ls hP hSS hl
  refine va_last (q0 := i) (t0 := 1) (cA := cA 1) (n := n) (f := J i) hx hb hK hP (dOf hij hA) hSS (by rw [wls_get hi]; simp only [cel, hS]; rfl) rfl (okI_in hin) d (fun H1 locs1 hP1 _ hS1 => ?_)
  rw [wls_set (I' := I) (J' := u2 J i x.toNatClampNeg y) hi (by simp only [cel, hS, u2_row]; rfl) (fun j _ hj => cel_I rfl (u2_oth J _ _ hj))] at hP1
  exact K H1 locs1 ls hP1 hS1 hl
end GR
end
section
/-! ===== contracts, calls, ends ===== -/
def MC (y : MethodName) (cc : ByteArray) (maxL : Nat) (ret : Option FieldType) (rm : Room) (S : SF) (N : Nat) (av : List Value) (I : IS) (J : JS) (out : OUT) : Prop :=
  ∀ (l : Launch) (D : va_G) (cA : Nat → ClassId) (ad : Nat → Nat) (sz : Nat), Met l y (.code y cc maxL ret :: gw_tbl) rm (va_Pc (av.map (cv ad)) (fun U => U.heap.size = sz ∧ va_P D vwCl (wls cA S N ad I J) U.heap ∧ va_K D vwCl (tysOf cA) U ∧ va_D (fun _ => True) (wls cA S N ad I J))) (QC D cA S N ad (va_A (wls cA S N ad I J) sz) out) 0 0 (va_A (wls cA S N ad I J) sz)
theorem lg_cv (ad : Nat → Nat) (av : List Value) : (lg_sl (av.map (cv ad))).length = (lg_sl av).length := by
  induction av with
  | nil => rfl
  | cons v vs ih =>
    have e1 : lg_sl (cv ad v :: vs.map (cv ad)) = (if (cv ad v).category = 2 then [.val (cv ad v), .second] else [.val (cv ad v)]) ++ lg_sl (vs.map (cv ad)) := by simp [lg_sl]
    have e2 : lg_sl (v :: vs) = (if v.category = 2 then [.val v, .second] else [.val v]) ++ lg_sl vs := by simp [lg_sl]
    rw [List.map_cons, e1, e2, List.length_append, List.length_append, ih, cv_cat]
    by_cases h : v.category = 2 <;> simp [h]
theorem mc_of {y : MethodName} {cc : ByteArray} {maxL : Nat} {ret : Option FieldType} {rm : Room} {S : SF} {N : Nat} {av : List Value} {I : IS} {J : JS} {out : OUT} (hp : plainName y.cls = true) (hl : (lg_sl av).length ≤ maxL)
    (hG : ∀ z, OK z cc y.cls maxL S N rm ret → G z 0 (lv_args 0 av) [] I J out) : MC y cc maxL ret rm S N av I J out := by
  intro l D cA ad sz
  refine Met.ofW (cc := cc) (maxL := maxL) (ret := ret) hp rfl ?_
  intro p e s m args below meth c s₁ B hml hv
  obtain ⟨rfl, hsz, hP, hK, hD0⟩ := hv
  have hts := atoms_spec (ws := .code y cc maxL ret :: gw_tbl) B.pre
  subst hsz
  have hD := hD0.self (sz := s.heap.size)
  have hK2 := hG (p, l, e, rm, s, m, (av.map (cv ad)).toArray, below, meth, c, va_A (wls cA S N ad I J) s.heap.size, maxL, D, cA, S, N, ad)
    ⟨B.exec, B.bytes, findClass_of_methodNamed B.named, hml, fun w hw => hts w (List.mem_cons_of_mem _ hw), hK, fun i j hi hj h => hD0.1 i j _ _ (wls_get hi) (wls_get hj) h, fun i hi => hD.2 i _ (wls_get hi), fun q h => Or.inr h, rfl, rfl, rfl, rfl, B.returns, B.notSynchronized⟩
  rw [lg_entry_eq]
  exact hK2 s.heap [] _ hP va_S.rf (by rw [← lq_args]; exact lv_entry (av.map (cv ad)) (by rw [lg_cv]; exact hl))
section GE
variable {z : CTX} {cc : ByteArray} {own : String} {nL N : Nat} {S : SF} {R : Room} {ret : Option FieldType} {pc : Nat} {L : List (Nat × Value)} {st : List Value} {I : IS} {J : JS} {out : OUT}
theorem g_ireturn (O : OK z cc own nL S N R (some .int)) {x : Int32} (d : decode cc pc = .ok (.ireturn, 1)) (h : out = (some (.int x), I, J)) : G z pc L [.int x] I J out := by
  obtain ⟨p, l, e, R, s, m, args, below, meth, c, A, nL, D, cA, S, N, ad⟩ := z
  obtain ⟨hx, hb, -, -, -, hK, -, -, -, -, -, -, -, hr, hlk⟩ := O
  intro H locs ls hP hS hl
  subst h
  exact W.iret (v := x) hx hb hr (fun t ht hW => ⟨⟨rfl, by rw [ht]; exact hP, va_K.moved hW.alike hK⟩, hS.F ht⟩) hS.2.2 d hlk
theorem g_zreturn (O : OK z cc own nL S N R (some .boolean)) {x : Int32} (d : decode cc pc = .ok (.ireturn, 1)) (hz : okZ x = true) (h : out = (some (.int x), I, J)) : G z pc L [.int x] I J out := by
  obtain ⟨p, l, e, R, s, m, args, below, meth, c, A, nL, D, cA, S, N, ad⟩ := z
  obtain ⟨hx, hb, -, -, -, hK, -, -, -, -, -, -, -, hr, hlk⟩ := O
  intro H locs ls hP hS hl
  subst h
  exact W.zret (v := x) hx hb hr (okZ_n hz) (fun t ht hW => ⟨⟨rfl, by rw [ht]; exact hP, va_K.moved hW.alike hK⟩, hS.F ht⟩) hS.2.2 d hlk
theorem g_lreturn (O : OK z cc own nL S N R (some .long)) {x : Int64} (d : decode cc pc = .ok (.lreturn, 1)) (h : out = (some (.long x), I, J)) : G z pc L [.long x] I J out := by
  obtain ⟨p, l, e, R, s, m, args, below, meth, c, A, nL, D, cA, S, N, ad⟩ := z
  obtain ⟨hx, hb, -, -, -, hK, -, -, -, -, -, -, -, hr, hlk⟩ := O
  intro H locs ls hP hS hl
  subst h
  exact W.lret (v := x) hx hb hr (fun t ht hW => ⟨⟨rfl, by rw [ht]; exact hP, va_K.moved hW.alike hK⟩, hS.F ht⟩) hS.2.2 d hlk
theorem g_return (O : OK z cc own nL S N R none) (d : decode cc pc = .ok (.return_, 1)) (h : out = (none, I, J)) : G z pc L [] I J out := by
  obtain ⟨p, l, e, R, s, m, args, below, meth, c, A, nL, D, cA, S, N, ad⟩ := z
  obtain ⟨hx, hb, -, -, -, hK, -, -, -, -, -, -, -, hr, hlk⟩ := O
  intro H locs ls hP hS hl
  subst h
  exact W.vret hx hb hr (fun t ht hW => ⟨⟨rfl, by rw [ht]; exact hP, va_K.moved hW.alike hK⟩, hS.F ht⟩) hS.2.2 d hlk
/-- a callee's world within the caller's: where its cells lie, what they are before, what the caller's are behind -/
def ZM (S : SF) (N : Nat) (S' : SF) (N' : Nat) (φ : Nat → Nat) (I : IS) (J : JS) (I' : IS) (J' : JS) (out' : OUT) (I2 : IS) (J2 : JS) : Prop :=
  (∀ i, i < N' → φ i < N) ∧ (∀ i j, i < N' → j < N' → φ i = φ j → i = j) ∧
  (∀ (cA : Nat → ClassId) (ad : Nat → Nat) (i : Nat), i < N' → cel cA S' (fun k => ad (φ k)) I' J' i = cel cA S ad I J (φ i)) ∧
  (∀ (cA : Nat → ClassId) (ad : Nat → Nat) (i : Nat), i < N' → cel cA S ad I2 J2 (φ i) = cel cA S' (fun k => ad (φ k)) out'.2.1 out'.2.2 i) ∧
  (∀ (cA : Nat → ClassId) (ad : Nat → Nat) (j : Nat), j < N → (∀ i, i < N' → φ i ≠ j) → cel cA S ad I2 J2 j = cel cA S ad I J j)
theorem cv_ref (ad : Nat → Nat) (a : Nat) : cv ad (.ref a) = .ref (ad a) := rfl
theorem gd_all : GoodIn gw_tbl gw_tbl := fun w hw => ⟨hw, good_of_word (List.mem_filter.mp hw).2⟩
/-- what the tables say of a method that is called on an object -/
def CB (y : MethodName) (cc' : ByteArray) (maxL' : Nat) (ret' : Option FieldType) (n : Nat) : Prop :=
  Cond.instanceMethod y ∈ gw_tbl ∧ Cond.selects y.cls y y ∈ gw_tbl ∧ Cond.initialized y.cls ∈ gw_tbl ∧ Cond.code y cc' maxL' ret' ∈ gw_tbl ∧ (y.cls ≠ "java/lang/invoke/MethodHandle" ∧ y.cls ≠ "java/lang/invoke/VarHandle" ∧ (parseMethodDescriptor y.desc).map (fun d => d.parameters.length) = some n)
def CS (y : MethodName) (cc' : ByteArray) (maxL' : Nat) (ret' : Option FieldType) (n : Nat) : Prop :=
  Cond.static y ∈ gw_tbl ∧ Cond.initialized y.cls ∈ gw_tbl ∧ Cond.code y cc' maxL' ret' ∈ gw_tbl ∧ (y.cls ≠ "java/lang/invoke/MethodHandle" ∧ y.cls ≠ "java/lang/invoke/VarHandle" ∧ (parseMethodDescriptor y.desc).map (fun d => d.parameters.length) = some n)
theorem good1 {w : Cond} (h : w ∈ gw_tbl) : GoodIn gw_tbl [w] := fun v hv => by
  rw [List.mem_singleton.mp hv]
  exact gd_all w h
theorem good_cons {w : Cond} {ws : List Cond} (h : w ∈ gw_tbl) (hg : GoodIn gw_tbl ws) : GoodIn gw_tbl (w :: ws) := fun v hv => by
  rcases List.mem_cons.mp hv with rfl | hv
  · exact gd_all _ h
  · exact hg v hv
theorem behind {D : va_G} {cA : Nat → ClassId} {S S' : SF} {N N' : Nat} {ad φ : Nat → Nat} {I I' I2 : IS} {J J' J2 : JS} {out' : OUT} {A : Nat → Prop} {H0 : Heap} {st₀ t T' : State} {locs Lc : List Loc} (hZ : ZM S N S' N' φ I J I' J' out' I2 J2) (hij : ∀ i j, i < N → j < N → ad i = ad j → i = j) (hA : ∀ i, i < N → A (ad i)) (hAn : ∀ q, H0.size ≤ q → A q) {H : Heap} (hP : va_P D vwCl (wls cA S N ad I J) H) (hS : va_S A H0 H locs) (h0 : st₀.heap = H) (e1 : T'.heap = t.heap) (hL : ∀ q ∈ Lc, va_A (wls cA S' N' (fun k => ad (φ k)) I' J') H.size q.base)
    (hP1 : va_P D vwCl (wls cA S' N' (fun k => ad (φ k)) out'.2.1 out'.2.2) t.heap) (hF : va_F (va_A (wls cA S' N' (fun k => ad (φ k)) I' J') H.size) st₀ t) : va_P D vwCl (wls cA S N ad I2 J2) T'.heap ∧ va_S A H0 T'.heap (locs ++ Lc) := by
  have hAA : ∀ q, va_A (wls cA S' N' (fun k => ad (φ k)) I' J') H.size q → A q := by
    intro q hq
    rcases hq with ⟨k, e, hq⟩ | hq
    · obtain ⟨hk, e2⟩ := wls_inv hq
      cases e2
      exact hA _ (hZ.1 k hk)
    · exact hAn q (Nat.le_trans hS.1 hq)
  have hz := hF.1
  rw [h0] at hz
  have hk : ∀ q : Nat, q < H.size → ¬ va_A (wls cA S' N' (fun k => ad (φ k)) I' J') H.size q → T'.heap[q]? = H[q]? := by
    intro q h1 h2
    rw [e1]
    have h3 := hF.2 q (by rw [h0]; exact h1) h2
    rw [h0] at h3
    exact h3
  refine ⟨fun k q hq => ?_, ?_, fun q h1 h2 => ?_, fun q hq => ?_⟩
  · obtain ⟨hkN, rfl⟩ := wls_inv hq
    by_cases hin : ∃ i, i < N' ∧ φ i = k
    · obtain ⟨i, hi, rfl⟩ := hin
      rw [hZ.2.2.2.1 cA ad i hi, e1]
      exact hP1 i _ (wls_get hi)
    · rw [hZ.2.2.2.2 cA ad k hkN (fun i hi h => hin ⟨i, hi, h⟩)]
      have hc := hP k _ (wls_get hkN)
      refine hc.kept (hk _ hc.lt ?_)
      rintro (⟨k2, e, h⟩ | h)
      · obtain ⟨hk2, e2⟩ := wls_inv h
        have e3 : ad k = ad (φ k2) := congrArg Prod.fst e2
        exact hin ⟨k2, hk2, (hij _ _ hkN (hZ.1 k2 hk2) e3).symm⟩
      · exact absurd hc.lt (Nat.not_lt.mpr h)
  · rw [e1]
    exact Nat.le_trans hS.1 hz
  · have h3 : q < H.size := Nat.lt_of_lt_of_le h1 hS.1
    rw [hk q h3 (fun z => h2 (hAA q z))]
    exact hS.2.1 q h1 h2
  · rcases List.mem_append.mp hq with h | h
    · exact hS.2.2 q h
    · exact hAA _ (hL q h)
theorem g_callV (O : OK z cc own nL S N R ret) {index : Nat} (d : decode cc pc = .ok (.invokevirtual index, 3)) {y : MethodName} {cc' : ByteArray} {maxL' : Nat} {ret' : Option FieldType} {rm' : Room} {S' : SF} {N' : Nat} {av' : List Value} {I' : IS} {J' : JS} {v' : Option Value} {I'' : IS} {J'' : JS}
    (hM : MC y cc' maxL' ret' rm' S' N' (.ref 0 :: av') I' J' (v', I'', J'')) (hcb : CB y cc' maxL' ret' av'.length) (hlk : Cond.methodLink own index y ∈ gw_tbl) {ci n' : Nat} {T : u_T} {fks : List FK} (hC : isC ci y.cls T n') (hS0 : S' 0 = .inl (ci, fks)) (hN0 : 0 < N') (φ : Nat → Nat) {I2 : IS} {J2 : JS} (hZ : ZM S N S' N' φ I J I' J' (v', I'', J'') I2 J2) (hrm : rm'.cells = 0 ∧ rm'.slots = 0 ∧ rm'.frames + 1 ≤ R.frames ∧ 8 + (maxL' + 11) + rm'.locals ≤ R.locals) (hsm : (st.map fun v => v.category).sum ≤ 8) (hv' : ∀ ad, v'.map (cv ad) = v')
    {st0 : List Value} (hst : st0 = (av'.map (cv φ)).reverse ++ .ref (φ 0) :: st) (K : G z (pc + 3) L (v'.toList ++ st) I2 J2 out) : G z pc L st0 I J out := by
  obtain ⟨p, l, e, R, s, m, args, below, meth, c, A, nL, D, cA, S, N, ad⟩ := z
  obtain ⟨hx, hb, hown, hml, hts, hK, hij, hA, hAn, -, rfl, rfl, rfl, -⟩ := O
  subst hst
  intro H locs ls hP hS hl T hT X
  have hPc : va_P D vwCl (wls cA S' N' (fun k => ad (φ k)) I' J') H := by
    intro k q hq
    obtain ⟨hk, rfl⟩ := wls_inv hq
    rw [hZ.2.2.1 cA ad k hk]
    exact hP (φ k) _ (wls_get (hZ.1 k hk))
  have hDc : va_D (fun _ => True) (wls cA S' N' (fun k => ad (φ k)) I' J') := dOf (fun i j hi hj h => hZ.2.1 i j hi hj (hij _ _ (hZ.1 i hi) (hZ.1 j hj) h)) (fun _ _ => trivial)
  have hG : GoodIn gw_tbl (wsV own index y.cls y (.code y cc' maxL' ret' :: gw_tbl)) := good_cons hlk (good_cons hcb.1 (good_cons hcb.2.1 (good_cons hcb.2.2.1 (good_cons hcb.2.2.2.1 gd_all))))
  have hrun := va_runV (R := R) (locs := locs) (As := av'.map (cv fun k => ad (φ k))) (rest := st.map (cv ad)) (g := F0 m pc ls ((av'.map (cv φ)).reverse ++ .ref (φ 0) :: st |>.map (cv ad))) (cells := 0) (slots := 0) (mc := 0) (ms := 0) ⟨hx, hb, hml, hown, hts⟩ (hM l D cA (fun k => ad (φ k)) H.size)
    (cwV (C := y.cls) av'.length hts hG rfl hrm.1 hrm.2.1 ⟨rfl, hcb.2.2.2.2⟩ hrm.2.2)
    ⟨fun a U g mk q => by obtain ⟨q0, q1, qP, qK, qD⟩ := q; exact ⟨q0, q1, qP, va_K.moved (u := U) (U := U.calling g mk a) (Vm.Alike.refl U.vm) qK, qD⟩, va_recv (a := ad (φ 0)) (q0 := 0) (fs := fks.mapIdx (fun k fk => fv (fun k => ad (φ k)) (I' 0) k fk)) hK hPc hC.1 (by rw [wls_get hN0]; simp only [cel, hS0]), fun U hU hW => ⟨rfl, by rw [hU], by rw [hU]; exact hPc, va_K.moved hW.alike hK, hDc⟩⟩
    rfl (by simp) hl.1 (by simp [cv_cv, cv_ref, List.map_reverse, Function.comp_def]) (by
      refine lv_room ?_
      rw [List.map_map]
      have e9 : ((fun v => v.category) ∘ cv ad) = fun v => v.category := by funext v; exact cv_cat ad v
      rw [e9]
      exact hsm) d ⟨Nat.zero_le _, Nat.zero_le _⟩ T hT X
  obtain ⟨v, st₀, t, T', Lc, h0, X', hL, e1, e2, ⟨⟨ho, hP1, hK1⟩, hF⟩, go⟩ := hrun
  obtain ⟨hP2, hS2⟩ := behind hZ hij hA hAn hP hS h0 e1 hL hP1 hF
  have hv : v = v' := by injection ho
  subst hv
  have hKK := K T'.heap (locs ++ Lc) ls hP2 hS2 hl
  have e8 : (v.toList ++ st).map (cv ad) = v.toList ++ st.map (cv ad) := by
    rw [List.map_append]
    congr 1
    have := hv' ad
    cases v with
    | none => rfl
    | some w =>
      have h9 : cv ad w = w := by simpa using this
      simp [h9]
  rw [e8] at hKK
  obtain ⟨t2, a1, b1⟩ := hKK T' rfl X'
  exact ⟨t2, go t2 a1, b1⟩
theorem g_callS (O : OK z cc own nL S N R ret) {index : Nat} (d : decode cc pc = .ok (.invokestatic index, 3)) {y : MethodName} {cc' : ByteArray} {maxL' : Nat} {ret' : Option FieldType} {rm' : Room} {S' : SF} {av' : List Value} {v' : Option Value}
    (hM : MC y cc' maxL' ret' rm' S' 0 av' I J (v', I, J)) (hcb : CS y cc' maxL' ret' av'.length) (hlk : Cond.methodLink own index y ∈ gw_tbl) (hyo : y.cls = own) (hrm : rm'.cells = 0 ∧ rm'.slots = 0 ∧ rm'.frames + 1 ≤ R.frames ∧ 8 + (maxL' + 11) + rm'.locals ≤ R.locals) (hsm : (st.map fun v => v.category).sum ≤ 8) (hv' : ∀ ad, v'.map (cv ad) = v') (hav : ∀ ad, av'.map (cv ad) = av')
    {st0 : List Value} (hst : st0 = av'.reverse ++ st) (K : G z (pc + 3) L (v'.toList ++ st) I J out) : G z pc L st0 I J out := by
  obtain ⟨p, l, e, R, s, m, args, below, meth, c, A, nL, D, cA, S, N, ad⟩ := z
  obtain ⟨hx, hb, hown, hml, hts, hK, hij, hA, hAn, -, rfl, rfl, rfl, -⟩ := O
  subst hst
  subst hyo
  intro H locs ls hP hS hl T hT X
  have hZ : ZM S N S' 0 (fun i => i) I J I J (v', I, J) I J := ⟨fun i h => absurd h (Nat.not_lt_zero i), fun i j h => absurd h (Nat.not_lt_zero i), fun _ _ i h => absurd h (Nat.not_lt_zero i), fun _ _ i h => absurd h (Nat.not_lt_zero i), fun _ _ _ _ _ => rfl⟩
  have hPc : va_P D vwCl (wls cA S' 0 (fun k => ad k) I J) H := by
    intro k q hq
    obtain ⟨hk, rfl⟩ := wls_inv hq
    exact absurd hk (Nat.not_lt_zero k)
  have hDc : va_D (fun _ => True) (wls cA S' 0 (fun k => ad k) I J) := dOf (fun i j hi => absurd hi (Nat.not_lt_zero i)) (fun i hi => absurd hi (Nat.not_lt_zero i))
  have hG : GoodIn gw_tbl (wsS y.cls index y (.code y cc' maxL' ret' :: gw_tbl)) := good_cons hlk (good_cons hcb.1 (good_cons hcb.2.1 (good_cons hcb.2.2.1 gd_all)))
  have hrun := va_runS (R := R) (locs := locs) (As := av'.map (cv fun k => ad k)) (rest := st.map (cv ad)) (g := F0 m pc ls ((av'.reverse ++ st).map (cv ad))) (cells := 0) (slots := 0) (mc := 0) (ms := 0) ⟨hx, hb, hml, hown, hts⟩ (hM l D cA (fun k => ad k) H.size)
    (cwS av'.length hts hG rfl hrm.1 hrm.2.1 ⟨rfl, hcb.2.2.2⟩ hrm.2.2)
    ⟨fun a U g mk q => by obtain ⟨q0, q1, qP, qK, qD⟩ := q; exact ⟨q0, q1, qP, va_K.moved (u := U) (U := U.calling g mk a) (Vm.Alike.refl U.vm) qK, qD⟩, fun U hU hW => ⟨rfl, by rw [hU], by rw [hU]; exact hPc, va_K.moved hW.alike hK, hDc⟩⟩
    rfl (by simp) hl.1 (by simp [List.map_reverse]) (by
      refine lv_room ?_
      rw [List.map_map]
      have e9 : ((fun v => v.category) ∘ cv ad) = fun v => v.category := by funext v; exact cv_cat ad v
      rw [e9]
      exact hsm) d ⟨Nat.zero_le _, Nat.zero_le _⟩ T hT X
  obtain ⟨v, st₀, t, T', Lc, h0, X', hL, e1, e2, ⟨⟨ho, hP1, hK1⟩, hF⟩, go⟩ := hrun
  obtain ⟨hP2, hS2⟩ := behind hZ hij hA hAn hP hS h0 e1 hL hP1 hF
  have hv : v = v' := by injection ho
  subst hv
  have hKK := K T'.heap (locs ++ Lc) ls hP2 hS2 hl
  have e8 : (v.toList ++ st).map (cv ad) = v.toList ++ st.map (cv ad) := by
    rw [List.map_append]
    congr 1
    have := hv' ad
    cases v with
    | none => rfl
    | some w =>
      have h9 : cv ad w = w := by simpa using this
      simp [h9]
  rw [e8] at hKK
  obtain ⟨t2, a1, b1⟩ := hKK T' rfl X'
  exact ⟨t2, go t2 a1, b1⟩
end GE
end
section
/-! ===== a world within a world ===== -/
def fkM (φ : Nat → Nat) : FK → FK
  | none => none
  | some (.inl j) => some (.inl (φ j))
  | some (.inr q) => some (.inr (φ q.1, φ q.2))
def shM (φ : Nat → Nat) : SH → SH
  | .inl (ci, fks) => .inl (ci, fks.map (fkM φ))
  | .inr (t, n, none) => .inr (t, n, none)
  | .inr (t, n, some g) => .inr (t, n, some (fun j => φ (g j)))
theorem fv_M (ad φ : Nat → Nat) (f : Nat → Int32) (k : Nat) (fk : FK) : fv ad f k (fkM φ fk) = fv (fun i => ad (φ i)) f k fk := by
  cases fk with
  | none => rfl
  | some q => cases q <;> rfl
theorem cel_M {cA : Nat → ClassId} {S S' : SF} {ad φ : Nat → Nat} {I I' : IS} {J J' : JS} {i : Nat} (h : S (φ i) = shM φ (S' i)) (hI : I (φ i) = I' i) (hJ : J (φ i) = J' i) : cel cA S ad I J (φ i) = cel cA S' (fun k => ad (φ k)) I' J' i := by
  unfold cel
  rw [h, hI, hJ]
  cases S' i with
  | inl q =>
    obtain ⟨ci, fks⟩ := q
    show (Sum.inr _ : va_E) = Sum.inr _
    congr 2
    apply List.ext_getElem?
    intro k
    rw [List.getElem?_mapIdx, List.getElem?_mapIdx, List.getElem?_map]
    cases fks[k]? with
    | none => rfl
    | some fk =>
      exact congrArg some (fv_M ad φ (I' i) k fk)
  | inr q =>
    obtain ⟨t, n, g⟩ := q
    cases g <;> rfl
def SUB (S : SF) (N : Nat) (S' : SF) (N' : Nat) (φ : Nat → Nat) : Prop := (∀ i, i < N' → φ i < N) ∧ (∀ i j, i < N' → j < N' → φ i = φ j → i = j) ∧ ∀ i, i < N' → S (φ i) = shM φ (S' i)
/-- the part of a world that lies from e on -/
def zI {α : Type} (e : Nat) (I : Nat → α) : Nat → α := fun i => I (e + i)
/-- .. put back -/
def gI {α : Type} (e n : Nat) (I'' I : Nat → α) : Nat → α := fun j => if e ≤ j ∧ j < e + n then I'' (j - e) else I j
theorem gI_in {α : Type} {e n i : Nat} {I'' I : Nat → α} (h : i < n) : gI e n I'' I (e + i) = I'' i := by
  unfold gI
  rw [if_pos ⟨by omega, by omega⟩]
  congr 1
  omega
theorem gI_out {α : Type} {e n j : Nat} {I'' I : Nat → α} (h : j < e ∨ e + n ≤ j) : gI e n I'' I j = I j := by
  unfold gI
  rw [if_neg (by omega)]
/-- two parts, of n and n' cells, from a and from b on -/
def o2 (a n b : Nat) (i : Nat) : Nat := if i < n then a + i else b + (i - n)
def zI2 {α : Type} (a n b : Nat) (I : Nat → α) : Nat → α := fun i => I (o2 a n b i)
def gI2 {α : Type} (a n b n' : Nat) (I'' I : Nat → α) : Nat → α := fun j => if a ≤ j ∧ j < a + n then I'' (j - a) else if b ≤ j ∧ j < b + n' then I'' (n + (j - b)) else I j
theorem zm_R {S : SF} {N : Nat} {S' : SF} {N' : Nat} {φ : Nat → Nat} (h : SUB S N S' N' φ) (I : IS) (J : JS) (v : Option Value) : ZM S N S' N' φ I J (fun i => I (φ i)) (fun i => J (φ i)) (v, (fun i => I (φ i)), (fun i => J (φ i))) I J :=
  ⟨h.1, h.2.1, fun cA ad i hi => (cel_M (h.2.2 i hi) rfl rfl).symm, fun cA ad i hi => cel_M (h.2.2 i hi) rfl rfl, fun _ _ _ _ _ => rfl⟩
theorem zm_W {S : SF} {N : Nat} {S' : SF} {N' : Nat} {φ : Nat → Nat} (h : SUB S N S' N' φ) (I : IS) (J : JS) (v : Option Value) {I'' I2 : IS} {J'' J2 : JS} (hI : ∀ i, i < N' → I2 (φ i) = I'' i) (hJ : ∀ i, i < N' → J2 (φ i) = J'' i) (hIo : ∀ j, (∀ i, i < N' → φ i ≠ j) → I2 j = I j) (hJo : ∀ j, (∀ i, i < N' → φ i ≠ j) → J2 j = J j) : ZM S N S' N' φ I J (fun i => I (φ i)) (fun i => J (φ i)) (v, I'', J'') I2 J2 :=
  ⟨h.1, h.2.1, fun cA ad i hi => (cel_M (h.2.2 i hi) rfl rfl).symm, fun cA ad i hi => cel_M (h.2.2 i hi) (hI i hi) (hJ i hi), fun _ _ j _ hj => cel_I (hIo j hj) (hJo j hj)⟩
/-- one part, read alone -/
theorem zm1R {S : SF} {N : Nat} {S' : SF} {N' e : Nat} (h : SUB S N S' N' (fun i => e + i)) (I : IS) (J : JS) (v : Option Value) : ZM S N S' N' (fun i => e + i) I J (zI e I) (zI e J) (v, zI e I, zI e J) I J := zm_R h I J v
theorem gI_o {α : Type} {e n j : Nat} {I'' I : Nat → α} (h : ∀ i, i < n → e + i ≠ j) : gI e n I'' I j = I j := by
  refine gI_out ?_
  by_cases h1 : j < e
  · exact Or.inl h1
  · by_cases h2 : e + n ≤ j
    · exact Or.inr h2
    · exact absurd (by omega) (h (j - e) (by omega))
/-- one part, its ints written -/
theorem zm1I {S : SF} {N : Nat} {S' : SF} {N' e : Nat} (h : SUB S N S' N' (fun i => e + i)) (I : IS) (J : JS) (v : Option Value) (I'' : IS) : ZM S N S' N' (fun i => e + i) I J (zI e I) (zI e J) (v, I'', zI e J) (gI e N' I'' I) J :=
  zm_W h I J v (fun _ hi => gI_in hi) (fun _ _ => rfl) (fun _ hj => gI_o hj) (fun _ _ => rfl)
theorem zm1J {S : SF} {N : Nat} {S' : SF} {N' e : Nat} (h : SUB S N S' N' (fun i => e + i)) (I : IS) (J : JS) (v : Option Value) (I'' : IS) (J'' : JS) : ZM S N S' N' (fun i => e + i) I J (zI e I) (zI e J) (v, I'', J'') (gI e N' I'' I) (gI e N' J'' J) :=
  zm_W h I J v (fun _ hi => gI_in hi) (fun _ hi => gI_in hi) (fun _ hj => gI_o hj) (fun _ hj => gI_o hj)
theorem gI2_in {α : Type} {a n b n' i : Nat} {I'' I : Nat → α} (hd : a + n ≤ b ∨ b + n' ≤ a) (h : i < n + n') : gI2 a n b n' I'' I (o2 a n b i) = I'' i := by
  unfold gI2 o2
  by_cases h1 : i < n
  · rw [if_pos h1, if_pos ⟨by omega, by omega⟩]
    congr 1
    omega
  · rw [if_neg h1, if_neg (by omega), if_pos ⟨by omega, by omega⟩]
    congr 1
    omega
theorem gI2_o {α : Type} {a n b n' j : Nat} {I'' I : Nat → α} (h : ∀ i, i < n + n' → o2 a n b i ≠ j) : gI2 a n b n' I'' I j = I j := by
  unfold gI2
  rw [if_neg, if_neg]
  · intro hj
    have := h (n + (j - b)) (by omega)
    unfold o2 at this
    rw [if_neg (by omega)] at this
    omega
  · intro hj
    have := h (j - a) (by omega)
    unfold o2 at this
    rw [if_pos (by omega)] at this
    omega
/-- two parts, ints written -/
theorem zm2I {S : SF} {N : Nat} {S' : SF} {a n b n' N' : Nat} (hN : N' = n + n') (hd : a + n ≤ b ∨ b + n' ≤ a) (h : SUB S N S' N' (o2 a n b)) (I : IS) (J : JS) (v : Option Value) (I'' : IS) : ZM S N S' N' (o2 a n b) I J (zI2 a n b I) (zI2 a n b J) (v, I'', zI2 a n b J) (gI2 a n b n' I'' I) J := by
  subst hN
  exact zm_W h I J v (fun _ hi => gI2_in hd hi) (fun _ _ => rfl) (fun _ hj => gI2_o hj) (fun _ _ => rfl)
/-- the same object -/
theorem zm0 (S : SF) (N : Nat) (I : IS) (J : JS) (v : Option Value) (I'' : IS) (J'' : JS) : ZM S N S N (fun i => i) I J I J (v, I'', J'') I'' J'' :=
  ⟨fun _ h => h, fun _ _ _ _ h => h, fun _ _ _ _ => rfl, fun _ _ _ _ => rfl, fun _ _ j hj h => absurd rfl (h j hj)⟩
theorem sub_off {S S' : SF} {N N' e : Nat} (h1 : e + N' ≤ N) (h2 : ∀ i, i < N' → S (e + i) = shM (fun i => e + i) (S' i)) : SUB S N S' N' (fun i => e + i) := ⟨fun i hi => by show e + i < N; omega, fun i j _ _ h => by have h : e + i = e + j := h; omega, h2⟩
/-! ===== the shapes ===== -/
def fR (j : Nat) : FK := some (.inl j)
def ia (n : Nat) : SH := .inr (0, n, none)
def za (n : Nat) : SH := .inr (2, n, none)
def ja (n : Nat) : SH := .inr (1, n, none)
def SArm : SF := fun i => if i = 0 then .inl (0, [fR 1, none, none, none, none]) else ia 32
def SEnt : SF := fun i => if i = 0 then .inl (1, [fR 1, fR 2, fR 3, fR 4, fR 5, none, none, none]) else ia 40
def SPrs (n : Nat) : SF := fun i => if i = 0 then .inl (2, [fR 1, fR 2, none]) else ia n
def STap : SF := fun i => if i = 0 then .inl (3, [fR 1, none, none]) else ja 60
def STas : SF := fun i => if i = 0 then .inl (4, [fR 1, fR 2, fR 3, fR 4, fR 5, fR 6, fR 7, fR 8, none]) else ia 32
def STxt : SF := fun i => if i = 0 then .inl (5, [fR 1, none, fR 2, fR 3, fR 4, none, fR 5, fR 6, none, none]) else if i < 5 then ia 100 else ia 4
def at_ (e : Nat) (S' : SF) (i : Nat) : SH := shM (fun k => e + k) (S' (i - e))
def gArm (j : Nat) : Nat := 2 + 2 * (j % 4)
def gTap (j : Nat) : Nat := 111 + 2 * (j % 6)
def SWor : SF := fun i => if i = 0 then .inl (6, [fR 1, fR 10, fR 19, fR 25, fR 28, fR 31, none, none, none]) else if i = 1 then .inr (3, 4, some gArm) else if i < 10 then at_ (2 + 2 * ((i - 2) / 2)) SArm i else if i < 19 then at_ 10 STas i else if i < 25 then at_ 19 SEnt i else if i < 28 then at_ 25 (SPrs 5) i else if i < 31 then at_ 28 (SPrs 10) i else at_ 31 (SPrs 8) i
def STop : SF := fun i => if i = 0 then .inl (7, [fR 1, fR 35, fR 69, fR 103, fR 110, none]) else if i < 35 then at_ 1 SWor i else if i < 69 then at_ 35 SWor i else if i < 103 then at_ 69 SWor i else if i < 110 then at_ 103 STxt i else if i = 110 then .inr (4, 6, some gTap) else at_ (111 + 2 * ((i - 111) / 2)) STap i
def mLen : List SH := [ia 4, ia 128, ia 4, ia 4, ia 4, ia 32, ia 32, ia 32, ia 32, ia 32, ia 32, ia 32, ia 160, ia 5, ia 5, ia 10, ia 10, ia 8, ia 8, ia 600, ia 600, za 32, ia 100, ia 101, ia 101, ia 101, ia 5, ia 5, ia 32, ia 32, ia 6, ia 6, ja 360, ja 60, za 6]
def mFld : List FK := [none, fR 1, fR 2, fR 3, fR 4, fR 5, none, fR 6, fR 7, fR 8, fR 9, fR 10, fR 11, fR 12, none, none, none, fR 13, none, fR 14, fR 15, none, fR 16, fR 17, none, fR 18, fR 19, none, none, none, fR 20, fR 21, none, none, none, some (.inr (20, 21)), fR 22, fR 23, none, none, none, none, fR 24, fR 25, fR 26, none, fR 27, fR 28, fR 29, fR 30, fR 31, fR 32, fR 33, fR 34, fR 35]
def SMod : SF := fun i => if i = 0 then .inl (8, mFld) else mLen.getD (i - 1) (ia 0)
/-- two objects of one class, one behind the other -/
def dbl (n : Nat) (S' : SF) : SF := fun i => if i < n then S' i else at_ n S' i
theorem shM_id (x : SH) : shM (fun k => 0 + k) x = x := by
  have e : (fun k : Nat => 0 + k) = fun k => k := by funext k; exact Nat.zero_add k
  rw [e]
  cases x with
  | inl q =>
    obtain ⟨ci, fks⟩ := q
    show (Sum.inl _ : SH) = Sum.inl _
    congr 2
    have : fkM (fun k => k) = id := by
      funext fk
      cases fk with
      | none => rfl
      | some q => cases q <;> rfl
    rw [this, List.map_id]
  | inr q =>
    obtain ⟨t, n, g⟩ := q
    cases g <;> rfl
theorem fkM_M (φ ψ : Nat → Nat) (fk : FK) : fkM φ (fkM ψ fk) = fkM (fun i => φ (ψ i)) fk := by
  cases fk with
  | none => rfl
  | some q => cases q <;> rfl
theorem shM_M (φ ψ : Nat → Nat) (x : SH) : shM φ (shM ψ x) = shM (fun i => φ (ψ i)) x := by
  cases x with
  | inl q =>
    obtain ⟨ci, fks⟩ := q
    show (Sum.inl _ : SH) = Sum.inl _
    congr 2
    rw [List.map_map]
    congr 1
    funext fk
    exact fkM_M φ ψ fk
  | inr q =>
    obtain ⟨t, n, g⟩ := q
    cases g <;> rfl
theorem at_M (e f : Nat) (S' : SF) (i : Nat) : shM (fun k => e + k) (at_ f S' i) = shM (fun k => e + (f + k)) (S' (i - f)) := shM_M _ _ _
theorem at_e (e : Nat) (S' : SF) (i : Nat) : at_ e S' (e + i) = shM (fun k => e + k) (S' i) := by
  unfold at_
  rw [Nat.add_sub_cancel_left]
theorem sub_Wor_arm (a : Nat) : SUB SWor 34 SArm 2 (fun i => gArm a + i) := by
  have h4 : a % 4 < 4 := Nat.mod_lt _ (by omega)
  refine sub_off (by unfold gArm; omega) (fun i hi => ?_)
  have e : 2 + 2 * ((gArm a + i - 2) / 2) = gArm a := by unfold gArm; omega
  unfold SWor
  rw [if_neg (by unfold gArm; omega), if_neg (by unfold gArm; omega), if_pos (by unfold gArm; omega), e]
  exact at_e _ _ _
theorem sub_Wor_tas : SUB SWor 34 STas 9 (fun i => 10 + i) := sub_off (by omega) (fun i hi => by
  unfold SWor
  rw [if_neg (by omega), if_neg (by omega), if_neg (by omega), if_pos (by omega)]
  exact at_e _ _ _)
theorem sub_Wor_ent : SUB SWor 34 SEnt 6 (fun i => 19 + i) := sub_off (by omega) (fun i hi => by
  unfold SWor
  rw [if_neg (by omega), if_neg (by omega), if_neg (by omega), if_neg (by omega), if_pos (by omega)]
  exact at_e _ _ _)
theorem sub_Wor_seen : SUB SWor 34 (SPrs 5) 3 (fun i => 25 + i) := sub_off (by omega) (fun i hi => by
  unfold SWor
  rw [if_neg (by omega), if_neg (by omega), if_neg (by omega), if_neg (by omega), if_neg (by omega), if_pos (by omega)]
  exact at_e _ _ _)
theorem sub_Wor_plan : SUB SWor 34 (SPrs 10) 3 (fun i => 28 + i) := sub_off (by omega) (fun i hi => by
  unfold SWor
  rw [if_neg (by omega), if_neg (by omega), if_neg (by omega), if_neg (by omega), if_neg (by omega), if_neg (by omega), if_pos (by omega)]
  exact at_e _ _ _)
theorem sub_Wor_book : SUB SWor 34 (SPrs 8) 3 (fun i => 31 + i) := sub_off (by omega) (fun i hi => by
  unfold SWor
  rw [if_neg (by omega), if_neg (by omega), if_neg (by omega), if_neg (by omega), if_neg (by omega), if_neg (by omega), if_neg (by omega)]
  exact at_e _ _ _)
theorem sub_Top_now : SUB STop 123 SWor 34 (fun i => 1 + i) := sub_off (by omega) (fun i hi => by
  unfold STop
  rw [if_neg (by omega), if_pos (by omega)]
  exact at_e _ _ _)
theorem sub_Top_kept : SUB STop 123 SWor 34 (fun i => 35 + i) := sub_off (by omega) (fun i hi => by
  unfold STop
  rw [if_neg (by omega), if_neg (by omega), if_pos (by omega)]
  exact at_e _ _ _)
theorem sub_Top_asked : SUB STop 123 SWor 34 (fun i => 69 + i) := sub_off (by omega) (fun i hi => by
  unfold STop
  rw [if_neg (by omega), if_neg (by omega), if_neg (by omega), if_pos (by omega)]
  exact at_e _ _ _)
theorem sub_Top_text : SUB STop 123 STxt 7 (fun i => 103 + i) := sub_off (by omega) (fun i hi => by
  unfold STop
  rw [if_neg (by omega), if_neg (by omega), if_neg (by omega), if_neg (by omega), if_pos (by omega)]
  exact at_e _ _ _)
theorem sub_Top_tape (a : Nat) : SUB STop 123 STap 2 (fun i => gTap a + i) := by
  have h4 : a % 6 < 6 := Nat.mod_lt _ (by omega)
  refine sub_off (by unfold gTap; omega) (fun i hi => ?_)
  have e : 111 + 2 * ((gTap a + i - 111) / 2) = gTap a := by unfold gTap; omega
  unfold STop
  rw [if_neg (by unfold gTap; omega), if_neg (by unfold gTap; omega), if_neg (by unfold gTap; omega), if_neg (by unfold gTap; omega), if_neg (by unfold gTap; omega), if_neg (by unfold gTap; omega), e]
  exact at_e _ _ _
theorem sub_tr {S S1 S2 : SF} {N N1 N2 e f : Nat} (h1 : SUB S N S1 N1 (fun i => e + i)) (h2 : SUB S1 N1 S2 N2 (fun i => f + i)) : SUB S N S2 N2 (fun i => (e + f) + i) := by
  have ef : ∀ i, (e + f) + i = e + (f + i) := fun i => Nat.add_assoc e f i
  refine ⟨fun i hi => ?_, fun i j _ _ h => ?_, fun i hi => ?_⟩
  · show (e + f) + i < N
    rw [ef]
    exact h1.1 _ (h2.1 i hi)
  · have h : (e + f) + i = (e + f) + j := h
    omega
  · show S ((e + f) + i) = _
    rw [ef, h1.2.2 _ (h2.1 i hi), h2.2.2 i hi, shM_M]
    congr 1
    funext k
    exact (ef k).symm
/-- the cells that a world names are its own -/
def CLO (n : Nat) (S' : SF) : Prop := ∀ (φ ψ : Nat → Nat), (∀ j, j < n → φ j = ψ j) → ∀ i, i < n → shM φ (S' i) = shM ψ (S' i)
theorem clo_at {n n' e : Nat} {S' : SF} (h : CLO n' S') (he : e + n' ≤ n) {φ ψ : Nat → Nat} (hφ : ∀ j, j < n → φ j = ψ j) {i : Nat} (h1 : e ≤ i) (h2 : i < e + n') : shM φ (at_ e S' i) = shM ψ (at_ e S' i) := by
  unfold at_
  rw [shM_M, shM_M]
  exact h _ _ (fun j hj => hφ _ (by omega)) _ (by omega)
theorem clo_Arm : CLO 2 SArm := fun φ ψ h i hi => by
  by_cases h0 : i = 0
  · subst h0
    simp [SArm, shM, fkM, fR, h 1 (by omega)]
  · simp [SArm, h0, ia, shM]
theorem clo_Ent : CLO 6 SEnt := fun φ ψ h i hi => by
  by_cases h0 : i = 0
  · subst h0
    simp [SEnt, shM, fkM, fR, h 1 (by omega), h 2 (by omega), h 3 (by omega), h 4 (by omega), h 5 (by omega)]
  · simp [SEnt, h0, ia, shM]
theorem clo_Prs (n : Nat) : CLO 3 (SPrs n) := fun φ ψ h i hi => by
  by_cases h0 : i = 0
  · subst h0
    simp [SPrs, shM, fkM, fR, h 1 (by omega), h 2 (by omega)]
  · simp [SPrs, h0, ia, shM]
theorem clo_Tas : CLO 9 STas := fun φ ψ h i hi => by
  by_cases h0 : i = 0
  · subst h0
    simp [STas, shM, fkM, fR, h 1 (by omega), h 2 (by omega), h 3 (by omega), h 4 (by omega), h 5 (by omega), h 6 (by omega), h 7 (by omega), h 8 (by omega)]
  · simp [STas, h0, ia, shM]
theorem clo_Wor : CLO 34 SWor := fun φ ψ h i hi => by
  unfold SWor
  by_cases h0 : i = 0
  · rw [if_pos h0]
    simp [shM, fkM, fR, h 1 (by omega), h 10 (by omega), h 19 (by omega), h 25 (by omega), h 28 (by omega), h 31 (by omega)]
  rw [if_neg h0]
  by_cases h1 : i = 1
  · rw [if_pos h1]
    have e : (fun j => φ (gArm j)) = fun j => ψ (gArm j) := by
      funext j
      exact h _ (by have h4 : j % 4 < 4 := Nat.mod_lt _ (by omega); unfold gArm; omega)
    simp [shM, e]
  rw [if_neg h1]
  by_cases h2 : i < 10
  · rw [if_pos h2]
    exact clo_at clo_Arm (by omega) h (by omega) (by omega)
  rw [if_neg h2]
  by_cases h3 : i < 19
  · rw [if_pos h3]
    exact clo_at clo_Tas (by omega) h (by omega) (by omega)
  rw [if_neg h3]
  by_cases h4 : i < 25
  · rw [if_pos h4]
    exact clo_at clo_Ent (by omega) h (by omega) (by omega)
  rw [if_neg h4]
  by_cases h5 : i < 28
  · rw [if_pos h5]
    exact clo_at (clo_Prs 5) (by omega) h (by omega) (by omega)
  rw [if_neg h5]
  by_cases h6 : i < 31
  · rw [if_pos h6]
    exact clo_at (clo_Prs 10) (by omega) h (by omega) (by omega)
  · rw [if_neg h6]
    exact clo_at (clo_Prs 8) (by omega) h (by omega) (by omega)
theorem sub_o2 {S S' : SF} {N n a b : Nat} (hc : CLO n S') (h1 : SUB S N S' n (fun i => a + i)) (h2 : SUB S N S' n (fun i => b + i)) (hd : a + n ≤ b ∨ b + n ≤ a) : SUB S N (dbl n S') (n + n) (o2 a n b) := by
  refine ⟨fun i hi => ?_, fun i j hi hj h => ?_, fun i hi => ?_⟩
  · unfold o2
    by_cases h : i < n
    · rw [if_pos h]; exact h1.1 i h
    · rw [if_neg h]; exact h2.1 (i - n) (by omega)
  · unfold o2 at h
    by_cases c1 : i < n <;> by_cases c2 : j < n <;> simp only [c1, c2, if_true, if_false] at h <;> omega
  · by_cases h : i < n
    · have e1 : o2 a n b i = a + i := by unfold o2; rw [if_pos h]
      have e2 : dbl n S' i = S' i := by unfold dbl; rw [if_pos h]
      rw [e1, e2, h1.2.2 i h]
      exact hc _ _ (fun j hj => by unfold o2; rw [if_pos hj]) i h
    · have e1 : o2 a n b i = b + (i - n) := by unfold o2; rw [if_neg h]
      have e2 : dbl n S' i = at_ n S' i := by unfold dbl; rw [if_neg h]
      rw [e1, e2, h2.2.2 (i - n) (by omega)]
      unfold at_
      rw [shM_M]
      congr 1
      funext k
      unfold o2
      rw [if_neg (by omega)]
      congr 1
      omega
theorem sub_dbl1 {S' : SF} {n : Nat} (hc : CLO n S') : SUB (dbl n S') (n + n) S' n (fun i => 0 + i) := sub_off (by omega) (fun i hi => by
  rw [Nat.zero_add]
  unfold dbl
  rw [if_pos hi]
  exact (shM_id _).symm)
theorem sub_dbl2 {S' : SF} {n : Nat} : SUB (dbl n S') (n + n) S' n (fun i => n + i) := sub_off (by omega) (fun i hi => by
  unfold dbl
  rw [if_neg (by omega)]
  exact at_e _ _ _)
theorem sub_0 {S S' : SF} {N N' e : Nat} (h : SUB S N S' N' (fun i => (0 + e) + i)) : SUB S N S' N' (fun i => e + i) := by
  rw [Nat.zero_add] at h
  exact h
end
section
/-! ===== what a generated walk uses ===== -/
def LF : Nat := 700
def rm_ (f l : Nat) : Room := { frames := f, cells := 0, slots := 0, locals := l }
theorem rmok {f l maxL' : Nat} {R : Room} (h1 : f + 1 ≤ R.frames) (h2 : 8 + (maxL' + 11) + l ≤ R.locals) : (rm_ f l).cells = 0 ∧ (rm_ f l).slots = 0 ∧ (rm_ f l).frames + 1 ≤ R.frames ∧ 8 + (maxL' + 11) + (rm_ f l).locals ≤ R.locals := ⟨rfl, rfl, h1, h2⟩
theorem gd {c : Bool} {α : Type} {a : Option α} {o : α} (h : (if c = true then a else none) = some o) : c = true ∧ a = some o := by
  by_cases hc : c = true
  · rw [if_pos hc] at h
    exact ⟨hc, h⟩
  · rw [if_neg hc] at h
    cases h
theorem bnd {α β : Type} {a : Option α} {f : α → Option β} {o : β} (h : a.bind f = some o) : ∃ q, a = some q ∧ f q = some o := by
  cases a with
  | none => cases h
  | some q => exact ⟨q, rfl, h⟩
def okD (y : Int32) : Bool := decide (¬ y = 0)
theorem okD_n {y : Int32} (h : okD y = true) : ¬ y = 0 := of_decide_eq_true h
def okDL (y : Int64) : Bool := decide (¬ y = 0)
theorem okDL_n {y : Int64} (h : okDL y = true) : ¬ y = 0 := of_decide_eq_true h
/-- a copy within both rows -/
def okC (sp dp n : Int32) (n0 n1 : Nat) : Bool := decide (¬ sp < 0 ∧ ¬ dp < 0 ∧ ¬ n < 0 ∧ sp.toNatClampNeg + n.toNatClampNeg ≤ n0 ∧ dp.toNatClampNeg + n.toNatClampNeg ≤ n1)
theorem okC_n {sp dp n : Int32} {n0 n1 : Nat} (h : okC sp dp n n0 n1 = true) : ¬ sp < 0 ∧ ¬ dp < 0 ∧ ¬ n < 0 ∧ sp.toNatClampNeg + n.toNatClampNeg ≤ n0 ∧ dp.toNatClampNeg + n.toNatClampNeg ≤ n1 := of_decide_eq_true h
/-- one row changes -/
def u1 {α : Type} (I : Nat → α) (i : Nat) (f : α) : Nat → α := fun j => if j = i then f else I j
theorem u1_s {α : Type} (I : Nat → α) (i : Nat) (f : α) : u1 I i f i = f := by simp [u1]
theorem u1_o {α : Type} (I : Nat → α) {i j : Nat} (f : α) (h : j ≠ i) : u1 I i f j = I j := by simp [u1, h]
def FLD (S : SF) (N i ci k : Nat) (fk : FK) : Prop := i < N ∧ ∃ fks, S i = .inl (ci, fks) ∧ fks[k]? = some fk
def ARR (S : SF) (N i t n : Nat) : Prop := i < N ∧ S i = .inr (t, n, none)
def RAR (S : SF) (N i t n : Nat) (g : Nat → Nat) : Prop := i < N ∧ S i = .inr (t, n, some g)
def OBJ (S : SF) (N i ci : Nat) : Prop := i < N ∧ ∃ fks, S i = .inl (ci, fks)
theorem fld_sub {S S' : SF} {N N' e i ci k : Nat} {fk : FK} (h : SUB S N S' N' (fun i => e + i)) (hF : FLD S' N' i ci k fk) : FLD S N (e + i) ci k (fkM (fun i => e + i) fk) := by
  obtain ⟨hi, fks, h1, h2⟩ := hF
  refine ⟨h.1 i hi, fks.map (fkM (fun i => e + i)), ?_, by rw [List.getElem?_map, h2]; rfl⟩
  rw [h.2.2 i hi, h1]
  rfl
theorem arr_sub {S S' : SF} {N N' e i t n : Nat} (h : SUB S N S' N' (fun i => e + i)) (hF : ARR S' N' i t n) : ARR S N (e + i) t n := by
  refine ⟨h.1 i hF.1, ?_⟩
  rw [h.2.2 i hF.1, hF.2]
  rfl
theorem rar_sub {S S' : SF} {N N' e i t n : Nat} {g : Nat → Nat} (h : SUB S N S' N' (fun i => e + i)) (hF : RAR S' N' i t n g) : RAR S N (e + i) t n (fun j => e + g j) := by
  refine ⟨h.1 i hF.1, ?_⟩
  rw [h.2.2 i hF.1, hF.2]
  rfl
section GX
variable {z : CTX} {cc : ByteArray} {own : String} {nL N : Nat} {S : SF} {R : Room} {ret : Option FieldType} {pc : Nat} {L : List (Nat × Value)} {st : List Value} {I : IS} {J : JS} {out : OUT} {ci n index k i : Nat} {C : String} {T : u_T} {tys : Nat → FieldType}
theorem g_getI (O : OK z cc own nL S N R ret) (hC : isC ci C T n) (d : decode cc pc = .ok (.getfield index, 3)) (hw : Cond.fieldLink own index (T k).1 (T k).2.1 (T k).2.2.1 ∈ gw_tbl) (hk : k < n) (hF : FLD S N i ci k none) (K : G z (pc + 3) L (.int (I i k) :: st) I J out) : G z pc L (.ref i :: st) I J out := by
  obtain ⟨hi, fks, h1, h2⟩ := hF
  exact g_get O hC k d hw rfl hk hi h1 h2 (fun _ => rfl) K
theorem g_getR (O : OK z cc own nL S N R ret) (hC : isC ci C T n) (d : decode cc pc = .ok (.getfield index, 3)) (hw : Cond.fieldLink own index (T k).1 (T k).2.1 (T k).2.2.1 ∈ gw_tbl) (hk : k < n) {j : Nat} (hF : FLD S N i ci k (some (.inl j))) (K : G z (pc + 3) L (.ref j :: st) I J out) : G z pc L (.ref i :: st) I J out := by
  obtain ⟨hi, fks, h1, h2⟩ := hF
  exact g_get O hC k d hw rfl hk hi h1 h2 (fun _ => rfl) K
theorem g_getC1 (O : OK z cc own nL S N R ret) (hC : isC ci C T n) (d : decode cc pc = .ok (.getfield index, 3)) (hw : Cond.fieldLink own index (T k).1 (T k).2.1 (T k).2.2.1 ∈ gw_tbl) (hk : k < n) {j1 j2 : Nat} (hF : FLD S N i ci k (some (.inr (j1, j2)))) (h : I i k = 1) (K : G z (pc + 3) L (.ref j1 :: st) I J out) : G z pc L (.ref i :: st) I J out := by
  obtain ⟨hi, fks, h1, h2⟩ := hF
  exact g_get O hC k d hw rfl hk hi h1 h2 (fun ad => by simp [fv, h, cv]) K
theorem g_getC2 (O : OK z cc own nL S N R ret) (hC : isC ci C T n) (d : decode cc pc = .ok (.getfield index, 3)) (hw : Cond.fieldLink own index (T k).1 (T k).2.1 (T k).2.2.1 ∈ gw_tbl) (hk : k < n) {j1 j2 : Nat} (hF : FLD S N i ci k (some (.inr (j1, j2)))) (h : I i k = 2) (K : G z (pc + 3) L (.ref j2 :: st) I J out) : G z pc L (.ref i :: st) I J out := by
  obtain ⟨hi, fks, h1, h2⟩ := hF
  have h12 : ¬ (2 : Int32) = 1 := by decide
  exact g_get O hC k d hw rfl hk hi h1 h2 (fun ad => by simp [fv, h, cv, h12]) K
theorem g_putI (O : OK z cc own nL S N R ret) (hC : isC ci C T n) (hT : isT T tys n) (d : decode cc pc = .ok (.putfield index, 3)) (hw : Cond.fieldLink own index (T k).1 (T k).2.1 (T k).2.2.1 ∈ gw_tbl) (hk : k < n) (hfin : (T k).2.2.2 = false) (hty : tys k = .int) {x : Int32} (hF : FLD S N i ci k none) (K : G z (pc + 3) L st (u2 I i k x) J out) : G z pc L (.int x :: .ref i :: st) I J out := by
  obtain ⟨hi, fks, h1, h2⟩ := hF
  exact g_put O hC hT k d hw rfl hk hfin hty rfl rfl hi h1 h2 K
theorem g_putZ (O : OK z cc own nL S N R ret) (hC : isC ci C T n) (hT : isT T tys n) (d : decode cc pc = .ok (.putfield index, 3)) (hw : Cond.fieldLink own index (T k).1 (T k).2.1 (T k).2.2.1 ∈ gw_tbl) (hk : k < n) (hfin : (T k).2.2.2 = false) (hty : tys k = .boolean) {x : Int32} (hz : okZ x = true) (hF : FLD S N i ci k none) (K : G z (pc + 3) L st (u2 I i k x) J out) : G z pc L (.int x :: .ref i :: st) I J out := by
  obtain ⟨hi, fks, h1, h2⟩ := hF
  exact g_put O hC hT k d hw rfl hk hfin hty (okZ_n hz) (okZ_f hz) hi h1 h2 K
/-- the code of one of two cells -/
def cdR (r j1 j2 : Nat) : Option Int32 := if r = j1 then some 1 else if r = j2 then some 2 else none
theorem cdR_n {r j1 j2 : Nat} {x : Int32} (h : cdR r j1 j2 = some x) : (x = 1 ∧ r = j1) ∨ (x = 2 ∧ r = j2) := by
  unfold cdR at h
  split at h
  · cases h
    exact Or.inl ⟨rfl, by assumption⟩
  · split at h
    · cases h
      exact Or.inr ⟨rfl, by assumption⟩
    · cases h
theorem g_putC (O : OK z cc own nL S N R ret) (hC : isC ci C T n) (hT : isT T tys n) (d : decode cc pc = .ok (.putfield index, 3)) (hw : Cond.fieldLink own index (T k).1 (T k).2.1 (T k).2.2.1 ∈ gw_tbl) (hk : k < n) (hfin : (T k).2.2.2 = false) {ty : FieldType} (hty : tys k = .array ty) {r j1 j2 : Nat} {x : Int32} (hF : FLD S N i ci k (some (.inr (j1, j2)))) (hx : cdR r j1 j2 = some x) (K : G z (pc + 3) L st (u2 I i k x) J out) : G z pc L (.ref r :: .ref i :: st) I J out := by
  obtain ⟨hi, fks, h1, h2⟩ := hF
  exact g_putR O hC hT k d hw rfl hk hfin (fun a => by rw [hty]; rfl) (fun a => by rw [hty]; rfl) hi h1 h2 (cdR_n hx) K
theorem g_il (O : OK z cc own nL S N R ret) (d : decode cc pc = .ok (.iaload, 1)) (hA : ARR S N i 0 n) {x : Int32} (hin : okI x n = true) (K : G z (pc + 1) L (.int (I i x.toNatClampNeg) :: st) I J out) : G z pc L (.int x :: .ref i :: st) I J out := g_iald O d hA.1 hA.2 hin K
theorem g_zl (O : OK z cc own nL S N R ret) (d : decode cc pc = .ok (.baload, 1)) (hA : ARR S N i 2 n) {x : Int32} (hin : okI x n = true) (K : G z (pc + 1) L (.int (I i x.toNatClampNeg) :: st) I J out) : G z pc L (.int x :: .ref i :: st) I J out := g_zald O d hA.1 hA.2 hin K
theorem g_ll (O : OK z cc own nL S N R ret) (d : decode cc pc = .ok (.laload, 1)) (hA : ARR S N i 1 n) {x : Int32} (hin : okI x n = true) (K : G z (pc + 1) L (.long (J i x.toNatClampNeg) :: st) I J out) : G z pc L (.int x :: .ref i :: st) I J out := g_lald O d hA.1 hA.2 hin K
theorem g_al (O : OK z cc own nL S N R ret) (d : decode cc pc = .ok (.aaload, 1)) {t : Nat} {g : Nat → Nat} (hA : RAR S N i t n g) (ht : t = 3 ∨ t = 4) {x : Int32} (hin : okI x n = true) (K : G z (pc + 1) L (.ref (g x.toNatClampNeg) :: st) I J out) : G z pc L (.int x :: .ref i :: st) I J out := g_aald O d hA.1 hA.2 ht hin K
theorem g_is (O : OK z cc own nL S N R ret) (d : decode cc pc = .ok (.iastore, 1)) (hA : ARR S N i 0 n) {x y : Int32} (hin : okI x n = true) (K : G z (pc + 1) L st (u2 I i x.toNatClampNeg y) J out) : G z pc L (.int y :: .int x :: .ref i :: st) I J out := g_iast O d hA.1 hA.2 hin K
theorem g_zs (O : OK z cc own nL S N R ret) (d : decode cc pc = .ok (.bastore, 1)) (hA : ARR S N i 2 n) {x y : Int32} (hin : okI x n = true) (hz : okZ y = true) (K : G z (pc + 1) L st (u2 I i x.toNatClampNeg y) J out) : G z pc L (.int y :: .int x :: .ref i :: st) I J out := g_zast O d hA.1 hA.2 hin hz K
theorem g_ls (O : OK z cc own nL S N R ret) (d : decode cc pc = .ok (.lastore, 1)) (hA : ARR S N i 1 n) {x : Int32} {y : Int64} (hin : okI x n = true) (K : G z (pc + 1) L st I (u2 J i x.toNatClampNeg y) out) : G z pc L (.long y :: .int x :: .ref i :: st) I J out := g_last O d hA.1 hA.2 hin K
theorem g_len (O : OK z cc own nL S N R ret) (d : decode cc pc = .ok (.arraylength, 1)) {t : Nat} (ht : t < 5) (hA : ARR S N i t n) {v : Int32} (hv : Int32.ofNat n = v) (K : G z (pc + 1) L (.int v :: st) I J out) : G z pc L (.ref i :: st) I J out := g_alen O d hA.1 hA.2 ht hv K
theorem g_lenR (O : OK z cc own nL S N R ret) (d : decode cc pc = .ok (.arraylength, 1)) {t : Nat} (ht : t < 5) {g : Nat → Nat} (hA : RAR S N i t n g) {v : Int32} (hv : Int32.ofNat n = v) (K : G z (pc + 1) L (.int v :: st) I J out) : G z pc L (.ref i :: st) I J out := g_alen O d hA.1 hA.2 ht hv K
section CALL
variable {y : MethodName} {cc' : ByteArray} {maxL' : Nat} {ret' : Option FieldType} {rm' : Room} {S' : SF} {N' : Nat} {av' : List Value} {I' : IS} {J' : JS} {I'' : IS} {J'' : JS} {I2 : IS} {J2 : JS} {st0 : List Value} {n' : Nat} {φ : Nat → Nat}
theorem g_Vi (O : OK z cc own nL S N R ret) (d : decode cc pc = .ok (.invokevirtual index, 3)) {x : Int32} (hM : MC y cc' maxL' ret' rm' S' N' (.ref 0 :: av') I' J' (some (.int x), I'', J'')) (hcb : CB y cc' maxL' ret' av'.length) (hlk : Cond.methodLink own index y ∈ gw_tbl) (hC : isC ci y.cls T n') (hO : OBJ S' N' 0 ci) (hZ : ZM S N S' N' φ I J I' J' (some (.int x), I'', J'') I2 J2) (hrm : rm'.cells = 0 ∧ rm'.slots = 0 ∧ rm'.frames + 1 ≤ R.frames ∧ 8 + (maxL' + 11) + rm'.locals ≤ R.locals) (hsm : (st.map fun v => v.category).sum ≤ 8) (hst : st0 = (av'.map (cv φ)).reverse ++ .ref (φ 0) :: st) (K : G z (pc + 3) L (.int x :: st) I2 J2 out) : G z pc L st0 I J out := by
  obtain ⟨h0, fks, h1⟩ := hO
  exact g_callV O d hM hcb hlk hC h1 h0 φ hZ hrm hsm (fun _ => rfl) hst K
theorem g_Vl (O : OK z cc own nL S N R ret) (d : decode cc pc = .ok (.invokevirtual index, 3)) {x : Int64} (hM : MC y cc' maxL' ret' rm' S' N' (.ref 0 :: av') I' J' (some (.long x), I'', J'')) (hcb : CB y cc' maxL' ret' av'.length) (hlk : Cond.methodLink own index y ∈ gw_tbl) (hC : isC ci y.cls T n') (hO : OBJ S' N' 0 ci) (hZ : ZM S N S' N' φ I J I' J' (some (.long x), I'', J'') I2 J2) (hrm : rm'.cells = 0 ∧ rm'.slots = 0 ∧ rm'.frames + 1 ≤ R.frames ∧ 8 + (maxL' + 11) + rm'.locals ≤ R.locals) (hsm : (st.map fun v => v.category).sum ≤ 8) (hst : st0 = (av'.map (cv φ)).reverse ++ .ref (φ 0) :: st) (K : G z (pc + 3) L (.long x :: st) I2 J2 out) : G z pc L st0 I J out := by
  obtain ⟨h0, fks, h1⟩ := hO
  exact g_callV O d hM hcb hlk hC h1 h0 φ hZ hrm hsm (fun _ => rfl) hst K
theorem g_Vv (O : OK z cc own nL S N R ret) (d : decode cc pc = .ok (.invokevirtual index, 3)) (hM : MC y cc' maxL' ret' rm' S' N' (.ref 0 :: av') I' J' (none, I'', J'')) (hcb : CB y cc' maxL' ret' av'.length) (hlk : Cond.methodLink own index y ∈ gw_tbl) (hC : isC ci y.cls T n') (hO : OBJ S' N' 0 ci) (hZ : ZM S N S' N' φ I J I' J' (none, I'', J'') I2 J2) (hrm : rm'.cells = 0 ∧ rm'.slots = 0 ∧ rm'.frames + 1 ≤ R.frames ∧ 8 + (maxL' + 11) + rm'.locals ≤ R.locals) (hsm : (st.map fun v => v.category).sum ≤ 8) (hst : st0 = (av'.map (cv φ)).reverse ++ .ref (φ 0) :: st) (K : G z (pc + 3) L st I2 J2 out) : G z pc L st0 I J out := by
  obtain ⟨h0, fks, h1⟩ := hO
  exact g_callV O d hM hcb hlk hC h1 h0 φ hZ hrm hsm (fun _ => rfl) hst K
theorem g_Si (O : OK z cc own nL S N R ret) (d : decode cc pc = .ok (.invokestatic index, 3)) {x : Int32} (hM : MC y cc' maxL' ret' rm' S' 0 av' I J (some (.int x), I, J)) (hcb : CS y cc' maxL' ret' av'.length) (hlk : Cond.methodLink own index y ∈ gw_tbl) (hyo : y.cls = own) (hrm : rm'.cells = 0 ∧ rm'.slots = 0 ∧ rm'.frames + 1 ≤ R.frames ∧ 8 + (maxL' + 11) + rm'.locals ≤ R.locals) (hsm : (st.map fun v => v.category).sum ≤ 8) (hav : ∀ ad, av'.map (cv ad) = av') (hst : st0 = av'.reverse ++ st) (K : G z (pc + 3) L (.int x :: st) I J out) : G z pc L st0 I J out :=
  g_callS O d hM hcb hlk hyo hrm hsm (fun _ => rfl) hav hst K
theorem g_Sl (O : OK z cc own nL S N R ret) (d : decode cc pc = .ok (.invokestatic index, 3)) {x : Int64} (hM : MC y cc' maxL' ret' rm' S' 0 av' I J (some (.long x), I, J)) (hcb : CS y cc' maxL' ret' av'.length) (hlk : Cond.methodLink own index y ∈ gw_tbl) (hyo : y.cls = own) (hrm : rm'.cells = 0 ∧ rm'.slots = 0 ∧ rm'.frames + 1 ≤ R.frames ∧ 8 + (maxL' + 11) + rm'.locals ≤ R.locals) (hsm : (st.map fun v => v.category).sum ≤ 8) (hav : ∀ ad, av'.map (cv ad) = av') (hst : st0 = av'.reverse ++ st) (K : G z (pc + 3) L (.long x :: st) I J out) : G z pc L st0 I J out :=
  g_callS O d hM hcb hlk hyo hrm hsm (fun _ => rfl) hav hst K
end CALL
theorem cats (ad : Nat → Nat) (st : List Value) : ((st.map (cv ad)).map fun v => v.category) = st.map fun v => v.category := by
  rw [List.map_map]
  congr 1
  funext v
  exact cv_cat ad v
theorem g_max (O : OK z cc own nL S N R ret) (d : decode cc pc = .ok (.invokestatic index, 3)) (h1 : Cond.methodLink own index Lib.Math.max.name ∈ gw_tbl) (h2 : Cond.static Lib.Math.max.name ∈ gw_tbl) (h3 : Cond.initialized "java/lang/Math" ∈ gw_tbl) (h4 : Cond.code Lib.Math.max.name Lib.Math.max.code 2 (some .int) ∈ gw_tbl) (hR : 1 ≤ R.frames) (hR2 : (st.map fun v => v.category).sum + 13 ≤ R.locals) {x y : Int32} (K : G z (pc + 3) L (.int (if x < y then y else x) :: st) I J out) : G z pc L (.int y :: .int x :: st) I J out := by
  obtain ⟨p, l, e, R, s, m, args, below, meth, c, A, nL, D, cA, S, N, ad⟩ := z
  obtain ⟨hx, hb, hown, hml, hts, -, -, -, -, -, -, -, rfl, -⟩ := O
  intro H locs ls hP hS hl
  exact va_mmax hx hb (hml.trans hl.1.symm) hown (hts _ h1) (hts _ h2) (hts _ h3) (hts _ h4) hR (by rw [cats]; exact hR2) (Nat.zero_le _) (Nat.zero_le _) d (K H locs ls hP hS hl)
theorem g_min (O : OK z cc own nL S N R ret) (d : decode cc pc = .ok (.invokestatic index, 3)) (h1 : Cond.methodLink own index Lib.Math.min.name ∈ gw_tbl) (h2 : Cond.static Lib.Math.min.name ∈ gw_tbl) (h3 : Cond.initialized "java/lang/Math" ∈ gw_tbl) (h4 : Cond.code Lib.Math.min.name Lib.Math.min.code 2 (some .int) ∈ gw_tbl) (hR : 1 ≤ R.frames) (hR2 : (st.map fun v => v.category).sum + 13 ≤ R.locals) {x y : Int32} (K : G z (pc + 3) L (.int (if y < x then y else x) :: st) I J out) : G z pc L (.int y :: .int x :: st) I J out := by
  obtain ⟨p, l, e, R, s, m, args, below, meth, c, A, nL, D, cA, S, N, ad⟩ := z
  obtain ⟨hx, hb, hown, hml, hts, -, -, -, -, -, -, -, rfl, -⟩ := O
  intro H locs ls hP hS hl
  exact va_mmin hx hb (hml.trans hl.1.symm) hown (hts _ h1) (hts _ h2) (hts _ h3) (hts _ h4) hR (by rw [cats]; exact hR2) (Nat.zero_le _) (Nat.zero_le _) d (K H locs ls hP hS hl)
theorem g_copyI (O : OK z cc own nL S N R ret) (d : decode cc pc = .ok (.invokestatic index, 3)) (h1 : Cond.methodLink own index arraycopyName ∈ gw_tbl) (h2 : Cond.native arraycopyName ∈ gw_tbl) (h3 : Cond.static arraycopyName ∈ gw_tbl) (h4 : Cond.initialized "java/lang/System" ∈ gw_tbl) {i0 i1 n0 n1 : Nat} (hA0 : ARR S N i0 0 n0) (hA1 : ARR S N i1 0 n1) {sp dp q : Int32} (hq : okC sp dp q n0 n1 = true) (hR : 1 ≤ R.frames) (hR2 : (st.map fun v => v.category).sum + 18 ≤ R.locals) (K : G z (pc + 3) L st (u1 I i1 (va_cpy (I i0) (I i1) sp.toNatClampNeg dp.toNatClampNeg q.toNatClampNeg)) J out) : G z pc L (.int q :: .int dp :: .ref i1 :: .int sp :: .ref i0 :: st) I J out := by
  obtain ⟨p, l, e, R, s, m, args, below, meth, c, A, nL, D, cA, S, N, ad⟩ := z
  obtain ⟨hx, hb, hown, hml, hts, hK, hij, hA, -, -, rfl, rfl, rfl, -⟩ := O
  intro H locs ls hP hS hl
  obtain ⟨q1, q2, q3, q4, q5⟩ := okC_n hq
  refine va_copyi (q0 := i0) (q1 := i1) (t0 := 0) (t1 := 0) (c0 := cA 0) (c1 := cA 0) (n0 := n0) (n1 := n1) (f := I i0) (g := I i1) (ty := .int) hx hb (hml.trans hl.1.symm) hown (hts _ h1) (hts _ h2) (hts _ h3) (hts _ h4) hK hP (dOf hij hA) hS (by rw [wls_get hA0.1]; simp only [cel, hA0.2]; rfl) (by rw [wls_get hA1.1]; simp only [cel, hA1.2]; rfl) rfl rfl rfl q1 q2 q3 q4 q5 (fun _ _ => rfl) hR (by rw [cats]; exact hR2) d (fun H1 locs1 hP1 _ hS1 => ?_)
  rw [wls_set (I' := u1 I i1 (va_cpy (I i0) (I i1) sp.toNatClampNeg dp.toNatClampNeg q.toNatClampNeg)) (J' := J) hA1.1 (by simp only [cel, hA1.2, u1_s]; rfl) (fun j _ hj => cel_I (u1_o I _ hj) rfl)] at hP1
  exact K H1 locs1 ls hP1 hS1 hl
theorem g_copyJ (O : OK z cc own nL S N R ret) (d : decode cc pc = .ok (.invokestatic index, 3)) (h1 : Cond.methodLink own index arraycopyName ∈ gw_tbl) (h2 : Cond.native arraycopyName ∈ gw_tbl) (h3 : Cond.static arraycopyName ∈ gw_tbl) (h4 : Cond.initialized "java/lang/System" ∈ gw_tbl) {i0 i1 n0 n1 : Nat} (hA0 : ARR S N i0 1 n0) (hA1 : ARR S N i1 1 n1) {sp dp q : Int32} (hq : okC sp dp q n0 n1 = true) (hR : 1 ≤ R.frames) (hR2 : (st.map fun v => v.category).sum + 18 ≤ R.locals) (K : G z (pc + 3) L st I (u1 J i1 (va_cpy (J i0) (J i1) sp.toNatClampNeg dp.toNatClampNeg q.toNatClampNeg)) out) : G z pc L (.int q :: .int dp :: .ref i1 :: .int sp :: .ref i0 :: st) I J out := by
  obtain ⟨p, l, e, R, s, m, args, below, meth, c, A, nL, D, cA, S, N, ad⟩ := z
  obtain ⟨hx, hb, hown, hml, hts, hK, hij, hA, -, -, rfl, rfl, rfl, -⟩ := O
  intro H locs ls hP hS hl
  obtain ⟨q1, q2, q3, q4, q5⟩ := okC_n hq
  refine va_copyl (q0 := i0) (q1 := i1) (t0 := 1) (t1 := 1) (c0 := cA 1) (c1 := cA 1) (n0 := n0) (n1 := n1) (f := J i0) (g := J i1) (ty := .long) hx hb (hml.trans hl.1.symm) hown (hts _ h1) (hts _ h2) (hts _ h3) (hts _ h4) hK hP (dOf hij hA) hS (by rw [wls_get hA0.1]; simp only [cel, hA0.2]; rfl) (by rw [wls_get hA1.1]; simp only [cel, hA1.2]; rfl) rfl rfl rfl q1 q2 q3 q4 q5 (fun _ _ => rfl) hR (by rw [cats]; exact hR2) d (fun H1 locs1 hP1 _ hS1 => ?_)
  rw [wls_set (I' := I) (J' := u1 J i1 (va_cpy (J i0) (J i1) sp.toNatClampNeg dp.toNatClampNeg q.toNatClampNeg)) hA1.1 (by simp only [cel, hA1.2, u1_s]; rfl) (fun j _ hj => cel_I rfl (u1_o J _ hj))] at hP1
  exact K H1 locs1 ls hP1 hS1 hl
end GX
theorem g_nmI {z : CTX} {pc : Nat} {L : List (Nat × Value)} {st : List Value} {e I2 : IS} {J : JS} {out : OUT} (h : e = I2) (K : G z pc L st I2 J out) : G z pc L st e J out := by
  rw [h]
  exact K
theorem g_nmJ {z : CTX} {pc : Nat} {L : List (Nat × Value)} {st : List Value} {I : IS} {e J2 : JS} {out : OUT} (h : e = J2) (K : G z pc L st I J2 out) : G z pc L st I e out := by
  rw [h]
  exact K
end
section
theorem tw (i : Nat) {w : Cond} (h : tables_1[i]? = some w) (g : goodWord w = true) : w ∈ gw_tbl := gw_in (List.mem_append_right _ (List.mem_of_getElem? h)) g
theorem tp (i : Nat) {w : Cond} (h : (k2_sels lw_privs)[i]? = some w) (g : goodWord w = true) : w ∈ gw_tbl := gw_in (List.mem_append_left _ (List.mem_of_getElem? h)) g
theorem in_r {big ws : List Cond} (ps : List Nat) (h : ws = ps.filterMap (fun i => big[i]?)) : ∀ w ∈ ws, w ∈ big := fun w hw => by
  rw [h] at hw
  obtain ⟨i, -, hi⟩ := List.mem_filterMap.mp hw
  exact List.mem_of_getElem? hi
theorem dis_arm (a b : Nat) : gArm a + 2 ≤ 34 + gArm b ∨ 34 + gArm b + 2 ≤ gArm a := by
  have h1 : a % 4 < 4 := Nat.mod_lt _ (by omega)
  have h2 : b % 4 < 4 := Nat.mod_lt _ (by omega)
  unfold gArm
  omega
theorem look_out {x : Int32} (h1 : ¬ x.toInt = 33) (h2 : ¬ x.toInt = 40) (h3 : ¬ x.toInt = 41) (h4 : ¬ x.toInt = 44) (h5 : ¬ x.toInt = 63) : Op.lookupswitch.offset #[((33 : Int), (51 : Int)), (40, 63), (41, 73), (44, 68), (63, 57)].toList 78 x.toInt = 78 := by
  simp [Op.lookupswitch.offset, h1, h2, h3, h4, h5, eq_comm]
theorem pn_X0 : plainName RX0 = true := by decide +kernel
theorem isC_X0 : isC 0 RX0 TX0 5 := ⟨rfl, fun w hw => gw_in (List.mem_append_right _ (in_r (ws := u_ws RX0 TX0 5) [47, 49, 51, 53, 55] (by decide +kernel) w hw)) (List.all_eq_true.mp (show (u_ws RX0 TX0 5).all goodWord = true by decide +kernel) w hw)⟩
theorem isT_X0 : isT TX0 tyX0 5 := ⟨tyX0_ok, nmX0⟩
theorem pn_X1 : plainName RX1 = true := by decide +kernel
theorem isC_X1 : isC 1 RX1 TX1 8 := ⟨rfl, fun w hw => gw_in (List.mem_append_right _ (in_r (ws := u_ws RX1 TX1 8) [121, 123, 125, 127, 129, 131, 133, 135] (by decide +kernel) w hw)) (List.all_eq_true.mp (show (u_ws RX1 TX1 8).all goodWord = true by decide +kernel) w hw)⟩
theorem isT_X1 : isT TX1 tyX1 8 := ⟨tyX1_ok, nmX1⟩
theorem pn_X2 : plainName RX2 = true := by decide +kernel
theorem isC_X2 : isC 2 RX2 TX2 3 := ⟨rfl, fun w hw => gw_in (List.mem_append_right _ (in_r (ws := u_ws RX2 TX2 3) [153, 155, 157] (by decide +kernel) w hw)) (List.all_eq_true.mp (show (u_ws RX2 TX2 3).all goodWord = true by decide +kernel) w hw)⟩
theorem isT_X2 : isT TX2 tyX2 3 := ⟨tyX2_ok, nmX2⟩
theorem pn_X3 : plainName RX3 = true := by decide +kernel
theorem isC_X3 : isC 3 RX3 TX3 3 := ⟨rfl, fun w hw => gw_in (List.mem_append_right _ (in_r (ws := u_ws RX3 TX3 3) [252, 254, 256] (by decide +kernel) w hw)) (List.all_eq_true.mp (show (u_ws RX3 TX3 3).all goodWord = true by decide +kernel) w hw)⟩
theorem isT_X3 : isT TX3 tyX3 3 := ⟨tyX3_ok, nmX3⟩
theorem pn_X4 : plainName RX4 = true := by decide +kernel
theorem isC_X4 : isC 4 RX4 TX4 9 := ⟨rfl, fun w hw => gw_in (List.mem_append_right _ (in_r (ws := u_ws RX4 TX4 9) [87, 89, 91, 93, 95, 97, 99, 101, 103] (by decide +kernel) w hw)) (List.all_eq_true.mp (show (u_ws RX4 TX4 9).all goodWord = true by decide +kernel) w hw)⟩
theorem isT_X4 : isT TX4 tyX4 9 := ⟨tyX4_ok, nmX4⟩
theorem pn_X5 : plainName RX5 = true := by decide +kernel
theorem isC_X5 : isC 5 RX5 TX5 10 := ⟨rfl, fun w hw => gw_in (List.mem_append_right _ (in_r (ws := u_ws RX5 TX5 10) [218, 220, 222, 224, 226, 228, 230, 232, 234, 236] (by decide +kernel) w hw)) (List.all_eq_true.mp (show (u_ws RX5 TX5 10).all goodWord = true by decide +kernel) w hw)⟩
theorem isT_X5 : isT TX5 tyX5 10 := ⟨tyX5_ok, nmX5⟩
theorem pn_X6 : plainName RX6 = true := by decide +kernel
theorem isC_X6 : isC 6 RX6 TX6 9 := ⟨rfl, fun w hw => gw_in (List.mem_append_right _ (in_r (ws := u_ws RX6 TX6 9) [178, 180, 182, 184, 186, 188, 190, 192, 194] (by decide +kernel) w hw)) (List.all_eq_true.mp (show (u_ws RX6 TX6 9).all goodWord = true by decide +kernel) w hw)⟩
theorem isT_X6 : isT TX6 tyX6 9 := ⟨tyX6_ok, nmX6⟩
theorem pn_X7 : plainName RX7 = true := by decide +kernel
theorem isC_X7 : isC 7 RX7 TX7 6 := ⟨rfl, fun w hw => gw_in (List.mem_append_right _ (in_r (ws := u_ws RX7 TX7 6) [266, 268, 270, 272, 274, 276] (by decide +kernel) w hw)) (List.all_eq_true.mp (show (u_ws RX7 TX7 6).all goodWord = true by decide +kernel) w hw)⟩
theorem isT_X7 : isT TX7 tyX7 6 := ⟨tyX7_ok, nmX7⟩
theorem pn_X8 : plainName RX8 = true := by decide +kernel
theorem isC_X8 : isC 8 RX8 TX8 55 := ⟨rfl, fun w hw => gw_in (List.mem_append_right _ (in_r (ws := u_ws RX8 TX8 55) [738, 740, 742, 744, 746, 748, 750, 752, 754, 756, 758, 760, 762, 764, 766, 768, 770, 772, 774, 776, 778, 780, 782, 784, 786, 788, 790, 792, 794, 796, 798, 800, 802, 804, 806, 808, 810, 812, 814, 816, 818, 820, 822, 824, 826, 828, 830, 832, 834, 836, 838, 840, 842, 844, 846] (by decide +kernel) w hw)) (List.all_eq_true.mp (show (u_ws RX8 TX8 55).all goodWord = true by decide +kernel) w hw)⟩
theorem isT_X8 : isT TX8 tyX8 55 := ⟨tyX8_ok, nmX8⟩
theorem fd_dbl_2_SArm_2_0 : FLD (dbl 2 SArm) 4 (2) 0 0 (some (.inl (3))) := ⟨by decide, _, rfl, rfl⟩
theorem fw_X0_9 : Cond.fieldLink RX0 9 (TX0 0).1 (TX0 0).2.1 (TX0 0).2.2.1 ∈ gw_tbl := tw 33 (by decide +kernel) (by decide +kernel)
theorem ic_0 : Int32.ofInt (0) = 0 := by decide
theorem fd_dbl_2_SArm_0_0 : FLD (dbl 2 SArm) 4 (0) 0 0 (some (.inl (1))) := ⟨by decide, _, rfl, rfl⟩
theorem ar_dbl_2_SArm_1 : ARR (dbl 2 SArm) 4 (1) 0 32 := ⟨by decide, rfl⟩
theorem ml_X0_28 : Cond.methodLink RX0 28 arraycopyName ∈ gw_tbl := tw 504 (by decide +kernel) (by decide +kernel)
theorem acn : Cond.native arraycopyName ∈ gw_tbl := tw 506 (by decide +kernel) (by decide +kernel)
theorem acs : Cond.static arraycopyName ∈ gw_tbl := tw 505 (by decide +kernel) (by decide +kernel)
theorem aci : Cond.initialized "java/lang/System" ∈ gw_tbl := tw 11 (by decide +kernel) (by decide +kernel)
theorem ar_dbl_2_SArm_3 : ARR (dbl 2 SArm) 4 (3) 0 32 := ⟨by decide, rfl⟩
theorem fd_dbl_2_SArm_2_1 : FLD (dbl 2 SArm) 4 (2) 0 1 none := ⟨by decide, _, rfl, rfl⟩
theorem fw_X0_15 : Cond.fieldLink RX0 15 (TX0 1).1 (TX0 1).2.1 (TX0 1).2.2.1 ∈ gw_tbl := tw 35 (by decide +kernel) (by decide +kernel)
theorem fd_dbl_2_SArm_0_1 : FLD (dbl 2 SArm) 4 (0) 0 1 none := ⟨by decide, _, rfl, rfl⟩
theorem fd_dbl_2_SArm_2_2 : FLD (dbl 2 SArm) 4 (2) 0 2 none := ⟨by decide, _, rfl, rfl⟩
theorem fw_X0_19 : Cond.fieldLink RX0 19 (TX0 2).1 (TX0 2).2.1 (TX0 2).2.2.1 ∈ gw_tbl := tw 38 (by decide +kernel) (by decide +kernel)
theorem fd_dbl_2_SArm_0_2 : FLD (dbl 2 SArm) 4 (0) 0 2 none := ⟨by decide, _, rfl, rfl⟩
theorem fd_dbl_2_SArm_2_3 : FLD (dbl 2 SArm) 4 (2) 0 3 none := ⟨by decide, _, rfl, rfl⟩
theorem fw_X0_22 : Cond.fieldLink RX0 22 (TX0 3).1 (TX0 3).2.1 (TX0 3).2.2.1 ∈ gw_tbl := tw 41 (by decide +kernel) (by decide +kernel)
theorem fd_dbl_2_SArm_0_3 : FLD (dbl 2 SArm) 4 (0) 0 3 none := ⟨by decide, _, rfl, rfl⟩
theorem fd_dbl_2_SArm_2_4 : FLD (dbl 2 SArm) 4 (2) 0 4 none := ⟨by decide, _, rfl, rfl⟩
theorem fw_X0_25 : Cond.fieldLink RX0 25 (TX0 4).1 (TX0 4).2.1 (TX0 4).2.2.1 ∈ gw_tbl := tw 44 (by decide +kernel) (by decide +kernel)
theorem fd_dbl_2_SArm_0_4 : FLD (dbl 2 SArm) 4 (0) 0 4 none := ⟨by decide, _, rfl, rfl⟩
theorem fd_SArm_0_1 : FLD SArm 2 (0) 0 1 none := ⟨by decide, _, rfl, rfl⟩
theorem bp_m5 : (Int8.ofInt (-5)).toInt32 = -5 := by decide
theorem fd_SArm_0_2 : FLD SArm 2 (0) 0 2 none := ⟨by decide, _, rfl, rfl⟩
theorem fd_SArm_0_3 : FLD SArm 2 (0) 0 3 none := ⟨by decide, _, rfl, rfl⟩
theorem fd_SArm_0_4 : FLD SArm 2 (0) 0 4 none := ⟨by decide, _, rfl, rfl⟩
theorem fd_SArm_0_0 : FLD SArm 2 (0) 0 0 (some (.inl (1))) := ⟨by decide, _, rfl, rfl⟩
theorem ar_SArm_1 : ARR SArm 2 (1) 0 32 := ⟨by decide, rfl⟩
theorem ic_1 : Int32.ofInt (1) = 1 := by decide
theorem ml_X0_34 : Cond.methodLink RX0 34 yX0_taskAt ∈ gw_tbl := tw 423 (by decide +kernel) (by decide +kernel)
theorem cb_X0_taskAt : CB yX0_taskAt cX0_taskAt 2 (some .int) 1 := ⟨(tw 400 (by decide +kernel) (by decide +kernel)), (tw 401 (by decide +kernel) (by decide +kernel)), (tw 3 (by decide +kernel) (by decide +kernel)), (tw 402 (by decide +kernel) (by decide +kernel)), by decide +kernel⟩
theorem ob_SArm : OBJ SArm 2 0 0 := ⟨by decide, _, rfl⟩
theorem ml_X0_38 : Cond.methodLink RX0 38 yX0_drop ∈ gw_tbl := tw 433 (by decide +kernel) (by decide +kernel)
theorem cb_X0_drop : CB yX0_drop cX0_drop 4 none 1 := ⟨(tw 434 (by decide +kernel) (by decide +kernel)), (tw 435 (by decide +kernel) (by decide +kernel)), (tw 3 (by decide +kernel) (by decide +kernel)), (tw 436 (by decide +kernel) (by decide +kernel)), by decide +kernel⟩
theorem fd_SEnt_0_6 : FLD SEnt 6 (0) 1 6 none := ⟨by decide, _, rfl, rfl⟩
theorem fw_X1_31 : Cond.fieldLink RX1 31 (TX1 6).1 (TX1 6).2.1 (TX1 6).2.2.1 ∈ gw_tbl := tw 118 (by decide +kernel) (by decide +kernel)
theorem fd_SEnt_0_7 : FLD SEnt 6 (0) 1 7 none := ⟨by decide, _, rfl, rfl⟩
theorem fw_X1_34 : Cond.fieldLink RX1 34 (TX1 7).1 (TX1 7).2.1 (TX1 7).2.2.1 ∈ gw_tbl := tw 119 (by decide +kernel) (by decide +kernel)
theorem bp_40 : (Int8.ofInt (40)).toInt32 = 40 := by decide
theorem fd_SEnt_0_0 : FLD SEnt 6 (0) 1 0 (some (.inl (1))) := ⟨by decide, _, rfl, rfl⟩
theorem fw_X1_9 : Cond.fieldLink RX1 9 (TX1 0).1 (TX1 0).2.1 (TX1 0).2.2.1 ∈ gw_tbl := tw 112 (by decide +kernel) (by decide +kernel)
theorem ar_SEnt_1 : ARR SEnt 6 (1) 0 40 := ⟨by decide, rfl⟩
theorem fd_SEnt_0_1 : FLD SEnt 6 (0) 1 1 (some (.inl (2))) := ⟨by decide, _, rfl, rfl⟩
theorem fw_X1_15 : Cond.fieldLink RX1 15 (TX1 1).1 (TX1 1).2.1 (TX1 1).2.2.1 ∈ gw_tbl := tw 113 (by decide +kernel) (by decide +kernel)
theorem ar_SEnt_2 : ARR SEnt 6 (2) 0 40 := ⟨by decide, rfl⟩
theorem fd_SEnt_0_2 : FLD SEnt 6 (0) 1 2 (some (.inl (3))) := ⟨by decide, _, rfl, rfl⟩
theorem fw_X1_18 : Cond.fieldLink RX1 18 (TX1 2).1 (TX1 2).2.1 (TX1 2).2.2.1 ∈ gw_tbl := tw 114 (by decide +kernel) (by decide +kernel)
theorem ar_SEnt_3 : ARR SEnt 6 (3) 0 40 := ⟨by decide, rfl⟩
theorem fd_SEnt_0_3 : FLD SEnt 6 (0) 1 3 (some (.inl (4))) := ⟨by decide, _, rfl, rfl⟩
theorem fw_X1_21 : Cond.fieldLink RX1 21 (TX1 3).1 (TX1 3).2.1 (TX1 3).2.2.1 ∈ gw_tbl := tw 115 (by decide +kernel) (by decide +kernel)
theorem ar_SEnt_4 : ARR SEnt 6 (4) 0 40 := ⟨by decide, rfl⟩
theorem fd_SEnt_0_5 : FLD SEnt 6 (0) 1 5 none := ⟨by decide, _, rfl, rfl⟩
theorem fw_X1_27 : Cond.fieldLink RX1 27 (TX1 5).1 (TX1 5).2.1 (TX1 5).2.2.1 ∈ gw_tbl := tw 117 (by decide +kernel) (by decide +kernel)
theorem fd_SEnt_0_4 : FLD SEnt 6 (0) 1 4 (some (.inl (5))) := ⟨by decide, _, rfl, rfl⟩
theorem fw_X1_24 : Cond.fieldLink RX1 24 (TX1 4).1 (TX1 4).2.1 (TX1 4).2.2.1 ∈ gw_tbl := tw 116 (by decide +kernel) (by decide +kernel)
theorem ar_SEnt_5 : ARR SEnt 6 (5) 0 40 := ⟨by decide, rfl⟩
theorem fd_dbl_6_SEnt_6_0 : FLD (dbl 6 SEnt) 12 (6) 1 0 (some (.inl (7))) := ⟨by decide, _, rfl, rfl⟩
theorem fd_dbl_6_SEnt_0_0 : FLD (dbl 6 SEnt) 12 (0) 1 0 (some (.inl (1))) := ⟨by decide, _, rfl, rfl⟩
theorem ml_X1_37 : Cond.methodLink RX1 37 arraycopyName ∈ gw_tbl := tw 516 (by decide +kernel) (by decide +kernel)
theorem ar_dbl_6_SEnt_7 : ARR (dbl 6 SEnt) 12 (7) 0 40 := ⟨by decide, rfl⟩
theorem ar_dbl_6_SEnt_1 : ARR (dbl 6 SEnt) 12 (1) 0 40 := ⟨by decide, rfl⟩
theorem fd_dbl_6_SEnt_6_1 : FLD (dbl 6 SEnt) 12 (6) 1 1 (some (.inl (8))) := ⟨by decide, _, rfl, rfl⟩
theorem fd_dbl_6_SEnt_0_1 : FLD (dbl 6 SEnt) 12 (0) 1 1 (some (.inl (2))) := ⟨by decide, _, rfl, rfl⟩
theorem ar_dbl_6_SEnt_8 : ARR (dbl 6 SEnt) 12 (8) 0 40 := ⟨by decide, rfl⟩
theorem ar_dbl_6_SEnt_2 : ARR (dbl 6 SEnt) 12 (2) 0 40 := ⟨by decide, rfl⟩
theorem fd_dbl_6_SEnt_6_2 : FLD (dbl 6 SEnt) 12 (6) 1 2 (some (.inl (9))) := ⟨by decide, _, rfl, rfl⟩
theorem fd_dbl_6_SEnt_0_2 : FLD (dbl 6 SEnt) 12 (0) 1 2 (some (.inl (3))) := ⟨by decide, _, rfl, rfl⟩
theorem ar_dbl_6_SEnt_9 : ARR (dbl 6 SEnt) 12 (9) 0 40 := ⟨by decide, rfl⟩
theorem ar_dbl_6_SEnt_3 : ARR (dbl 6 SEnt) 12 (3) 0 40 := ⟨by decide, rfl⟩
theorem fd_dbl_6_SEnt_6_3 : FLD (dbl 6 SEnt) 12 (6) 1 3 (some (.inl (10))) := ⟨by decide, _, rfl, rfl⟩
theorem fd_dbl_6_SEnt_0_3 : FLD (dbl 6 SEnt) 12 (0) 1 3 (some (.inl (4))) := ⟨by decide, _, rfl, rfl⟩
theorem ar_dbl_6_SEnt_10 : ARR (dbl 6 SEnt) 12 (10) 0 40 := ⟨by decide, rfl⟩
theorem ar_dbl_6_SEnt_4 : ARR (dbl 6 SEnt) 12 (4) 0 40 := ⟨by decide, rfl⟩
theorem fd_dbl_6_SEnt_6_6 : FLD (dbl 6 SEnt) 12 (6) 1 6 none := ⟨by decide, _, rfl, rfl⟩
theorem fd_dbl_6_SEnt_0_6 : FLD (dbl 6 SEnt) 12 (0) 1 6 none := ⟨by decide, _, rfl, rfl⟩
theorem fd_dbl_6_SEnt_6_7 : FLD (dbl 6 SEnt) 12 (6) 1 7 none := ⟨by decide, _, rfl, rfl⟩
theorem fd_dbl_6_SEnt_0_7 : FLD (dbl 6 SEnt) 12 (0) 1 7 none := ⟨by decide, _, rfl, rfl⟩
theorem ic_m1 : Int32.ofInt (-1) = -1 := by decide
theorem fd_SPrs_n_0_2 (n : Nat) : FLD (SPrs n) 3 (0) 2 2 none := ⟨by decide, _, rfl, rfl⟩
theorem fw_X2_24 : Cond.fieldLink RX2 24 (TX2 2).1 (TX2 2).2.1 (TX2 2).2.2.1 ∈ gw_tbl := tw 151 (by decide +kernel) (by decide +kernel)
theorem fd_SPrs_n_0_0 (n : Nat) : FLD (SPrs n) 3 (0) 2 0 (some (.inl (1))) := ⟨by decide, _, rfl, rfl⟩
theorem fw_X2_15 : Cond.fieldLink RX2 15 (TX2 0).1 (TX2 0).2.1 (TX2 0).2.2.1 ∈ gw_tbl := tw 147 (by decide +kernel) (by decide +kernel)
theorem ar_SPrs_n_1 (n : Nat) : ARR (SPrs n) 3 (1) 0 n := ⟨by decide, rfl⟩
theorem fd_SPrs_n_0_1 (n : Nat) : FLD (SPrs n) 3 (0) 2 1 (some (.inl (2))) := ⟨by decide, _, rfl, rfl⟩
theorem fw_X2_21 : Cond.fieldLink RX2 21 (TX2 1).1 (TX2 1).2.1 (TX2 1).2.2.1 ∈ gw_tbl := tw 149 (by decide +kernel) (by decide +kernel)
theorem ar_SPrs_n_2 (n : Nat) : ARR (SPrs n) 3 (2) 0 n := ⟨by decide, rfl⟩
theorem bp_m4 : (Int8.ofInt (-4)).toInt32 = -4 := by decide
theorem fd_dbl_3_SPrs_n_3_2 (n : Nat) : FLD (dbl 3 (SPrs n)) 6 (3) 2 2 none := ⟨by decide, _, rfl, rfl⟩
theorem fd_dbl_3_SPrs_n_0_0 (n : Nat) : FLD (dbl 3 (SPrs n)) 6 (0) 2 0 (some (.inl (1))) := ⟨by decide, _, rfl, rfl⟩
theorem ar_dbl_3_SPrs_n_1 (n : Nat) : ARR (dbl 3 (SPrs n)) 6 (1) 0 n := ⟨by decide, rfl⟩
theorem ml_X2_28 : Cond.methodLink RX2 28 Lib.Math.min.name ∈ gw_tbl := tw 521 (by decide +kernel) (by decide +kernel)
theorem mst_min : Cond.static Lib.Math.min.name ∈ gw_tbl := tw 522 (by decide +kernel) (by decide +kernel)
theorem mini_math : Cond.initialized "java/lang/Math" ∈ gw_tbl := tw 7 (by decide +kernel) (by decide +kernel)
theorem mcode_min : Cond.code Lib.Math.min.name Lib.Math.min.code 2 (some .int) ∈ gw_tbl := tw 523 (by decide +kernel) (by decide +kernel)
theorem fd_dbl_3_SPrs_n_0_2 (n : Nat) : FLD (dbl 3 (SPrs n)) 6 (0) 2 2 none := ⟨by decide, _, rfl, rfl⟩
theorem fd_dbl_3_SPrs_n_3_0 (n : Nat) : FLD (dbl 3 (SPrs n)) 6 (3) 2 0 (some (.inl (4))) := ⟨by decide, _, rfl, rfl⟩
theorem ml_X2_31 : Cond.methodLink RX2 31 arraycopyName ∈ gw_tbl := tw 524 (by decide +kernel) (by decide +kernel)
theorem ar_dbl_3_SPrs_n_4 (n : Nat) : ARR (dbl 3 (SPrs n)) 6 (4) 0 n := ⟨by decide, rfl⟩
theorem fd_dbl_3_SPrs_n_3_1 (n : Nat) : FLD (dbl 3 (SPrs n)) 6 (3) 2 1 (some (.inl (5))) := ⟨by decide, _, rfl, rfl⟩
theorem fd_dbl_3_SPrs_n_0_1 (n : Nat) : FLD (dbl 3 (SPrs n)) 6 (0) 2 1 (some (.inl (2))) := ⟨by decide, _, rfl, rfl⟩
theorem ar_dbl_3_SPrs_n_5 (n : Nat) : ARR (dbl 3 (SPrs n)) 6 (5) 0 n := ⟨by decide, rfl⟩
theorem ar_dbl_3_SPrs_n_2 (n : Nat) : ARR (dbl 3 (SPrs n)) 6 (2) 0 n := ⟨by decide, rfl⟩
theorem fd_STap_0_0 : FLD STap 2 (0) 3 0 (some (.inl (1))) := ⟨by decide, _, rfl, rfl⟩
theorem fw_X3_9 : Cond.fieldLink RX3 9 (TX3 0).1 (TX3 0).2.1 (TX3 0).2.2.1 ∈ gw_tbl := tw 246 (by decide +kernel) (by decide +kernel)
theorem ar_STap_1 : ARR STap 2 (1) 1 60 := ⟨by decide, rfl⟩
theorem fd_STap_0_1 : FLD STap 2 (0) 3 1 none := ⟨by decide, _, rfl, rfl⟩
theorem fw_X3_15 : Cond.fieldLink RX3 15 (TX3 1).1 (TX3 1).2.1 (TX3 1).2.2.1 ∈ gw_tbl := tw 248 (by decide +kernel) (by decide +kernel)
theorem fd_STap_0_2 : FLD STap 2 (0) 3 2 none := ⟨by decide, _, rfl, rfl⟩
theorem fw_X3_19 : Cond.fieldLink RX3 19 (TX3 2).1 (TX3 2).2.1 (TX3 2).2.2.1 ∈ gw_tbl := tw 250 (by decide +kernel) (by decide +kernel)
theorem lc_0 : Int64.ofNat ((0 : Fin 2) : Nat) = 0 := by decide
theorem lc_1 : Int64.ofNat ((1 : Fin 2) : Nat) = 1 := by decide
theorem fd_STas_0_8 : FLD STas 9 (0) 4 8 none := ⟨by decide, _, rfl, rfl⟩
theorem fw_X4_36 : Cond.fieldLink RX4 36 (TX4 8).1 (TX4 8).2.1 (TX4 8).2.2.1 ∈ gw_tbl := tw 84 (by decide +kernel) (by decide +kernel)
theorem bp_32 : (Int8.ofInt (32)).toInt32 = 32 := by decide
theorem fd_STas_0_0 : FLD STas 9 (0) 4 0 (some (.inl (1))) := ⟨by decide, _, rfl, rfl⟩
theorem fw_X4_9 : Cond.fieldLink RX4 9 (TX4 0).1 (TX4 0).2.1 (TX4 0).2.2.1 ∈ gw_tbl := tw 65 (by decide +kernel) (by decide +kernel)
theorem ar_STas_1 : ARR STas 9 (1) 0 32 := ⟨by decide, rfl⟩
theorem fd_STas_0_1 : FLD STas 9 (0) 4 1 (some (.inl (2))) := ⟨by decide, _, rfl, rfl⟩
theorem fw_X4_15 : Cond.fieldLink RX4 15 (TX4 1).1 (TX4 1).2.1 (TX4 1).2.2.1 ∈ gw_tbl := tw 67 (by decide +kernel) (by decide +kernel)
theorem ar_STas_2 : ARR STas 9 (2) 0 32 := ⟨by decide, rfl⟩
theorem fd_STas_0_2 : FLD STas 9 (0) 4 2 (some (.inl (3))) := ⟨by decide, _, rfl, rfl⟩
theorem fw_X4_18 : Cond.fieldLink RX4 18 (TX4 2).1 (TX4 2).2.1 (TX4 2).2.2.1 ∈ gw_tbl := tw 69 (by decide +kernel) (by decide +kernel)
theorem ar_STas_3 : ARR STas 9 (3) 0 32 := ⟨by decide, rfl⟩
theorem fd_STas_0_3 : FLD STas 9 (0) 4 3 (some (.inl (4))) := ⟨by decide, _, rfl, rfl⟩
theorem fw_X4_21 : Cond.fieldLink RX4 21 (TX4 3).1 (TX4 3).2.1 (TX4 3).2.2.1 ∈ gw_tbl := tw 71 (by decide +kernel) (by decide +kernel)
theorem ar_STas_4 : ARR STas 9 (4) 0 32 := ⟨by decide, rfl⟩
theorem fd_STas_0_4 : FLD STas 9 (0) 4 4 (some (.inl (5))) := ⟨by decide, _, rfl, rfl⟩
theorem fw_X4_24 : Cond.fieldLink RX4 24 (TX4 4).1 (TX4 4).2.1 (TX4 4).2.2.1 ∈ gw_tbl := tw 74 (by decide +kernel) (by decide +kernel)
theorem ar_STas_5 : ARR STas 9 (5) 0 32 := ⟨by decide, rfl⟩
theorem fd_STas_0_5 : FLD STas 9 (0) 4 5 (some (.inl (6))) := ⟨by decide, _, rfl, rfl⟩
theorem fw_X4_27 : Cond.fieldLink RX4 27 (TX4 5).1 (TX4 5).2.1 (TX4 5).2.2.1 ∈ gw_tbl := tw 77 (by decide +kernel) (by decide +kernel)
theorem ar_STas_6 : ARR STas 9 (6) 0 32 := ⟨by decide, rfl⟩
theorem fd_STas_0_6 : FLD STas 9 (0) 4 6 (some (.inl (7))) := ⟨by decide, _, rfl, rfl⟩
theorem fw_X4_30 : Cond.fieldLink RX4 30 (TX4 6).1 (TX4 6).2.1 (TX4 6).2.2.1 ∈ gw_tbl := tw 80 (by decide +kernel) (by decide +kernel)
theorem ar_STas_7 : ARR STas 9 (7) 0 32 := ⟨by decide, rfl⟩
theorem ic_3 : Int32.ofInt (3) = 3 := by decide
theorem fd_dbl_9_STas_9_8 : FLD (dbl 9 STas) 18 (9) 4 8 none := ⟨by decide, _, rfl, rfl⟩
theorem fd_dbl_9_STas_0_8 : FLD (dbl 9 STas) 18 (0) 4 8 none := ⟨by decide, _, rfl, rfl⟩
theorem fd_dbl_9_STas_9_0 : FLD (dbl 9 STas) 18 (9) 4 0 (some (.inl (10))) := ⟨by decide, _, rfl, rfl⟩
theorem fd_dbl_9_STas_0_0 : FLD (dbl 9 STas) 18 (0) 4 0 (some (.inl (1))) := ⟨by decide, _, rfl, rfl⟩
theorem ml_X4_40 : Cond.methodLink RX4 40 arraycopyName ∈ gw_tbl := tw 511 (by decide +kernel) (by decide +kernel)
theorem ar_dbl_9_STas_10 : ARR (dbl 9 STas) 18 (10) 0 32 := ⟨by decide, rfl⟩
theorem ar_dbl_9_STas_1 : ARR (dbl 9 STas) 18 (1) 0 32 := ⟨by decide, rfl⟩
theorem fd_dbl_9_STas_9_1 : FLD (dbl 9 STas) 18 (9) 4 1 (some (.inl (11))) := ⟨by decide, _, rfl, rfl⟩
theorem fd_dbl_9_STas_0_1 : FLD (dbl 9 STas) 18 (0) 4 1 (some (.inl (2))) := ⟨by decide, _, rfl, rfl⟩
theorem ar_dbl_9_STas_11 : ARR (dbl 9 STas) 18 (11) 0 32 := ⟨by decide, rfl⟩
theorem ar_dbl_9_STas_2 : ARR (dbl 9 STas) 18 (2) 0 32 := ⟨by decide, rfl⟩
theorem fd_dbl_9_STas_9_2 : FLD (dbl 9 STas) 18 (9) 4 2 (some (.inl (12))) := ⟨by decide, _, rfl, rfl⟩
theorem fd_dbl_9_STas_0_2 : FLD (dbl 9 STas) 18 (0) 4 2 (some (.inl (3))) := ⟨by decide, _, rfl, rfl⟩
theorem ar_dbl_9_STas_12 : ARR (dbl 9 STas) 18 (12) 0 32 := ⟨by decide, rfl⟩
theorem ar_dbl_9_STas_3 : ARR (dbl 9 STas) 18 (3) 0 32 := ⟨by decide, rfl⟩
theorem fd_dbl_9_STas_9_3 : FLD (dbl 9 STas) 18 (9) 4 3 (some (.inl (13))) := ⟨by decide, _, rfl, rfl⟩
theorem fd_dbl_9_STas_0_3 : FLD (dbl 9 STas) 18 (0) 4 3 (some (.inl (4))) := ⟨by decide, _, rfl, rfl⟩
theorem ar_dbl_9_STas_13 : ARR (dbl 9 STas) 18 (13) 0 32 := ⟨by decide, rfl⟩
theorem ar_dbl_9_STas_4 : ARR (dbl 9 STas) 18 (4) 0 32 := ⟨by decide, rfl⟩
theorem fd_dbl_9_STas_9_4 : FLD (dbl 9 STas) 18 (9) 4 4 (some (.inl (14))) := ⟨by decide, _, rfl, rfl⟩
theorem fd_dbl_9_STas_0_4 : FLD (dbl 9 STas) 18 (0) 4 4 (some (.inl (5))) := ⟨by decide, _, rfl, rfl⟩
theorem ar_dbl_9_STas_14 : ARR (dbl 9 STas) 18 (14) 0 32 := ⟨by decide, rfl⟩
theorem ar_dbl_9_STas_5 : ARR (dbl 9 STas) 18 (5) 0 32 := ⟨by decide, rfl⟩
theorem fd_dbl_9_STas_9_5 : FLD (dbl 9 STas) 18 (9) 4 5 (some (.inl (15))) := ⟨by decide, _, rfl, rfl⟩
theorem fd_dbl_9_STas_0_5 : FLD (dbl 9 STas) 18 (0) 4 5 (some (.inl (6))) := ⟨by decide, _, rfl, rfl⟩
theorem ar_dbl_9_STas_15 : ARR (dbl 9 STas) 18 (15) 0 32 := ⟨by decide, rfl⟩
theorem ar_dbl_9_STas_6 : ARR (dbl 9 STas) 18 (6) 0 32 := ⟨by decide, rfl⟩
theorem fd_dbl_9_STas_9_6 : FLD (dbl 9 STas) 18 (9) 4 6 (some (.inl (16))) := ⟨by decide, _, rfl, rfl⟩
theorem fd_dbl_9_STas_0_6 : FLD (dbl 9 STas) 18 (0) 4 6 (some (.inl (7))) := ⟨by decide, _, rfl, rfl⟩
theorem ar_dbl_9_STas_16 : ARR (dbl 9 STas) 18 (16) 0 32 := ⟨by decide, rfl⟩
theorem ar_dbl_9_STas_7 : ARR (dbl 9 STas) 18 (7) 0 32 := ⟨by decide, rfl⟩
theorem ic_4 : Int32.ofInt (4) = 4 := by decide
theorem ml_X4_46 : Cond.methodLink RX4 46 yX4_has ∈ gw_tbl := tw 378 (by decide +kernel) (by decide +kernel)
theorem cb_X4_has : CB yX4_has cX4_has 2 (some .boolean) 1 := ⟨(tw 288 (by decide +kernel) (by decide +kernel)), (tw 289 (by decide +kernel) (by decide +kernel)), (tw 4 (by decide +kernel) (by decide +kernel)), (tw 290 (by decide +kernel) (by decide +kernel)), by decide +kernel⟩
theorem ob_STas : OBJ STas 9 0 4 := ⟨by decide, _, rfl⟩
theorem ic_2 : Int32.ofInt (2) = 2 := by decide
theorem fd_STas_0_7 : FLD STas 9 (0) 4 7 (some (.inl (8))) := ⟨by decide, _, rfl, rfl⟩
theorem fw_X4_33 : Cond.fieldLink RX4 33 (TX4 7).1 (TX4 7).2.1 (TX4 7).2.2.1 ∈ gw_tbl := tw 83 (by decide +kernel) (by decide +kernel)
theorem ar_STas_8 : ARR STas 9 (8) 0 32 := ⟨by decide, rfl⟩
theorem ml_X4_50 : Cond.methodLink RX4 50 Lib.Math.max.name ∈ gw_tbl := tw 365 (by decide +kernel) (by decide +kernel)
theorem mst_max : Cond.static Lib.Math.max.name ∈ gw_tbl := tw 145 (by decide +kernel) (by decide +kernel)
theorem mcode_max : Cond.code Lib.Math.max.name Lib.Math.max.code 2 (some .int) ∈ gw_tbl := tw 146 (by decide +kernel) (by decide +kernel)
theorem ml_X4_56 : Cond.methodLink RX4 56 yX4_isBelow ∈ gw_tbl := tw 370 (by decide +kernel) (by decide +kernel)
theorem cb_X4_isBelow : CB yX4_isBelow cX4_isBelow 5 (some .boolean) 2 := ⟨(tw 371 (by decide +kernel) (by decide +kernel)), (tw 372 (by decide +kernel) (by decide +kernel)), (tw 4 (by decide +kernel) (by decide +kernel)), (tw 373 (by decide +kernel) (by decide +kernel)), by decide +kernel⟩
theorem fd_STxt_0_1 : FLD STxt 7 (0) 5 1 none := ⟨by decide, _, rfl, rfl⟩
theorem fw_X5_15 : Cond.fieldLink RX5 15 (TX5 1).1 (TX5 1).2.1 (TX5 1).2.2.1 ∈ gw_tbl := tw 204 (by decide +kernel) (by decide +kernel)
theorem fd_STxt_0_0 : FLD STxt 7 (0) 5 0 (some (.inl (1))) := ⟨by decide, _, rfl, rfl⟩
theorem fw_X5_9 : Cond.fieldLink RX5 9 (TX5 0).1 (TX5 0).2.1 (TX5 0).2.2.1 ∈ gw_tbl := tw 203 (by decide +kernel) (by decide +kernel)
theorem ar_STxt_1 : ARR STxt 7 (1) 0 100 := ⟨by decide, rfl⟩
theorem fd_STxt_0_5 : FLD STxt 7 (0) 5 5 none := ⟨by decide, _, rfl, rfl⟩
theorem fw_X5_28 : Cond.fieldLink RX5 28 (TX5 5).1 (TX5 5).2.1 (TX5 5).2.2.1 ∈ gw_tbl := tw 212 (by decide +kernel) (by decide +kernel)
theorem fd_STxt_0_2 : FLD STxt 7 (0) 5 2 (some (.inl (2))) := ⟨by decide, _, rfl, rfl⟩
theorem fw_X5_19 : Cond.fieldLink RX5 19 (TX5 2).1 (TX5 2).2.1 (TX5 2).2.2.1 ∈ gw_tbl := tw 206 (by decide +kernel) (by decide +kernel)
theorem ar_STxt_2 : ARR STxt 7 (2) 0 100 := ⟨by decide, rfl⟩
theorem fd_STxt_0_3 : FLD STxt 7 (0) 5 3 (some (.inl (3))) := ⟨by decide, _, rfl, rfl⟩
theorem fw_X5_22 : Cond.fieldLink RX5 22 (TX5 3).1 (TX5 3).2.1 (TX5 3).2.2.1 ∈ gw_tbl := tw 208 (by decide +kernel) (by decide +kernel)
theorem ar_STxt_3 : ARR STxt 7 (3) 0 100 := ⟨by decide, rfl⟩
theorem fd_STxt_0_4 : FLD STxt 7 (0) 5 4 (some (.inl (4))) := ⟨by decide, _, rfl, rfl⟩
theorem fw_X5_25 : Cond.fieldLink RX5 25 (TX5 4).1 (TX5 4).2.1 (TX5 4).2.2.1 ∈ gw_tbl := tw 210 (by decide +kernel) (by decide +kernel)
theorem ar_STxt_4 : ARR STxt 7 (4) 0 100 := ⟨by decide, rfl⟩
theorem fd_STxt_0_8 : FLD STxt 7 (0) 5 8 none := ⟨by decide, _, rfl, rfl⟩
theorem fw_X5_37 : Cond.fieldLink RX5 37 (TX5 8).1 (TX5 8).2.1 (TX5 8).2.2.1 ∈ gw_tbl := tw 216 (by decide +kernel) (by decide +kernel)
theorem fd_STxt_0_6 : FLD STxt 7 (0) 5 6 (some (.inl (5))) := ⟨by decide, _, rfl, rfl⟩
theorem fw_X5_31 : Cond.fieldLink RX5 31 (TX5 6).1 (TX5 6).2.1 (TX5 6).2.2.1 ∈ gw_tbl := tw 214 (by decide +kernel) (by decide +kernel)
theorem ar_STxt_5 : ARR STxt 7 (5) 0 4 := ⟨by decide, rfl⟩
theorem fd_STxt_0_7 : FLD STxt 7 (0) 5 7 (some (.inl (6))) := ⟨by decide, _, rfl, rfl⟩
theorem fw_X5_34 : Cond.fieldLink RX5 34 (TX5 7).1 (TX5 7).2.1 (TX5 7).2.2.1 ∈ gw_tbl := tw 215 (by decide +kernel) (by decide +kernel)
theorem ar_STxt_6 : ARR STxt 7 (6) 0 4 := ⟨by decide, rfl⟩
theorem fd_STxt_0_9 : FLD STxt 7 (0) 5 9 none := ⟨by decide, _, rfl, rfl⟩
theorem fw_X5_40 : Cond.fieldLink RX5 40 (TX5 9).1 (TX5 9).2.1 (TX5 9).2.2.1 ∈ gw_tbl := tw 217 (by decide +kernel) (by decide +kernel)
theorem bp_6 : (Int8.ofInt (6)).toInt32 = 6 := by decide
theorem ml_X5_50 : Cond.methodLink RX5 50 yX5_marks ∈ gw_tbl := tw 331 (by decide +kernel) (by decide +kernel)
theorem cb_X5_marks : CB yX5_marks cX5_marks 2 (some .boolean) 1 := ⟨(tw 333 (by decide +kernel) (by decide +kernel)), (tp 3 (by decide +kernel) (by decide +kernel)), (tw 8 (by decide +kernel) (by decide +kernel)), (tw 334 (by decide +kernel) (by decide +kernel)), by decide +kernel⟩
theorem ob_STxt : OBJ STxt 7 0 5 := ⟨by decide, _, rfl⟩
theorem ml_X5_53 : Cond.methodLink RX5 53 yX5_opens ∈ gw_tbl := tw 335 (by decide +kernel) (by decide +kernel)
theorem cb_X5_opens : CB yX5_opens cX5_opens 1 (some .boolean) 0 := ⟨(tw 337 (by decide +kernel) (by decide +kernel)), (tp 4 (by decide +kernel) (by decide +kernel)), (tw 8 (by decide +kernel) (by decide +kernel)), (tw 338 (by decide +kernel) (by decide +kernel)), by decide +kernel⟩
theorem ml_X5_60 : Cond.methodLink RX5 60 yX5_closes ∈ gw_tbl := tw 343 (by decide +kernel) (by decide +kernel)
theorem cb_X5_closes : CB yX5_closes cX5_closes 1 (some .boolean) 0 := ⟨(tw 345 (by decide +kernel) (by decide +kernel)), (tp 6 (by decide +kernel) (by decide +kernel)), (tw 8 (by decide +kernel) (by decide +kernel)), (tw 346 (by decide +kernel) (by decide +kernel)), by decide +kernel⟩
theorem ml_X5_57 : Cond.methodLink RX5 57 yX5_separates ∈ gw_tbl := tw 339 (by decide +kernel) (by decide +kernel)
theorem cb_X5_separates : CB yX5_separates cX5_separates 1 (some .boolean) 0 := ⟨(tw 341 (by decide +kernel) (by decide +kernel)), (tp 5 (by decide +kernel) (by decide +kernel)), (tw 8 (by decide +kernel) (by decide +kernel)), (tw 342 (by decide +kernel) (by decide +kernel)), by decide +kernel⟩
theorem bp_49 : (Int8.ofInt (49)).toInt32 = 49 := by decide
theorem bp_57 : (Int8.ofInt (57)).toInt32 = 57 := by decide
theorem bp_48 : (Int8.ofInt (48)).toInt32 = 48 := by decide
theorem ml_X5_47 : Cond.methodLink RX5 47 yX5_begin ∈ gw_tbl := tw 327 (by decide +kernel) (by decide +kernel)
theorem cb_X5_begin : CB yX5_begin cX5_begin 2 (some .boolean) 1 := ⟨(tw 329 (by decide +kernel) (by decide +kernel)), (tp 2 (by decide +kernel) (by decide +kernel)), (tw 8 (by decide +kernel) (by decide +kernel)), (tw 330 (by decide +kernel) (by decide +kernel)), by decide +kernel⟩
theorem ml_X5_43 : Cond.methodLink RX5 43 yX5_goesOn ∈ gw_tbl := tw 323 (by decide +kernel) (by decide +kernel)
theorem cb_X5_goesOn : CB yX5_goesOn cX5_goesOn 2 (some .boolean) 1 := ⟨(tw 325 (by decide +kernel) (by decide +kernel)), (tp 1 (by decide +kernel) (by decide +kernel)), (tw 8 (by decide +kernel) (by decide +kernel)), (tw 326 (by decide +kernel) (by decide +kernel)), by decide +kernel⟩
theorem fd_SWor_0_6 : FLD SWor 34 (0) 6 6 none := ⟨by decide, _, rfl, rfl⟩
theorem fw_X6_47 : Cond.fieldLink RX6 47 (TX6 6).1 (TX6 6).2.1 (TX6 6).2.2.1 ∈ gw_tbl := tw 172 (by decide +kernel) (by decide +kernel)
theorem fd_SWor_0_0 : FLD SWor 34 (0) 6 0 (some (.inl (1))) := ⟨by decide, _, rfl, rfl⟩
theorem fw_X6_11 : Cond.fieldLink RX6 11 (TX6 0).1 (TX6 0).2.1 (TX6 0).2.2.1 ∈ gw_tbl := tw 160 (by decide +kernel) (by decide +kernel)
theorem rr_SWor_1 : RAR SWor 34 (1) 3 4 (fun j => gArm (j)) := ⟨by decide, rfl⟩
theorem fd_SWor_gArm_2 (a : Nat) : FLD SWor 34 (gArm (a)) 0 2 none := fld_sub (i := 0) (sub_Wor_arm (a)) (⟨by decide, _, rfl, rfl⟩ : FLD SArm 2 0 0 2 none)
theorem fw_X6_70 : Cond.fieldLink RX6 70 (TX0 2).1 (TX0 2).2.1 (TX0 2).2.2.1 ∈ gw_tbl := tw 39 (by decide +kernel) (by decide +kernel)
theorem ml_X6_172 : Cond.methodLink RX6 172 yX0_holds ∈ gw_tbl := tw 387 (by decide +kernel) (by decide +kernel)
theorem cb_X0_holds : CB yX0_holds cX0_holds 3 (some .boolean) 1 := ⟨(tw 388 (by decide +kernel) (by decide +kernel)), (tw 389 (by decide +kernel) (by decide +kernel)), (tw 3 (by decide +kernel) (by decide +kernel)), (tw 390 (by decide +kernel) (by decide +kernel)), by decide +kernel⟩
theorem fd_dbl_34_SWor_0_0 : FLD (dbl 34 SWor) 68 (0) 6 0 (some (.inl (1))) := ⟨by decide, _, rfl, rfl⟩
theorem rr_dbl_34_SWor_1 : RAR (dbl 34 SWor) 68 (1) 3 4 (fun j => gArm (j)) := ⟨by decide, rfl⟩
theorem fd_dbl_34_SWor_0_1 : FLD (dbl 34 SWor) 68 (0) 6 1 (some (.inl (10))) := ⟨by decide, _, rfl, rfl⟩
theorem fw_X6_21 : Cond.fieldLink RX6 21 (TX6 1).1 (TX6 1).2.1 (TX6 1).2.2.1 ∈ gw_tbl := tw 162 (by decide +kernel) (by decide +kernel)
theorem fd_dbl_34_SWor_34_1 : FLD (dbl 34 SWor) 68 (34) 6 1 (some (.inl (44))) := ⟨by decide, _, rfl, rfl⟩
theorem ml_X6_61 : Cond.methodLink RX6 61 yX4_become ∈ gw_tbl := tw 507 (by decide +kernel) (by decide +kernel)
theorem cb_X4_become : CB yX4_become cX4_become 2 none 1 := ⟨(tw 508 (by decide +kernel) (by decide +kernel)), (tw 509 (by decide +kernel) (by decide +kernel)), (tw 4 (by decide +kernel) (by decide +kernel)), (tw 510 (by decide +kernel) (by decide +kernel)), by decide +kernel⟩
theorem sub_dbl_10 : SUB (dbl 34 SWor) 68 STas 9 (fun i => 10 + i) := sub_0 (sub_tr (sub_dbl1 clo_Wor) sub_Wor_tas)
theorem sub_dbl_44 : SUB (dbl 34 SWor) 68 STas 9 (fun i => 44 + i) := sub_tr (sub_dbl2 (S' := SWor) (n := 34)) sub_Wor_tas
theorem ob_dbl_9_STas : OBJ (dbl 9 STas) 18 0 4 := ⟨by decide, _, rfl⟩
theorem fd_dbl_34_SWor_0_2 : FLD (dbl 34 SWor) 68 (0) 6 2 (some (.inl (19))) := ⟨by decide, _, rfl, rfl⟩
theorem fw_X6_28 : Cond.fieldLink RX6 28 (TX6 2).1 (TX6 2).2.1 (TX6 2).2.2.1 ∈ gw_tbl := tw 164 (by decide +kernel) (by decide +kernel)
theorem fd_dbl_34_SWor_34_2 : FLD (dbl 34 SWor) 68 (34) 6 2 (some (.inl (53))) := ⟨by decide, _, rfl, rfl⟩
theorem ml_X6_64 : Cond.methodLink RX6 64 yX1_become ∈ gw_tbl := tw 512 (by decide +kernel) (by decide +kernel)
theorem cb_X1_become : CB yX1_become cX1_become 2 none 1 := ⟨(tw 513 (by decide +kernel) (by decide +kernel)), (tw 514 (by decide +kernel) (by decide +kernel)), (tw 5 (by decide +kernel) (by decide +kernel)), (tw 515 (by decide +kernel) (by decide +kernel)), by decide +kernel⟩
theorem sub_dbl_19 : SUB (dbl 34 SWor) 68 SEnt 6 (fun i => 19 + i) := sub_0 (sub_tr (sub_dbl1 clo_Wor) sub_Wor_ent)
theorem sub_dbl_53 : SUB (dbl 34 SWor) 68 SEnt 6 (fun i => 53 + i) := sub_tr (sub_dbl2 (S' := SWor) (n := 34)) sub_Wor_ent
theorem ob_dbl_6_SEnt : OBJ (dbl 6 SEnt) 12 0 1 := ⟨by decide, _, rfl⟩
theorem fd_dbl_34_SWor_0_3 : FLD (dbl 34 SWor) 68 (0) 6 3 (some (.inl (25))) := ⟨by decide, _, rfl, rfl⟩
theorem fw_X6_37 : Cond.fieldLink RX6 37 (TX6 3).1 (TX6 3).2.1 (TX6 3).2.2.1 ∈ gw_tbl := tw 166 (by decide +kernel) (by decide +kernel)
theorem fd_dbl_34_SWor_34_3 : FLD (dbl 34 SWor) 68 (34) 6 3 (some (.inl (59))) := ⟨by decide, _, rfl, rfl⟩
theorem ml_X6_67 : Cond.methodLink RX6 67 yX2_become ∈ gw_tbl := tw 517 (by decide +kernel) (by decide +kernel)
theorem cb_X2_become : CB yX2_become cX2_become 2 none 1 := ⟨(tw 518 (by decide +kernel) (by decide +kernel)), (tw 519 (by decide +kernel) (by decide +kernel)), (tw 6 (by decide +kernel) (by decide +kernel)), (tw 520 (by decide +kernel) (by decide +kernel)), by decide +kernel⟩
theorem sub_dbl_25 : SUB (dbl 34 SWor) 68 (SPrs 5) 3 (fun i => 25 + i) := sub_0 (sub_tr (sub_dbl1 clo_Wor) sub_Wor_seen)
theorem sub_dbl_59 : SUB (dbl 34 SWor) 68 (SPrs 5) 3 (fun i => 59 + i) := sub_tr (sub_dbl2 (S' := SWor) (n := 34)) sub_Wor_seen
theorem ob_dbl_3_SPrs_n (n : Nat) : OBJ (dbl 3 (SPrs n)) 6 0 2 := ⟨by decide, _, rfl⟩
theorem fd_dbl_34_SWor_0_4 : FLD (dbl 34 SWor) 68 (0) 6 4 (some (.inl (28))) := ⟨by decide, _, rfl, rfl⟩
theorem fw_X6_41 : Cond.fieldLink RX6 41 (TX6 4).1 (TX6 4).2.1 (TX6 4).2.2.1 ∈ gw_tbl := tw 168 (by decide +kernel) (by decide +kernel)
theorem fd_dbl_34_SWor_34_4 : FLD (dbl 34 SWor) 68 (34) 6 4 (some (.inl (62))) := ⟨by decide, _, rfl, rfl⟩
theorem sub_dbl_28 : SUB (dbl 34 SWor) 68 (SPrs 10) 3 (fun i => 28 + i) := sub_0 (sub_tr (sub_dbl1 clo_Wor) sub_Wor_plan)
theorem sub_dbl_62 : SUB (dbl 34 SWor) 68 (SPrs 10) 3 (fun i => 62 + i) := sub_tr (sub_dbl2 (S' := SWor) (n := 34)) sub_Wor_plan
theorem fd_dbl_34_SWor_0_5 : FLD (dbl 34 SWor) 68 (0) 6 5 (some (.inl (31))) := ⟨by decide, _, rfl, rfl⟩
theorem fw_X6_44 : Cond.fieldLink RX6 44 (TX6 5).1 (TX6 5).2.1 (TX6 5).2.2.1 ∈ gw_tbl := tw 170 (by decide +kernel) (by decide +kernel)
theorem fd_dbl_34_SWor_34_5 : FLD (dbl 34 SWor) 68 (34) 6 5 (some (.inl (65))) := ⟨by decide, _, rfl, rfl⟩
theorem sub_dbl_31 : SUB (dbl 34 SWor) 68 (SPrs 8) 3 (fun i => 31 + i) := sub_0 (sub_tr (sub_dbl1 clo_Wor) sub_Wor_book)
theorem sub_dbl_65 : SUB (dbl 34 SWor) 68 (SPrs 8) 3 (fun i => 65 + i) := sub_tr (sub_dbl2 (S' := SWor) (n := 34)) sub_Wor_book
theorem fd_dbl_34_SWor_34_6 : FLD (dbl 34 SWor) 68 (34) 6 6 none := ⟨by decide, _, rfl, rfl⟩
theorem fd_dbl_34_SWor_0_6 : FLD (dbl 34 SWor) 68 (0) 6 6 none := ⟨by decide, _, rfl, rfl⟩
theorem fd_dbl_34_SWor_34_7 : FLD (dbl 34 SWor) 68 (34) 6 7 none := ⟨by decide, _, rfl, rfl⟩
theorem fw_X6_51 : Cond.fieldLink RX6 51 (TX6 7).1 (TX6 7).2.1 (TX6 7).2.2.1 ∈ gw_tbl := tw 174 (by decide +kernel) (by decide +kernel)
theorem fd_dbl_34_SWor_0_7 : FLD (dbl 34 SWor) 68 (0) 6 7 none := ⟨by decide, _, rfl, rfl⟩
theorem fd_dbl_34_SWor_34_8 : FLD (dbl 34 SWor) 68 (34) 6 8 none := ⟨by decide, _, rfl, rfl⟩
theorem fw_X6_54 : Cond.fieldLink RX6 54 (TX6 8).1 (TX6 8).2.1 (TX6 8).2.2.1 ∈ gw_tbl := tw 176 (by decide +kernel) (by decide +kernel)
theorem fd_dbl_34_SWor_0_8 : FLD (dbl 34 SWor) 68 (0) 6 8 none := ⟨by decide, _, rfl, rfl⟩
theorem fd_dbl_34_SWor_34_0 : FLD (dbl 34 SWor) 68 (34) 6 0 (some (.inl (35))) := ⟨by decide, _, rfl, rfl⟩
theorem rr_dbl_34_SWor_35 : RAR (dbl 34 SWor) 68 (35) 3 4 (fun j => 34 + gArm (j)) := ⟨by decide, rfl⟩
theorem ml_X6_57 : Cond.methodLink RX6 57 yX0_become ∈ gw_tbl := tw 500 (by decide +kernel) (by decide +kernel)
theorem cb_X0_become : CB yX0_become cX0_become 2 none 1 := ⟨(tw 501 (by decide +kernel) (by decide +kernel)), (tw 502 (by decide +kernel) (by decide +kernel)), (tw 3 (by decide +kernel) (by decide +kernel)), (tw 503 (by decide +kernel) (by decide +kernel)), by decide +kernel⟩
theorem ob_dbl_2_SArm : OBJ (dbl 2 SArm) 4 0 0 := ⟨by decide, _, rfl⟩
theorem fd_SWor_0_1 : FLD SWor 34 (0) 6 1 (some (.inl (10))) := ⟨by decide, _, rfl, rfl⟩
theorem fd_SWor_10_8 : FLD SWor 34 (10) 4 8 none := ⟨by decide, _, rfl, rfl⟩
theorem fw_X6_93 : Cond.fieldLink RX6 93 (TX4 8).1 (TX4 8).2.1 (TX4 8).2.2.1 ∈ gw_tbl := tw 85 (by decide +kernel) (by decide +kernel)
theorem fd_SWor_10_3 : FLD SWor 34 (10) 4 3 (some (.inl (14))) := ⟨by decide, _, rfl, rfl⟩
theorem fw_X6_77 : Cond.fieldLink RX6 77 (TX4 3).1 (TX4 3).2.1 (TX4 3).2.2.1 ∈ gw_tbl := tw 72 (by decide +kernel) (by decide +kernel)
theorem ar_SWor_14 : ARR SWor 34 (14) 0 32 := ⟨by decide, rfl⟩
theorem ml_X6_166 : Cond.methodLink RX6 166 yX4_isBelow ∈ gw_tbl := tw 473 (by decide +kernel) (by decide +kernel)
theorem ic_5 : Int32.ofInt (5) = 5 := by decide
theorem fd_SWor_0_2 : FLD SWor 34 (0) 6 2 (some (.inl (19))) := ⟨by decide, _, rfl, rfl⟩
theorem fd_SWor_0_8 : FLD SWor 34 (0) 6 8 none := ⟨by decide, _, rfl, rfl⟩
theorem ml_X6_139 : Cond.methodLink RX6 139 yX1_add ∈ gw_tbl := tw 437 (by decide +kernel) (by decide +kernel)
theorem cb_X1_add : CB yX1_add cX1_add 6 none 4 := ⟨(tw 438 (by decide +kernel) (by decide +kernel)), (tw 439 (by decide +kernel) (by decide +kernel)), (tw 5 (by decide +kernel) (by decide +kernel)), (tw 440 (by decide +kernel) (by decide +kernel)), by decide +kernel⟩
theorem ob_SEnt : OBJ SEnt 6 0 1 := ⟨by decide, _, rfl⟩
theorem ml_X6_169 : Cond.methodLink RX6 169 yX0_drop ∈ gw_tbl := tw 474 (by decide +kernel) (by decide +kernel)
theorem fd_SWor_10_4 : FLD SWor 34 (10) 4 4 (some (.inl (15))) := ⟨by decide, _, rfl, rfl⟩
theorem fw_X6_153 : Cond.fieldLink RX6 153 (TX4 4).1 (TX4 4).2.1 (TX4 4).2.2.1 ∈ gw_tbl := tw 76 (by decide +kernel) (by decide +kernel)
theorem ar_SWor_15 : ARR SWor 34 (15) 0 32 := ⟨by decide, rfl⟩
theorem ml_X6_156 : Cond.methodLink RX6 156 yX4_isJoining ∈ gw_tbl := tw 465 (by decide +kernel) (by decide +kernel)
theorem cb_X4_isJoining : CB yX4_isJoining cX4_isJoining 2 (some .boolean) 1 := ⟨(tw 466 (by decide +kernel) (by decide +kernel)), (tw 467 (by decide +kernel) (by decide +kernel)), (tw 4 (by decide +kernel) (by decide +kernel)), (tw 468 (by decide +kernel) (by decide +kernel)), by decide +kernel⟩
theorem fd_SWor_10_5 : FLD SWor 34 (10) 4 5 (some (.inl (16))) := ⟨by decide, _, rfl, rfl⟩
theorem fw_X6_144 : Cond.fieldLink RX6 144 (TX4 5).1 (TX4 5).2.1 (TX4 5).2.2.1 ∈ gw_tbl := tw 79 (by decide +kernel) (by decide +kernel)
theorem ar_SWor_16 : ARR SWor 34 (16) 0 32 := ⟨by decide, rfl⟩
theorem ml_X6_159 : Cond.methodLink RX6 159 yX6_cancelFrom ∈ gw_tbl := tw 469 (by decide +kernel) (by decide +kernel)
theorem cb_X6_cancelFrom : CB yX6_cancelFrom cX6_cancelFrom 6 (some .int) 2 := ⟨(tw 471 (by decide +kernel) (by decide +kernel)), (tp 11 (by decide +kernel) (by decide +kernel)), (tw 2 (by decide +kernel) (by decide +kernel)), (tw 472 (by decide +kernel) (by decide +kernel)), by decide +kernel⟩
theorem ob_SWor : OBJ SWor 34 0 6 := ⟨by decide, _, rfl⟩
theorem fd_SWor_10_6 : FLD SWor 34 (10) 4 6 (some (.inl (17))) := ⟨by decide, _, rfl, rfl⟩
theorem fw_X6_163 : Cond.fieldLink RX6 163 (TX4 6).1 (TX4 6).2.1 (TX4 6).2.2.1 ∈ gw_tbl := tw 82 (by decide +kernel) (by decide +kernel)
theorem ar_SWor_17 : ARR SWor 34 (17) 0 32 := ⟨by decide, rfl⟩
theorem ml_X6_147 : Cond.methodLink RX6 147 yX4_allInAreEnded ∈ gw_tbl := tw 449 (by decide +kernel) (by decide +kernel)
theorem cb_X4_allInAreEnded : CB yX4_allInAreEnded cX4_allInAreEnded 3 (some .boolean) 1 := ⟨(tw 450 (by decide +kernel) (by decide +kernel)), (tw 451 (by decide +kernel) (by decide +kernel)), (tw 4 (by decide +kernel) (by decide +kernel)), (tw 452 (by decide +kernel) (by decide +kernel)), by decide +kernel⟩
theorem ml_X6_150 : Cond.methodLink RX6 150 yX4_finish ∈ gw_tbl := tw 453 (by decide +kernel) (by decide +kernel)
theorem cb_X4_finish : CB yX4_finish cX4_finish 4 none 1 := ⟨(tw 454 (by decide +kernel) (by decide +kernel)), (tw 455 (by decide +kernel) (by decide +kernel)), (tw 4 (by decide +kernel) (by decide +kernel)), (tw 456 (by decide +kernel) (by decide +kernel)), by decide +kernel⟩
theorem ml_X6_120 : Cond.methodLink RX6 120 yX6_tellUpward ∈ gw_tbl := tw 461 (by decide +kernel) (by decide +kernel)
theorem cb_X6_tellUpward : CB yX6_tellUpward cX6_tellUpward 5 none 1 := ⟨(tw 463 (by decide +kernel) (by decide +kernel)), (tp 10 (by decide +kernel) (by decide +kernel)), (tw 2 (by decide +kernel) (by decide +kernel)), (tw 464 (by decide +kernel) (by decide +kernel)), by decide +kernel⟩
theorem ml_X6_73 : Cond.methodLink RX6 73 yX4_has ∈ gw_tbl := tw 287 (by decide +kernel) (by decide +kernel)
theorem ml_X6_81 : Cond.methodLink RX6 81 yX0_put ∈ gw_tbl := tw 291 (by decide +kernel) (by decide +kernel)
theorem cb_X0_put : CB yX0_put cX0_put 2 none 1 := ⟨(tw 292 (by decide +kernel) (by decide +kernel)), (tw 293 (by decide +kernel) (by decide +kernel)), (tw 3 (by decide +kernel) (by decide +kernel)), (tw 294 (by decide +kernel) (by decide +kernel)), by decide +kernel⟩
theorem fd_SWor_gArm_1 (a : Nat) : FLD SWor 34 (gArm (a)) 0 1 none := fld_sub (i := 0) (sub_Wor_arm (a)) (⟨by decide, _, rfl, rfl⟩ : FLD SArm 2 0 0 1 none)
theorem fw_X6_84 : Cond.fieldLink RX6 84 (TX0 1).1 (TX0 1).2.1 (TX0 1).2.2.1 ∈ gw_tbl := tw 36 (by decide +kernel) (by decide +kernel)
theorem ml_X6_90 : Cond.methodLink RX6 90 yX0_clear ∈ gw_tbl := tw 295 (by decide +kernel) (by decide +kernel)
theorem cb_X0_clear : CB yX0_clear cX0_clear 1 none 0 := ⟨(tw 296 (by decide +kernel) (by decide +kernel)), (tw 297 (by decide +kernel) (by decide +kernel)), (tw 3 (by decide +kernel) (by decide +kernel)), (tw 298 (by decide +kernel) (by decide +kernel)), by decide +kernel⟩
theorem fd_SWor_gArm_0 (a : Nat) : FLD SWor 34 (gArm (a)) 0 0 (some (.inl (gArm (a) + 1))) := fld_sub (i := 0) (sub_Wor_arm (a)) (⟨by decide, _, rfl, rfl⟩ : FLD SArm 2 0 0 0 (some (.inl 1)))
theorem fw_X6_87 : Cond.fieldLink RX6 87 (TX0 0).1 (TX0 0).2.1 (TX0 0).2.2.1 ∈ gw_tbl := tw 34 (by decide +kernel) (by decide +kernel)
theorem ar_SWor_gArm_1 (a : Nat) : ARR SWor 34 (gArm (a) + 1) 0 32 := arr_sub (i := 1) (sub_Wor_arm (a)) (⟨by decide, rfl⟩ : ARR SArm 2 1 0 32)
theorem fd_SWor_0_7 : FLD SWor 34 (0) 6 7 none := ⟨by decide, _, rfl, rfl⟩
theorem kw_X6_143 : Cond.constant RX6 143 (1103515245) ∈ gw_tbl := tw 428 (by decide +kernel) (by decide +kernel)
theorem sp_12345 : (Int16.ofInt (12345)).toInt32 = 12345 := by decide
theorem bp_16 : (Int8.ofInt (16)).toInt32 = 16 := by decide
theorem ml_X6_103 : Cond.methodLink RX6 103 yX4_isEnded ∈ gw_tbl := tw 457 (by decide +kernel) (by decide +kernel)
theorem cb_X4_isEnded : CB yX4_isEnded cX4_isEnded 2 (some .boolean) 1 := ⟨(tw 458 (by decide +kernel) (by decide +kernel)), (tw 459 (by decide +kernel) (by decide +kernel)), (tw 4 (by decide +kernel) (by decide +kernel)), (tw 460 (by decide +kernel) (by decide +kernel)), by decide +kernel⟩
theorem ml_X6_123 : Cond.methodLink RX6 123 yX0_takeNear ∈ gw_tbl := tw 419 (by decide +kernel) (by decide +kernel)
theorem cb_X0_takeNear : CB yX0_takeNear cX0_takeNear 2 (some .int) 0 := ⟨(tw 420 (by decide +kernel) (by decide +kernel)), (tw 421 (by decide +kernel) (by decide +kernel)), (tw 3 (by decide +kernel) (by decide +kernel)), (tw 422 (by decide +kernel) (by decide +kernel)), by decide +kernel⟩
theorem ml_X6_127 : Cond.methodLink RX6 127 yX6_drawnArm ∈ gw_tbl := tw 424 (by decide +kernel) (by decide +kernel)
theorem cb_X6_drawnArm : CB yX6_drawnArm cX6_drawnArm 5 (some .int) 1 := ⟨(tw 426 (by decide +kernel) (by decide +kernel)), (tp 8 (by decide +kernel) (by decide +kernel)), (tw 2 (by decide +kernel) (by decide +kernel)), (tw 427 (by decide +kernel) (by decide +kernel)), by decide +kernel⟩
theorem ml_X6_133 : Cond.methodLink RX6 133 yX0_takeFar ∈ gw_tbl := tw 429 (by decide +kernel) (by decide +kernel)
theorem cb_X0_takeFar : CB yX0_takeFar cX0_takeFar 2 (some .int) 0 := ⟨(tw 430 (by decide +kernel) (by decide +kernel)), (tw 431 (by decide +kernel) (by decide +kernel)), (tw 3 (by decide +kernel) (by decide +kernel)), (tw 432 (by decide +kernel) (by decide +kernel)), by decide +kernel⟩
theorem fd_SWor_gArm_4 (a : Nat) : FLD SWor 34 (gArm (a)) 0 4 none := fld_sub (i := 0) (sub_Wor_arm (a)) (⟨by decide, _, rfl, rfl⟩ : FLD SArm 2 0 0 4 none)
theorem fw_X6_136 : Cond.fieldLink RX6 136 (TX0 4).1 (TX0 4).2.1 (TX0 4).2.2.1 ∈ gw_tbl := tw 46 (by decide +kernel) (by decide +kernel)
theorem fd_SWor_gArm_3 (a : Nat) : FLD SWor 34 (gArm (a)) 0 3 none := fld_sub (i := 0) (sub_Wor_arm (a)) (⟨by decide, _, rfl, rfl⟩ : FLD SArm 2 0 0 3 none)
theorem fw_X6_130 : Cond.fieldLink RX6 130 (TX0 3).1 (TX0 3).2.1 (TX0 3).2.2.1 ∈ gw_tbl := tw 43 (by decide +kernel) (by decide +kernel)
theorem ml_X6_113 : Cond.methodLink RX6 113 yX4_lessLeft ∈ gw_tbl := tw 441 (by decide +kernel) (by decide +kernel)
theorem cb_X4_lessLeft : CB yX4_lessLeft cX4_lessLeft 2 (some .int) 1 := ⟨(tw 442 (by decide +kernel) (by decide +kernel)), (tw 443 (by decide +kernel) (by decide +kernel)), (tw 4 (by decide +kernel) (by decide +kernel)), (tw 444 (by decide +kernel) (by decide +kernel)), by decide +kernel⟩
theorem ml_X6_116 : Cond.methodLink RX6 116 yX6_endsByItself ∈ gw_tbl := tw 445 (by decide +kernel) (by decide +kernel)
theorem cb_X6_endsByItself : CB yX6_endsByItself cX6_endsByItself 4 (some .boolean) 2 := ⟨(tw 447 (by decide +kernel) (by decide +kernel)), (tp 9 (by decide +kernel) (by decide +kernel)), (tw 2 (by decide +kernel) (by decide +kernel)), (tw 448 (by decide +kernel) (by decide +kernel)), by decide +kernel⟩
theorem ml_X6_110 : Cond.methodLink RX6 110 yX6_takeOne ∈ gw_tbl := tw 415 (by decide +kernel) (by decide +kernel)
theorem cb_X6_takeOne : CB yX6_takeOne cX6_takeOne 6 none 1 := ⟨(tw 417 (by decide +kernel) (by decide +kernel)), (tp 7 (by decide +kernel) (by decide +kernel)), (tw 2 (by decide +kernel) (by decide +kernel)), (tw 418 (by decide +kernel) (by decide +kernel)), by decide +kernel⟩
theorem ml_X6_106 : Cond.methodLink RX6 106 yX6_cancelByHand ∈ gw_tbl := tw 623 (by decide +kernel) (by decide +kernel)
theorem cb_X6_cancelByHand : CB yX6_cancelByHand cX6_cancelByHand 3 (some .int) 1 := ⟨(tw 481 (by decide +kernel) (by decide +kernel)), (tw 482 (by decide +kernel) (by decide +kernel)), (tw 2 (by decide +kernel) (by decide +kernel)), (tw 483 (by decide +kernel) (by decide +kernel)), by decide +kernel⟩
theorem ml_X6_96 : Cond.methodLink RX6 96 yX6_goRound ∈ gw_tbl := tw 411 (by decide +kernel) (by decide +kernel)
theorem cb_X6_goRound : CB yX6_goRound cX6_goRound 3 none 0 := ⟨(tw 412 (by decide +kernel) (by decide +kernel)), (tw 413 (by decide +kernel) (by decide +kernel)), (tw 2 (by decide +kernel) (by decide +kernel)), (tw 414 (by decide +kernel) (by decide +kernel)), by decide +kernel⟩
theorem ml_X6_99 : Cond.methodLink RX6 99 yX6_isOver ∈ gw_tbl := tw 590 (by decide +kernel) (by decide +kernel)
theorem cb_X6_isOver : CB yX6_isOver cX6_isOver 2 (some .boolean) 0 := ⟨(tw 489 (by decide +kernel) (by decide +kernel)), (tw 490 (by decide +kernel) (by decide +kernel)), (tw 2 (by decide +kernel) (by decide +kernel)), (tw 491 (by decide +kernel) (by decide +kernel)), by decide +kernel⟩
theorem fd_STop_0_0 : FLD STop 123 (0) 7 0 (some (.inl (1))) := ⟨by decide, _, rfl, rfl⟩
theorem fw_X7_12 : Cond.fieldLink RX7 12 (TX7 0).1 (TX7 0).2.1 (TX7 0).2.2.1 ∈ gw_tbl := tw 260 (by decide +kernel) (by decide +kernel)
theorem fd_STop_1_6 : FLD STop 123 (1) 6 6 none := ⟨by decide, _, rfl, rfl⟩
theorem fw_X7_42 : Cond.fieldLink RX7 42 (TX6 6).1 (TX6 6).2.1 (TX6 6).2.2.1 ∈ gw_tbl := tw 173 (by decide +kernel) (by decide +kernel)
theorem ml_X7_60 : Cond.methodLink RX7 60 yX7_isArm ∈ gw_tbl := tw 315 (by decide +kernel) (by decide +kernel)
theorem cb_X7_isArm : CB yX7_isArm cX7_isArm 2 (some .boolean) 1 := ⟨(tw 317 (by decide +kernel) (by decide +kernel)), (tp 0 (by decide +kernel) (by decide +kernel)), (tw 1 (by decide +kernel) (by decide +kernel)), (tw 318 (by decide +kernel) (by decide +kernel)), by decide +kernel⟩
theorem ob_STop : OBJ STop 123 0 7 := ⟨by decide, _, rfl⟩
theorem fd_STop_1_0 : FLD STop 123 (1) 6 0 (some (.inl (2))) := ⟨by decide, _, rfl, rfl⟩
theorem fw_X7_91 : Cond.fieldLink RX7 91 (TX6 0).1 (TX6 0).2.1 (TX6 0).2.2.1 ∈ gw_tbl := tw 161 (by decide +kernel) (by decide +kernel)
theorem rr_STop_2 : RAR STop 123 (2) 3 4 (fun j => 1 + gArm (j)) := ⟨by decide, rfl⟩
theorem fd_STop_1_gArm_1 (a : Nat) : FLD STop 123 (1 + gArm (a)) 0 1 none := fld_sub (i := 0) (sub_tr sub_Top_now (sub_Wor_arm (a))) (⟨by decide, _, rfl, rfl⟩ : FLD SArm 2 0 0 1 none)
theorem fw_X7_137 : Cond.fieldLink RX7 137 (TX0 1).1 (TX0 1).2.1 (TX0 1).2.2.1 ∈ gw_tbl := tw 37 (by decide +kernel) (by decide +kernel)
theorem fd_STop_1_gArm_2 (a : Nat) : FLD STop 123 (1 + gArm (a)) 0 2 none := fld_sub (i := 0) (sub_tr sub_Top_now (sub_Wor_arm (a))) (⟨by decide, _, rfl, rfl⟩ : FLD SArm 2 0 0 2 none)
theorem fw_X7_138 : Cond.fieldLink RX7 138 (TX0 2).1 (TX0 2).2.1 (TX0 2).2.2.1 ∈ gw_tbl := tw 40 (by decide +kernel) (by decide +kernel)
theorem fd_STop_1_gArm_3 (a : Nat) : FLD STop 123 (1 + gArm (a)) 0 3 none := fld_sub (i := 0) (sub_tr sub_Top_now (sub_Wor_arm (a))) (⟨by decide, _, rfl, rfl⟩ : FLD SArm 2 0 0 3 none)
theorem fw_X7_141 : Cond.fieldLink RX7 141 (TX0 3).1 (TX0 3).2.1 (TX0 3).2.2.1 ∈ gw_tbl := tw 42 (by decide +kernel) (by decide +kernel)
theorem fd_STop_1_gArm_4 (a : Nat) : FLD STop 123 (1 + gArm (a)) 0 4 none := fld_sub (i := 0) (sub_tr sub_Top_now (sub_Wor_arm (a))) (⟨by decide, _, rfl, rfl⟩ : FLD SArm 2 0 0 4 none)
theorem fw_X7_144 : Cond.fieldLink RX7 144 (TX0 4).1 (TX0 4).2.1 (TX0 4).2.2.1 ∈ gw_tbl := tw 45 (by decide +kernel) (by decide +kernel)
theorem bp_10 : (Int8.ofInt (10)).toInt32 = 10 := by decide
theorem ml_X7_147 : Cond.methodLink RX7 147 yX0_taskAt ∈ gw_tbl := tw 399 (by decide +kernel) (by decide +kernel)
theorem ml_X7_46 : Cond.methodLink RX7 46 yX6_changeArms ∈ gw_tbl := tw 283 (by decide +kernel) (by decide +kernel)
theorem cb_X6_changeArms : CB yX6_changeArms cX6_changeArms 5 none 1 := ⟨(tw 284 (by decide +kernel) (by decide +kernel)), (tw 285 (by decide +kernel) (by decide +kernel)), (tw 2 (by decide +kernel) (by decide +kernel)), (tw 286 (by decide +kernel) (by decide +kernel)), by decide +kernel⟩
theorem bp_m2 : (Int8.ofInt (-2)).toInt32 = -2 := by decide
theorem fd_STop_0_2 : FLD STop 123 (0) 7 2 (some (.inl (69))) := ⟨by decide, _, rfl, rfl⟩
theorem fw_X7_21 : Cond.fieldLink RX7 21 (TX7 2).1 (TX7 2).2.1 (TX7 2).2.2.1 ∈ gw_tbl := tw 262 (by decide +kernel) (by decide +kernel)
theorem ml_X7_183 : Cond.methodLink RX7 183 yX6_become ∈ gw_tbl := tw 496 (by decide +kernel) (by decide +kernel)
theorem cb_X6_become : CB yX6_become cX6_become 3 none 1 := ⟨(tw 497 (by decide +kernel) (by decide +kernel)), (tw 498 (by decide +kernel) (by decide +kernel)), (tw 2 (by decide +kernel) (by decide +kernel)), (tw 499 (by decide +kernel) (by decide +kernel)), by decide +kernel⟩
theorem ob_dbl_34_SWor : OBJ (dbl 34 SWor) 68 0 6 := ⟨by decide, _, rfl⟩
theorem sp_300 : (Int16.ofInt (300)).toInt32 = 300 := by decide
theorem ml_X7_162 : Cond.methodLink RX7 162 yX6_isOver ∈ gw_tbl := tw 488 (by decide +kernel) (by decide +kernel)
theorem ml_X7_266 : Cond.methodLink RX7 266 yX6_goRound ∈ gw_tbl := tw 525 (by decide +kernel) (by decide +kernel)
theorem sp_301 : (Int16.ofInt (301)).toInt32 = 301 := by decide
theorem ml_X7_166 : Cond.methodLink RX7 166 yX7_roundsTillOver ∈ gw_tbl := tw 492 (by decide +kernel) (by decide +kernel)
theorem cb_X7_roundsTillOver : CB yX7_roundsTillOver cX7_roundsTillOver 3 (some .int) 1 := ⟨(tw 494 (by decide +kernel) (by decide +kernel)), (tp 12 (by decide +kernel) (by decide +kernel)), (tw 1 (by decide +kernel) (by decide +kernel)), (tw 495 (by decide +kernel) (by decide +kernel)), by decide +kernel⟩
theorem fd_STop_1_1 : FLD STop 123 (1) 6 1 (some (.inl (11))) := ⟨by decide, _, rfl, rfl⟩
theorem fw_X7_67 : Cond.fieldLink RX7 67 (TX6 1).1 (TX6 1).2.1 (TX6 1).2.2.1 ∈ gw_tbl := tw 163 (by decide +kernel) (by decide +kernel)
theorem ml_X7_100 : Cond.methodLink RX7 100 yX4_has ∈ gw_tbl := tw 356 (by decide +kernel) (by decide +kernel)
theorem sub_Top_11 : SUB STop 123 STas 9 (fun i => 11 + i) := sub_tr sub_Top_now sub_Wor_tas
theorem fd_STop_1_5 : FLD STop 123 (1) 6 5 (some (.inl (32))) := ⟨by decide, _, rfl, rfl⟩
theorem fw_X7_239 : Cond.fieldLink RX7 239 (TX6 5).1 (TX6 5).2.1 (TX6 5).2.2.1 ∈ gw_tbl := tw 171 (by decide +kernel) (by decide +kernel)
theorem ml_X7_208 : Cond.methodLink RX7 208 yX2_add ∈ gw_tbl := tw 570 (by decide +kernel) (by decide +kernel)
theorem cb_X2_add : CB yX2_add cX2_add 3 (some .int) 2 := ⟨(tw 571 (by decide +kernel) (by decide +kernel)), (tw 572 (by decide +kernel) (by decide +kernel)), (tw 6 (by decide +kernel) (by decide +kernel)), (tw 573 (by decide +kernel) (by decide +kernel)), by decide +kernel⟩
theorem sub_Top_32 : SUB STop 123 (SPrs 8) 3 (fun i => 32 + i) := sub_tr sub_Top_now sub_Wor_book
theorem ob_SPrs_n (n : Nat) : OBJ (SPrs n) 3 0 2 := ⟨by decide, _, rfl⟩
theorem ml_X7_203 : Cond.methodLink RX7 203 yX2_clear ∈ gw_tbl := tw 566 (by decide +kernel) (by decide +kernel)
theorem cb_X2_clear : CB yX2_clear cX2_clear 1 (some .int) 0 := ⟨(tw 567 (by decide +kernel) (by decide +kernel)), (tw 568 (by decide +kernel) (by decide +kernel)), (tw 6 (by decide +kernel) (by decide +kernel)), (tw 569 (by decide +kernel) (by decide +kernel)), by decide +kernel⟩
theorem ml_X7_156 : Cond.methodLink RX7 156 yX4_isEnded ∈ gw_tbl := tw 479 (by decide +kernel) (by decide +kernel)
theorem ml_X7_159 : Cond.methodLink RX7 159 yX6_cancelByHand ∈ gw_tbl := tw 480 (by decide +kernel) (by decide +kernel)
theorem bp_m3 : (Int8.ofInt (-3)).toInt32 = -3 := by decide
theorem fd_STop_11_3 : FLD STop 123 (11) 4 3 (some (.inl (15))) := ⟨by decide, _, rfl, rfl⟩
theorem fw_X7_103 : Cond.fieldLink RX7 103 (TX4 3).1 (TX4 3).2.1 (TX4 3).2.2.1 ∈ gw_tbl := tw 73 (by decide +kernel) (by decide +kernel)
theorem ar_STop_15 : ARR STop 123 (15) 0 32 := ⟨by decide, rfl⟩
theorem fd_STop_11_6 : FLD STop 123 (11) 4 6 (some (.inl (18))) := ⟨by decide, _, rfl, rfl⟩
theorem fw_X7_134 : Cond.fieldLink RX7 134 (TX4 6).1 (TX4 6).2.1 (TX4 6).2.2.1 ∈ gw_tbl := tw 81 (by decide +kernel) (by decide +kernel)
theorem ar_STop_18 : ARR STop 123 (18) 0 32 := ⟨by decide, rfl⟩
theorem fd_STop_11_8 : FLD STop 123 (11) 4 8 none := ⟨by decide, _, rfl, rfl⟩
theorem fw_X7_71 : Cond.fieldLink RX7 71 (TX4 8).1 (TX4 8).2.1 (TX4 8).2.2.1 ∈ gw_tbl := tw 86 (by decide +kernel) (by decide +kernel)
theorem ml_X7_187 : Cond.methodLink RX7 187 yX4_howManyEnded ∈ gw_tbl := tw 542 (by decide +kernel) (by decide +kernel)
theorem cb_X4_howManyEnded : CB yX4_howManyEnded cX4_howManyEnded 3 (some .int) 0 := ⟨(tw 543 (by decide +kernel) (by decide +kernel)), (tw 544 (by decide +kernel) (by decide +kernel)), (tw 4 (by decide +kernel) (by decide +kernel)), (tw 545 (by decide +kernel) (by decide +kernel)), by decide +kernel⟩
theorem fd_STop_1_3 : FLD STop 123 (1) 6 3 (some (.inl (26))) := ⟨by decide, _, rfl, rfl⟩
theorem fw_X7_199 : Cond.fieldLink RX7 199 (TX6 3).1 (TX6 3).2.1 (TX6 3).2.2.1 ∈ gw_tbl := tw 167 (by decide +kernel) (by decide +kernel)
theorem fd_STop_26_2 : FLD STop 123 (26) 2 2 none := ⟨by decide, _, rfl, rfl⟩
theorem fw_X7_228 : Cond.fieldLink RX7 228 (TX2 2).1 (TX2 2).2.1 (TX2 2).2.2.1 ∈ gw_tbl := tw 152 (by decide +kernel) (by decide +kernel)
theorem fd_STop_1_4 : FLD STop 123 (1) 6 4 (some (.inl (29))) := ⟨by decide, _, rfl, rfl⟩
theorem fw_X7_225 : Cond.fieldLink RX7 225 (TX6 4).1 (TX6 4).2.1 (TX6 4).2.2.1 ∈ gw_tbl := tw 169 (by decide +kernel) (by decide +kernel)
theorem fd_STop_29_2 : FLD STop 123 (29) 2 2 none := ⟨by decide, _, rfl, rfl⟩
theorem fd_STop_32_2 : FLD STop 123 (32) 2 2 none := ⟨by decide, _, rfl, rfl⟩
theorem fd_STop_0_3 : FLD STop 123 (0) 7 3 (some (.inl (103))) := ⟨by decide, _, rfl, rfl⟩
theorem fw_X7_27 : Cond.fieldLink RX7 27 (TX7 3).1 (TX7 3).2.1 (TX7 3).2.2.1 ∈ gw_tbl := tw 263 (by decide +kernel) (by decide +kernel)
theorem fd_STop_103_1 : FLD STop 123 (103) 5 1 none := ⟨by decide, _, rfl, rfl⟩
theorem fw_X7_57 : Cond.fieldLink RX7 57 (TX5 1).1 (TX5 1).2.1 (TX5 1).2.2.1 ∈ gw_tbl := tw 205 (by decide +kernel) (by decide +kernel)
theorem fd_STop_69_1 : FLD STop 123 (69) 6 1 (some (.inl (79))) := ⟨by decide, _, rfl, rfl⟩
theorem ml_X7_222 : Cond.methodLink RX7 222 yX4_worthOfAllDone ∈ gw_tbl := tw 607 (by decide +kernel) (by decide +kernel)
theorem cb_X4_worthOfAllDone : CB yX4_worthOfAllDone cX4_worthOfAllDone 3 (some .int) 0 := ⟨(tw 608 (by decide +kernel) (by decide +kernel)), (tw 609 (by decide +kernel) (by decide +kernel)), (tw 4 (by decide +kernel) (by decide +kernel)), (tw 610 (by decide +kernel) (by decide +kernel)), by decide +kernel⟩
theorem sub_Top_79 : SUB STop 123 STas 9 (fun i => 79 + i) := sub_tr sub_Top_asked sub_Wor_tas
theorem fd_STop_29_0 : FLD STop 123 (29) 2 0 (some (.inl (30))) := ⟨by decide, _, rfl, rfl⟩
theorem fw_X7_229 : Cond.fieldLink RX7 229 (TX2 0).1 (TX2 0).2.1 (TX2 0).2.2.1 ∈ gw_tbl := tw 148 (by decide +kernel) (by decide +kernel)
theorem ar_STop_30 : ARR STop 123 (30) 0 10 := ⟨by decide, rfl⟩
theorem fd_STop_29_1 : FLD STop 123 (29) 2 1 (some (.inl (31))) := ⟨by decide, _, rfl, rfl⟩
theorem fw_X7_232 : Cond.fieldLink RX7 232 (TX2 1).1 (TX2 1).2.1 (TX2 1).2.2.1 ∈ gw_tbl := tw 150 (by decide +kernel) (by decide +kernel)
theorem ar_STop_31 : ARR STop 123 (31) 0 10 := ⟨by decide, rfl⟩
theorem ml_X7_235 : Cond.methodLink RX7 235 yX6_goAsPlanned ∈ gw_tbl := tw 619 (by decide +kernel) (by decide +kernel)
theorem cb_X6_goAsPlanned : CB yX6_goAsPlanned cX6_goAsPlanned 3 none 2 := ⟨(tw 620 (by decide +kernel) (by decide +kernel)), (tw 621 (by decide +kernel) (by decide +kernel)), (tw 2 (by decide +kernel) (by decide +kernel)), (tw 622 (by decide +kernel) (by decide +kernel)), by decide +kernel⟩
theorem bp_127 : (Int8.ofInt (127)).toInt32 = 127 := by decide
theorem ml_X7_53 : Cond.methodLink RX7 53 yX5_append ∈ gw_tbl := tw 307 (by decide +kernel) (by decide +kernel)
theorem cb_X5_append : CB yX5_append cX5_append 2 (some .boolean) 1 := ⟨(tw 308 (by decide +kernel) (by decide +kernel)), (tw 309 (by decide +kernel) (by decide +kernel)), (tw 8 (by decide +kernel) (by decide +kernel)), (tw 310 (by decide +kernel) (by decide +kernel)), by decide +kernel⟩
theorem fd_STop_0_1 : FLD STop 123 (0) 7 1 (some (.inl (35))) := ⟨by decide, _, rfl, rfl⟩
theorem fw_X7_18 : Cond.fieldLink RX7 18 (TX7 1).1 (TX7 1).2.1 (TX7 1).2.2.1 ∈ gw_tbl := tw 261 (by decide +kernel) (by decide +kernel)
theorem fd_STop_0_5 : FLD STop 123 (0) 7 5 none := ⟨by decide, _, rfl, rfl⟩
theorem fw_X7_38 : Cond.fieldLink RX7 38 (TX7 5).1 (TX7 5).2.1 (TX7 5).2.2.1 ∈ gw_tbl := tw 265 (by decide +kernel) (by decide +kernel)
theorem fd_STop_35_1 : FLD STop 123 (35) 6 1 (some (.inl (45))) := ⟨by decide, _, rfl, rfl⟩
theorem fd_STop_45_8 : FLD STop 123 (45) 4 8 none := ⟨by decide, _, rfl, rfl⟩
theorem fd_STop_69_7 : FLD STop 123 (69) 6 7 none := ⟨by decide, _, rfl, rfl⟩
theorem fw_X7_50 : Cond.fieldLink RX7 50 (TX6 7).1 (TX6 7).2.1 (TX6 7).2.2.1 ∈ gw_tbl := tw 175 (by decide +kernel) (by decide +kernel)
theorem fd_STop_69_2 : FLD STop 123 (69) 6 2 (some (.inl (88))) := ⟨by decide, _, rfl, rfl⟩
theorem fw_X7_172 : Cond.fieldLink RX7 172 (TX6 2).1 (TX6 2).2.1 (TX6 2).2.2.1 ∈ gw_tbl := tw 165 (by decide +kernel) (by decide +kernel)
theorem ml_X7_269 : Cond.methodLink RX7 269 yX1_watch ∈ gw_tbl := tw 582 (by decide +kernel) (by decide +kernel)
theorem cb_X1_watch : CB yX1_watch cX1_watch 1 none 0 := ⟨(tw 583 (by decide +kernel) (by decide +kernel)), (tw 584 (by decide +kernel) (by decide +kernel)), (tw 5 (by decide +kernel) (by decide +kernel)), (tw 585 (by decide +kernel) (by decide +kernel)), by decide +kernel⟩
theorem sub_Top_88 : SUB STop 123 SEnt 6 (fun i => 88 + i) := sub_tr sub_Top_asked sub_Wor_ent
theorem bp_60 : (Int8.ofInt (60)).toInt32 = 60 := by decide
theorem ml_X7_215 : Cond.methodLink RX7 215 yX6_goRoundsTillOver ∈ gw_tbl := tw 586 (by decide +kernel) (by decide +kernel)
theorem cb_X6_goRoundsTillOver : CB yX6_goRoundsTillOver cX6_goRoundsTillOver 3 none 1 := ⟨(tw 587 (by decide +kernel) (by decide +kernel)), (tw 588 (by decide +kernel) (by decide +kernel)), (tw 2 (by decide +kernel) (by decide +kernel)), (tw 589 (by decide +kernel) (by decide +kernel)), by decide +kernel⟩
theorem fd_STop_26_1 : FLD STop 123 (26) 2 1 (some (.inl (28))) := ⟨by decide, _, rfl, rfl⟩
theorem ar_STop_28 : ARR STop 123 (28) 0 5 := ⟨by decide, rfl⟩
theorem ml_X7_272 : Cond.methodLink RX7 272 yX1_watchedTask ∈ gw_tbl := tw 591 (by decide +kernel) (by decide +kernel)
theorem cb_X1_watchedTask : CB yX1_watchedTask cX1_watchedTask 2 (some .int) 1 := ⟨(tw 592 (by decide +kernel) (by decide +kernel)), (tw 593 (by decide +kernel) (by decide +kernel)), (tw 5 (by decide +kernel) (by decide +kernel)), (tw 594 (by decide +kernel) (by decide +kernel)), by decide +kernel⟩
theorem fd_STop_26_0 : FLD STop 123 (26) 2 0 (some (.inl (27))) := ⟨by decide, _, rfl, rfl⟩
theorem ar_STop_27 : ARR STop 123 (27) 0 5 := ⟨by decide, rfl⟩
theorem fd_STop_0_4 : FLD STop 123 (0) 7 4 (some (.inl (110))) := ⟨by decide, _, rfl, rfl⟩
theorem fw_X7_33 : Cond.fieldLink RX7 33 (TX7 4).1 (TX7 4).2.1 (TX7 4).2.2.1 ∈ gw_tbl := tw 264 (by decide +kernel) (by decide +kernel)
theorem rr_STop_110 : RAR STop 123 (110) 4 6 (fun j => gTap (j)) := ⟨by decide, rfl⟩
theorem ml_X7_242 : Cond.methodLink RX7 242 yX7_isTape ∈ gw_tbl := tw 636 (by decide +kernel) (by decide +kernel)
theorem cb_X7_isTape : CB yX7_isTape cX7_isTape 2 (some .boolean) 1 := ⟨(tw 638 (by decide +kernel) (by decide +kernel)), (tp 15 (by decide +kernel) (by decide +kernel)), (tw 1 (by decide +kernel) (by decide +kernel)), (tw 639 (by decide +kernel) (by decide +kernel)), by decide +kernel⟩
theorem fd_STop_gTap_1 (a : Nat) : FLD STop 123 (gTap (a)) 3 1 none := fld_sub (i := 0) (sub_Top_tape (a)) (⟨by decide, _, rfl, rfl⟩ : FLD STap 2 0 3 1 none)
theorem fw_X7_245 : Cond.fieldLink RX7 245 (TX3 1).1 (TX3 1).2.1 (TX3 1).2.2.1 ∈ gw_tbl := tw 249 (by decide +kernel) (by decide +kernel)
theorem fd_STop_gTap_2 (a : Nat) : FLD STop 123 (gTap (a)) 3 2 none := fld_sub (i := 0) (sub_Top_tape (a)) (⟨by decide, _, rfl, rfl⟩ : FLD STap 2 0 3 2 none)
theorem fw_X7_248 : Cond.fieldLink RX7 248 (TX3 2).1 (TX3 2).2.1 (TX3 2).2.2.1 ∈ gw_tbl := tw 251 (by decide +kernel) (by decide +kernel)
theorem fd_STop_gTap_0 (a : Nat) : FLD STop 123 (gTap (a)) 3 0 (some (.inl (gTap (a) + 1))) := fld_sub (i := 0) (sub_Top_tape (a)) (⟨by decide, _, rfl, rfl⟩ : FLD STap 2 0 3 0 (some (.inl 1)))
theorem fw_X7_249 : Cond.fieldLink RX7 249 (TX3 0).1 (TX3 0).2.1 (TX3 0).2.2.1 ∈ gw_tbl := tw 247 (by decide +kernel) (by decide +kernel)
theorem ml_X7_256 : Cond.methodLink RX7 256 yX3_cut ∈ gw_tbl := tw 664 (by decide +kernel) (by decide +kernel)
theorem cb_X3_cut : CB yX3_cut cX3_cut 3 (some .long) 1 := ⟨(tw 665 (by decide +kernel) (by decide +kernel)), (tw 666 (by decide +kernel) (by decide +kernel)), (tw 9 (by decide +kernel) (by decide +kernel)), (tw 667 (by decide +kernel) (by decide +kernel)), by decide +kernel⟩
theorem ob_STap : OBJ STap 2 0 3 := ⟨by decide, _, rfl⟩
theorem ar_STop_gTap_1 (a : Nat) : ARR STop 123 (gTap (a) + 1) 1 60 := arr_sub (i := 1) (sub_Top_tape (a)) (⟨by decide, rfl⟩ : ARR STap 2 1 1 60)
theorem bp_m11 : (Int8.ofInt (-11)).toInt32 = -11 := by decide
theorem bp_m13 : (Int8.ofInt (-13)).toInt32 = -13 := by decide
theorem bp_m12 : (Int8.ofInt (-12)).toInt32 = -12 := by decide
theorem bp_100 : (Int8.ofInt (100)).toInt32 = 100 := by decide
theorem fd_STop_11_2 : FLD STop 123 (11) 4 2 (some (.inl (14))) := ⟨by decide, _, rfl, rfl⟩
theorem fw_X7_110 : Cond.fieldLink RX7 110 (TX4 2).1 (TX4 2).2.1 (TX4 2).2.2.1 ∈ gw_tbl := tw 70 (by decide +kernel) (by decide +kernel)
theorem ar_STop_14 : ARR STop 123 (14) 0 32 := ⟨by decide, rfl⟩
theorem fd_STop_32_0 : FLD STop 123 (32) 2 0 (some (.inl (33))) := ⟨by decide, _, rfl, rfl⟩
theorem ar_STop_33 : ARR STop 123 (33) 0 8 := ⟨by decide, rfl⟩
theorem fd_STop_32_1 : FLD STop 123 (32) 2 1 (some (.inl (34))) := ⟨by decide, _, rfl, rfl⟩
theorem ar_STop_34 : ARR STop 123 (34) 0 8 := ⟨by decide, rfl⟩
theorem bp_64 : (Int8.ofInt (64)).toInt32 = 64 := by decide
theorem ml_X7_190 : Cond.methodLink RX7 190 yX4_howManyDone ∈ gw_tbl := tw 546 (by decide +kernel) (by decide +kernel)
theorem cb_X4_howManyDone : CB yX4_howManyDone cX4_howManyDone 3 (some .int) 0 := ⟨(tw 547 (by decide +kernel) (by decide +kernel)), (tw 548 (by decide +kernel) (by decide +kernel)), (tw 4 (by decide +kernel) (by decide +kernel)), (tw 549 (by decide +kernel) (by decide +kernel)), by decide +kernel⟩
theorem ml_X7_218 : Cond.methodLink RX7 218 yX7_lowest ∈ gw_tbl := tw 600 (by decide +kernel) (by decide +kernel)
theorem cs_X7_lowest : CS yX7_lowest cX7_lowest 7 (some .int) 3 := ⟨(tw 601 (by decide +kernel) (by decide +kernel)), (tw 1 (by decide +kernel) (by decide +kernel)), (tw 602 (by decide +kernel) (by decide +kernel)), by decide +kernel⟩
theorem kw_X7_213 : Cond.constantLong RX7 213 (-9223372036854775808) ∈ gw_tbl := tw 599 (by decide +kernel) (by decide +kernel)
theorem bp_20 : (Int8.ofInt (20)).toInt32 = 20 := by decide
theorem fd_STop_11_0 : FLD STop 123 (11) 4 0 (some (.inl (12))) := ⟨by decide, _, rfl, rfl⟩
theorem fw_X7_106 : Cond.fieldLink RX7 106 (TX4 0).1 (TX4 0).2.1 (TX4 0).2.2.1 ∈ gw_tbl := tw 66 (by decide +kernel) (by decide +kernel)
theorem ar_STop_12 : ARR STop 123 (12) 0 32 := ⟨by decide, rfl⟩
theorem fd_STop_11_1 : FLD STop 123 (11) 4 1 (some (.inl (13))) := ⟨by decide, _, rfl, rfl⟩
theorem fw_X7_107 : Cond.fieldLink RX7 107 (TX4 1).1 (TX4 1).2.1 (TX4 1).2.2.1 ∈ gw_tbl := tw 68 (by decide +kernel) (by decide +kernel)
theorem ar_STop_13 : ARR STop 123 (13) 0 32 := ⟨by decide, rfl⟩
theorem fd_STop_11_4 : FLD STop 123 (11) 4 4 (some (.inl (16))) := ⟨by decide, _, rfl, rfl⟩
theorem fw_X7_113 : Cond.fieldLink RX7 113 (TX4 4).1 (TX4 4).2.1 (TX4 4).2.2.1 ∈ gw_tbl := tw 75 (by decide +kernel) (by decide +kernel)
theorem ar_STop_16 : ARR STop 123 (16) 0 32 := ⟨by decide, rfl⟩
theorem ml_X7_114 : Cond.methodLink RX7 114 yX4_howManyIn ∈ gw_tbl := tw 357 (by decide +kernel) (by decide +kernel)
theorem cb_X4_howManyIn : CB yX4_howManyIn cX4_howManyIn 4 (some .int) 1 := ⟨(tw 358 (by decide +kernel) (by decide +kernel)), (tw 359 (by decide +kernel) (by decide +kernel)), (tw 4 (by decide +kernel) (by decide +kernel)), (tw 360 (by decide +kernel) (by decide +kernel)), by decide +kernel⟩
theorem fd_STop_11_5 : FLD STop 123 (11) 4 5 (some (.inl (17))) := ⟨by decide, _, rfl, rfl⟩
theorem fw_X7_118 : Cond.fieldLink RX7 118 (TX4 5).1 (TX4 5).2.1 (TX4 5).2.2.1 ∈ gw_tbl := tw 78 (by decide +kernel) (by decide +kernel)
theorem ar_STop_17 : ARR STop 123 (17) 0 32 := ⟨by decide, rfl⟩
theorem ml_X7_119 : Cond.methodLink RX7 119 yX4_span ∈ gw_tbl := tw 361 (by decide +kernel) (by decide +kernel)
theorem cb_X4_span : CB yX4_span cX4_span 4 (some .int) 1 := ⟨(tw 362 (by decide +kernel) (by decide +kernel)), (tw 363 (by decide +kernel) (by decide +kernel)), (tw 4 (by decide +kernel) (by decide +kernel)), (tw 364 (by decide +kernel) (by decide +kernel)), by decide +kernel⟩
theorem ml_X7_122 : Cond.methodLink RX7 122 yX4_workOfAll ∈ gw_tbl := tw 366 (by decide +kernel) (by decide +kernel)
theorem cb_X4_workOfAll : CB yX4_workOfAll cX4_workOfAll 4 (some .int) 1 := ⟨(tw 367 (by decide +kernel) (by decide +kernel)), (tw 368 (by decide +kernel) (by decide +kernel)), (tw 4 (by decide +kernel) (by decide +kernel)), (tw 369 (by decide +kernel) (by decide +kernel)), by decide +kernel⟩
theorem ml_X7_125 : Cond.methodLink RX7 125 yX4_depth ∈ gw_tbl := tw 374 (by decide +kernel) (by decide +kernel)
theorem cb_X4_depth : CB yX4_depth cX4_depth 4 (some .int) 1 := ⟨(tw 375 (by decide +kernel) (by decide +kernel)), (tw 376 (by decide +kernel) (by decide +kernel)), (tw 4 (by decide +kernel) (by decide +kernel)), (tw 377 (by decide +kernel) (by decide +kernel)), by decide +kernel⟩
theorem ml_X7_128 : Cond.methodLink RX7 128 yX6_armAtWorkOn ∈ gw_tbl := tw 379 (by decide +kernel) (by decide +kernel)
theorem cb_X6_armAtWorkOn : CB yX6_armAtWorkOn cX6_armAtWorkOn 3 (some .int) 1 := ⟨(tw 380 (by decide +kernel) (by decide +kernel)), (tw 381 (by decide +kernel) (by decide +kernel)), (tw 2 (by decide +kernel) (by decide +kernel)), (tw 382 (by decide +kernel) (by decide +kernel)), by decide +kernel⟩
theorem ml_X7_131 : Cond.methodLink RX7 131 yX6_armWithRowOf ∈ gw_tbl := tw 383 (by decide +kernel) (by decide +kernel)
theorem cb_X6_armWithRowOf : CB yX6_armWithRowOf cX6_armWithRowOf 3 (some .int) 1 := ⟨(tw 384 (by decide +kernel) (by decide +kernel)), (tw 385 (by decide +kernel) (by decide +kernel)), (tw 2 (by decide +kernel) (by decide +kernel)), (tw 386 (by decide +kernel) (by decide +kernel)), by decide +kernel⟩
theorem ml_X7_153 : Cond.methodLink RX7 153 yX6_goRounds ∈ gw_tbl := tw 407 (by decide +kernel) (by decide +kernel)
theorem cb_X6_goRounds : CB yX6_goRounds cX6_goRounds 3 none 1 := ⟨(tw 408 (by decide +kernel) (by decide +kernel)), (tw 409 (by decide +kernel) (by decide +kernel)), (tw 2 (by decide +kernel) (by decide +kernel)), (tw 410 (by decide +kernel) (by decide +kernel)), by decide +kernel⟩
theorem ml_X7_193 : Cond.methodLink RX7 193 yX6_idleOfAll ∈ gw_tbl := tw 550 (by decide +kernel) (by decide +kernel)
theorem cb_X6_idleOfAll : CB yX6_idleOfAll cX6_idleOfAll 3 (some .int) 0 := ⟨(tw 551 (by decide +kernel) (by decide +kernel)), (tw 552 (by decide +kernel) (by decide +kernel)), (tw 2 (by decide +kernel) (by decide +kernel)), (tw 553 (by decide +kernel) (by decide +kernel)), by decide +kernel⟩
theorem ml_X7_196 : Cond.methodLink RX7 196 yX6_stoleOfAll ∈ gw_tbl := tw 554 (by decide +kernel) (by decide +kernel)
theorem cb_X6_stoleOfAll : CB yX6_stoleOfAll cX6_stoleOfAll 3 (some .int) 0 := ⟨(tw 555 (by decide +kernel) (by decide +kernel)), (tw 556 (by decide +kernel) (by decide +kernel)), (tw 2 (by decide +kernel) (by decide +kernel)), (tw 557 (by decide +kernel) (by decide +kernel)), by decide +kernel⟩
theorem fd_STop_1_8 : FLD STop 123 (1) 6 8 none := ⟨by decide, _, rfl, rfl⟩
theorem fw_X7_150 : Cond.fieldLink RX7 150 (TX6 8).1 (TX6 8).2.1 (TX6 8).2.2.1 ∈ gw_tbl := tw 177 (by decide +kernel) (by decide +kernel)
theorem sp_9999 : (Int16.ofInt (9999)).toInt32 = 9999 := by decide
theorem sub_Top_29 : SUB STop 123 (SPrs 10) 3 (fun i => 29 + i) := sub_tr sub_Top_now sub_Wor_plan
theorem sub_Top_26 : SUB STop 123 (SPrs 5) 3 (fun i => 26 + i) := sub_tr sub_Top_now sub_Wor_seen
theorem fd_STop_1_7 : FLD STop 123 (1) 6 7 none := ⟨by decide, _, rfl, rfl⟩
theorem bp_31 : (Int8.ofInt (31)).toInt32 = 31 := by decide
theorem ml_X7_210 : Cond.methodLink RX7 210 yX7_isAsSeen ∈ gw_tbl := tw 578 (by decide +kernel) (by decide +kernel)
theorem cb_X7_isAsSeen : CB yX7_isAsSeen cX7_isAsSeen 3 (some .boolean) 1 := ⟨(tw 580 (by decide +kernel) (by decide +kernel)), (tp 14 (by decide +kernel) (by decide +kernel)), (tw 1 (by decide +kernel) (by decide +kernel)), (tw 581 (by decide +kernel) (by decide +kernel)), by decide +kernel⟩
theorem ml_X7_260 : Cond.methodLink RX7 260 arraycopyName ∈ gw_tbl := tw 676 (by decide +kernel) (by decide +kernel)
theorem ml_X7_253 : Cond.methodLink RX7 253 yX3_becomeRow ∈ gw_tbl := tw 656 (by decide +kernel) (by decide +kernel)
theorem cb_X3_becomeRow : CB yX3_becomeRow cX3_becomeRow 4 none 2 := ⟨(tw 657 (by decide +kernel) (by decide +kernel)), (tw 658 (by decide +kernel) (by decide +kernel)), (tw 9 (by decide +kernel) (by decide +kernel)), (tw 659 (by decide +kernel) (by decide +kernel)), by decide +kernel⟩
theorem bp_m14 : (Int8.ofInt (-14)).toInt32 = -14 := by decide
theorem ml_X7_169 : Cond.methodLink RX7 169 yX7_bestArms ∈ gw_tbl := tw 526 (by decide +kernel) (by decide +kernel)
theorem cb_X7_bestArms : CB yX7_bestArms cX7_bestArms 5 (some .int) 0 := ⟨(tw 528 (by decide +kernel) (by decide +kernel)), (tp 13 (by decide +kernel) (by decide +kernel)), (tw 1 (by decide +kernel) (by decide +kernel)), (tw 529 (by decide +kernel) (by decide +kernel)), by decide +kernel⟩
theorem fd_STop_1_2 : FLD STop 123 (1) 6 2 (some (.inl (20))) := ⟨by decide, _, rfl, rfl⟩
theorem fd_STop_20_7 : FLD STop 123 (20) 1 7 none := ⟨by decide, _, rfl, rfl⟩
theorem fw_X7_176 : Cond.fieldLink RX7 176 (TX1 7).1 (TX1 7).2.1 (TX1 7).2.2.1 ∈ gw_tbl := tw 120 (by decide +kernel) (by decide +kernel)
theorem sp_m10001 : (Int16.ofInt (-10001)).toInt32 = -10001 := by decide
theorem ml_X7_179 : Cond.methodLink RX7 179 yX1_entry ∈ gw_tbl := tw 534 (by decide +kernel) (by decide +kernel)
theorem cb_X1_entry : CB yX1_entry cX1_entry 4 (some .int) 2 := ⟨(tw 535 (by decide +kernel) (by decide +kernel)), (tw 536 (by decide +kernel) (by decide +kernel)), (tw 5 (by decide +kernel) (by decide +kernel)), (tw 537 (by decide +kernel) (by decide +kernel)), by decide +kernel⟩
theorem sub_Top_20 : SUB STop 123 SEnt 6 (fun i => 20 + i) := sub_tr sub_Top_now sub_Wor_ent
theorem ml_X7_63 : Cond.methodLink RX7 63 yX5_parse ∈ gw_tbl := tw 319 (by decide +kernel) (by decide +kernel)
theorem cb_X5_parse : CB yX5_parse cX5_parse 2 (some .int) 0 := ⟨(tw 320 (by decide +kernel) (by decide +kernel)), (tw 321 (by decide +kernel) (by decide +kernel)), (tw 8 (by decide +kernel) (by decide +kernel)), (tw 322 (by decide +kernel) (by decide +kernel)), by decide +kernel⟩
theorem fd_STop_103_5 : FLD STop 123 (103) 5 5 none := ⟨by decide, _, rfl, rfl⟩
theorem fw_X7_76 : Cond.fieldLink RX7 76 (TX5 5).1 (TX5 5).2.1 (TX5 5).2.2.1 ∈ gw_tbl := tw 213 (by decide +kernel) (by decide +kernel)
theorem bp_m10 : (Int8.ofInt (-10)).toInt32 = -10 := by decide
theorem ml_X7_95 : Cond.methodLink RX7 95 yX0_put ∈ gw_tbl := tw 351 (by decide +kernel) (by decide +kernel)
theorem fd_STop_103_4 : FLD STop 123 (103) 5 4 (some (.inl (107))) := ⟨by decide, _, rfl, rfl⟩
theorem fw_X7_77 : Cond.fieldLink RX7 77 (TX5 4).1 (TX5 4).2.1 (TX5 4).2.2.1 ∈ gw_tbl := tw 211 (by decide +kernel) (by decide +kernel)
theorem ar_STop_107 : ARR STop 123 (107) 0 100 := ⟨by decide, rfl⟩
theorem fd_STop_103_2 : FLD STop 123 (103) 5 2 (some (.inl (105))) := ⟨by decide, _, rfl, rfl⟩
theorem fw_X7_81 : Cond.fieldLink RX7 81 (TX5 2).1 (TX5 2).2.1 (TX5 2).2.2.1 ∈ gw_tbl := tw 207 (by decide +kernel) (by decide +kernel)
theorem ar_STop_105 : ARR STop 123 (105) 0 100 := ⟨by decide, rfl⟩
theorem fd_STop_103_3 : FLD STop 123 (103) 5 3 (some (.inl (106))) := ⟨by decide, _, rfl, rfl⟩
theorem fw_X7_84 : Cond.fieldLink RX7 84 (TX5 3).1 (TX5 3).2.1 (TX5 3).2.2.1 ∈ gw_tbl := tw 209 (by decide +kernel) (by decide +kernel)
theorem ar_STop_106 : ARR STop 123 (106) 0 100 := ⟨by decide, rfl⟩
theorem ml_X7_87 : Cond.methodLink RX7 87 yX4_add ∈ gw_tbl := tw 347 (by decide +kernel) (by decide +kernel)
theorem cb_X4_add : CB yX4_add cX4_add 4 none 3 := ⟨(tw 348 (by decide +kernel) (by decide +kernel)), (tw 349 (by decide +kernel) (by decide +kernel)), (tw 4 (by decide +kernel) (by decide +kernel)), (tw 350 (by decide +kernel) (by decide +kernel)), by decide +kernel⟩
theorem fd_SMod_0_34 : FLD SMod 36 (0) 8 34 none := ⟨by decide, _, rfl, rfl⟩
theorem fw_X8_134 : Cond.fieldLink RX8 134 (TX8 34).1 (TX8 34).2.1 (TX8 34).2.2.1 ∈ gw_tbl := tw 717 (by decide +kernel) (by decide +kernel)
theorem fd_SMod_0_35 : FLD SMod 36 (0) 8 35 (some (.inr (20, 21))) := ⟨by decide, _, rfl, rfl⟩
theorem fw_X8_138 : Cond.fieldLink RX8 138 (TX8 35).1 (TX8 35).2.1 (TX8 35).2.2.1 ∈ gw_tbl := tw 718 (by decide +kernel) (by decide +kernel)
theorem fd_SMod_0_33 : FLD SMod 36 (0) 8 33 none := ⟨by decide, _, rfl, rfl⟩
theorem fw_X8_141 : Cond.fieldLink RX8 141 (TX8 33).1 (TX8 33).2.1 (TX8 33).2.2.1 ∈ gw_tbl := tw 716 (by decide +kernel) (by decide +kernel)
theorem ar_SMod_20 : ARR SMod 36 (20) 0 600 := ⟨by decide, rfl⟩
theorem ar_SMod_21 : ARR SMod 36 (21) 0 600 := ⟨by decide, rfl⟩
theorem fd_SMod_0_18 : FLD SMod 36 (0) 8 18 none := ⟨by decide, _, rfl, rfl⟩
theorem fw_X8_144 : Cond.fieldLink RX8 144 (TX8 18).1 (TX8 18).2.1 (TX8 18).2.2.1 ∈ gw_tbl := tw 701 (by decide +kernel) (by decide +kernel)
theorem ml_X8_147 : Cond.methodLink RX8 147 yX8_carry ∈ gw_tbl := tw 858 (by decide +kernel) (by decide +kernel)
theorem cb_X8_carry : CB yX8_carry cX8_carry 2 (some .int) 1 := ⟨(tw 860 (by decide +kernel) (by decide +kernel)), (tp 17 (by decide +kernel) (by decide +kernel)), (tw 10 (by decide +kernel) (by decide +kernel)), (tw 861 (by decide +kernel) (by decide +kernel)), by decide +kernel⟩
theorem ob_SMod : OBJ SMod 36 0 8 := ⟨by decide, _, rfl⟩
theorem fd_SMod_0_21 : FLD SMod 36 (0) 8 21 none := ⟨by decide, _, rfl, rfl⟩
theorem fw_X8_151 : Cond.fieldLink RX8 151 (TX8 21).1 (TX8 21).2.1 (TX8 21).2.2.1 ∈ gw_tbl := tw 704 (by decide +kernel) (by decide +kernel)
theorem fd_SMod_0_24 : FLD SMod 36 (0) 8 24 none := ⟨by decide, _, rfl, rfl⟩
theorem fw_X8_154 : Cond.fieldLink RX8 154 (TX8 24).1 (TX8 24).2.1 (TX8 24).2.2.1 ∈ gw_tbl := tw 707 (by decide +kernel) (by decide +kernel)
theorem fd_SMod_0_19 : FLD SMod 36 (0) 8 19 (some (.inl (14))) := ⟨by decide, _, rfl, rfl⟩
theorem fw_X8_56 : Cond.fieldLink RX8 56 (TX8 19).1 (TX8 19).2.1 (TX8 19).2.2.1 ∈ gw_tbl := tw 702 (by decide +kernel) (by decide +kernel)
theorem ar_SMod_14 : ARR SMod 36 (14) 0 5 := ⟨by decide, rfl⟩
theorem fd_SMod_0_20 : FLD SMod 36 (0) 8 20 (some (.inl (15))) := ⟨by decide, _, rfl, rfl⟩
theorem fw_X8_59 : Cond.fieldLink RX8 59 (TX8 20).1 (TX8 20).2.1 (TX8 20).2.2.1 ∈ gw_tbl := tw 703 (by decide +kernel) (by decide +kernel)
theorem ar_SMod_15 : ARR SMod 36 (15) 0 5 := ⟨by decide, rfl⟩
theorem fd_SMod_0_22 : FLD SMod 36 (0) 8 22 (some (.inl (16))) := ⟨by decide, _, rfl, rfl⟩
theorem fw_X8_62 : Cond.fieldLink RX8 62 (TX8 22).1 (TX8 22).2.1 (TX8 22).2.2.1 ∈ gw_tbl := tw 705 (by decide +kernel) (by decide +kernel)
theorem ar_SMod_16 : ARR SMod 36 (16) 0 10 := ⟨by decide, rfl⟩
theorem fd_SMod_0_23 : FLD SMod 36 (0) 8 23 (some (.inl (17))) := ⟨by decide, _, rfl, rfl⟩
theorem fw_X8_65 : Cond.fieldLink RX8 65 (TX8 23).1 (TX8 23).2.1 (TX8 23).2.2.1 ∈ gw_tbl := tw 706 (by decide +kernel) (by decide +kernel)
theorem ar_SMod_17 : ARR SMod 36 (17) 0 10 := ⟨by decide, rfl⟩
theorem bp_8 : (Int8.ofInt (8)).toInt32 = 8 := by decide
theorem fd_SMod_0_25 : FLD SMod 36 (0) 8 25 (some (.inl (18))) := ⟨by decide, _, rfl, rfl⟩
theorem fw_X8_68 : Cond.fieldLink RX8 68 (TX8 25).1 (TX8 25).2.1 (TX8 25).2.2.1 ∈ gw_tbl := tw 708 (by decide +kernel) (by decide +kernel)
theorem ar_SMod_18 : ARR SMod 36 (18) 0 8 := ⟨by decide, rfl⟩
theorem fd_SMod_0_26 : FLD SMod 36 (0) 8 26 (some (.inl (19))) := ⟨by decide, _, rfl, rfl⟩
theorem fw_X8_71 : Cond.fieldLink RX8 71 (TX8 26).1 (TX8 26).2.1 (TX8 26).2.2.1 ∈ gw_tbl := tw 709 (by decide +kernel) (by decide +kernel)
theorem ar_SMod_19 : ARR SMod 36 (19) 0 8 := ⟨by decide, rfl⟩
theorem fd_SMod_0_0 : FLD SMod 36 (0) 8 0 none := ⟨by decide, _, rfl, rfl⟩
theorem fw_X8_7 : Cond.fieldLink RX8 7 (TX8 0).1 (TX8 0).2.1 (TX8 0).2.2.1 ∈ gw_tbl := tw 683 (by decide +kernel) (by decide +kernel)
theorem fd_SMod_0_6 : FLD SMod 36 (0) 8 6 none := ⟨by decide, _, rfl, rfl⟩
theorem fw_X8_127 : Cond.fieldLink RX8 127 (TX8 6).1 (TX8 6).2.1 (TX8 6).2.2.1 ∈ gw_tbl := tw 689 (by decide +kernel) (by decide +kernel)
theorem fd_SMod_0_14 : FLD SMod 36 (0) 8 14 none := ⟨by decide, _, rfl, rfl⟩
theorem fw_X8_50 : Cond.fieldLink RX8 50 (TX8 14).1 (TX8 14).2.1 (TX8 14).2.2.1 ∈ gw_tbl := tw 697 (by decide +kernel) (by decide +kernel)
theorem fd_SMod_0_15 : FLD SMod 36 (0) 8 15 none := ⟨by decide, _, rfl, rfl⟩
theorem fw_X8_157 : Cond.fieldLink RX8 157 (TX8 15).1 (TX8 15).2.1 (TX8 15).2.2.1 ∈ gw_tbl := tw 698 (by decide +kernel) (by decide +kernel)
theorem fd_SMod_0_16 : FLD SMod 36 (0) 8 16 none := ⟨by decide, _, rfl, rfl⟩
theorem fw_X8_160 : Cond.fieldLink RX8 160 (TX8 16).1 (TX8 16).2.1 (TX8 16).2.2.1 ∈ gw_tbl := tw 699 (by decide +kernel) (by decide +kernel)
theorem fd_SMod_0_1 : FLD SMod 36 (0) 8 1 (some (.inl (1))) := ⟨by decide, _, rfl, rfl⟩
theorem fw_X8_13 : Cond.fieldLink RX8 13 (TX8 1).1 (TX8 1).2.1 (TX8 1).2.2.1 ∈ gw_tbl := tw 684 (by decide +kernel) (by decide +kernel)
theorem ar_SMod_1 : ARR SMod 36 (1) 0 4 := ⟨by decide, rfl⟩
theorem fd_SMod_0_3 : FLD SMod 36 (0) 8 3 (some (.inl (3))) := ⟨by decide, _, rfl, rfl⟩
theorem fw_X8_20 : Cond.fieldLink RX8 20 (TX8 3).1 (TX8 3).2.1 (TX8 3).2.2.1 ∈ gw_tbl := tw 686 (by decide +kernel) (by decide +kernel)
theorem ar_SMod_3 : ARR SMod 36 (3) 0 4 := ⟨by decide, rfl⟩
theorem fd_SMod_0_4 : FLD SMod 36 (0) 8 4 (some (.inl (4))) := ⟨by decide, _, rfl, rfl⟩
theorem fw_X8_23 : Cond.fieldLink RX8 23 (TX8 4).1 (TX8 4).2.1 (TX8 4).2.2.1 ∈ gw_tbl := tw 687 (by decide +kernel) (by decide +kernel)
theorem ar_SMod_4 : ARR SMod 36 (4) 0 4 := ⟨by decide, rfl⟩
theorem fd_SMod_0_5 : FLD SMod 36 (0) 8 5 (some (.inl (5))) := ⟨by decide, _, rfl, rfl⟩
theorem fw_X8_26 : Cond.fieldLink RX8 26 (TX8 5).1 (TX8 5).2.1 (TX8 5).2.2.1 ∈ gw_tbl := tw 688 (by decide +kernel) (by decide +kernel)
theorem ar_SMod_5 : ARR SMod 36 (5) 0 4 := ⟨by decide, rfl⟩
theorem sp_128 : (Int16.ofInt (128)).toInt32 = 128 := by decide
theorem fd_SMod_0_2 : FLD SMod 36 (0) 8 2 (some (.inl (2))) := ⟨by decide, _, rfl, rfl⟩
theorem fw_X8_17 : Cond.fieldLink RX8 17 (TX8 2).1 (TX8 2).2.1 (TX8 2).2.2.1 ∈ gw_tbl := tw 685 (by decide +kernel) (by decide +kernel)
theorem ar_SMod_2 : ARR SMod 36 (2) 0 128 := ⟨by decide, rfl⟩
theorem fd_SMod_0_7 : FLD SMod 36 (0) 8 7 (some (.inl (6))) := ⟨by decide, _, rfl, rfl⟩
theorem fw_X8_29 : Cond.fieldLink RX8 29 (TX8 7).1 (TX8 7).2.1 (TX8 7).2.2.1 ∈ gw_tbl := tw 690 (by decide +kernel) (by decide +kernel)
theorem ar_SMod_6 : ARR SMod 36 (6) 0 32 := ⟨by decide, rfl⟩
theorem fd_SMod_0_8 : FLD SMod 36 (0) 8 8 (some (.inl (7))) := ⟨by decide, _, rfl, rfl⟩
theorem fw_X8_32 : Cond.fieldLink RX8 32 (TX8 8).1 (TX8 8).2.1 (TX8 8).2.2.1 ∈ gw_tbl := tw 691 (by decide +kernel) (by decide +kernel)
theorem ar_SMod_7 : ARR SMod 36 (7) 0 32 := ⟨by decide, rfl⟩
theorem fd_SMod_0_9 : FLD SMod 36 (0) 8 9 (some (.inl (8))) := ⟨by decide, _, rfl, rfl⟩
theorem fw_X8_35 : Cond.fieldLink RX8 35 (TX8 9).1 (TX8 9).2.1 (TX8 9).2.2.1 ∈ gw_tbl := tw 692 (by decide +kernel) (by decide +kernel)
theorem ar_SMod_8 : ARR SMod 36 (8) 0 32 := ⟨by decide, rfl⟩
theorem fd_SMod_0_10 : FLD SMod 36 (0) 8 10 (some (.inl (9))) := ⟨by decide, _, rfl, rfl⟩
theorem fw_X8_38 : Cond.fieldLink RX8 38 (TX8 10).1 (TX8 10).2.1 (TX8 10).2.2.1 ∈ gw_tbl := tw 693 (by decide +kernel) (by decide +kernel)
theorem ar_SMod_9 : ARR SMod 36 (9) 0 32 := ⟨by decide, rfl⟩
theorem fd_SMod_0_11 : FLD SMod 36 (0) 8 11 (some (.inl (10))) := ⟨by decide, _, rfl, rfl⟩
theorem fw_X8_41 : Cond.fieldLink RX8 41 (TX8 11).1 (TX8 11).2.1 (TX8 11).2.2.1 ∈ gw_tbl := tw 694 (by decide +kernel) (by decide +kernel)
theorem ar_SMod_10 : ARR SMod 36 (10) 0 32 := ⟨by decide, rfl⟩
theorem fd_SMod_0_12 : FLD SMod 36 (0) 8 12 (some (.inl (11))) := ⟨by decide, _, rfl, rfl⟩
theorem fw_X8_44 : Cond.fieldLink RX8 44 (TX8 12).1 (TX8 12).2.1 (TX8 12).2.2.1 ∈ gw_tbl := tw 695 (by decide +kernel) (by decide +kernel)
theorem ar_SMod_11 : ARR SMod 36 (11) 0 32 := ⟨by decide, rfl⟩
theorem fd_SMod_0_13 : FLD SMod 36 (0) 8 13 (some (.inl (12))) := ⟨by decide, _, rfl, rfl⟩
theorem fw_X8_47 : Cond.fieldLink RX8 47 (TX8 13).1 (TX8 13).2.1 (TX8 13).2.2.1 ∈ gw_tbl := tw 696 (by decide +kernel) (by decide +kernel)
theorem ar_SMod_12 : ARR SMod 36 (12) 0 32 := ⟨by decide, rfl⟩
theorem sp_160 : (Int16.ofInt (160)).toInt32 = 160 := by decide
theorem ml_X8_163 : Cond.methodLink RX8 163 yX8_carryTold ∈ gw_tbl := tw 862 (by decide +kernel) (by decide +kernel)
theorem cb_X8_carryTold : CB yX8_carryTold cX8_carryTold 2 none 0 := ⟨(tw 864 (by decide +kernel) (by decide +kernel)), (tp 18 (by decide +kernel) (by decide +kernel)), (tw 10 (by decide +kernel) (by decide +kernel)), (tw 865 (by decide +kernel) (by decide +kernel)), by decide +kernel⟩
theorem fd_SMod_0_17 : FLD SMod 36 (0) 8 17 (some (.inl (13))) := ⟨by decide, _, rfl, rfl⟩
theorem fw_X8_53 : Cond.fieldLink RX8 53 (TX8 17).1 (TX8 17).2.1 (TX8 17).2.2.1 ∈ gw_tbl := tw 700 (by decide +kernel) (by decide +kernel)
theorem ar_SMod_13 : ARR SMod 36 (13) 0 160 := ⟨by decide, rfl⟩
theorem fd_SMod_0_30 : FLD SMod 36 (0) 8 30 (some (.inl (20))) := ⟨by decide, _, rfl, rfl⟩
theorem fw_X8_74 : Cond.fieldLink RX8 74 (TX8 30).1 (TX8 30).2.1 (TX8 30).2.2.1 ∈ gw_tbl := tw 713 (by decide +kernel) (by decide +kernel)
theorem ml_X8_166 : Cond.methodLink RX8 166 yX8_carryAll ∈ gw_tbl := tw 854 (by decide +kernel) (by decide +kernel)
theorem cb_X8_carryAll : CB yX8_carryAll cX8_carryAll 4 none 2 := ⟨(tw 856 (by decide +kernel) (by decide +kernel)), (tp 16 (by decide +kernel) (by decide +kernel)), (tw 10 (by decide +kernel) (by decide +kernel)), (tw 857 (by decide +kernel) (by decide +kernel)), by decide +kernel⟩
theorem ml_X8_183 : Cond.methodLink RX8 183 yX8_isEnded ∈ gw_tbl := tw 1004 (by decide +kernel) (by decide +kernel)
theorem cb_X8_isEnded : CB yX8_isEnded cX8_isEnded 2 (some .boolean) 1 := ⟨(tw 1006 (by decide +kernel) (by decide +kernel)), (tp 42 (by decide +kernel) (by decide +kernel)), (tw 10 (by decide +kernel) (by decide +kernel)), (tw 1007 (by decide +kernel) (by decide +kernel)), by decide +kernel⟩
theorem fd_SMod_0_27 : FLD SMod 36 (0) 8 27 none := ⟨by decide, _, rfl, rfl⟩
theorem fw_X8_176 : Cond.fieldLink RX8 176 (TX8 27).1 (TX8 27).2.1 (TX8 27).2.2.1 ∈ gw_tbl := tw 710 (by decide +kernel) (by decide +kernel)
theorem fd_SMod_0_28 : FLD SMod 36 (0) 8 28 none := ⟨by decide, _, rfl, rfl⟩
theorem fw_X8_173 : Cond.fieldLink RX8 173 (TX8 28).1 (TX8 28).2.1 (TX8 28).2.2.1 ∈ gw_tbl := tw 711 (by decide +kernel) (by decide +kernel)
theorem ml_X8_179 : Cond.methodLink RX8 179 yX8_looksAt ∈ gw_tbl := tw 988 (by decide +kernel) (by decide +kernel)
theorem cb_X8_looksAt : CB yX8_looksAt cX8_looksAt 3 none 1 := ⟨(tw 990 (by decide +kernel) (by decide +kernel)), (tp 38 (by decide +kernel) (by decide +kernel)), (tw 10 (by decide +kernel) (by decide +kernel)), (tw 991 (by decide +kernel) (by decide +kernel)), by decide +kernel⟩
theorem fd_SMod_0_36 : FLD SMod 36 (0) 8 36 (some (.inl (22))) := ⟨by decide, _, rfl, rfl⟩
theorem fw_X8_80 : Cond.fieldLink RX8 80 (TX8 36).1 (TX8 36).2.1 (TX8 36).2.2.1 ∈ gw_tbl := tw 719 (by decide +kernel) (by decide +kernel)
theorem ar_SMod_22 : ARR SMod 36 (22) 2 32 := ⟨by decide, rfl⟩
theorem ml_X8_187 : Cond.methodLink RX8 187 yX8_leavesRows ∈ gw_tbl := tw 1008 (by decide +kernel) (by decide +kernel)
theorem cb_X8_leavesRows : CB yX8_leavesRows cX8_leavesRows 5 none 1 := ⟨(tw 1010 (by decide +kernel) (by decide +kernel)), (tp 43 (by decide +kernel) (by decide +kernel)), (tw 10 (by decide +kernel) (by decide +kernel)), (tw 1011 (by decide +kernel) (by decide +kernel)), by decide +kernel⟩
theorem ml_X8_190 : Cond.methodLink RX8 190 yX8_entry ∈ gw_tbl := tw 984 (by decide +kernel) (by decide +kernel)
theorem cb_X8_entry : CB yX8_entry cX8_entry 5 none 3 := ⟨(tw 986 (by decide +kernel) (by decide +kernel)), (tp 37 (by decide +kernel) (by decide +kernel)), (tw 10 (by decide +kernel) (by decide +kernel)), (tw 987 (by decide +kernel) (by decide +kernel)), by decide +kernel⟩
theorem ml_X8_194 : Cond.methodLink RX8 194 yX8_cancelMarked ∈ gw_tbl := tw 1000 (by decide +kernel) (by decide +kernel)
theorem cb_X8_cancelMarked : CB yX8_cancelMarked cX8_cancelMarked 3 (some .int) 0 := ⟨(tw 1002 (by decide +kernel) (by decide +kernel)), (tp 41 (by decide +kernel) (by decide +kernel)), (tw 10 (by decide +kernel) (by decide +kernel)), (tw 1003 (by decide +kernel) (by decide +kernel)), by decide +kernel⟩
theorem ml_X8_198 : Cond.methodLink RX8 198 yX8_cancelIn ∈ gw_tbl := tw 996 (by decide +kernel) (by decide +kernel)
theorem cb_X8_cancelIn : CB yX8_cancelIn cX8_cancelIn 3 none 1 := ⟨(tw 998 (by decide +kernel) (by decide +kernel)), (tp 40 (by decide +kernel) (by decide +kernel)), (tw 10 (by decide +kernel) (by decide +kernel)), (tw 999 (by decide +kernel) (by decide +kernel)), by decide +kernel⟩
theorem ml_X8_201 : Cond.methodLink RX8 201 yX8_allEnded ∈ gw_tbl := tw 1012 (by decide +kernel) (by decide +kernel)
theorem cb_X8_allEnded : CB yX8_allEnded cX8_allEnded 4 (some .boolean) 1 := ⟨(tw 1014 (by decide +kernel) (by decide +kernel)), (tp 44 (by decide +kernel) (by decide +kernel)), (tw 10 (by decide +kernel) (by decide +kernel)), (tw 1015 (by decide +kernel) (by decide +kernel)), by decide +kernel⟩
theorem ml_X8_204 : Cond.methodLink RX8 204 yX8_worthIn ∈ gw_tbl := tw 1016 (by decide +kernel) (by decide +kernel)
theorem cb_X8_worthIn : CB yX8_worthIn cX8_worthIn 4 (some .int) 1 := ⟨(tw 1018 (by decide +kernel) (by decide +kernel)), (tp 45 (by decide +kernel) (by decide +kernel)), (tw 10 (by decide +kernel) (by decide +kernel)), (tw 1019 (by decide +kernel) (by decide +kernel)), by decide +kernel⟩
theorem ml_X8_207 : Cond.methodLink RX8 207 yX8_goesUp ∈ gw_tbl := tw 992 (by decide +kernel) (by decide +kernel)
theorem cb_X8_goesUp : CB yX8_goesUp cX8_goesUp 5 none 1 := ⟨(tw 994 (by decide +kernel) (by decide +kernel)), (tp 39 (by decide +kernel) (by decide +kernel)), (tw 10 (by decide +kernel) (by decide +kernel)), (tw 995 (by decide +kernel) (by decide +kernel)), by decide +kernel⟩
theorem ml_X8_210 : Cond.methodLink RX8 210 yX8_comesTo ∈ gw_tbl := tw 882 (by decide +kernel) (by decide +kernel)
theorem cb_X8_comesTo : CB yX8_comesTo cX8_comesTo 3 none 2 := ⟨(tw 884 (by decide +kernel) (by decide +kernel)), (tp 20 (by decide +kernel) (by decide +kernel)), (tw 10 (by decide +kernel) (by decide +kernel)), (tw 885 (by decide +kernel) (by decide +kernel)), by decide +kernel⟩
theorem kw_X8_214 : Cond.constant RX8 214 (1103515245) ∈ gw_tbl := tw 1036 (by decide +kernel) (by decide +kernel)
theorem ml_X8_215 : Cond.methodLink RX8 215 yX8_drawBelow ∈ gw_tbl := tw 1032 (by decide +kernel) (by decide +kernel)
theorem cb_X8_drawBelow : CB yX8_drawBelow cX8_drawBelow 2 (some .int) 1 := ⟨(tw 1034 (by decide +kernel) (by decide +kernel)), (tp 49 (by decide +kernel) (by decide +kernel)), (tw 10 (by decide +kernel) (by decide +kernel)), (tw 1035 (by decide +kernel) (by decide +kernel)), by decide +kernel⟩
theorem ml_X8_218 : Cond.methodLink RX8 218 yX8_worksOn ∈ gw_tbl := tw 1020 (by decide +kernel) (by decide +kernel)
theorem cb_X8_worksOn : CB yX8_worksOn cX8_worksOn 4 none 3 := ⟨(tw 1022 (by decide +kernel) (by decide +kernel)), (tp 46 (by decide +kernel) (by decide +kernel)), (tw 10 (by decide +kernel) (by decide +kernel)), (tw 1023 (by decide +kernel) (by decide +kernel)), by decide +kernel⟩
theorem ml_X8_224 : Cond.methodLink RX8 224 yX8_fullOthers ∈ gw_tbl := tw 1024 (by decide +kernel) (by decide +kernel)
theorem cb_X8_fullOthers : CB yX8_fullOthers cX8_fullOthers 4 (some .int) 1 := ⟨(tw 1026 (by decide +kernel) (by decide +kernel)), (tp 47 (by decide +kernel) (by decide +kernel)), (tw 10 (by decide +kernel) (by decide +kernel)), (tw 1027 (by decide +kernel) (by decide +kernel)), by decide +kernel⟩
theorem ml_X8_227 : Cond.methodLink RX8 227 yX8_steals ∈ gw_tbl := tw 1028 (by decide +kernel) (by decide +kernel)
theorem cb_X8_steals : CB yX8_steals cX8_steals 7 none 2 := ⟨(tw 1030 (by decide +kernel) (by decide +kernel)), (tp 48 (by decide +kernel) (by decide +kernel)), (tw 10 (by decide +kernel) (by decide +kernel)), (tw 1031 (by decide +kernel) (by decide +kernel)), by decide +kernel⟩
theorem ml_X8_221 : Cond.methodLink RX8 221 yX8_isThrough ∈ gw_tbl := tw 980 (by decide +kernel) (by decide +kernel)
theorem cb_X8_isThrough : CB yX8_isThrough cX8_isThrough 4 none 2 := ⟨(tw 982 (by decide +kernel) (by decide +kernel)), (tp 36 (by decide +kernel) (by decide +kernel)), (tw 10 (by decide +kernel) (by decide +kernel)), (tw 983 (by decide +kernel) (by decide +kernel)), by decide +kernel⟩
theorem ml_X8_230 : Cond.methodLink RX8 230 yX8_armGoes ∈ gw_tbl := tw 976 (by decide +kernel) (by decide +kernel)
theorem cb_X8_armGoes : CB yX8_armGoes cX8_armGoes 3 none 1 := ⟨(tw 978 (by decide +kernel) (by decide +kernel)), (tp 35 (by decide +kernel) (by decide +kernel)), (tw 10 (by decide +kernel) (by decide +kernel)), (tw 979 (by decide +kernel) (by decide +kernel)), by decide +kernel⟩
theorem ml_X8_233 : Cond.methodLink RX8 233 yX8_roundOn ∈ gw_tbl := tw 972 (by decide +kernel) (by decide +kernel)
theorem cb_X8_roundOn : CB yX8_roundOn cX8_roundOn 2 none 0 := ⟨(tw 974 (by decide +kernel) (by decide +kernel)), (tp 34 (by decide +kernel) (by decide +kernel)), (tw 10 (by decide +kernel) (by decide +kernel)), (tw 975 (by decide +kernel) (by decide +kernel)), by decide +kernel⟩
theorem ml_X8_321 : Cond.methodLink RX8 321 yX8_again ∈ gw_tbl := tw 1065 (by decide +kernel) (by decide +kernel)
theorem cb_X8_again : CB yX8_again cX8_again 1 none 0 := ⟨(tw 1067 (by decide +kernel) (by decide +kernel)), (tp 55 (by decide +kernel) (by decide +kernel)), (tw 10 (by decide +kernel) (by decide +kernel)), (tw 1068 (by decide +kernel) (by decide +kernel)), by decide +kernel⟩
theorem ml_X8_130 : Cond.methodLink RX8 130 yX8_in ∈ gw_tbl := tw 875 (by decide +kernel) (by decide +kernel)
theorem cs_X8_in : CS yX8_in cX8_in 6 (some .boolean) 3 := ⟨(tw 876 (by decide +kernel) (by decide +kernel)), (tw 10 (by decide +kernel) (by decide +kernel)), (tw 877 (by decide +kernel) (by decide +kernel)), by decide +kernel⟩
theorem fd_SMod_0_29 : FLD SMod 36 (0) 8 29 none := ⟨by decide, _, rfl, rfl⟩
theorem fw_X8_124 : Cond.fieldLink RX8 124 (TX8 29).1 (TX8 29).2.1 (TX8 29).2.2.1 ∈ gw_tbl := tw 712 (by decide +kernel) (by decide +kernel)
theorem ml_X8_272 : Cond.methodLink RX8 272 yX8_isArm ∈ gw_tbl := tw 899 (by decide +kernel) (by decide +kernel)
theorem cb_X8_isArm : CB yX8_isArm cX8_isArm 2 (some .boolean) 1 := ⟨(tw 901 (by decide +kernel) (by decide +kernel)), (tp 21 (by decide +kernel) (by decide +kernel)), (tw 10 (by decide +kernel) (by decide +kernel)), (tw 902 (by decide +kernel) (by decide +kernel)), by decide +kernel⟩
theorem kw_X8_302 : Cond.constantLong RX8 302 (3) ∈ gw_tbl := tw 962 (by decide +kernel) (by decide +kernel)
theorem kw_X8_236 : Cond.constantLong RX8 236 (4) ∈ gw_tbl := tw 874 (by decide +kernel) (by decide +kernel)
theorem ml_X8_238 : Cond.methodLink RX8 238 yX8_becomeArms ∈ gw_tbl := tw 878 (by decide +kernel) (by decide +kernel)
theorem cb_X8_becomeArms : CB yX8_becomeArms cX8_becomeArms 4 none 1 := ⟨(tw 880 (by decide +kernel) (by decide +kernel)), (tp 19 (by decide +kernel) (by decide +kernel)), (tw 10 (by decide +kernel) (by decide +kernel)), (tw 881 (by decide +kernel) (by decide +kernel)), by decide +kernel⟩
theorem ml_X8_312 : Cond.methodLink RX8 312 yX8_isOver ∈ gw_tbl := tw 1049 (by decide +kernel) (by decide +kernel)
theorem cb_X8_isOver : CB yX8_isOver cX8_isOver 3 (some .boolean) 0 := ⟨(tw 1051 (by decide +kernel) (by decide +kernel)), (tp 51 (by decide +kernel) (by decide +kernel)), (tw 10 (by decide +kernel) (by decide +kernel)), (tw 1052 (by decide +kernel) (by decide +kernel)), by decide +kernel⟩
theorem ml_X8_315 : Cond.methodLink RX8 315 yX8_open ∈ gw_tbl := tw 1057 (by decide +kernel) (by decide +kernel)
theorem cb_X8_open : CB yX8_open cX8_open 1 none 0 := ⟨(tw 1059 (by decide +kernel) (by decide +kernel)), (tp 53 (by decide +kernel) (by decide +kernel)), (tw 10 (by decide +kernel) (by decide +kernel)), (tw 1060 (by decide +kernel) (by decide +kernel)), by decide +kernel⟩
theorem ml_X8_318 : Cond.methodLink RX8 318 yX8_tillOver ∈ gw_tbl := tw 1061 (by decide +kernel) (by decide +kernel)
theorem cb_X8_tillOver : CB yX8_tillOver cX8_tillOver 2 (some .int) 0 := ⟨(tw 1063 (by decide +kernel) (by decide +kernel)), (tp 54 (by decide +kernel) (by decide +kernel)), (tw 10 (by decide +kernel) (by decide +kernel)), (tw 1064 (by decide +kernel) (by decide +kernel)), by decide +kernel⟩
theorem ml_X8_324 : Cond.methodLink RX8 324 yX8_tillBy ∈ gw_tbl := tw 1053 (by decide +kernel) (by decide +kernel)
theorem cb_X8_tillBy : CB yX8_tillBy cX8_tillBy 3 (some .int) 1 := ⟨(tw 1055 (by decide +kernel) (by decide +kernel)), (tp 52 (by decide +kernel) (by decide +kernel)), (tw 10 (by decide +kernel) (by decide +kernel)), (tw 1056 (by decide +kernel) (by decide +kernel)), by decide +kernel⟩
theorem ml_X8_290 : Cond.methodLink RX8 290 yX8_isTask ∈ gw_tbl := tw 925 (by decide +kernel) (by decide +kernel)
theorem cb_X8_isTask : CB yX8_isTask cX8_isTask 2 (some .boolean) 1 := ⟨(tw 927 (by decide +kernel) (by decide +kernel)), (tp 26 (by decide +kernel) (by decide +kernel)), (tw 10 (by decide +kernel) (by decide +kernel)), (tw 928 (by decide +kernel) (by decide +kernel)), by decide +kernel⟩
theorem kw_X8_364 : Cond.constantLong RX8 364 (5) ∈ gw_tbl := tw 1147 (by decide +kernel) (by decide +kernel)
theorem ml_X8_309 : Cond.methodLink RX8 309 yX8_cancelOne ∈ gw_tbl := tw 1041 (by decide +kernel) (by decide +kernel)
theorem cb_X8_cancelOne : CB yX8_cancelOne cX8_cancelOne 3 (some .int) 1 := ⟨(tw 1043 (by decide +kernel) (by decide +kernel)), (tp 50 (by decide +kernel) (by decide +kernel)), (tw 10 (by decide +kernel) (by decide +kernel)), (tw 1044 (by decide +kernel) (by decide +kernel)), by decide +kernel⟩
theorem ml_X8_330 : Cond.methodLink RX8 330 yX8_endedMany ∈ gw_tbl := tw 1081 (by decide +kernel) (by decide +kernel)
theorem cb_X8_endedMany : CB yX8_endedMany cX8_endedMany 3 (some .int) 0 := ⟨(tw 1083 (by decide +kernel) (by decide +kernel)), (tp 57 (by decide +kernel) (by decide +kernel)), (tw 10 (by decide +kernel) (by decide +kernel)), (tw 1084 (by decide +kernel) (by decide +kernel)), by decide +kernel⟩
theorem fd_SMod_0_38 : FLD SMod 36 (0) 8 38 none := ⟨by decide, _, rfl, rfl⟩
theorem fw_X8_243 : Cond.fieldLink RX8 243 (TX8 38).1 (TX8 38).2.1 (TX8 38).2.2.1 ∈ gw_tbl := tw 721 (by decide +kernel) (by decide +kernel)
theorem ml_X8_356 : Cond.methodLink RX8 356 yX8_worthAll ∈ gw_tbl := tw 1126 (by decide +kernel) (by decide +kernel)
theorem cb_X8_worthAll : CB yX8_worthAll cX8_worthAll 3 (some .int) 0 := ⟨(tw 1128 (by decide +kernel) (by decide +kernel)), (tp 61 (by decide +kernel) (by decide +kernel)), (tw 10 (by decide +kernel) (by decide +kernel)), (tw 1129 (by decide +kernel) (by decide +kernel)), by decide +kernel⟩
theorem ml_X8_361 : Cond.methodLink RX8 361 yX8_planned ∈ gw_tbl := tw 1139 (by decide +kernel) (by decide +kernel)
theorem cb_X8_planned : CB yX8_planned cX8_planned 3 none 1 := ⟨(tw 1141 (by decide +kernel) (by decide +kernel)), (tp 62 (by decide +kernel) (by decide +kernel)), (tw 10 (by decide +kernel) (by decide +kernel)), (tw 1142 (by decide +kernel) (by decide +kernel)), by decide +kernel⟩
theorem kw_X8_241 : Cond.constantLong RX8 241 (127) ∈ gw_tbl := tw 894 (by decide +kernel) (by decide +kernel)
theorem fd_SMod_0_37 : FLD SMod 36 (0) 8 37 (some (.inl (23))) := ⟨by decide, _, rfl, rfl⟩
theorem fw_X8_84 : Cond.fieldLink RX8 84 (TX8 37).1 (TX8 37).2.1 (TX8 37).2.2.1 ∈ gw_tbl := tw 720 (by decide +kernel) (by decide +kernel)
theorem ar_SMod_23 : ARR SMod 36 (23) 0 100 := ⟨by decide, rfl⟩
theorem fd_SMod_0_39 : FLD SMod 36 (0) 8 39 none := ⟨by decide, _, rfl, rfl⟩
theorem fw_X8_246 : Cond.fieldLink RX8 246 (TX8 39).1 (TX8 39).2.1 (TX8 39).2.2.1 ∈ gw_tbl := tw 722 (by decide +kernel) (by decide +kernel)
theorem ml_X8_252 : Cond.methodLink RX8 252 yX8_here ∈ gw_tbl := tw 911 (by decide +kernel) (by decide +kernel)
theorem cb_X8_here : CB yX8_here cX8_here 1 (some .int) 0 := ⟨(tw 913 (by decide +kernel) (by decide +kernel)), (tp 24 (by decide +kernel) (by decide +kernel)), (tw 10 (by decide +kernel) (by decide +kernel)), (tw 914 (by decide +kernel) (by decide +kernel)), by decide +kernel⟩
theorem fd_SMod_0_45 : FLD SMod 36 (0) 8 45 none := ⟨by decide, _, rfl, rfl⟩
theorem fw_X8_262 : Cond.fieldLink RX8 262 (TX8 45).1 (TX8 45).2.1 (TX8 45).2.2.1 ∈ gw_tbl := tw 728 (by decide +kernel) (by decide +kernel)
theorem fd_SMod_0_46 : FLD SMod 36 (0) 8 46 (some (.inl (27))) := ⟨by decide, _, rfl, rfl⟩
theorem fw_X8_96 : Cond.fieldLink RX8 96 (TX8 46).1 (TX8 46).2.1 (TX8 46).2.2.1 ∈ gw_tbl := tw 729 (by decide +kernel) (by decide +kernel)
theorem fd_SMod_0_41 : FLD SMod 36 (0) 8 41 none := ⟨by decide, _, rfl, rfl⟩
theorem fw_X8_249 : Cond.fieldLink RX8 249 (TX8 41).1 (TX8 41).2.1 (TX8 41).2.2.1 ∈ gw_tbl := tw 724 (by decide +kernel) (by decide +kernel)
theorem ar_SMod_27 : ARR SMod 36 (27) 0 5 := ⟨by decide, rfl⟩
theorem fd_SMod_0_47 : FLD SMod 36 (0) 8 47 (some (.inl (28))) := ⟨by decide, _, rfl, rfl⟩
theorem fw_X8_99 : Cond.fieldLink RX8 99 (TX8 47).1 (TX8 47).2.1 (TX8 47).2.2.1 ∈ gw_tbl := tw 730 (by decide +kernel) (by decide +kernel)
theorem ar_SMod_28 : ARR SMod 36 (28) 0 5 := ⟨by decide, rfl⟩
theorem bp_41 : (Int8.ofInt (41)).toInt32 = 41 := by decide
theorem bp_44 : (Int8.ofInt (44)).toInt32 = 44 := by decide
theorem fd_SMod_0_40 : FLD SMod 36 (0) 8 40 none := ⟨by decide, _, rfl, rfl⟩
theorem fw_X8_259 : Cond.fieldLink RX8 259 (TX8 40).1 (TX8 40).2.1 (TX8 40).2.2.1 ∈ gw_tbl := tw 723 (by decide +kernel) (by decide +kernel)
theorem fd_SMod_0_32 : FLD SMod 36 (0) 8 32 none := ⟨by decide, _, rfl, rfl⟩
theorem fw_X8_170 : Cond.fieldLink RX8 170 (TX8 32).1 (TX8 32).2.1 (TX8 32).2.2.1 ∈ gw_tbl := tw 715 (by decide +kernel) (by decide +kernel)
theorem fd_SMod_0_31 : FLD SMod 36 (0) 8 31 (some (.inl (21))) := ⟨by decide, _, rfl, rfl⟩
theorem fw_X8_77 : Cond.fieldLink RX8 77 (TX8 31).1 (TX8 31).2.1 (TX8 31).2.2.1 ∈ gw_tbl := tw 714 (by decide +kernel) (by decide +kernel)
theorem ml_X8_366 : Cond.methodLink RX8 366 yX8_isTape ∈ gw_tbl := tw 1160 (by decide +kernel) (by decide +kernel)
theorem cb_X8_isTape : CB yX8_isTape cX8_isTape 2 (some .boolean) 1 := ⟨(tw 1162 (by decide +kernel) (by decide +kernel)), (tp 63 (by decide +kernel) (by decide +kernel)), (tw 10 (by decide +kernel) (by decide +kernel)), (tw 1163 (by decide +kernel) (by decide +kernel)), by decide +kernel⟩
theorem fd_SMod_0_54 : FLD SMod 36 (0) 8 54 (some (.inl (35))) := ⟨by decide, _, rfl, rfl⟩
theorem fw_X8_121 : Cond.fieldLink RX8 121 (TX8 54).1 (TX8 54).2.1 (TX8 54).2.2.1 ∈ gw_tbl := tw 737 (by decide +kernel) (by decide +kernel)
theorem ar_SMod_35 : ARR SMod 36 (35) 2 6 := ⟨by decide, rfl⟩
theorem fd_SMod_0_51 : FLD SMod 36 (0) 8 51 (some (.inl (32))) := ⟨by decide, _, rfl, rfl⟩
theorem fw_X8_111 : Cond.fieldLink RX8 111 (TX8 51).1 (TX8 51).2.1 (TX8 51).2.2.1 ∈ gw_tbl := tw 734 (by decide +kernel) (by decide +kernel)
theorem ar_SMod_32 : ARR SMod 36 (32) 0 6 := ⟨by decide, rfl⟩
theorem fd_SMod_0_52 : FLD SMod 36 (0) 8 52 (some (.inl (33))) := ⟨by decide, _, rfl, rfl⟩
theorem fw_X8_114 : Cond.fieldLink RX8 114 (TX8 52).1 (TX8 52).2.1 (TX8 52).2.2.1 ∈ gw_tbl := tw 735 (by decide +kernel) (by decide +kernel)
theorem fd_SMod_0_50 : FLD SMod 36 (0) 8 50 (some (.inl (31))) := ⟨by decide, _, rfl, rfl⟩
theorem fw_X8_108 : Cond.fieldLink RX8 108 (TX8 50).1 (TX8 50).2.1 (TX8 50).2.2.1 ∈ gw_tbl := tw 733 (by decide +kernel) (by decide +kernel)
theorem ar_SMod_31 : ARR SMod 36 (31) 0 6 := ⟨by decide, rfl⟩
theorem ml_X8_371 : Cond.methodLink RX8 371 yX8_narrowed ∈ gw_tbl := tw 1169 (by decide +kernel) (by decide +kernel)
theorem cs_X8_narrowed : CS yX8_narrowed cX8_narrowed 3 (some .long) 2 := ⟨(tw 1170 (by decide +kernel) (by decide +kernel)), (tw 10 (by decide +kernel) (by decide +kernel)), (tw 1171 (by decide +kernel) (by decide +kernel)), by decide +kernel⟩
theorem ar_SMod_33 : ARR SMod 36 (33) 1 360 := ⟨by decide, rfl⟩
theorem fd_SMod_0_48 : FLD SMod 36 (0) 8 48 (some (.inl (29))) := ⟨by decide, _, rfl, rfl⟩
theorem fw_X8_102 : Cond.fieldLink RX8 102 (TX8 48).1 (TX8 48).2.1 (TX8 48).2.2.1 ∈ gw_tbl := tw 731 (by decide +kernel) (by decide +kernel)
theorem ar_SMod_29 : ARR SMod 36 (29) 0 32 := ⟨by decide, rfl⟩
theorem fd_SMod_0_49 : FLD SMod 36 (0) 8 49 (some (.inl (30))) := ⟨by decide, _, rfl, rfl⟩
theorem fw_X8_105 : Cond.fieldLink RX8 105 (TX8 49).1 (TX8 49).2.1 (TX8 49).2.2.1 ∈ gw_tbl := tw 732 (by decide +kernel) (by decide +kernel)
theorem ar_SMod_30 : ARR SMod 36 (30) 0 32 := ⟨by decide, rfl⟩
theorem ml_X8_344 : Cond.methodLink RX8 344 yX8_divisor ∈ gw_tbl := tw 1119 (by decide +kernel) (by decide +kernel)
theorem cs_X8_divisor : CS yX8_divisor cX8_divisor 10 (some .long) 2 := ⟨(tw 1120 (by decide +kernel) (by decide +kernel)), (tw 10 (by decide +kernel) (by decide +kernel)), (tw 1121 (by decide +kernel) (by decide +kernel)), by decide +kernel⟩
theorem ml_X8_333 : Cond.methodLink RX8 333 yX8_doneMany ∈ gw_tbl := tw 1085 (by decide +kernel) (by decide +kernel)
theorem cb_X8_doneMany : CB yX8_doneMany cX8_doneMany 3 (some .int) 0 := ⟨(tw 1087 (by decide +kernel) (by decide +kernel)), (tp 58 (by decide +kernel) (by decide +kernel)), (tw 10 (by decide +kernel) (by decide +kernel)), (tw 1088 (by decide +kernel) (by decide +kernel)), by decide +kernel⟩
theorem ml_X8_352 : Cond.methodLink RX8 352 yX8_partOf ∈ gw_tbl := tw 1116 (by decide +kernel) (by decide +kernel)
theorem cs_X8_partOf : CS yX8_partOf cX8_partOf 7 (some .long) 3 := ⟨(tw 1117 (by decide +kernel) (by decide +kernel)), (tw 10 (by decide +kernel) (by decide +kernel)), (tw 1118 (by decide +kernel) (by decide +kernel)), by decide +kernel⟩
theorem kw_X8_348 : Cond.constantLong RX8 348 (-9223372036854775808) ∈ gw_tbl := tw 1114 (by decide +kernel) (by decide +kernel)
theorem kw_X8_304 : Cond.constantLong RX8 304 (60) ∈ gw_tbl := tw 967 (by decide +kernel) (by decide +kernel)
theorem kw_X8_350 : Cond.constantLong RX8 350 (20) ∈ gw_tbl := tw 1115 (by decide +kernel) (by decide +kernel)
theorem ml_X8_306 : Cond.methodLink RX8 306 yX8_goRounds ∈ gw_tbl := tw 968 (by decide +kernel) (by decide +kernel)
theorem cb_X8_goRounds : CB yX8_goRounds cX8_goRounds 3 none 1 := ⟨(tw 970 (by decide +kernel) (by decide +kernel)), (tp 33 (by decide +kernel) (by decide +kernel)), (tw 10 (by decide +kernel) (by decide +kernel)), (tw 971 (by decide +kernel) (by decide +kernel)), by decide +kernel⟩
theorem ml_X8_278 : Cond.methodLink RX8 278 yX8_laySpans ∈ gw_tbl := tw 938 (by decide +kernel) (by decide +kernel)
theorem cb_X8_laySpans : CB yX8_laySpans cX8_laySpans 3 none 0 := ⟨(tw 940 (by decide +kernel) (by decide +kernel)), (tp 29 (by decide +kernel) (by decide +kernel)), (tw 10 (by decide +kernel) (by decide +kernel)), (tw 941 (by decide +kernel) (by decide +kernel)), by decide +kernel⟩
theorem ml_X8_281 : Cond.methodLink RX8 281 yX8_depthOf ∈ gw_tbl := tw 942 (by decide +kernel) (by decide +kernel)
theorem cb_X8_depthOf : CB yX8_depthOf cX8_depthOf 4 (some .int) 1 := ⟨(tw 944 (by decide +kernel) (by decide +kernel)), (tp 30 (by decide +kernel) (by decide +kernel)), (tw 10 (by decide +kernel) (by decide +kernel)), (tw 945 (by decide +kernel) (by decide +kernel)), by decide +kernel⟩
theorem ml_X8_284 : Cond.methodLink RX8 284 yX8_workedBy ∈ gw_tbl := tw 946 (by decide +kernel) (by decide +kernel)
theorem cb_X8_workedBy : CB yX8_workedBy cX8_workedBy 4 (some .int) 1 := ⟨(tw 948 (by decide +kernel) (by decide +kernel)), (tp 31 (by decide +kernel) (by decide +kernel)), (tw 10 (by decide +kernel) (by decide +kernel)), (tw 949 (by decide +kernel) (by decide +kernel)), by decide +kernel⟩
theorem ml_X8_287 : Cond.methodLink RX8 287 yX8_rowOf ∈ gw_tbl := tw 950 (by decide +kernel) (by decide +kernel)
theorem cb_X8_rowOf : CB yX8_rowOf cX8_rowOf 5 (some .int) 1 := ⟨(tw 952 (by decide +kernel) (by decide +kernel)), (tp 32 (by decide +kernel) (by decide +kernel)), (tw 10 (by decide +kernel) (by decide +kernel)), (tw 953 (by decide +kernel) (by decide +kernel)), by decide +kernel⟩
theorem kw_X8_293 : Cond.constantLong RX8 293 (11) ∈ gw_tbl := tw 929 (by decide +kernel) (by decide +kernel)
theorem ml_X8_295 : Cond.methodLink RX8 295 yX8_manyIn ∈ gw_tbl := tw 930 (by decide +kernel) (by decide +kernel)
theorem cb_X8_manyIn : CB yX8_manyIn cX8_manyIn 4 (some .int) 1 := ⟨(tw 932 (by decide +kernel) (by decide +kernel)), (tp 27 (by decide +kernel) (by decide +kernel)), (tw 10 (by decide +kernel) (by decide +kernel)), (tw 933 (by decide +kernel) (by decide +kernel)), by decide +kernel⟩
theorem ml_X8_298 : Cond.methodLink RX8 298 yX8_treeOf ∈ gw_tbl := tw 934 (by decide +kernel) (by decide +kernel)
theorem cb_X8_treeOf : CB yX8_treeOf cX8_treeOf 3 (some .int) 2 := ⟨(tw 936 (by decide +kernel) (by decide +kernel)), (tp 28 (by decide +kernel) (by decide +kernel)), (tw 10 (by decide +kernel) (by decide +kernel)), (tw 937 (by decide +kernel) (by decide +kernel)), by decide +kernel⟩
theorem ml_X8_336 : Cond.methodLink RX8 336 yX8_ofArms ∈ gw_tbl := tw 1089 (by decide +kernel) (by decide +kernel)
theorem cb_X8_ofArms : CB yX8_ofArms cX8_ofArms 4 (some .int) 1 := ⟨(tw 1091 (by decide +kernel) (by decide +kernel)), (tp 59 (by decide +kernel) (by decide +kernel)), (tw 10 (by decide +kernel) (by decide +kernel)), (tw 1092 (by decide +kernel) (by decide +kernel)), by decide +kernel⟩
theorem kw_X8_359 : Cond.constantLong RX8 359 (2) ∈ gw_tbl := tw 1134 (by decide +kernel) (by decide +kernel)
theorem kw_X8_255 : Cond.constantLong RX8 255 (49) ∈ gw_tbl := tw 915 (by decide +kernel) (by decide +kernel)
theorem kw_X8_257 : Cond.constantLong RX8 257 (57) ∈ gw_tbl := tw 916 (by decide +kernel) (by decide +kernel)
theorem fd_SMod_0_42 : FLD SMod 36 (0) 8 42 (some (.inl (24))) := ⟨by decide, _, rfl, rfl⟩
theorem fw_X8_87 : Cond.fieldLink RX8 87 (TX8 42).1 (TX8 42).2.1 (TX8 42).2.2.1 ∈ gw_tbl := tw 725 (by decide +kernel) (by decide +kernel)
theorem ar_SMod_24 : ARR SMod 36 (24) 0 101 := ⟨by decide, rfl⟩
theorem fd_SMod_0_44 : FLD SMod 36 (0) 8 44 (some (.inl (26))) := ⟨by decide, _, rfl, rfl⟩
theorem fw_X8_93 : Cond.fieldLink RX8 93 (TX8 44).1 (TX8 44).2.1 (TX8 44).2.2.1 ∈ gw_tbl := tw 727 (by decide +kernel) (by decide +kernel)
theorem ar_SMod_26 : ARR SMod 36 (26) 0 101 := ⟨by decide, rfl⟩
theorem fd_SMod_0_43 : FLD SMod 36 (0) 8 43 (some (.inl (25))) := ⟨by decide, _, rfl, rfl⟩
theorem fw_X8_90 : Cond.fieldLink RX8 90 (TX8 43).1 (TX8 43).2.1 (TX8 43).2.2.1 ∈ gw_tbl := tw 726 (by decide +kernel) (by decide +kernel)
theorem ar_SMod_25 : ARR SMod 36 (25) 0 101 := ⟨by decide, rfl⟩
theorem bp_33 : (Int8.ofInt (33)).toInt32 = 33 := by decide
theorem bp_63 : (Int8.ofInt (63)).toInt32 = 63 := by decide
theorem ml_X8_265 : Cond.methodLink RX8 265 yX8_readTask ∈ gw_tbl := tw 907 (by decide +kernel) (by decide +kernel)
theorem cb_X8_readTask : CB yX8_readTask cX8_readTask 2 none 0 := ⟨(tw 909 (by decide +kernel) (by decide +kernel)), (tp 23 (by decide +kernel) (by decide +kernel)), (tw 10 (by decide +kernel) (by decide +kernel)), (tw 910 (by decide +kernel) (by decide +kernel)), by decide +kernel⟩
theorem ml_X8_268 : Cond.methodLink RX8 268 yX8_goesOn ∈ gw_tbl := tw 917 (by decide +kernel) (by decide +kernel)
theorem cb_X8_goesOn : CB yX8_goesOn cX8_goesOn 1 (some .boolean) 0 := ⟨(tw 919 (by decide +kernel) (by decide +kernel)), (tp 25 (by decide +kernel) (by decide +kernel)), (tw 10 (by decide +kernel) (by decide +kernel)), (tw 920 (by decide +kernel) (by decide +kernel)), by decide +kernel⟩
theorem kw_X8_339 : Cond.constantLong RX8 339 (39) ∈ gw_tbl := tw 1101 (by decide +kernel) (by decide +kernel)
theorem bp_30 : (Int8.ofInt (30)).toInt32 = 30 := by decide
theorem ml_X8_341 : Cond.methodLink RX8 341 yX8_allSeen ∈ gw_tbl := tw 1106 (by decide +kernel) (by decide +kernel)
theorem cb_X8_allSeen : CB yX8_allSeen cX8_allSeen 4 (some .boolean) 1 := ⟨(tw 1108 (by decide +kernel) (by decide +kernel)), (tp 60 (by decide +kernel) (by decide +kernel)), (tw 10 (by decide +kernel) (by decide +kernel)), (tw 1109 (by decide +kernel) (by decide +kernel)), by decide +kernel⟩
theorem fd_SMod_0_53 : FLD SMod 36 (0) 8 53 (some (.inl (34))) := ⟨by decide, _, rfl, rfl⟩
theorem fw_X8_118 : Cond.fieldLink RX8 118 (TX8 53).1 (TX8 53).2.1 (TX8 53).2.2.1 ∈ gw_tbl := tw 736 (by decide +kernel) (by decide +kernel)
theorem ar_SMod_34 : ARR SMod 36 (34) 1 60 := ⟨by decide, rfl⟩
theorem kw_X8_369 : Cond.constantLong RX8 369 (-1) ∈ gw_tbl := tw 1164 (by decide +kernel) (by decide +kernel)
theorem ml_X8_327 : Cond.methodLink RX8 327 yX8_bestArms ∈ gw_tbl := tw 1069 (by decide +kernel) (by decide +kernel)
theorem cb_X8_bestArms : CB yX8_bestArms cX8_bestArms 5 (some .int) 0 := ⟨(tw 1071 (by decide +kernel) (by decide +kernel)), (tp 56 (by decide +kernel) (by decide +kernel)), (tw 10 (by decide +kernel) (by decide +kernel)), (tw 1072 (by decide +kernel) (by decide +kernel)), by decide +kernel⟩
theorem ml_X8_275 : Cond.methodLink RX8 275 yX8_readTree ∈ gw_tbl := tw 903 (by decide +kernel) (by decide +kernel)
theorem cb_X8_readTree : CB yX8_readTree cX8_readTree 2 (some .boolean) 0 := ⟨(tw 905 (by decide +kernel) (by decide +kernel)), (tp 22 (by decide +kernel) (by decide +kernel)), (tw 10 (by decide +kernel) (by decide +kernel)), (tw 906 (by decide +kernel) (by decide +kernel)), by decide +kernel⟩
end
