/-- a private method of a class that the tables say can be made, by its rows of tables_1 -/
def lw_okq (q : MethodName × Nat) : Prop := (q.1.cls ≠ "java/lang/invoke/MethodHandle" ∧ q.1.cls ≠ "java/lang/invoke/VarHandle") ∧ Cond.instantiable q.1.cls q.2 ∈ tables_1 ∧ Cond.privateMethod q.1 ∈ tables_1 ∧ Cond.instanceMethod q.1 ∈ tables_1
theorem lw_p0 : lw_okq (⟨"BoatsCalledIn$Tape", "step", "()V"⟩, 9) := ⟨⟨by decide +kernel, by decide +kernel⟩, List.mem_of_getElem? (i := 32) (by decide +kernel), List.mem_of_getElem? (i := 169) (by decide +kernel), List.mem_of_getElem? (i := 170) (by decide +kernel)⟩
theorem lw_p1 : lw_okq (⟨"BoatsCalledIn$Tape", "takeWord", "()V"⟩, 9) := ⟨⟨by decide +kernel, by decide +kernel⟩, List.mem_of_getElem? (i := 32) (by decide +kernel), List.mem_of_getElem? (i := 176) (by decide +kernel), List.mem_of_getElem? (i := 177) (by decide +kernel)⟩
theorem lw_p2 : lw_okq (⟨"BoatsCalledIn$Tape", "isSpelled", "(Ljava/lang/String;)Z"⟩, 9) := ⟨⟨by decide +kernel, by decide +kernel⟩, List.mem_of_getElem? (i := 32) (by decide +kernel), List.mem_of_getElem? (i := 195) (by decide +kernel), List.mem_of_getElem? (i := 196) (by decide +kernel)⟩
theorem lw_p3 : lw_okq (⟨"BoatsCalledIn$Tape", "takeNumber", "()V"⟩, 9) := ⟨⟨by decide +kernel, by decide +kernel⟩, List.mem_of_getElem? (i := 32) (by decide +kernel), List.mem_of_getElem? (i := 204) (by decide +kernel), List.mem_of_getElem? (i := 205) (by decide +kernel)⟩
theorem lw_p4 : lw_okq (⟨"BoatsCalledIn$Tape", "clauseOf", "(I)Z"⟩, 9) := ⟨⟨by decide +kernel, by decide +kernel⟩, List.mem_of_getElem? (i := 32) (by decide +kernel), List.mem_of_getElem? (i := 211) (by decide +kernel), List.mem_of_getElem? (i := 212) (by decide +kernel)⟩
theorem lw_p5 : lw_okq (⟨"BoatsCalledIn$Tape", "skip", "(I)Z"⟩, 9) := ⟨⟨by decide +kernel, by decide +kernel⟩, List.mem_of_getElem? (i := 32) (by decide +kernel), List.mem_of_getElem? (i := 215) (by decide +kernel), List.mem_of_getElem? (i := 216) (by decide +kernel)⟩
theorem lw_p6 : lw_okq (⟨"BoatsCalledIn$Tape", "either", "(I)Z"⟩, 9) := ⟨⟨by decide +kernel, by decide +kernel⟩, List.mem_of_getElem? (i := 32) (by decide +kernel), List.mem_of_getElem? (i := 219) (by decide +kernel), List.mem_of_getElem? (i := 220) (by decide +kernel)⟩
theorem lw_p7 : lw_okq (⟨"BoatsCalledIn$Tape", "both", "(I)Z"⟩, 9) := ⟨⟨by decide +kernel, by decide +kernel⟩, List.mem_of_getElem? (i := 32) (by decide +kernel), List.mem_of_getElem? (i := 223) (by decide +kernel), List.mem_of_getElem? (i := 224) (by decide +kernel)⟩
theorem lw_p8 : lw_okq (⟨"BoatsCalledIn$Tape", "denied", "(I)Z"⟩, 9) := ⟨⟨by decide +kernel, by decide +kernel⟩, List.mem_of_getElem? (i := 32) (by decide +kernel), List.mem_of_getElem? (i := 227) (by decide +kernel), List.mem_of_getElem? (i := 228) (by decide +kernel)⟩
theorem lw_p9 : lw_okq (⟨"BoatsCalledIn$Tape", "compared", "(I)Z"⟩, 9) := ⟨⟨by decide +kernel, by decide +kernel⟩, List.mem_of_getElem? (i := 32) (by decide +kernel), List.mem_of_getElem? (i := 231) (by decide +kernel), List.mem_of_getElem? (i := 232) (by decide +kernel)⟩
theorem lw_p10 : lw_okq (⟨"BoatsCalledIn$Tape", "sum", "(I)Z"⟩, 9) := ⟨⟨by decide +kernel, by decide +kernel⟩, List.mem_of_getElem? (i := 32) (by decide +kernel), List.mem_of_getElem? (i := 235) (by decide +kernel), List.mem_of_getElem? (i := 236) (by decide +kernel)⟩
theorem lw_p11 : lw_okq (⟨"BoatsCalledIn$Tape", "product", "(I)Z"⟩, 9) := ⟨⟨by decide +kernel, by decide +kernel⟩, List.mem_of_getElem? (i := 32) (by decide +kernel), List.mem_of_getElem? (i := 239) (by decide +kernel), List.mem_of_getElem? (i := 240) (by decide +kernel)⟩
theorem lw_p12 : lw_okq (⟨"BoatsCalledIn$Tape", "single", "(I)Z"⟩, 9) := ⟨⟨by decide +kernel, by decide +kernel⟩, List.mem_of_getElem? (i := 32) (by decide +kernel), List.mem_of_getElem? (i := 243) (by decide +kernel), List.mem_of_getElem? (i := 244) (by decide +kernel)⟩
theorem lw_p13 : lw_okq (⟨"BoatsCalledIn$Tape", "put", "(I)V"⟩, 9) := ⟨⟨by decide +kernel, by decide +kernel⟩, List.mem_of_getElem? (i := 32) (by decide +kernel), List.mem_of_getElem? (i := 247) (by decide +kernel), List.mem_of_getElem? (i := 248) (by decide +kernel)⟩
theorem lw_p14 : lw_okq (⟨"BoatsCalledIn$Tape", "emit", "(I)V"⟩, 9) := ⟨⟨by decide +kernel, by decide +kernel⟩, List.mem_of_getElem? (i := 32) (by decide +kernel), List.mem_of_getElem? (i := 251) (by decide +kernel), List.mem_of_getElem? (i := 252) (by decide +kernel)⟩
theorem lw_p15 : lw_okq (⟨"BoatsCalledIn", "isBoat", "(I)Z"⟩, 12) := ⟨⟨by decide +kernel, by decide +kernel⟩, List.mem_of_getElem? (i := 22) (by decide +kernel), List.mem_of_getElem? (i := 418) (by decide +kernel), List.mem_of_getElem? (i := 419) (by decide +kernel)⟩
def lw_privs_1 : List (MethodName × Nat) := [(⟨"BoatsCalledIn$Tape", "step", "()V"⟩, 9), (⟨"BoatsCalledIn$Tape", "takeWord", "()V"⟩, 9), (⟨"BoatsCalledIn$Tape", "isSpelled", "(Ljava/lang/String;)Z"⟩, 9), (⟨"BoatsCalledIn$Tape", "takeNumber", "()V"⟩, 9), (⟨"BoatsCalledIn$Tape", "clauseOf", "(I)Z"⟩, 9), (⟨"BoatsCalledIn$Tape", "skip", "(I)Z"⟩, 9), (⟨"BoatsCalledIn$Tape", "either", "(I)Z"⟩, 9), (⟨"BoatsCalledIn$Tape", "both", "(I)Z"⟩, 9), (⟨"BoatsCalledIn$Tape", "denied", "(I)Z"⟩, 9), (⟨"BoatsCalledIn$Tape", "compared", "(I)Z"⟩, 9), (⟨"BoatsCalledIn$Tape", "sum", "(I)Z"⟩, 9), (⟨"BoatsCalledIn$Tape", "product", "(I)Z"⟩, 9), (⟨"BoatsCalledIn$Tape", "single", "(I)Z"⟩, 9), (⟨"BoatsCalledIn$Tape", "put", "(I)V"⟩, 9), (⟨"BoatsCalledIn$Tape", "emit", "(I)V"⟩, 9), (⟨"BoatsCalledIn", "isBoat", "(I)Z"⟩, 12)]
theorem lw_r1 : ∀ q ∈ lw_privs_1, lw_okq q := List.forall_mem_cons.mpr ⟨lw_p0, List.forall_mem_cons.mpr ⟨lw_p1, List.forall_mem_cons.mpr ⟨lw_p2, List.forall_mem_cons.mpr ⟨lw_p3, List.forall_mem_cons.mpr ⟨lw_p4, List.forall_mem_cons.mpr ⟨lw_p5, List.forall_mem_cons.mpr ⟨lw_p6, List.forall_mem_cons.mpr ⟨lw_p7, List.forall_mem_cons.mpr ⟨lw_p8, List.forall_mem_cons.mpr ⟨lw_p9, List.forall_mem_cons.mpr ⟨lw_p10, List.forall_mem_cons.mpr ⟨lw_p11, List.forall_mem_cons.mpr ⟨lw_p12, List.forall_mem_cons.mpr ⟨lw_p13, List.forall_mem_cons.mpr ⟨lw_p14, List.forall_mem_cons.mpr ⟨lw_p15, fun _ h => absurd h List.not_mem_nil⟩⟩⟩⟩⟩⟩⟩⟩⟩⟩⟩⟩⟩⟩⟩⟩
theorem lw_p16 : lw_okq (⟨"BoatsCalledIn", "wouldComeNow", "(I)Z"⟩, 12) := ⟨⟨by decide +kernel, by decide +kernel⟩, List.mem_of_getElem? (i := 22) (by decide +kernel), List.mem_of_getElem? (i := 513) (by decide +kernel), List.mem_of_getElem? (i := 514) (by decide +kernel)⟩
theorem lw_p17 : lw_okq (⟨"BoatsCalledIn", "wouldCome", "(IIII)Z"⟩, 12) := ⟨⟨by decide +kernel, by decide +kernel⟩, List.mem_of_getElem? (i := 22) (by decide +kernel), List.mem_of_getElem? (i := 517) (by decide +kernel), List.mem_of_getElem? (i := 518) (by decide +kernel)⟩
theorem lw_p18 : lw_okq (⟨"BoatsCalledIn", "nameAll", "(IIII)V"⟩, 12) := ⟨⟨by decide +kernel, by decide +kernel⟩, List.mem_of_getElem? (i := 22) (by decide +kernel), List.mem_of_getElem? (i := 527) (by decide +kernel), List.mem_of_getElem? (i := 528) (by decide +kernel)⟩
theorem lw_p19 : lw_okq (⟨"BoatsCalledIn", "isHidden", "(I)Z"⟩, 12) := ⟨⟨by decide +kernel, by decide +kernel⟩, List.mem_of_getElem? (i := 22) (by decide +kernel), List.mem_of_getElem? (i := 541) (by decide +kernel), List.mem_of_getElem? (i := 542) (by decide +kernel)⟩
theorem lw_p20 : lw_okq (⟨"BoatsCalledIn", "rule", "()LBoatsCalledIn$Rule;"⟩, 12) := ⟨⟨by decide +kernel, by decide +kernel⟩, List.mem_of_getElem? (i := 22) (by decide +kernel), List.mem_of_getElem? (i := 545) (by decide +kernel), List.mem_of_getElem? (i := 546) (by decide +kernel)⟩
theorem lw_p21 : lw_okq (⟨"BoatsCalledIn$Rule", "push", "(I)V"⟩, 4) := ⟨⟨by decide +kernel, by decide +kernel⟩, List.mem_of_getElem? (i := 259) (by decide +kernel), List.mem_of_getElem? (i := 553) (by decide +kernel), List.mem_of_getElem? (i := 554) (by decide +kernel)⟩
theorem lw_p22 : lw_okq (⟨"BoatsCalledIn$Rule", "pop", "()I"⟩, 4) := ⟨⟨by decide +kernel, by decide +kernel⟩, List.mem_of_getElem? (i := 259) (by decide +kernel), List.mem_of_getElem? (i := 557) (by decide +kernel), List.mem_of_getElem? (i := 558) (by decide +kernel)⟩
theorem lw_p23 : lw_okq (⟨"BoatsCalledIn", "owed", "(II)I"⟩, 12) := ⟨⟨by decide +kernel, by decide +kernel⟩, List.mem_of_getElem? (i := 22) (by decide +kernel), List.mem_of_getElem? (i := 564) (by decide +kernel), List.mem_of_getElem? (i := 565) (by decide +kernel)⟩
theorem lw_p24 : lw_okq (⟨"BoatsCalledIn", "isOnTheLake", "(I)Z"⟩, 12) := ⟨⟨by decide +kernel, by decide +kernel⟩, List.mem_of_getElem? (i := 22) (by decide +kernel), List.mem_of_getElem? (i := 617) (by decide +kernel), List.mem_of_getElem? (i := 618) (by decide +kernel)⟩
theorem lw_p25 : lw_okq (⟨"BoatsCalledIn", "needs", "(I)I"⟩, 12) := ⟨⟨by decide +kernel, by decide +kernel⟩, List.mem_of_getElem? (i := 22) (by decide +kernel), List.mem_of_getElem? (i := 621) (by decide +kernel), List.mem_of_getElem? (i := 622) (by decide +kernel)⟩
theorem lw_p26 : lw_okq (⟨"BoatsCalledIn", "pass", "(I)I"⟩, 12) := ⟨⟨by decide +kernel, by decide +kernel⟩, List.mem_of_getElem? (i := 22) (by decide +kernel), List.mem_of_getElem? (i := 629) (by decide +kernel), List.mem_of_getElem? (i := 630) (by decide +kernel)⟩
theorem lw_p27 : lw_okq (⟨"BoatsCalledIn", "comeIn", "(II)V"⟩, 12) := ⟨⟨by decide +kernel, by decide +kernel⟩, List.mem_of_getElem? (i := 22) (by decide +kernel), List.mem_of_getElem? (i := 633) (by decide +kernel), List.mem_of_getElem? (i := 634) (by decide +kernel)⟩
theorem lw_p28 : lw_okq (⟨"BoatsCalledIn", "comingAt", "(I)I"⟩, 12) := ⟨⟨by decide +kernel, by decide +kernel⟩, List.mem_of_getElem? (i := 22) (by decide +kernel), List.mem_of_getElem? (i := 649) (by decide +kernel), List.mem_of_getElem? (i := 650) (by decide +kernel)⟩
theorem lw_p29 : lw_okq (⟨"BoatsCalledIn", "areOnTheLake", "(I)Z"⟩, 12) := ⟨⟨by decide +kernel, by decide +kernel⟩, List.mem_of_getElem? (i := 22) (by decide +kernel), List.mem_of_getElem? (i := 657) (by decide +kernel), List.mem_of_getElem? (i := 658) (by decide +kernel)⟩
theorem lw_p30 : lw_okq (⟨"BoatsCalledIn", "those", "(I)I"⟩, 12) := ⟨⟨by decide +kernel, by decide +kernel⟩, List.mem_of_getElem? (i := 22) (by decide +kernel), List.mem_of_getElem? (i := 661) (by decide +kernel), List.mem_of_getElem? (i := 662) (by decide +kernel)⟩
theorem lw_p31 : lw_okq (⟨"BoatsCalledIn", "readyTug", "()V"⟩, 12) := ⟨⟨by decide +kernel, by decide +kernel⟩, List.mem_of_getElem? (i := 22) (by decide +kernel), List.mem_of_getElem? (i := 665) (by decide +kernel), List.mem_of_getElem? (i := 666) (by decide +kernel)⟩
def lw_privs_2 : List (MethodName × Nat) := [(⟨"BoatsCalledIn", "wouldComeNow", "(I)Z"⟩, 12), (⟨"BoatsCalledIn", "wouldCome", "(IIII)Z"⟩, 12), (⟨"BoatsCalledIn", "nameAll", "(IIII)V"⟩, 12), (⟨"BoatsCalledIn", "isHidden", "(I)Z"⟩, 12), (⟨"BoatsCalledIn", "rule", "()LBoatsCalledIn$Rule;"⟩, 12), (⟨"BoatsCalledIn$Rule", "push", "(I)V"⟩, 4), (⟨"BoatsCalledIn$Rule", "pop", "()I"⟩, 4), (⟨"BoatsCalledIn", "owed", "(II)I"⟩, 12), (⟨"BoatsCalledIn", "isOnTheLake", "(I)Z"⟩, 12), (⟨"BoatsCalledIn", "needs", "(I)I"⟩, 12), (⟨"BoatsCalledIn", "pass", "(I)I"⟩, 12), (⟨"BoatsCalledIn", "comeIn", "(II)V"⟩, 12), (⟨"BoatsCalledIn", "comingAt", "(I)I"⟩, 12), (⟨"BoatsCalledIn", "areOnTheLake", "(I)Z"⟩, 12), (⟨"BoatsCalledIn", "those", "(I)I"⟩, 12), (⟨"BoatsCalledIn", "readyTug", "()V"⟩, 12)]
theorem lw_r2 : ∀ q ∈ lw_privs_2, lw_okq q := List.forall_mem_cons.mpr ⟨lw_p16, List.forall_mem_cons.mpr ⟨lw_p17, List.forall_mem_cons.mpr ⟨lw_p18, List.forall_mem_cons.mpr ⟨lw_p19, List.forall_mem_cons.mpr ⟨lw_p20, List.forall_mem_cons.mpr ⟨lw_p21, List.forall_mem_cons.mpr ⟨lw_p22, List.forall_mem_cons.mpr ⟨lw_p23, List.forall_mem_cons.mpr ⟨lw_p24, List.forall_mem_cons.mpr ⟨lw_p25, List.forall_mem_cons.mpr ⟨lw_p26, List.forall_mem_cons.mpr ⟨lw_p27, List.forall_mem_cons.mpr ⟨lw_p28, List.forall_mem_cons.mpr ⟨lw_p29, List.forall_mem_cons.mpr ⟨lw_p30, List.forall_mem_cons.mpr ⟨lw_p31, fun _ h => absurd h List.not_mem_nil⟩⟩⟩⟩⟩⟩⟩⟩⟩⟩⟩⟩⟩⟩⟩⟩
theorem lw_p32 : lw_okq (⟨"BoatsCalledIn$Tug", "best", "(III)I"⟩, 4) := ⟨⟨by decide +kernel, by decide +kernel⟩, List.mem_of_getElem? (i := 70) (by decide +kernel), List.mem_of_getElem? (i := 673) (by decide +kernel), List.mem_of_getElem? (i := 674) (by decide +kernel)⟩
theorem lw_p33 : lw_okq (⟨"BoatsCalledIn$Tug", "through", "(IIII)I"⟩, 4) := ⟨⟨by decide +kernel, by decide +kernel⟩, List.mem_of_getElem? (i := 70) (by decide +kernel), List.mem_of_getElem? (i := 677) (by decide +kernel), List.mem_of_getElem? (i := 678) (by decide +kernel)⟩
theorem lw_p34 : lw_okq (⟨"BoatsCalledIn", "inBy", "(I)I"⟩, 12) := ⟨⟨by decide +kernel, by decide +kernel⟩, List.mem_of_getElem? (i := 22) (by decide +kernel), List.mem_of_getElem? (i := 705) (by decide +kernel), List.mem_of_getElem? (i := 706) (by decide +kernel)⟩
theorem lw_p35 : lw_okq (⟨"BoatsCalledIn", "mostFetched", "(II)I"⟩, 12) := ⟨⟨by decide +kernel, by decide +kernel⟩, List.mem_of_getElem? (i := 22) (by decide +kernel), List.mem_of_getElem? (i := 710) (by decide +kernel), List.mem_of_getElem? (i := 711) (by decide +kernel)⟩
theorem lw_p36 : lw_okq (⟨"BoatsCalledIn", "orderComing", "()I"⟩, 12) := ⟨⟨by decide +kernel, by decide +kernel⟩, List.mem_of_getElem? (i := 22) (by decide +kernel), List.mem_of_getElem? (i := 719) (by decide +kernel), List.mem_of_getElem? (i := 720) (by decide +kernel)⟩
theorem lw_p37 : lw_okq (⟨"BoatsCalledIn", "putInOrder", "(II)V"⟩, 12) := ⟨⟨by decide +kernel, by decide +kernel⟩, List.mem_of_getElem? (i := 22) (by decide +kernel), List.mem_of_getElem? (i := 723) (by decide +kernel), List.mem_of_getElem? (i := 724) (by decide +kernel)⟩
theorem lw_p38 : lw_okq (⟨"BoatsCalledIn", "isTrue", "(II)Z"⟩, 12) := ⟨⟨by decide +kernel, by decide +kernel⟩, List.mem_of_getElem? (i := 22) (by decide +kernel), List.mem_of_getElem? (i := 746) (by decide +kernel), List.mem_of_getElem? (i := 747) (by decide +kernel)⟩
theorem lw_p39 : lw_okq (⟨"BoatsCalledInModel", "next", "()V"⟩, 40) := ⟨⟨by decide +kernel, by decide +kernel⟩, List.mem_of_getElem? (i := 842) (by decide +kernel), List.mem_of_getElem? (i := 862) (by decide +kernel), List.mem_of_getElem? (i := 863) (by decide +kernel)⟩
theorem lw_p40 : lw_okq (⟨"BoatsCalledInModel", "part", "(Ljava/lang/String;I)Z"⟩, 40) := ⟨⟨by decide +kernel, by decide +kernel⟩, List.mem_of_getElem? (i := 842) (by decide +kernel), List.mem_of_getElem? (i := 873) (by decide +kernel), List.mem_of_getElem? (i := 874) (by decide +kernel)⟩
theorem lw_p41 : lw_okq (⟨"BoatsCalledInModel", "is", "(Ljava/lang/String;)Z"⟩, 40) := ⟨⟨by decide +kernel, by decide +kernel⟩, List.mem_of_getElem? (i := 842) (by decide +kernel), List.mem_of_getElem? (i := 877) (by decide +kernel), List.mem_of_getElem? (i := 878) (by decide +kernel)⟩
theorem lw_p42 : lw_okq (⟨"BoatsCalledInModel", "any", "()Z"⟩, 40) := ⟨⟨by decide +kernel, by decide +kernel⟩, List.mem_of_getElem? (i := 842) (by decide +kernel), List.mem_of_getElem? (i := 881) (by decide +kernel), List.mem_of_getElem? (i := 882) (by decide +kernel)⟩
theorem lw_p43 : lw_okq (⟨"BoatsCalledInModel", "both", "()Z"⟩, 40) := ⟨⟨by decide +kernel, by decide +kernel⟩, List.mem_of_getElem? (i := 842) (by decide +kernel), List.mem_of_getElem? (i := 885) (by decide +kernel), List.mem_of_getElem? (i := 886) (by decide +kernel)⟩
theorem lw_p44 : lw_okq (⟨"BoatsCalledInModel", "not", "()Z"⟩, 40) := ⟨⟨by decide +kernel, by decide +kernel⟩, List.mem_of_getElem? (i := 842) (by decide +kernel), List.mem_of_getElem? (i := 889) (by decide +kernel), List.mem_of_getElem? (i := 890) (by decide +kernel)⟩
theorem lw_p45 : lw_okq (⟨"BoatsCalledInModel", "put", "(I)V"⟩, 40) := ⟨⟨by decide +kernel, by decide +kernel⟩, List.mem_of_getElem? (i := 842) (by decide +kernel), List.mem_of_getElem? (i := 894) (by decide +kernel), List.mem_of_getElem? (i := 895) (by decide +kernel)⟩
theorem lw_p46 : lw_okq (⟨"BoatsCalledInModel", "sum", "()Z"⟩, 40) := ⟨⟨by decide +kernel, by decide +kernel⟩, List.mem_of_getElem? (i := 842) (by decide +kernel), List.mem_of_getElem? (i := 898) (by decide +kernel), List.mem_of_getElem? (i := 899) (by decide +kernel)⟩
theorem lw_p47 : lw_okq (⟨"BoatsCalledInModel", "term", "()Z"⟩, 40) := ⟨⟨by decide +kernel, by decide +kernel⟩, List.mem_of_getElem? (i := 842) (by decide +kernel), List.mem_of_getElem? (i := 902) (by decide +kernel), List.mem_of_getElem? (i := 903) (by decide +kernel)⟩
def lw_privs_3 : List (MethodName × Nat) := [(⟨"BoatsCalledIn$Tug", "best", "(III)I"⟩, 4), (⟨"BoatsCalledIn$Tug", "through", "(IIII)I"⟩, 4), (⟨"BoatsCalledIn", "inBy", "(I)I"⟩, 12), (⟨"BoatsCalledIn", "mostFetched", "(II)I"⟩, 12), (⟨"BoatsCalledIn", "orderComing", "()I"⟩, 12), (⟨"BoatsCalledIn", "putInOrder", "(II)V"⟩, 12), (⟨"BoatsCalledIn", "isTrue", "(II)Z"⟩, 12), (⟨"BoatsCalledInModel", "next", "()V"⟩, 40), (⟨"BoatsCalledInModel", "part", "(Ljava/lang/String;I)Z"⟩, 40), (⟨"BoatsCalledInModel", "is", "(Ljava/lang/String;)Z"⟩, 40), (⟨"BoatsCalledInModel", "any", "()Z"⟩, 40), (⟨"BoatsCalledInModel", "both", "()Z"⟩, 40), (⟨"BoatsCalledInModel", "not", "()Z"⟩, 40), (⟨"BoatsCalledInModel", "put", "(I)V"⟩, 40), (⟨"BoatsCalledInModel", "sum", "()Z"⟩, 40), (⟨"BoatsCalledInModel", "term", "()Z"⟩, 40)]
theorem lw_r3 : ∀ q ∈ lw_privs_3, lw_okq q := List.forall_mem_cons.mpr ⟨lw_p32, List.forall_mem_cons.mpr ⟨lw_p33, List.forall_mem_cons.mpr ⟨lw_p34, List.forall_mem_cons.mpr ⟨lw_p35, List.forall_mem_cons.mpr ⟨lw_p36, List.forall_mem_cons.mpr ⟨lw_p37, List.forall_mem_cons.mpr ⟨lw_p38, List.forall_mem_cons.mpr ⟨lw_p39, List.forall_mem_cons.mpr ⟨lw_p40, List.forall_mem_cons.mpr ⟨lw_p41, List.forall_mem_cons.mpr ⟨lw_p42, List.forall_mem_cons.mpr ⟨lw_p43, List.forall_mem_cons.mpr ⟨lw_p44, List.forall_mem_cons.mpr ⟨lw_p45, List.forall_mem_cons.mpr ⟨lw_p46, List.forall_mem_cons.mpr ⟨lw_p47, fun _ h => absurd h List.not_mem_nil⟩⟩⟩⟩⟩⟩⟩⟩⟩⟩⟩⟩⟩⟩⟩⟩
theorem lw_p48 : lw_okq (⟨"BoatsCalledInModel", "one", "()Z"⟩, 40) := ⟨⟨by decide +kernel, by decide +kernel⟩, List.mem_of_getElem? (i := 842) (by decide +kernel), List.mem_of_getElem? (i := 906) (by decide +kernel), List.mem_of_getElem? (i := 907) (by decide +kernel)⟩
theorem lw_p49 : lw_okq (⟨"BoatsCalledInModel", "name", "()I"⟩, 40) := ⟨⟨by decide +kernel, by decide +kernel⟩, List.mem_of_getElem? (i := 842) (by decide +kernel), List.mem_of_getElem? (i := 910) (by decide +kernel), List.mem_of_getElem? (i := 911) (by decide +kernel)⟩
theorem lw_p50 : lw_okq (⟨"BoatsCalledInModel", "is", "(C)Z"⟩, 40) := ⟨⟨by decide +kernel, by decide +kernel⟩, List.mem_of_getElem? (i := 842) (by decide +kernel), List.mem_of_getElem? (i := 920) (by decide +kernel), List.mem_of_getElem? (i := 921) (by decide +kernel)⟩
theorem lw_p51 : lw_okq (⟨"BoatsCalledInModel", "isBoat", "(I)Z"⟩, 40) := ⟨⟨by decide +kernel, by decide +kernel⟩, List.mem_of_getElem? (i := 842) (by decide +kernel), List.mem_of_getElem? (i := 1058) (by decide +kernel), List.mem_of_getElem? (i := 1059) (by decide +kernel)⟩
theorem lw_p52 : lw_okq (⟨"BoatsCalledInModel", "rows", "(I)I"⟩, 40) := ⟨⟨by decide +kernel, by decide +kernel⟩, List.mem_of_getElem? (i := 842) (by decide +kernel), List.mem_of_getElem? (i := 1066) (by decide +kernel), List.mem_of_getElem? (i := 1067) (by decide +kernel)⟩
theorem lw_p53 : lw_okq (⟨"BoatsCalledInModel", "hearing", "(I)I"⟩, 40) := ⟨⟨by decide +kernel, by decide +kernel⟩, List.mem_of_getElem? (i := 842) (by decide +kernel), List.mem_of_getElem? (i := 1070) (by decide +kernel), List.mem_of_getElem? (i := 1071) (by decide +kernel)⟩
theorem lw_p54 : lw_okq (⟨"BoatsCalledInModel", "would", "(I)Z"⟩, 40) := ⟨⟨by decide +kernel, by decide +kernel⟩, List.mem_of_getElem? (i := 842) (by decide +kernel), List.mem_of_getElem? (i := 1075) (by decide +kernel), List.mem_of_getElem? (i := 1076) (by decide +kernel)⟩
theorem lw_p55 : lw_okq (⟨"BoatsCalledInModel", "would", "(III)Z"⟩, 40) := ⟨⟨by decide +kernel, by decide +kernel⟩, List.mem_of_getElem? (i := 842) (by decide +kernel), List.mem_of_getElem? (i := 1079) (by decide +kernel), List.mem_of_getElem? (i := 1080) (by decide +kernel)⟩
theorem lw_p56 : lw_okq (⟨"BoatsCalledInModel", "rules", "(IIII)I"⟩, 40) := ⟨⟨by decide +kernel, by decide +kernel⟩, List.mem_of_getElem? (i := 842) (by decide +kernel), List.mem_of_getElem? (i := 1087) (by decide +kernel), List.mem_of_getElem? (i := 1088) (by decide +kernel)⟩
theorem lw_p57 : lw_okq (⟨"BoatsCalledInModel", "owes", "(II)I"⟩, 40) := ⟨⟨by decide +kernel, by decide +kernel⟩, List.mem_of_getElem? (i := 842) (by decide +kernel), List.mem_of_getElem? (i := 1091) (by decide +kernel), List.mem_of_getElem? (i := 1092) (by decide +kernel)⟩
theorem lw_p58 : lw_okq (⟨"BoatsCalledInModel", "needs", "(I)I"⟩, 40) := ⟨⟨by decide +kernel, by decide +kernel⟩, List.mem_of_getElem? (i := 842) (by decide +kernel), List.mem_of_getElem? (i := 1106) (by decide +kernel), List.mem_of_getElem? (i := 1107) (by decide +kernel)⟩
theorem lw_p59 : lw_okq (⟨"BoatsCalledInModel", "passes", "(I)I"⟩, 40) := ⟨⟨by decide +kernel, by decide +kernel⟩, List.mem_of_getElem? (i := 842) (by decide +kernel), List.mem_of_getElem? (i := 1114) (by decide +kernel), List.mem_of_getElem? (i := 1115) (by decide +kernel)⟩
theorem lw_p60 : lw_okq (⟨"BoatsCalledInModel", "comesIn", "(II)V"⟩, 40) := ⟨⟨by decide +kernel, by decide +kernel⟩, List.mem_of_getElem? (i := 842) (by decide +kernel), List.mem_of_getElem? (i := 1118) (by decide +kernel), List.mem_of_getElem? (i := 1119) (by decide +kernel)⟩
theorem lw_p61 : lw_okq (⟨"BoatsCalledInModel", "wouldBeIn", "(I)I"⟩, 40) := ⟨⟨by decide +kernel, by decide +kernel⟩, List.mem_of_getElem? (i := 842) (by decide +kernel), List.mem_of_getElem? (i := 1134) (by decide +kernel), List.mem_of_getElem? (i := 1135) (by decide +kernel)⟩
theorem lw_p62 : lw_okq (⟨"BoatsCalledInModel", "onTheLake", "(I)Z"⟩, 40) := ⟨⟨by decide +kernel, by decide +kernel⟩, List.mem_of_getElem? (i := 842) (by decide +kernel), List.mem_of_getElem? (i := 1142) (by decide +kernel), List.mem_of_getElem? (i := 1143) (by decide +kernel)⟩
theorem lw_p63 : lw_okq (⟨"BoatsCalledInModel", "fetches", "(I)I"⟩, 40) := ⟨⟨by decide +kernel, by decide +kernel⟩, List.mem_of_getElem? (i := 842) (by decide +kernel), List.mem_of_getElem? (i := 1146) (by decide +kernel), List.mem_of_getElem? (i := 1147) (by decide +kernel)⟩
def lw_privs_4 : List (MethodName × Nat) := [(⟨"BoatsCalledInModel", "one", "()Z"⟩, 40), (⟨"BoatsCalledInModel", "name", "()I"⟩, 40), (⟨"BoatsCalledInModel", "is", "(C)Z"⟩, 40), (⟨"BoatsCalledInModel", "isBoat", "(I)Z"⟩, 40), (⟨"BoatsCalledInModel", "rows", "(I)I"⟩, 40), (⟨"BoatsCalledInModel", "hearing", "(I)I"⟩, 40), (⟨"BoatsCalledInModel", "would", "(I)Z"⟩, 40), (⟨"BoatsCalledInModel", "would", "(III)Z"⟩, 40), (⟨"BoatsCalledInModel", "rules", "(IIII)I"⟩, 40), (⟨"BoatsCalledInModel", "owes", "(II)I"⟩, 40), (⟨"BoatsCalledInModel", "needs", "(I)I"⟩, 40), (⟨"BoatsCalledInModel", "passes", "(I)I"⟩, 40), (⟨"BoatsCalledInModel", "comesIn", "(II)V"⟩, 40), (⟨"BoatsCalledInModel", "wouldBeIn", "(I)I"⟩, 40), (⟨"BoatsCalledInModel", "onTheLake", "(I)Z"⟩, 40), (⟨"BoatsCalledInModel", "fetches", "(I)I"⟩, 40)]
theorem lw_r4 : ∀ q ∈ lw_privs_4, lw_okq q := List.forall_mem_cons.mpr ⟨lw_p48, List.forall_mem_cons.mpr ⟨lw_p49, List.forall_mem_cons.mpr ⟨lw_p50, List.forall_mem_cons.mpr ⟨lw_p51, List.forall_mem_cons.mpr ⟨lw_p52, List.forall_mem_cons.mpr ⟨lw_p53, List.forall_mem_cons.mpr ⟨lw_p54, List.forall_mem_cons.mpr ⟨lw_p55, List.forall_mem_cons.mpr ⟨lw_p56, List.forall_mem_cons.mpr ⟨lw_p57, List.forall_mem_cons.mpr ⟨lw_p58, List.forall_mem_cons.mpr ⟨lw_p59, List.forall_mem_cons.mpr ⟨lw_p60, List.forall_mem_cons.mpr ⟨lw_p61, List.forall_mem_cons.mpr ⟨lw_p62, List.forall_mem_cons.mpr ⟨lw_p63, fun _ h => absurd h List.not_mem_nil⟩⟩⟩⟩⟩⟩⟩⟩⟩⟩⟩⟩⟩⟩⟩⟩
theorem lw_p64 : lw_okq (⟨"BoatsCalledInModel", "goes", "(IIIII)V"⟩, 40) := ⟨⟨by decide +kernel, by decide +kernel⟩, List.mem_of_getElem? (i := 842) (by decide +kernel), List.mem_of_getElem? (i := 1150) (by decide +kernel), List.mem_of_getElem? (i := 1151) (by decide +kernel)⟩
theorem lw_p65 : lw_okq (⟨"BoatsCalledInModel", "thoseWho", "(I)I"⟩, 40) := ⟨⟨by decide +kernel, by decide +kernel⟩, List.mem_of_getElem? (i := 842) (by decide +kernel), List.mem_of_getElem? (i := 1206) (by decide +kernel), List.mem_of_getElem? (i := 1207) (by decide +kernel)⟩
def lw_privs_5 : List (MethodName × Nat) := [(⟨"BoatsCalledInModel", "goes", "(IIIII)V"⟩, 40), (⟨"BoatsCalledInModel", "thoseWho", "(I)I"⟩, 40)]
theorem lw_r5 : ∀ q ∈ lw_privs_5, lw_okq q := List.forall_mem_cons.mpr ⟨lw_p64, List.forall_mem_cons.mpr ⟨lw_p65, fun _ h => absurd h List.not_mem_nil⟩⟩
def lw_privs : List (MethodName × Nat) := lw_privs_1 ++ (lw_privs_2 ++ (lw_privs_3 ++ (lw_privs_4 ++ (lw_privs_5))))
def lw_tbl : List Cond := k2_sels lw_privs ++ tables_1
theorem lw_privs_ok : ∀ q ∈ lw_privs, lw_okq q := by
  show ∀ q ∈ lw_privs_1 ++ (lw_privs_2 ++ (lw_privs_3 ++ (lw_privs_4 ++ (lw_privs_5)))), lw_okq q
  exact List.forall_mem_append.mpr ⟨lw_r1, List.forall_mem_append.mpr ⟨lw_r2, List.forall_mem_append.mpr ⟨lw_r3, List.forall_mem_append.mpr ⟨lw_r4, lw_r5⟩⟩⟩⟩
def RX0 : String := "BoatsCalledIn$Boat"
def TX0 : u_T := fun k => match k with
  | 0 => ("BoatsCalledIn$Boat", "now", "[I", true)
  | _ => ("BoatsCalledIn$Boat", "kept", "[I", true)
def tyX0 : Nat → FieldType := fun k => match k with
  | 0 => .array .int
  | _ => .array .int
abbrev wsX00 : List Cond := u_ws RX0 TX0 2
theorem nmX0 : ∀ a, a < 2 → ∀ b, b < 2 → a ≠ b → (TX0 a).2.1 ≠ (TX0 b).2.1 := by decide +kernel
theorem tyX0_ok : ∀ k, k < 2 → parseFieldDescriptor (TX0 k).2.2.1 = some (tyX0 k) := by decide +kernel
abbrev cX0_init : ByteArray := prog_2_method_1_code
def yX0_init : MethodName := ⟨RX0, "<init>", "(II)V"⟩
abbrev cX0_kind : ByteArray := prog_2_method_2_code
def yX0_kind : MethodName := ⟨RX0, "kind", "()I"⟩
abbrev cX0_rows : ByteArray := prog_2_method_3_code
def yX0_rows : MethodName := ⟨RX0, "rows", "(I)I"⟩
abbrev cX0_hears : ByteArray := prog_2_method_4_code
def yX0_hears : MethodName := ⟨RX0, "hears", "(I)I"⟩
abbrev cX0_owes : ByteArray := prog_2_method_5_code
def yX0_owes : MethodName := ⟨RX0, "owes", "(II)I"⟩
abbrev cX0_rowsBy : ByteArray := prog_2_method_6_code
def yX0_rowsBy : MethodName := ⟨RX0, "rowsBy", "(I)I"⟩
abbrev cX0_hearsBy : ByteArray := prog_2_method_7_code
def yX0_hearsBy : MethodName := ⟨RX0, "hearsBy", "(I)I"⟩
abbrev cX0_owesBy : ByteArray := prog_2_method_8_code
def yX0_owesBy : MethodName := ⟨RX0, "owesBy", "(II)I"⟩
abbrev cX0_due : ByteArray := prog_2_method_9_code
def yX0_due : MethodName := ⟨RX0, "due", "()I"⟩
abbrev cX0_keep : ByteArray := prog_2_method_10_code
def yX0_keep : MethodName := ⟨RX0, "keep", "()V"⟩
abbrev cX0_layBack : ByteArray := prog_2_method_11_code
def yX0_layBack : MethodName := ⟨RX0, "layBack", "()V"⟩
def RX1 : String := "BoatsCalledIn$Deaf"
def TX1 : u_T := fun k => match k with
  | 0 => ("BoatsCalledIn$Boat", "now", "[I", true)
  | _ => ("BoatsCalledIn$Boat", "kept", "[I", true)
def tyX1 : Nat → FieldType := fun k => match k with
  | 0 => .array .int
  | _ => .array .int
abbrev wsX10 : List Cond := u_ws RX1 TX1 2
theorem nmX1 : ∀ a, a < 2 → ∀ b, b < 2 → a ≠ b → (TX1 a).2.1 ≠ (TX1 b).2.1 := by decide +kernel
theorem tyX1_ok : ∀ k, k < 2 → parseFieldDescriptor (TX1 k).2.2.1 = some (tyX1 k) := by decide +kernel
abbrev cX1_init : ByteArray := prog_3_method_1_code
def yX1_init : MethodName := ⟨RX1, "<init>", "(II)V"⟩
abbrev cX1_kind : ByteArray := prog_3_method_2_code
def yX1_kind : MethodName := ⟨RX1, "kind", "()I"⟩
abbrev cX1_hears : ByteArray := prog_3_method_3_code
def yX1_hears : MethodName := ⟨RX1, "hears", "(I)I"⟩
abbrev cX1_owes : ByteArray := prog_3_method_4_code
def yX1_owes : MethodName := ⟨RX1, "owes", "(II)I"⟩
def RX2 : String := "BoatsCalledIn$Leaky"
def TX2 : u_T := fun k => match k with
  | 0 => ("BoatsCalledIn$Boat", "now", "[I", true)
  | _ => ("BoatsCalledIn$Boat", "kept", "[I", true)
def tyX2 : Nat → FieldType := fun k => match k with
  | 0 => .array .int
  | _ => .array .int
abbrev wsX20 : List Cond := u_ws RX2 TX2 2
theorem nmX2 : ∀ a, a < 2 → ∀ b, b < 2 → a ≠ b → (TX2 a).2.1 ≠ (TX2 b).2.1 := by decide +kernel
theorem tyX2_ok : ∀ k, k < 2 → parseFieldDescriptor (TX2 k).2.2.1 = some (tyX2 k) := by decide +kernel
abbrev cX2_init : ByteArray := prog_4_method_1_code
def yX2_init : MethodName := ⟨RX2, "<init>", "(II)V"⟩
abbrev cX2_kind : ByteArray := prog_4_method_2_code
def yX2_kind : MethodName := ⟨RX2, "kind", "()I"⟩
abbrev cX2_rows : ByteArray := prog_4_method_3_code
def yX2_rows : MethodName := ⟨RX2, "rows", "(I)I"⟩
abbrev cX2_owes : ByteArray := prog_4_method_4_code
def yX2_owes : MethodName := ⟨RX2, "owes", "(II)I"⟩
def RX3 : String := "BoatsCalledIn$Lovers"
def TX3 : u_T := fun k => match k with
  | 0 => ("BoatsCalledIn$Boat", "now", "[I", true)
  | _ => ("BoatsCalledIn$Boat", "kept", "[I", true)
def tyX3 : Nat → FieldType := fun k => match k with
  | 0 => .array .int
  | _ => .array .int
abbrev wsX30 : List Cond := u_ws RX3 TX3 2
theorem nmX3 : ∀ a, a < 2 → ∀ b, b < 2 → a ≠ b → (TX3 a).2.1 ≠ (TX3 b).2.1 := by decide +kernel
theorem tyX3_ok : ∀ k, k < 2 → parseFieldDescriptor (TX3 k).2.2.1 = some (tyX3 k) := by decide +kernel
abbrev cX3_init : ByteArray := prog_5_method_1_code
def yX3_init : MethodName := ⟨RX3, "<init>", "(II)V"⟩
abbrev cX3_kind : ByteArray := prog_5_method_2_code
def yX3_kind : MethodName := ⟨RX3, "kind", "()I"⟩
abbrev cX3_rows : ByteArray := prog_5_method_3_code
def yX3_rows : MethodName := ⟨RX3, "rows", "(I)I"⟩
abbrev cX3_hears : ByteArray := prog_5_method_4_code
def yX3_hears : MethodName := ⟨RX3, "hears", "(I)I"⟩
abbrev cX3_owes : ByteArray := prog_5_method_5_code
def yX3_owes : MethodName := ⟨RX3, "owes", "(II)I"⟩
def RX4 : String := "BoatsCalledIn$Punt"
def TX4 : u_T := fun k => match k with
  | 0 => ("BoatsCalledIn$Boat", "now", "[I", true)
  | _ => ("BoatsCalledIn$Boat", "kept", "[I", true)
def tyX4 : Nat → FieldType := fun k => match k with
  | 0 => .array .int
  | _ => .array .int
abbrev wsX40 : List Cond := u_ws RX4 TX4 2
theorem nmX4 : ∀ a, a < 2 → ∀ b, b < 2 → a ≠ b → (TX4 a).2.1 ≠ (TX4 b).2.1 := by decide +kernel
theorem tyX4_ok : ∀ k, k < 2 → parseFieldDescriptor (TX4 k).2.2.1 = some (tyX4 k) := by decide +kernel
abbrev cX4_init : ByteArray := prog_6_method_1_code
def yX4_init : MethodName := ⟨RX4, "<init>", "(II)V"⟩
abbrev cX4_kind : ByteArray := prog_6_method_2_code
def yX4_kind : MethodName := ⟨RX4, "kind", "()I"⟩
abbrev cX4_rows : ByteArray := prog_6_method_3_code
def yX4_rows : MethodName := ⟨RX4, "rows", "(I)I"⟩
abbrev cX4_hears : ByteArray := prog_6_method_4_code
def yX4_hears : MethodName := ⟨RX4, "hears", "(I)I"⟩
abbrev cX4_owes : ByteArray := prog_6_method_5_code
def yX4_owes : MethodName := ⟨RX4, "owes", "(II)I"⟩
def RX5 : String := "BoatsCalledIn$Rule"
def TX5 : u_T := fun k => match k with
  | 0 => ("BoatsCalledIn$Rule", "code", "[I", true)
  | 1 => ("BoatsCalledIn$Rule", "ends", "[I", true)
  | 2 => ("BoatsCalledIn$Rule", "stack", "[I", true)
  | _ => ("BoatsCalledIn$Rule", "height", "I", false)
def tyX5 : Nat → FieldType := fun k => match k with
  | 0 => .array .int
  | 1 => .array .int
  | 2 => .array .int
  | _ => .int
abbrev wsX50 : List Cond := u_ws RX5 TX5 4
theorem nmX5 : ∀ a, a < 4 → ∀ b, b < 4 → a ≠ b → (TX5 a).2.1 ≠ (TX5 b).2.1 := by decide +kernel
theorem tyX5_ok : ∀ k, k < 4 → parseFieldDescriptor (TX5 k).2.2.1 = some (tyX5 k) := by decide +kernel
abbrev cX5_init : ByteArray := prog_7_method_1_code
def yX5_init : MethodName := ⟨RX5, "<init>", "([I[I)V"⟩
abbrev cX5_value : ByteArray := prog_7_method_2_code
def yX5_value : MethodName := ⟨RX5, "value", "(I[I)I"⟩
abbrev cX5_push : ByteArray := prog_7_method_3_code
def yX5_push : MethodName := ⟨RX5, "push", "(I)V"⟩
abbrev cX5_pop : ByteArray := prog_7_method_4_code
def yX5_pop : MethodName := ⟨RX5, "pop", "()I"⟩
abbrev cX5_joined : ByteArray := prog_7_method_5_code
def yX5_joined : MethodName := ⟨RX5, "joined", "(III)I"⟩
def RX6 : String := "BoatsCalledIn$Sheet"
def TX6 : u_T := fun k => match k with
  | 0 => ("BoatsCalledIn$Sheet", "row", "[I", true)
  | 1 => ("BoatsCalledIn$Sheet", "sort", "I", false)
  | _ => ("BoatsCalledIn$Sheet", "size", "I", false)
def tyX6 : Nat → FieldType := fun k => match k with
  | 0 => .array .int
  | 1 => .int
  | _ => .int
abbrev wsX60 : List Cond := u_ws RX6 TX6 3
theorem nmX6 : ∀ a, a < 3 → ∀ b, b < 3 → a ≠ b → (TX6 a).2.1 ≠ (TX6 b).2.1 := by decide +kernel
theorem tyX6_ok : ∀ k, k < 3 → parseFieldDescriptor (TX6 k).2.2.1 = some (tyX6 k) := by decide +kernel
abbrev cX6_init : ByteArray := prog_8_method_1_code
def yX6_init : MethodName := ⟨RX6, "<init>", "()V"⟩
abbrev cX6_become : ByteArray := prog_8_method_2_code
def yX6_become : MethodName := ⟨RX6, "become", "(II)V"⟩
abbrev cX6_isMissing : ByteArray := prog_8_method_3_code
def yX6_isMissing : MethodName := ⟨RX6, "isMissing", "()Z"⟩
abbrev cX6_has : ByteArray := prog_8_method_4_code
def yX6_has : MethodName := ⟨RX6, "has", "(JI)Z"⟩
abbrev cX6_at : ByteArray := prog_8_method_5_code
def yX6_at : MethodName := ⟨RX6, "at", "(I)I"⟩
abbrev cX6_put : ByteArray := prog_8_method_6_code
def yX6_put : MethodName := ⟨RX6, "put", "(II)V"⟩
def RX7 : String := "BoatsCalledIn$Skiff"
def TX7 : u_T := fun k => match k with
  | 0 => ("BoatsCalledIn$Boat", "now", "[I", true)
  | _ => ("BoatsCalledIn$Boat", "kept", "[I", true)
def tyX7 : Nat → FieldType := fun k => match k with
  | 0 => .array .int
  | _ => .array .int
abbrev wsX70 : List Cond := u_ws RX7 TX7 2
theorem nmX7 : ∀ a, a < 2 → ∀ b, b < 2 → a ≠ b → (TX7 a).2.1 ≠ (TX7 b).2.1 := by decide +kernel
theorem tyX7_ok : ∀ k, k < 2 → parseFieldDescriptor (TX7 k).2.2.1 = some (tyX7 k) := by decide +kernel
abbrev cX7_init : ByteArray := prog_9_method_1_code
def yX7_init : MethodName := ⟨RX7, "<init>", "(II)V"⟩
abbrev cX7_kind : ByteArray := prog_9_method_2_code
def yX7_kind : MethodName := ⟨RX7, "kind", "()I"⟩
abbrev cX7_rows : ByteArray := prog_9_method_3_code
def yX7_rows : MethodName := ⟨RX7, "rows", "(I)I"⟩
abbrev cX7_hears : ByteArray := prog_9_method_4_code
def yX7_hears : MethodName := ⟨RX7, "hears", "(I)I"⟩
def RX8 : String := "BoatsCalledIn$Tape"
def TX8 : u_T := fun k => match k with
  | 0 => ("BoatsCalledIn$Tape", "bytes", "[I", true)
  | 1 => ("BoatsCalledIn$Tape", "size", "I", false)
  | 2 => ("BoatsCalledIn$Tape", "code", "[I", true)
  | 3 => ("BoatsCalledIn$Tape", "codeSize", "I", false)
  | 4 => ("BoatsCalledIn$Tape", "ends", "[I", true)
  | 5 => ("BoatsCalledIn$Tape", "at", "I", false)
  | 6 => ("BoatsCalledIn$Tape", "behind", "I", false)
  | 7 => ("BoatsCalledIn$Tape", "token", "I", false)
  | _ => ("BoatsCalledIn$Tape", "number", "I", false)
def tyX8 : Nat → FieldType := fun k => match k with
  | 0 => .array .int
  | 1 => .int
  | 2 => .array .int
  | 3 => .int
  | 4 => .array .int
  | 5 => .int
  | 6 => .int
  | 7 => .int
  | _ => .int
abbrev wsX80 : List Cond := u_ws RX8 TX8 9
theorem nmX8 : ∀ a, a < 9 → ∀ b, b < 9 → a ≠ b → (TX8 a).2.1 ≠ (TX8 b).2.1 := by decide +kernel
theorem tyX8_ok : ∀ k, k < 9 → parseFieldDescriptor (TX8 k).2.2.1 = some (tyX8 k) := by decide +kernel
abbrev cX8_init : ByteArray := prog_10_method_1_code
def yX8_init : MethodName := ⟨RX8, "<init>", "()V"⟩
abbrev cX8_add : ByteArray := prog_10_method_2_code
def yX8_add : MethodName := ⟨RX8, "add", "(I)Z"⟩
abbrev cX8_empty : ByteArray := prog_10_method_3_code
def yX8_empty : MethodName := ⟨RX8, "empty", "()V"⟩
abbrev cX8_read : ByteArray := prog_10_method_4_code
def yX8_read : MethodName := ⟨RX8, "read", "()I"⟩
abbrev cX8_ruleRead : ByteArray := prog_10_method_5_code
def yX8_ruleRead : MethodName := ⟨RX8, "ruleRead", "()LBoatsCalledIn$Rule;"⟩
abbrev cX8_clauseOf : ByteArray := prog_10_method_6_code
def yX8_clauseOf : MethodName := ⟨RX8, "clauseOf", "(I)Z"⟩
abbrev cX8_either : ByteArray := prog_10_method_7_code
def yX8_either : MethodName := ⟨RX8, "either", "(I)Z"⟩
abbrev cX8_both : ByteArray := prog_10_method_8_code
def yX8_both : MethodName := ⟨RX8, "both", "(I)Z"⟩
abbrev cX8_denied : ByteArray := prog_10_method_9_code
def yX8_denied : MethodName := ⟨RX8, "denied", "(I)Z"⟩
abbrev cX8_compared : ByteArray := prog_10_method_10_code
def yX8_compared : MethodName := ⟨RX8, "compared", "(I)Z"⟩
abbrev cX8_sum : ByteArray := prog_10_method_11_code
def yX8_sum : MethodName := ⟨RX8, "sum", "(I)Z"⟩
abbrev cX8_product : ByteArray := prog_10_method_12_code
def yX8_product : MethodName := ⟨RX8, "product", "(I)Z"⟩
abbrev cX8_single : ByteArray := prog_10_method_13_code
def yX8_single : MethodName := ⟨RX8, "single", "(I)Z"⟩
abbrev cX8_skip : ByteArray := prog_10_method_14_code
def yX8_skip : MethodName := ⟨RX8, "skip", "(I)Z"⟩
abbrev cX8_emit : ByteArray := prog_10_method_15_code
def yX8_emit : MethodName := ⟨RX8, "emit", "(I)V"⟩
abbrev cX8_put : ByteArray := prog_10_method_16_code
def yX8_put : MethodName := ⟨RX8, "put", "(I)V"⟩
abbrev cX8_step : ByteArray := prog_10_method_17_code
def yX8_step : MethodName := ⟨RX8, "step", "()V"⟩
abbrev cX8_takeWord : ByteArray := prog_10_method_18_code
def yX8_takeWord : MethodName := ⟨RX8, "takeWord", "()V"⟩
abbrev cX8_takeNumber : ByteArray := prog_10_method_19_code
def yX8_takeNumber : MethodName := ⟨RX8, "takeNumber", "()V"⟩
abbrev cX8_isSpelled : ByteArray := prog_10_method_20_code
def yX8_isSpelled : MethodName := ⟨RX8, "isSpelled", "(Ljava/lang/String;)Z"⟩
abbrev cX8_spelling : ByteArray := prog_10_method_21_code
def yX8_spelling : MethodName := ⟨RX8, "spelling", "(I)Ljava/lang/String;"⟩
abbrev cX8_isLetter : ByteArray := prog_10_method_22_code
def yX8_isLetter : MethodName := ⟨RX8, "isLetter", "(I)Z"⟩
abbrev cX8_isDigit : ByteArray := prog_10_method_23_code
def yX8_isDigit : MethodName := ⟨RX8, "isDigit", "(I)Z"⟩
abbrev cX8_isSign : ByteArray := prog_10_method_24_code
def yX8_isSign : MethodName := ⟨RX8, "isSign", "(I)Z"⟩
def RX9 : String := "BoatsCalledIn$Tug"
def TX9 : u_T := fun k => match k with
  | 0 => ("BoatsCalledIn$Tug", "cells", "[I", true)
  | 1 => ("BoatsCalledIn$Tug", "tows", "I", false)
  | 2 => ("BoatsCalledIn$Tug", "speed", "I", false)
  | _ => ("BoatsCalledIn$Tug", "rest", "[I", true)
def tyX9 : Nat → FieldType := fun k => match k with
  | 0 => .array .int
  | 1 => .int
  | 2 => .int
  | _ => .array .int
abbrev wsX90 : List Cond := u_ws RX9 TX9 4
theorem nmX9 : ∀ a, a < 4 → ∀ b, b < 4 → a ≠ b → (TX9 a).2.1 ≠ (TX9 b).2.1 := by decide +kernel
theorem tyX9_ok : ∀ k, k < 4 → parseFieldDescriptor (TX9 k).2.2.1 = some (tyX9 k) := by decide +kernel
abbrev cX9_init : ByteArray := prog_11_method_1_code
def yX9_init : MethodName := ⟨RX9, "<init>", "()V"⟩
abbrev cX9_minutes : ByteArray := prog_11_method_2_code
def yX9_minutes : MethodName := ⟨RX9, "minutes", "(I)I"⟩
abbrev cX9_fetchedAs : ByteArray := prog_11_method_3_code
def yX9_fetchedAs : MethodName := ⟨RX9, "fetchedAs", "(II)I"⟩
abbrev cX9_best : ByteArray := prog_11_method_4_code
def yX9_best : MethodName := ⟨RX9, "best", "(III)I"⟩
abbrev cX9_through : ByteArray := prog_11_method_5_code
def yX9_through : MethodName := ⟨RX9, "through", "(IIII)I"⟩
def RX10 : String := "BoatsCalledIn"
def TX10 : u_T := fun k => match k with
  | 0 => ("BoatsCalledIn", "fleet", "[LBoatsCalledIn$Boat;", true)
  | 1 => ("BoatsCalledIn", "fleetSize", "I", false)
  | 2 => ("BoatsCalledIn", "lake", "[I", true)
  | 3 => ("BoatsCalledIn", "keptLake", "[I", true)
  | 4 => ("BoatsCalledIn", "keptSize", "I", false)
  | 5 => ("BoatsCalledIn", "tape", "LBoatsCalledIn$Tape;", true)
  | 6 => ("BoatsCalledIn", "rules", "[LBoatsCalledIn$Rule;", true)
  | 7 => ("BoatsCalledIn", "ruleCount", "I", false)
  | 8 => ("BoatsCalledIn", "names", "[I", true)
  | 9 => ("BoatsCalledIn", "tug", "LBoatsCalledIn$Tug;", true)
  | 10 => ("BoatsCalledIn", "inOrder", "[I", true)
  | _ => ("BoatsCalledIn", "sheets", "[LBoatsCalledIn$Sheet;", true)
def tyX10 : Nat → FieldType := fun k => match k with
  | 0 => .array (.object "BoatsCalledIn$Boat")
  | 1 => .int
  | 2 => .array .int
  | 3 => .array .int
  | 4 => .int
  | 5 => .object "BoatsCalledIn$Tape"
  | 6 => .array (.object "BoatsCalledIn$Rule")
  | 7 => .int
  | 8 => .array .int
  | 9 => .object "BoatsCalledIn$Tug"
  | 10 => .array .int
  | _ => .array (.object "BoatsCalledIn$Sheet")
abbrev wsX100 : List Cond := u_ws RX10 TX10 12
theorem nmX10 : ∀ a, a < 12 → ∀ b, b < 12 → a ≠ b → (TX10 a).2.1 ≠ (TX10 b).2.1 := by decide +kernel
theorem tyX10_ok : ∀ k, k < 12 → parseFieldDescriptor (TX10 k).2.2.1 = some (tyX10 k) := by decide +kernel
abbrev cX10_init : ByteArray := prog_1_method_1_code
def yX10_init : MethodName := ⟨RX10, "<init>", "()V"⟩
abbrev cX10_boat : ByteArray := prog_1_method_2_code
def yX10_boat : MethodName := ⟨RX10, "boat", "(III)I"⟩
abbrev cX10_set : ByteArray := prog_1_method_3_code
def yX10_set : MethodName := ⟨RX10, "set", "(III)I"⟩
abbrev cX10_told : ByteArray := prog_1_method_4_code
def yX10_told : MethodName := ⟨RX10, "told", "(II)I"⟩
abbrev cX10_fits : ByteArray := prog_1_method_5_code
def yX10_fits : MethodName := ⟨RX10, "fits", "(II)Z"⟩
abbrev cX10_isBoat : ByteArray := prog_1_method_6_code
def yX10_isBoat : MethodName := ⟨RX10, "isBoat", "(I)Z"⟩
abbrev cX10_newBoat : ByteArray := prog_1_method_7_code
def yX10_newBoat : MethodName := ⟨RX10, "newBoat", "(III)LBoatsCalledIn$Boat;"⟩
abbrev cX10_feed : ByteArray := prog_1_method_8_code
def yX10_feed : MethodName := ⟨RX10, "feed", "(I)I"⟩
abbrev cX10_text : ByteArray := prog_1_method_9_code
def yX10_text : MethodName := ⟨RX10, "text", "()I"⟩
abbrev cX10_force : ByteArray := prog_1_method_10_code
def yX10_force : MethodName := ⟨RX10, "force", "(I)I"⟩
abbrev cX10_rule : ByteArray := prog_1_method_11_code
def yX10_rule : MethodName := ⟨RX10, "rule", "()LBoatsCalledIn$Rule;"⟩
abbrev cX10_nameAll : ByteArray := prog_1_method_12_code
def yX10_nameAll : MethodName := ⟨RX10, "nameAll", "(IIII)V"⟩
abbrev cX10_isHidden : ByteArray := prog_1_method_13_code
def yX10_isHidden : MethodName := ⟨RX10, "isHidden", "(I)Z"⟩
abbrev cX10_far : ByteArray := prog_1_method_14_code
def yX10_far : MethodName := ⟨RX10, "far", "(II)I"⟩
abbrev cX10_call : ByteArray := prog_1_method_15_code
def yX10_call : MethodName := ⟨RX10, "call", "(I)I"⟩
abbrev cX10_time : ByteArray := prog_1_method_16_code
def yX10_time : MethodName := ⟨RX10, "time", "(I)I"⟩
abbrev cX10_nobody : ByteArray := prog_1_method_17_code
def yX10_nobody : MethodName := ⟨RX10, "nobody", "()I"⟩
abbrev cX10_callAt : ByteArray := prog_1_method_18_code
def yX10_callAt : MethodName := ⟨RX10, "callAt", "(I)I"⟩
abbrev cX10_allIn : ByteArray := prog_1_method_19_code
def yX10_allIn : MethodName := ⟨RX10, "allIn", "()I"⟩
abbrev cX10_isOnTheLake : ByteArray := prog_1_method_20_code
def yX10_isOnTheLake : MethodName := ⟨RX10, "isOnTheLake", "(I)Z"⟩
abbrev cX10_needs : ByteArray := prog_1_method_21_code
def yX10_needs : MethodName := ⟨RX10, "needs", "(I)I"⟩
abbrev cX10_wouldComeNow : ByteArray := prog_1_method_22_code
def yX10_wouldComeNow : MethodName := ⟨RX10, "wouldComeNow", "(I)Z"⟩
abbrev cX10_wouldCome : ByteArray := prog_1_method_23_code
def yX10_wouldCome : MethodName := ⟨RX10, "wouldCome", "(IIII)Z"⟩
abbrev cX10_comingAt : ByteArray := prog_1_method_24_code
def yX10_comingAt : MethodName := ⟨RX10, "comingAt", "(I)I"⟩
abbrev cX10_pass : ByteArray := prog_1_method_25_code
def yX10_pass : MethodName := ⟨RX10, "pass", "(I)I"⟩
abbrev cX10_comeIn : ByteArray := prog_1_method_26_code
def yX10_comeIn : MethodName := ⟨RX10, "comeIn", "(II)V"⟩
abbrev cX10_owed : ByteArray := prog_1_method_27_code
def yX10_owed : MethodName := ⟨RX10, "owed", "(II)I"⟩
abbrev cX10_fetch : ByteArray := prog_1_method_28_code
def yX10_fetch : MethodName := ⟨RX10, "fetch", "(II)I"⟩
abbrev cX10_launch : ByteArray := prog_1_method_29_code
def yX10_launch : MethodName := ⟨RX10, "launch", "(I)I"⟩
abbrev cX10_one : ByteArray := prog_1_method_30_code
def yX10_one : MethodName := ⟨RX10, "one", "(I)I"⟩
abbrev cX10_thunder : ByteArray := prog_1_method_31_code
def yX10_thunder : MethodName := ⟨RX10, "thunder", "(II)I"⟩
abbrev cX10_stand : ByteArray := prog_1_method_32_code
def yX10_stand : MethodName := ⟨RX10, "stand", "()I"⟩
abbrev cX10_heard : ByteArray := prog_1_method_33_code
def yX10_heard : MethodName := ⟨RX10, "heard", "(I)I"⟩
abbrev cX10_where : ByteArray := prog_1_method_34_code
def yX10_where : MethodName := ⟨RX10, "where", "(II)I"⟩
abbrev cX10_drawn : ByteArray := prog_1_method_35_code
def yX10_drawn : MethodName := ⟨RX10, "drawn", "(I)I"⟩
abbrev cX10_chance : ByteArray := prog_1_method_36_code
def yX10_chance : MethodName := ⟨RX10, "chance", "(III)J"⟩
abbrev cX10_image : ByteArray := prog_1_method_37_code
def yX10_image : MethodName := ⟨RX10, "image", "()I"⟩
abbrev cX10_back : ByteArray := prog_1_method_38_code
def yX10_back : MethodName := ⟨RX10, "back", "()I"⟩
abbrev cX10_count : ByteArray := prog_1_method_39_code
def yX10_count : MethodName := ⟨RX10, "count", "(I)I"⟩
abbrev cX10_those : ByteArray := prog_1_method_40_code
def yX10_those : MethodName := ⟨RX10, "those", "(I)I"⟩
abbrev cX10_areOnTheLake : ByteArray := prog_1_method_41_code
def yX10_areOnTheLake : MethodName := ⟨RX10, "areOnTheLake", "(I)Z"⟩
abbrev cX10_readyTug : ByteArray := prog_1_method_42_code
def yX10_readyTug : MethodName := ⟨RX10, "readyTug", "()V"⟩
abbrev cX10_inBy : ByteArray := prog_1_method_43_code
def yX10_inBy : MethodName := ⟨RX10, "inBy", "(I)I"⟩
abbrev cX10_mostFetched : ByteArray := prog_1_method_44_code
def yX10_mostFetched : MethodName := ⟨RX10, "mostFetched", "(II)I"⟩
abbrev cX10_orderComing : ByteArray := prog_1_method_45_code
def yX10_orderComing : MethodName := ⟨RX10, "orderComing", "()I"⟩
abbrev cX10_putInOrder : ByteArray := prog_1_method_46_code
def yX10_putInOrder : MethodName := ⟨RX10, "putInOrder", "(II)V"⟩
abbrev cX10_isTrue : ByteArray := prog_1_method_47_code
def yX10_isTrue : MethodName := ⟨RX10, "isTrue", "(II)Z"⟩
abbrev cX10_drawnWind : ByteArray := prog_1_method_48_code
def yX10_drawnWind : MethodName := ⟨RX10, "drawnWind", "(I)I"⟩
abbrev cX10_commonDivisor : ByteArray := prog_1_method_49_code
def yX10_commonDivisor : MethodName := ⟨RX10, "commonDivisor", "(II)I"⟩
abbrev cX10_sheet : ByteArray := prog_1_method_50_code
def yX10_sheet : MethodName := ⟨RX10, "sheet", "(III)I"⟩
abbrev cX10_cell : ByteArray := prog_1_method_51_code
def yX10_cell : MethodName := ⟨RX10, "cell", "(III)I"⟩
abbrev cX10_copy : ByteArray := prog_1_method_52_code
def yX10_copy : MethodName := ⟨RX10, "copy", "(IIIII)I"⟩
abbrev cX10_boats : ByteArray := prog_1_method_53_code
def yX10_boats : MethodName := ⟨RX10, "boats", "(IIII)I"⟩
abbrev cX10_taken : ByteArray := prog_1_method_54_code
def yX10_taken : MethodName := ⟨RX10, "taken", "(II)I"⟩
abbrev cX10_isSheet : ByteArray := prog_1_method_55_code
def yX10_isSheet : MethodName := ⟨RX10, "isSheet", "(I)Z"⟩
abbrev cX10_isOf : ByteArray := prog_1_method_56_code
def yX10_isOf : MethodName := ⟨RX10, "isOf", "(LBoatsCalledIn$Boat;I)Z"⟩
def RX11 : String := "BoatsCalledInModel"
def TX11 : u_T := fun k => match k with
  | 0 => ("BoatsCalledInModel", "boats", "I", false)
  | 1 => ("BoatsCalledInModel", "kind", "[I", true)
  | 2 => ("BoatsCalledInModel", "number", "[I", true)
  | 3 => ("BoatsCalledInModel", "cell", "[I", true)
  | 4 => ("BoatsCalledInModel", "out", "[I", true)
  | 5 => ("BoatsCalledInModel", "paid", "[I", true)
  | 6 => ("BoatsCalledInModel", "how", "[I", true)
  | 7 => ("BoatsCalledInModel", "when", "[I", true)
  | 8 => ("BoatsCalledInModel", "island", "I", false)
  | 9 => ("BoatsCalledInModel", "wind", "I", false)
  | 10 => ("BoatsCalledInModel", "minute", "I", false)
  | 11 => ("BoatsCalledInModel", "tows", "I", false)
  | 12 => ("BoatsCalledInModel", "speed", "I", false)
  | 13 => ("BoatsCalledInModel", "waiting", "I", false)
  | 14 => ("BoatsCalledInModel", "takings", "I", false)
  | 15 => ("BoatsCalledInModel", "taped", "I", false)
  | 16 => ("BoatsCalledInModel", "tape", "[I", true)
  | 17 => ("BoatsCalledInModel", "texts", "I", false)
  | 18 => ("BoatsCalledInModel", "rule", "I", false)
  | 19 => ("BoatsCalledInModel", "code", "[I", true)
  | 20 => ("BoatsCalledInModel", "begins", "[I", true)
  | 21 => ("BoatsCalledInModel", "made", "I", false)
  | 22 => ("BoatsCalledInModel", "at", "I", false)
  | 23 => ("BoatsCalledInModel", "from", "I", false)
  | 24 => ("BoatsCalledInModel", "sort", "I", false)
  | 25 => ("BoatsCalledInModel", "value", "I", false)
  | 26 => ("BoatsCalledInModel", "open", "I", false)
  | 27 => ("BoatsCalledInModel", "stack", "[I", true)
  | 28 => ("BoatsCalledInModel", "names", "[I", true)
  | 29 => ("BoatsCalledInModel", "fewest", "I", false)
  | 30 => ("BoatsCalledInModel", "order", "[I", true)
  | 31 => ("BoatsCalledInModel", "first", "[I", true)
  | 32 => ("BoatsCalledInModel", "minutes", "[I", true)
  | 33 => ("BoatsCalledInModel", "imaged", "Z", false)
  | 34 => ("BoatsCalledInModel", "oldBoats", "I", false)
  | 35 => ("BoatsCalledInModel", "old", "[I", true)
  | 36 => ("BoatsCalledInModel", "sheetSort", "[I", true)
  | 37 => ("BoatsCalledInModel", "sheetSize", "[I", true)
  | 38 => ("BoatsCalledInModel", "items", "[I", true)
  | _ => ("BoatsCalledInModel", "spare", "[I", true)
def tyX11 : Nat → FieldType := fun k => match k with
  | 0 => .int
  | 1 => .array .int
  | 2 => .array .int
  | 3 => .array .int
  | 4 => .array .int
  | 5 => .array .int
  | 6 => .array .int
  | 7 => .array .int
  | 8 => .int
  | 9 => .int
  | 10 => .int
  | 11 => .int
  | 12 => .int
  | 13 => .int
  | 14 => .int
  | 15 => .int
  | 16 => .array .int
  | 17 => .int
  | 18 => .int
  | 19 => .array .int
  | 20 => .array .int
  | 21 => .int
  | 22 => .int
  | 23 => .int
  | 24 => .int
  | 25 => .int
  | 26 => .int
  | 27 => .array .int
  | 28 => .array .int
  | 29 => .int
  | 30 => .array .int
  | 31 => .array .int
  | 32 => .array .int
  | 33 => .boolean
  | 34 => .int
  | 35 => .array .int
  | 36 => .array .int
  | 37 => .array .int
  | 38 => .array .int
  | _ => .array .int
abbrev wsX110 : List Cond := u_ws RX11 TX11 40
theorem nmX11 : ∀ a, a < 40 → ∀ b, b < 40 → a ≠ b → (TX11 a).2.1 ≠ (TX11 b).2.1 := by decide +kernel
theorem tyX11_ok : ∀ k, k < 40 → parseFieldDescriptor (TX11 k).2.2.1 = some (tyX11 k) := by decide +kernel
abbrev cX11_init : ByteArray := prog_13_method_1_code
def yX11_init : MethodName := ⟨RX11, "<init>", "()V"⟩
abbrev cX11_within : ByteArray := prog_13_method_2_code
def yX11_within : MethodName := ⟨RX11, "within", "(III)Z"⟩
abbrev cX11_isBoat : ByteArray := prog_13_method_3_code
def yX11_isBoat : MethodName := ⟨RX11, "isBoat", "(I)Z"⟩
abbrev cX11_far : ByteArray := prog_13_method_4_code
def yX11_far : MethodName := ⟨RX11, "far", "(II)I"⟩
abbrev cX11_boat : ByteArray := prog_13_method_5_code
def yX11_boat : MethodName := ⟨RX11, "boat", "(III)I"⟩
abbrev cX11_set : ByteArray := prog_13_method_6_code
def yX11_set : MethodName := ⟨RX11, "set", "(III)I"⟩
abbrev cX11_rows : ByteArray := prog_13_method_7_code
def yX11_rows : MethodName := ⟨RX11, "rows", "(I)I"⟩
abbrev cX11_hearing : ByteArray := prog_13_method_8_code
def yX11_hearing : MethodName := ⟨RX11, "hearing", "(I)I"⟩
abbrev cX11_rules : ByteArray := prog_13_method_9_code
def yX11_rules : MethodName := ⟨RX11, "rules", "(IIII)I"⟩
abbrev cX11_owes : ByteArray := prog_13_method_10_code
def yX11_owes : MethodName := ⟨RX11, "owes", "(II)I"⟩
abbrev cX11_would : ByteArray := prog_13_method_11_code
def yX11_would : MethodName := ⟨RX11, "would", "(III)Z"⟩
abbrev cX11_would_ : ByteArray := prog_13_method_12_code
def yX11_would_ : MethodName := ⟨RX11, "would", "(I)Z"⟩
abbrev cX11_needs : ByteArray := prog_13_method_13_code
def yX11_needs : MethodName := ⟨RX11, "needs", "(I)I"⟩
abbrev cX11_told : ByteArray := prog_13_method_14_code
def yX11_told : MethodName := ⟨RX11, "told", "(II)I"⟩
abbrev cX11_feed : ByteArray := prog_13_method_15_code
def yX11_feed : MethodName := ⟨RX11, "feed", "(I)I"⟩
abbrev cX11_next : ByteArray := prog_13_method_16_code
def yX11_next : MethodName := ⟨RX11, "next", "()V"⟩
abbrev cX11_isDigit : ByteArray := prog_13_method_17_code
def yX11_isDigit : MethodName := ⟨RX11, "isDigit", "(I)Z"⟩
abbrev cX11_isLetter : ByteArray := prog_13_method_18_code
def yX11_isLetter : MethodName := ⟨RX11, "isLetter", "(I)Z"⟩
abbrev cX11_is : ByteArray := prog_13_method_19_code
def yX11_is : MethodName := ⟨RX11, "is", "(Ljava/lang/String;)Z"⟩
abbrev cX11_is_ : ByteArray := prog_13_method_20_code
def yX11_is_ : MethodName := ⟨RX11, "is", "(C)Z"⟩
abbrev cX11_name : ByteArray := prog_13_method_21_code
def yX11_name : MethodName := ⟨RX11, "name", "()I"⟩
abbrev cX11_put : ByteArray := prog_13_method_22_code
def yX11_put : MethodName := ⟨RX11, "put", "(I)V"⟩
abbrev cX11_any : ByteArray := prog_13_method_23_code
def yX11_any : MethodName := ⟨RX11, "any", "()Z"⟩
abbrev cX11_both : ByteArray := prog_13_method_24_code
def yX11_both : MethodName := ⟨RX11, "both", "()Z"⟩
abbrev cX11_not : ByteArray := prog_13_method_25_code
def yX11_not : MethodName := ⟨RX11, "not", "()Z"⟩
abbrev cX11_sum : ByteArray := prog_13_method_26_code
def yX11_sum : MethodName := ⟨RX11, "sum", "()Z"⟩
abbrev cX11_term : ByteArray := prog_13_method_27_code
def yX11_term : MethodName := ⟨RX11, "term", "()Z"⟩
abbrev cX11_one : ByteArray := prog_13_method_28_code
def yX11_one : MethodName := ⟨RX11, "one", "()Z"⟩
abbrev cX11_part : ByteArray := prog_13_method_29_code
def yX11_part : MethodName := ⟨RX11, "part", "(Ljava/lang/String;I)Z"⟩
abbrev cX11_text : ByteArray := prog_13_method_30_code
def yX11_text : MethodName := ⟨RX11, "text", "()I"⟩
abbrev cX11_force : ByteArray := prog_13_method_31_code
def yX11_force : MethodName := ⟨RX11, "force", "(I)I"⟩
abbrev cX11_call : ByteArray := prog_13_method_32_code
def yX11_call : MethodName := ⟨RX11, "call", "(I)I"⟩
abbrev cX11_comesIn : ByteArray := prog_13_method_33_code
def yX11_comesIn : MethodName := ⟨RX11, "comesIn", "(II)V"⟩
abbrev cX11_passes : ByteArray := prog_13_method_34_code
def yX11_passes : MethodName := ⟨RX11, "passes", "(I)I"⟩
abbrev cX11_time : ByteArray := prog_13_method_35_code
def yX11_time : MethodName := ⟨RX11, "time", "(I)I"⟩
abbrev cX11_nobody : ByteArray := prog_13_method_36_code
def yX11_nobody : MethodName := ⟨RX11, "nobody", "()I"⟩
abbrev cX11_callAt : ByteArray := prog_13_method_37_code
def yX11_callAt : MethodName := ⟨RX11, "callAt", "(I)I"⟩
abbrev cX11_wouldBeIn : ByteArray := prog_13_method_38_code
def yX11_wouldBeIn : MethodName := ⟨RX11, "wouldBeIn", "(I)I"⟩
abbrev cX11_allIn : ByteArray := prog_13_method_39_code
def yX11_allIn : MethodName := ⟨RX11, "allIn", "()I"⟩
abbrev cX11_onTheLake : ByteArray := prog_13_method_40_code
def yX11_onTheLake : MethodName := ⟨RX11, "onTheLake", "(I)Z"⟩
abbrev cX11_goes : ByteArray := prog_13_method_41_code
def yX11_goes : MethodName := ⟨RX11, "goes", "(IIIII)V"⟩
abbrev cX11_fetches : ByteArray := prog_13_method_42_code
def yX11_fetches : MethodName := ⟨RX11, "fetches", "(I)I"⟩
abbrev cX11_fetch : ByteArray := prog_13_method_43_code
def yX11_fetch : MethodName := ⟨RX11, "fetch", "(II)I"⟩
abbrev cX11_launch : ByteArray := prog_13_method_44_code
def yX11_launch : MethodName := ⟨RX11, "launch", "(I)I"⟩
abbrev cX11_one_ : ByteArray := prog_13_method_45_code
def yX11_one_ : MethodName := ⟨RX11, "one", "(I)I"⟩
abbrev cX11_thunder : ByteArray := prog_13_method_46_code
def yX11_thunder : MethodName := ⟨RX11, "thunder", "(II)I"⟩
abbrev cX11_stand : ByteArray := prog_13_method_47_code
def yX11_stand : MethodName := ⟨RX11, "stand", "()I"⟩
abbrev cX11_heard : ByteArray := prog_13_method_48_code
def yX11_heard : MethodName := ⟨RX11, "heard", "(I)I"⟩
abbrev cX11_where : ByteArray := prog_13_method_49_code
def yX11_where : MethodName := ⟨RX11, "where", "(II)I"⟩
abbrev cX11_drawn : ByteArray := prog_13_method_50_code
def yX11_drawn : MethodName := ⟨RX11, "drawn", "(I)I"⟩
abbrev cX11_lowest : ByteArray := prog_13_method_51_code
def yX11_lowest : MethodName := ⟨RX11, "lowest", "(JJI)J"⟩
abbrev cX11_chance : ByteArray := prog_13_method_52_code
def yX11_chance : MethodName := ⟨RX11, "chance", "(III)J"⟩
abbrev cX11_image : ByteArray := prog_13_method_53_code
def yX11_image : MethodName := ⟨RX11, "image", "()I"⟩
abbrev cX11_back : ByteArray := prog_13_method_54_code
def yX11_back : MethodName := ⟨RX11, "back", "()I"⟩
abbrev cX11_thoseWho : ByteArray := prog_13_method_55_code
def yX11_thoseWho : MethodName := ⟨RX11, "thoseWho", "(I)I"⟩
abbrev cX11_count : ByteArray := prog_13_method_56_code
def yX11_count : MethodName := ⟨RX11, "count", "(I)I"⟩
abbrev cX11_sheet : ByteArray := prog_13_method_57_code
def yX11_sheet : MethodName := ⟨RX11, "sheet", "(III)I"⟩
abbrev cX11_cell : ByteArray := prog_13_method_58_code
def yX11_cell : MethodName := ⟨RX11, "cell", "(III)I"⟩
abbrev cX11_copy : ByteArray := prog_13_method_59_code
def yX11_copy : MethodName := ⟨RX11, "copy", "(IIIII)I"⟩
abbrev cX11_boats : ByteArray := prog_13_method_60_code
def yX11_boats : MethodName := ⟨RX11, "boats", "(IIII)I"⟩
abbrev cX11_taken : ByteArray := prog_13_method_61_code
def yX11_taken : MethodName := ⟨RX11, "taken", "(II)I"⟩
def RJx145de : String := "java/io/Serializable"
def TJx145de : u_T := fun k => match k with
  | _ => ("", "", "", false)
def tyJx145de : Nat → FieldType := fun k => match k with
  | _ => .int
def RJx9f9b0 : String := "java/lang/CharSequence"
def TJx9f9b0 : u_T := fun k => match k with
  | _ => ("", "", "", false)
def tyJx9f9b0 : Nat → FieldType := fun k => match k with
  | _ => .int
def RJx8e188 : String := "java/lang/Cloneable"
def TJx8e188 : u_T := fun k => match k with
  | _ => ("", "", "", false)
def tyJx8e188 : Nat → FieldType := fun k => match k with
  | _ => .int
def RJxb160c : String := "java/lang/Comparable"
def TJxb160c : u_T := fun k => match k with
  | _ => ("", "", "", false)
def tyJxb160c : Nat → FieldType := fun k => match k with
  | _ => .int
def RJ6 : String := "java/lang/Integer"
def TJ6 : u_T := fun k => match k with
  | _ => ("", "", "", false)
def tyJ6 : Nat → FieldType := fun k => match k with
  | _ => .int
abbrev wsJ60 : List Cond := u_ws RJ6 TJ6 0
abbrev cJ6_bitCount_0f7a4 : ByteArray := prog_15_method_49_code
def yJ6_bitCount_0f7a4 : MethodName := ⟨RJ6, "bitCount", "(I)I"⟩
def RJ9 : String := "java/lang/Math"
def TJ9 : u_T := fun k => match k with
  | _ => ("", "", "", false)
def tyJ9 : Nat → FieldType := fun k => match k with
  | _ => .int
abbrev wsJ90 : List Cond := u_ws RJ9 TJ9 0
abbrev cJ9_abs_0f7a4 : ByteArray := prog_16_method_59_code
def yJ9_abs_0f7a4 : MethodName := ⟨RJ9, "abs", "(I)I"⟩
abbrev cJ9_max_7cf53 : ByteArray := prog_16_method_65_code
def yJ9_max_7cf53 : MethodName := ⟨RJ9, "max", "(II)I"⟩
abbrev cJ9_min_7cf53 : ByteArray := prog_16_method_69_code
def yJ9_min_7cf53 : MethodName := ⟨RJ9, "min", "(II)I"⟩
def RJ0 : String := "java/lang/String"
def TJ0 : u_T := fun k => match k with
  | _ => ("", "", "", false)
def tyJ0 : Nat → FieldType := fun k => match k with
  | _ => .int
abbrev wsJ00 : List Cond := u_ws RJ0 TJ0 0
abbrev cJ0_length_8abf5 : ByteArray := prog_17_method_54_code
def yJ0_length_8abf5 : MethodName := ⟨RJ0, "length", "()I"⟩
abbrev cJ0_charAt_5068e : ByteArray := prog_17_method_56_code
def yJ0_charAt_5068e : MethodName := ⟨RJ0, "charAt", "(I)C"⟩
abbrev cJ0_coder_7d493 : ByteArray := prog_17_method_152_code
def yJ0_coder_7d493 : MethodName := ⟨RJ0, "coder", "()B"⟩
abbrev cJ0_isLatin1_aae02 : ByteArray := prog_17_method_154_code
def yJ0_isLatin1_aae02 : MethodName := ⟨RJ0, "isLatin1", "()Z"⟩
abbrev cJ0_checkIndex_df160 : ByteArray := prog_17_method_155_code
def yJ0_checkIndex_df160 : MethodName := ⟨RJ0, "checkIndex", "(II)V"⟩
def RJ1 : String := "java/lang/StringLatin1"
def TJ1 : u_T := fun k => match k with
  | _ => ("", "", "", false)
def tyJ1 : Nat → FieldType := fun k => match k with
  | _ => .int
abbrev wsJ10 : List Cond := u_ws RJ1 TJ1 0
abbrev cJ1_charAt_3b067 : ByteArray := prog_18_method_2_code
def yJ1_charAt_3b067 : MethodName := ⟨RJ1, "charAt", "([BI)C"⟩
def RJ2 : String := "java/lang/StringUTF16"
def TJ2 : u_T := fun k => match k with
  | _ => ("", "", "", false)
def tyJ2 : Nat → FieldType := fun k => match k with
  | _ => .int
abbrev wsJ20 : List Cond := u_ws RJ2 TJ2 0
abbrev cJ2_getChar_3b067 : ByteArray := prog_19_method_5_code
def yJ2_getChar_3b067 : MethodName := ⟨RJ2, "getChar", "([BI)C"⟩
abbrev cJ2_length_9d52b : ByteArray := prog_19_method_6_code
def yJ2_length_9d52b : MethodName := ⟨RJ2, "length", "([B)I"⟩
abbrev cJ2_charAt_3b067 : ByteArray := prog_19_method_83_code
def yJ2_charAt_3b067 : MethodName := ⟨RJ2, "charAt", "([BI)C"⟩
abbrev cJ2_checkIndex_2214a : ByteArray := prog_19_method_91_code
def yJ2_checkIndex_2214a : MethodName := ⟨RJ2, "checkIndex", "(I[B)V"⟩
def RJ10 : String := "java/lang/System"
def TJ10 : u_T := fun k => match k with
  | _ => ("", "", "", false)
def tyJ10 : Nat → FieldType := fun k => match k with
  | _ => .int
abbrev wsJ100 : List Cond := u_ws RJ10 TJ10 0
def RJxfd54e : String := "java/lang/constant/Constable"
def TJxfd54e : u_T := fun k => match k with
  | _ => ("", "", "", false)
def tyJxfd54e : Nat → FieldType := fun k => match k with
  | _ => .int
def RJx3cf43 : String := "java/lang/constant/ConstantDesc"
def TJx3cf43 : u_T := fun k => match k with
  | _ => ("", "", "", false)
def tyJx3cf43 : Nat → FieldType := fun k => match k with
  | _ => .int
def RJ7 : String := "java/util/Arrays"
def TJ7 : u_T := fun k => match k with
  | _ => ("", "", "", false)
def tyJ7 : Nat → FieldType := fun k => match k with
  | _ => .int
abbrev wsJ70 : List Cond := u_ws RJ7 TJ7 0
abbrev cJ7_fill_53178 : ByteArray := prog_21_method_103_code
def yJ7_fill_53178 : MethodName := ⟨RJ7, "fill", "([II)V"⟩
abbrev cJ7_copyOf_59c91 : ByteArray := prog_21_method_123_code
def yJ7_copyOf_59c91 : MethodName := ⟨RJ7, "copyOf", "([II)[I"⟩
def RJ3 : String := "jdk/internal/util/Preconditions"
def TJ3 : u_T := fun k => match k with
  | _ => ("", "", "", false)
def tyJ3 : Nat → FieldType := fun k => match k with
  | _ => .int
abbrev wsJ30 : List Cond := u_ws RJ3 TJ3 0
abbrev cJ3_checkIndex_8e157 : ByteArray := prog_22_method_11_code
def yJ3_checkIndex_8e157 : MethodName := ⟨RJ3, "checkIndex", "(IILjava/util/function/BiFunction;)I"⟩
def RL : String := "BoatsCalledInLaw"
abbrev cL_law : ByteArray := code
def yL_law : MethodName := ⟨RL, "law", "([I)Z"⟩
abbrev vwCl : List vw_C := [(RX0, TX0, 2), (RX1, TX1, 2), (RX2, TX2, 2), (RX3, TX3, 2), (RX4, TX4, 2), (RX5, TX5, 4), (RX6, TX6, 3), (RX7, TX7, 2), (RX8, TX8, 9), (RX9, TX9, 4), (RX10, TX10, 12), (RX11, TX11, 40)]
