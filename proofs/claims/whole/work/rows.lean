section
/-- a private method of a class that the tables say can be made, by its rows of tables_1 -/
def lw_okq (q : MethodName × Nat) : Prop := (q.1.cls ≠ "java/lang/invoke/MethodHandle" ∧ q.1.cls ≠ "java/lang/invoke/VarHandle") ∧ Cond.instantiable q.1.cls q.2 ∈ tables_1 ∧ Cond.privateMethod q.1 ∈ tables_1 ∧ Cond.instanceMethod q.1 ∈ tables_1
theorem lw_p0 : lw_okq (⟨"BoatsCalledIn$Tape", "step", "()V"⟩, 9) := ⟨⟨by decide +kernel, by decide +kernel⟩, List.mem_of_getElem? (i := 32) (by decide +kernel), List.mem_of_getElem? (i := 169) (by decide +kernel), List.mem_of_getElem? (i := 170) (by decide +kernel)⟩
theorem lw_p1 : lw_okq (⟨"BoatsCalledIn$Tape", "takeWord", "()V"⟩, 9) := ⟨⟨by decide +kernel, by decide +kernel⟩, List.mem_of_getElem? (i := 32) (by decide +kernel), List.mem_of_getElem? (i := 176) (by decide +kernel), List.mem_of_getElem? (i := 177) (by decide +kernel)⟩
theorem lw_p2 : lw_okq (⟨"BoatsCalledIn$Tape", "isSpelled", "(Ljava/lang/String;)Z"⟩, 9) := ⟨⟨by decide +kernel, by decide +kernel⟩, List.mem_of_getElem? (i := 32) (by decide +kernel), List.mem_of_getElem? (i := 195) (by decide +kernel), List.mem_of_getElem? (i := 196) (by decide +kernel)⟩
theorem lw_p3 : lw_okq (⟨"BoatsCalledIn$Tape", "takeNumber", "()V"⟩, 9) := ⟨⟨by decide +kernel, by decide +kernel⟩, List.mem_of_getElem? (i := 32) (by decide +kernel), List.mem_of_getElem? (i := 204) (by decide +kernel), List.mem_of_getElem? (i := 205) (by decide +kernel)⟩
theorem lw_p4 : lw_okq (⟨"BoatsCalledIn$Tape", "clauseOf", "(I)Z"⟩, 9) := ⟨⟨by decide +kernel, by decide +kernel⟩, List.mem_of_getElem? (i := 32) (by decide +kernel), List.mem_of_getElem? (i := 211) (by decide +kernel), List.mem_of_getElem? (i := 212) (by decide +kernel)⟩
theorem lw_p5 : lw_okq (⟨"BoatsCalledIn$Tape", "skip", "(I)Z"⟩, 9) := ⟨⟨by decide +kernel, by decide +kernel⟩, List.mem_of_getElem? (i := 32) (by decide +kernel), List.mem_of_getElem? (i := 215) (by decide +kernel), List.mem_of_getElem? (i := 216) (by decide +kernel)⟩
theorem lw_p6 : lw_okq (⟨"BoatsCalledIn$Tape", "either", "(I)Z"⟩, 9) := ⟨⟨by decide +kernel, by decide +kernel⟩, List.mem_of_getElem? (i := 32) (by decide +kernel), List.mem_of_getElem? (i := 219) (by decide +kernel), List.mem_of_getElem? (i := 220) (by decide +kernel)⟩
theorem lw_p7 : lw_okq (⟨"BoatsCalledIn$Tape", "both", "(I)Z"⟩, 9) := ⟨⟨by decide +kernel, by decide +kernel⟩, List.mem_of_getElem? (i := 32) (by decide +kernel), List.mem_of_getElem? (i := 223) (by decide +kernel), List.mem_of_getElem? (i := 224) (by decide +kernel)⟩
theorem lw_p8 : lw_okq (⟨"BoatsCalledIn$Tape", "denied", "(I)Z"⟩, 9) := ⟨⟨by decide +kernel, by decide +kernel⟩, List.mem_of_getElem? (i := 32) (by decide +kernel), List.mem_of_getElem? (i := 227) (by decide +kernel), List.mem_of_getElem? (i := 228) (by decide +kernel)⟩
theorem lw_p9 : lw_okq (⟨"BoatsCalledIn$Tape", "compared", "(I)Z"⟩, 9) := ⟨⟨by decide +kernel, by decide +kernel⟩, List.mem_of_getElem? (i := 32) (by decide +kernel), List.mem_of_getElem? (i := 231) (by decide +kernel), List.mem_of_getElem? (i := 232) (by decide +kernel)⟩
theorem lw_p10 : lw_okq (⟨"BoatsCalledIn$Tape", "sum", "(I)Z"⟩, 9) := ⟨⟨by decide +kernel, by decide +kernel⟩, List.mem_of_getElem? (i := 32) (by decide +kernel), List.mem_of_getElem? (i := 235) (by decide +kernel), List.mem_of_getElem? (i := 236) (by decide +kernel)⟩
theorem lw_p11 : lw_okq (⟨"BoatsCalledIn$Tape", "product", "(I)Z"⟩, 9) := ⟨⟨by decide +kernel, by decide +kernel⟩, List.mem_of_getElem? (i := 32) (by decide +kernel), List.mem_of_getElem? (i := 239) (by decide +kernel), List.mem_of_getElem? (i := 240) (by decide +kernel)⟩
theorem lw_p12 : lw_okq (⟨"BoatsCalledIn$Tape", "single", "(I)Z"⟩, 9) := ⟨⟨by decide +kernel, by decide +kernel⟩, List.mem_of_getElem? (i := 32) (by decide +kernel), List.mem_of_getElem? (i := 243) (by decide +kernel), List.mem_of_getElem? (i := 244) (by decide +kernel)⟩
theorem lw_p13 : lw_okq (⟨"BoatsCalledIn$Tape", "put", "(I)V"⟩, 9) := ⟨⟨by decide +kernel, by decide +kernel⟩, List.mem_of_getElem? (i := 32) (by decide +kernel), List.mem_of_getElem? (i := 247) (by decide +kernel), List.mem_of_getElem? (i := 248) (by decide +kernel)⟩
theorem lw_p14 : lw_okq (⟨"BoatsCalledIn$Tape", "emit", "(I)V"⟩, 9) := ⟨⟨by decide +kernel, by decide +kernel⟩, List.mem_of_getElem? (i := 32) (by decide +kernel), List.mem_of_getElem? (i := 251) (by decide +kernel), List.mem_of_getElem? (i := 252) (by decide +kernel)⟩
theorem lw_p15 : lw_okq (⟨"BoatsCalledIn", "isBoat", "(I)Z"⟩, 12) := ⟨⟨by decide +kernel, by decide +kernel⟩, List.mem_of_getElem? (i := 22) (by decide +kernel), List.mem_of_getElem? (i := 418) (by decide +kernel), List.mem_of_getElem? (i := 419) (by decide +kernel)⟩
def lw_privs_1 : List (MethodName × Nat) := [(⟨"BoatsCalledIn$Tape", "step", "()V"⟩, 9), (⟨"BoatsCalledIn$Tape", "takeWord", "()V"⟩, 9), (⟨"BoatsCalledIn$Tape", "isSpelled", "(Ljava/lang/String;)Z"⟩, 9), (⟨"BoatsCalledIn$Tape", "takeNumber", "()V"⟩, 9), (⟨"BoatsCalledIn$Tape", "clauseOf", "(I)Z"⟩, 9), (⟨"BoatsCalledIn$Tape", "skip", "(I)Z"⟩, 9), (⟨"BoatsCalledIn$Tape", "either", "(I)Z"⟩, 9), (⟨"BoatsCalledIn$Tape", "both", "(I)Z"⟩, 9), (⟨"BoatsCalledIn$Tape", "denied", "(I)Z"⟩, 9), (⟨"BoatsCalledIn$Tape", "compared", "(I)Z"⟩, 9), (⟨"BoatsCalledIn$Tape", "sum", "(I)Z"⟩, 9), (⟨"BoatsCalledIn$Tape", "product", "(I)Z"⟩, 9), (⟨"BoatsCalledIn$Tape", "single", "(I)Z"⟩, 9), (⟨"BoatsCalledIn$Tape", "put", "(I)V"⟩, 9), (⟨"BoatsCalledIn$Tape", "emit", "(I)V"⟩, 9), (⟨"BoatsCalledIn", "isBoat", "(I)Z"⟩, 12)]
theorem lw_r1 : ∀ q ∈ lw_privs_1, lw_okq q := List.forall_mem_cons.mpr ⟨lw_p0, List.forall_mem_cons.mpr ⟨lw_p1, List.forall_mem_cons.mpr ⟨lw_p2, List.forall_mem_cons.mpr ⟨lw_p3, List.forall_mem_cons.mpr ⟨lw_p4, List.forall_mem_cons.mpr ⟨lw_p5, List.forall_mem_cons.mpr ⟨lw_p6, List.forall_mem_cons.mpr ⟨lw_p7, List.forall_mem_cons.mpr ⟨lw_p8, List.forall_mem_cons.mpr ⟨lw_p9, List.forall_mem_cons.mpr ⟨lw_p10, List.forall_mem_cons.mpr ⟨lw_p11, List.forall_mem_cons.mpr ⟨lw_p12, List.forall_mem_cons.mpr ⟨lw_p13, List.forall_mem_cons.mpr ⟨lw_p14, List.forall_mem_cons.mpr ⟨lw_p15, fun _ h => absurd h List.not_mem_nil⟩⟩⟩⟩⟩⟩⟩⟩⟩⟩⟩⟩⟩⟩⟩⟩
theorem lw_p16 : lw_okq (⟨"BoatsCalledIn", "wouldComeNow", "(I)Z"⟩, 12) := ⟨⟨by decide +kernel, by decide +kernel⟩, List.mem_of_getElem? (i := 22) (by decide +kernel), List.mem_of_getElem? (i := 513) (by decide +kernel), List.mem_of_getElem? (i := 514) (by decide +kernel)⟩
theorem lw_p17 : lw_okq (⟨"BoatsCalledIn", "wouldCome", "(IIII)Z"⟩, 12) := ⟨⟨by decide +kernel, by decide +kernel⟩, List.mem_of_getElem? (i := 22) (by decide +kernel), List.mem_of_getElem? (i := 517) (by decide +kernel), List.mem_of_getElem? (i := 518) (by decide +kernel)⟩
theorem lw_p18 : lw_okq (⟨"BoatsCalledIn", "nameAll", "(IIII)V"⟩, 12) := ⟨⟨by decide +kernel, by decide +kernel⟩, List.mem_of_getElem? (i := 22) (by decide +kernel), List.mem_of_getElem? (i := 527) (by decide +kernel), List.mem_of_getElem? (i := 528) (by decide +kernel)⟩
theorem lw_p19 : lw_okq (⟨"BoatsCalledIn", "isHidden", "(I)Z"⟩, 12) := ⟨⟨by decide +kernel, by decide +kernel⟩, List.mem_of_getElem? (i := 22) (by decide +kernel), List.mem_of_getElem? (i := 541) (by decide +kernel), List.mem_of_getElem? (i := 542) (by decide +kernel)⟩
theorem lw_p20 : lw_okq (⟨"BoatsCalledIn", "rule", "()LBoatsCalledIn$Rule;"⟩, 12) := ⟨⟨by decide +kernel, by decide +kernel⟩, List.mem_of_getElem? (i := 22) (by decide +kernel), List.mem_of_getElem? (i := 545) (by decide +kernel), List.mem_of_getElem? (i := 546) (by decide +kernel)⟩
theorem lw_p21 : lw_okq (⟨"BoatsCalledIn$Rule", "push", "(I)V"⟩, 4) := ⟨⟨by decide +kernel, by decide +kernel⟩, List.mem_of_getElem? (i := 259) (by decide +kernel), List.mem_of_getElem? (i := 553) (by decide +kernel), List.mem_of_getElem? (i := 554) (by decide +kernel)⟩
theorem lw_p22 : lw_okq (⟨"BoatsCalledIn$Rule", "pop", "()I"⟩, 4) := ⟨⟨by decide +kernel, by decide +kernel⟩, List.mem_of_getElem? (i := 259) (by decide +kernel), List.mem_of_getElem? (i := 557) (by decide +kernel), List.mem_of_getElem? (i := 558) (by decide +kernel)⟩
theorem lw_p23 : lw_okq (⟨"BoatsCalledIn", "owed", "(II)I"⟩, 12) := ⟨⟨by decide +kernel, by decide +kernel⟩, List.mem_of_getElem? (i := 22) (by decide +kernel), List.mem_of_getElem? (i := 564) (by decide +kernel), List.mem_of_getElem? (i := 565) (by decide +kernel)⟩
theorem lw_p24 : lw_okq (⟨"BoatsCalledIn", "isOnTheLake", "(I)Z"⟩, 12) := ⟨⟨by decide +kernel, by decide +kernel⟩, List.mem_of_getElem? (i := 22) (by decide +kernel), List.mem_of_getElem? (i := 617) (by decide +kernel), List.mem_of_getElem? (i := 618) (by decide +kernel)⟩
theorem lw_p25 : lw_okq (⟨"BoatsCalledIn", "needs", "(I)I"⟩, 12) := ⟨⟨by decide +kernel, by decide +kernel⟩, List.mem_of_getElem? (i := 22) (by decide +kernel), List.mem_of_getElem? (i := 621) (by decide +kernel), List.mem_of_getElem? (i := 622) (by decide +kernel)⟩
theorem lw_p26 : lw_okq (⟨"BoatsCalledIn", "pass", "(I)I"⟩, 12) := ⟨⟨by decide +kernel, by decide +kernel⟩, List.mem_of_getElem? (i := 22) (by decide +kernel), List.mem_of_getElem? (i := 629) (by decide +kernel), List.mem_of_getElem? (i := 630) (by decide +kernel)⟩
theorem lw_p27 : lw_okq (⟨"BoatsCalledIn", "comeIn", "(II)V"⟩, 12) := ⟨⟨by decide +kernel, by decide +kernel⟩, List.mem_of_getElem? (i := 22) (by decide +kernel), List.mem_of_getElem? (i := 633) (by decide +kernel), List.mem_of_getElem? (i := 634) (by decide +kernel)⟩
theorem lw_p28 : lw_okq (⟨"BoatsCalledIn", "comingAt", "(I)I"⟩, 12) := ⟨⟨by decide +kernel, by decide +kernel⟩, List.mem_of_getElem? (i := 22) (by decide +kernel), List.mem_of_getElem? (i := 649) (by decide +kernel), List.mem_of_getElem? (i := 650) (by decide +kernel)⟩
theorem lw_p29 : lw_okq (⟨"BoatsCalledIn", "areOnTheLake", "(I)Z"⟩, 12) := ⟨⟨by decide +kernel, by decide +kernel⟩, List.mem_of_getElem? (i := 22) (by decide +kernel), List.mem_of_getElem? (i := 657) (by decide +kernel), List.mem_of_getElem? (i := 658) (by decide +kernel)⟩
theorem lw_p30 : lw_okq (⟨"BoatsCalledIn", "those", "(I)I"⟩, 12) := ⟨⟨by decide +kernel, by decide +kernel⟩, List.mem_of_getElem? (i := 22) (by decide +kernel), List.mem_of_getElem? (i := 661) (by decide +kernel), List.mem_of_getElem? (i := 662) (by decide +kernel)⟩
theorem lw_p31 : lw_okq (⟨"BoatsCalledIn", "readyTug", "()V"⟩, 12) := ⟨⟨by decide +kernel, by decide +kernel⟩, List.mem_of_getElem? (i := 22) (by decide +kernel), List.mem_of_getElem? (i := 665) (by decide +kernel), List.mem_of_getElem? (i := 666) (by decide +kernel)⟩
def lw_privs_2 : List (MethodName × Nat) := [(⟨"BoatsCalledIn", "wouldComeNow", "(I)Z"⟩, 12), (⟨"BoatsCalledIn", "wouldCome", "(IIII)Z"⟩, 12), (⟨"BoatsCalledIn", "nameAll", "(IIII)V"⟩, 12), (⟨"BoatsCalledIn", "isHidden", "(I)Z"⟩, 12), (⟨"BoatsCalledIn", "rule", "()LBoatsCalledIn$Rule;"⟩, 12), (⟨"BoatsCalledIn$Rule", "push", "(I)V"⟩, 4), (⟨"BoatsCalledIn$Rule", "pop", "()I"⟩, 4), (⟨"BoatsCalledIn", "owed", "(II)I"⟩, 12), (⟨"BoatsCalledIn", "isOnTheLake", "(I)Z"⟩, 12), (⟨"BoatsCalledIn", "needs", "(I)I"⟩, 12), (⟨"BoatsCalledIn", "pass", "(I)I"⟩, 12), (⟨"BoatsCalledIn", "comeIn", "(II)V"⟩, 12), (⟨"BoatsCalledIn", "comingAt", "(I)I"⟩, 12), (⟨"BoatsCalledIn", "areOnTheLake", "(I)Z"⟩, 12), (⟨"BoatsCalledIn", "those", "(I)I"⟩, 12), (⟨"BoatsCalledIn", "readyTug", "()V"⟩, 12)]
theorem lw_r2 : ∀ q ∈ lw_privs_2, lw_okq q := List.forall_mem_cons.mpr ⟨lw_p16, List.forall_mem_cons.mpr ⟨lw_p17, List.forall_mem_cons.mpr ⟨lw_p18, List.forall_mem_cons.mpr ⟨lw_p19, List.forall_mem_cons.mpr ⟨lw_p20, List.forall_mem_cons.mpr ⟨lw_p21, List.forall_mem_cons.mpr ⟨lw_p22, List.forall_mem_cons.mpr ⟨lw_p23, List.forall_mem_cons.mpr ⟨lw_p24, List.forall_mem_cons.mpr ⟨lw_p25, List.forall_mem_cons.mpr ⟨lw_p26, List.forall_mem_cons.mpr ⟨lw_p27, List.forall_mem_cons.mpr ⟨lw_p28, List.forall_mem_cons.mpr ⟨lw_p29, List.forall_mem_cons.mpr ⟨lw_p30, List.forall_mem_cons.mpr ⟨lw_p31, fun _ h => absurd h List.not_mem_nil⟩⟩⟩⟩⟩⟩⟩⟩⟩⟩⟩⟩⟩⟩⟩⟩
theorem lw_p32 : lw_okq (⟨"BoatsCalledIn$Tug", "best", "(III)I"⟩, 4) := ⟨⟨by decide +kernel, by decide +kernel⟩, List.mem_of_getElem? (i := 70) (by decide +kernel), List.mem_of_getElem? (i := 673) (by decide +kernel), List.mem_of_getElem? (i := 674) (by decide +kernel)⟩
theorem lw_p33 : lw_okq (⟨"BoatsCalledIn$Tug", "through", "(IIII)I"⟩, 4) := ⟨⟨by decide +kernel, by decide +kernel⟩, List.mem_of_getElem? (i := 70) (by decide +kernel), List.mem_of_getElem? (i := 677) (by decide +kernel), List.mem_of_getElem? (i := 678) (by decide +kernel)⟩
theorem lw_p34 : lw_okq (⟨"BoatsCalledIn", "inBy", "(I)I"⟩, 12) := ⟨⟨by decide +kernel, by decide +kernel⟩, List.mem_of_getElem? (i := 22) (by decide +kernel), List.mem_of_getElem? (i := 705) (by decide +kernel), List.mem_of_getElem? (i := 706) (by decide +kernel)⟩
theorem lw_p35 : lw_okq (⟨"BoatsCalledIn", "mostFetched", "(II)I"⟩, 12) := ⟨⟨by decide +kernel, by decide +kernel⟩, List.mem_of_getElem? (i := 22) (by decide +kernel), List.mem_of_getElem? (i := 710) (by decide +kernel), List.mem_of_getElem? (i := 711) (by decide +kernel)⟩
theorem lw_p36 : lw_okq (⟨"BoatsCalledIn", "orderComing", "()I"⟩, 12) := ⟨⟨by decide +kernel, by decide +kernel⟩, List.mem_of_getElem? (i := 22) (by decide +kernel), List.mem_of_getElem? (i := 719) (by decide +kernel), List.mem_of_getElem? (i := 720) (by decide +kernel)⟩
theorem lw_p37 : lw_okq (⟨"BoatsCalledIn", "putInOrder", "(II)V"⟩, 12) := ⟨⟨by decide +kernel, by decide +kernel⟩, List.mem_of_getElem? (i := 22) (by decide +kernel), List.mem_of_getElem? (i := 723) (by decide +kernel), List.mem_of_getElem? (i := 724) (by decide +kernel)⟩
theorem lw_p38 : lw_okq (⟨"BoatsCalledIn", "isTrue", "(II)Z"⟩, 12) := ⟨⟨by decide +kernel, by decide +kernel⟩, List.mem_of_getElem? (i := 22) (by decide +kernel), List.mem_of_getElem? (i := 746) (by decide +kernel), List.mem_of_getElem? (i := 747) (by decide +kernel)⟩
theorem lw_p39 : lw_okq (⟨"BoatsCalledInModel", "next", "()V"⟩, 40) := ⟨⟨by decide +kernel, by decide +kernel⟩, List.mem_of_getElem? (i := 842) (by decide +kernel), List.mem_of_getElem? (i := 862) (by decide +kernel), List.mem_of_getElem? (i := 863) (by decide +kernel)⟩
theorem lw_p40 : lw_okq (⟨"BoatsCalledInModel", "part", "(Ljava/lang/String;I)Z"⟩, 40) := ⟨⟨by decide +kernel, by decide +kernel⟩, List.mem_of_getElem? (i := 842) (by decide +kernel), List.mem_of_getElem? (i := 873) (by decide +kernel), List.mem_of_getElem? (i := 874) (by decide +kernel)⟩
theorem lw_p41 : lw_okq (⟨"BoatsCalledInModel", "is", "(Ljava/lang/String;)Z"⟩, 40) := ⟨⟨by decide +kernel, by decide +kernel⟩, List.mem_of_getElem? (i := 842) (by decide +kernel), List.mem_of_getElem? (i := 877) (by decide +kernel), List.mem_of_getElem? (i := 878) (by decide +kernel)⟩
theorem lw_p42 : lw_okq (⟨"BoatsCalledInModel", "any", "()Z"⟩, 40) := ⟨⟨by decide +kernel, by decide +kernel⟩, List.mem_of_getElem? (i := 842) (by decide +kernel), List.mem_of_getElem? (i := 881) (by decide +kernel), List.mem_of_getElem? (i := 882) (by decide +kernel)⟩
theorem lw_p43 : lw_okq (⟨"BoatsCalledInModel", "both", "()Z"⟩, 40) := ⟨⟨by decide +kernel, by decide +kernel⟩, List.mem_of_getElem? (i := 842) (by decide +kernel), List.mem_of_getElem? (i := 885) (by decide +kernel), List.mem_of_getElem? (i := 886) (by decide +kernel)⟩
theorem lw_p44 : lw_okq (⟨"BoatsCalledInModel", "not", "()Z"⟩, 40) := ⟨⟨by decide +kernel, by decide +kernel⟩, List.mem_of_getElem? (i := 842) (by decide +kernel), List.mem_of_getElem? (i := 889) (by decide +kernel), List.mem_of_getElem? (i := 890) (by decide +kernel)⟩
theorem lw_p45 : lw_okq (⟨"BoatsCalledInModel", "put", "(I)V"⟩, 40) := ⟨⟨by decide +kernel, by decide +kernel⟩, List.mem_of_getElem? (i := 842) (by decide +kernel), List.mem_of_getElem? (i := 894) (by decide +kernel), List.mem_of_getElem? (i := 895) (by decide +kernel)⟩
theorem lw_p46 : lw_okq (⟨"BoatsCalledInModel", "sum", "()Z"⟩, 40) := ⟨⟨by decide +kernel, by decide +kernel⟩, List.mem_of_getElem? (i := 842) (by decide +kernel), List.mem_of_getElem? (i := 898) (by decide +kernel), List.mem_of_getElem? (i := 899) (by decide +kernel)⟩
theorem lw_p47 : lw_okq (⟨"BoatsCalledInModel", "term", "()Z"⟩, 40) := ⟨⟨by decide +kernel, by decide +kernel⟩, List.mem_of_getElem? (i := 842) (by decide +kernel), List.mem_of_getElem? (i := 902) (by decide +kernel), List.mem_of_getElem? (i := 903) (by decide +kernel)⟩
def lw_privs_3 : List (MethodName × Nat) := [(⟨"BoatsCalledIn$Tug", "best", "(III)I"⟩, 4), (⟨"BoatsCalledIn$Tug", "through", "(IIII)I"⟩, 4), (⟨"BoatsCalledIn", "inBy", "(I)I"⟩, 12), (⟨"BoatsCalledIn", "mostFetched", "(II)I"⟩, 12), (⟨"BoatsCalledIn", "orderComing", "()I"⟩, 12), (⟨"BoatsCalledIn", "putInOrder", "(II)V"⟩, 12), (⟨"BoatsCalledIn", "isTrue", "(II)Z"⟩, 12), (⟨"BoatsCalledInModel", "next", "()V"⟩, 40), (⟨"BoatsCalledInModel", "part", "(Ljava/lang/String;I)Z"⟩, 40), (⟨"BoatsCalledInModel", "is", "(Ljava/lang/String;)Z"⟩, 40), (⟨"BoatsCalledInModel", "any", "()Z"⟩, 40), (⟨"BoatsCalledInModel", "both", "()Z"⟩, 40), (⟨"BoatsCalledInModel", "not", "()Z"⟩, 40), (⟨"BoatsCalledInModel", "put", "(I)V"⟩, 40), (⟨"BoatsCalledInModel", "sum", "()Z"⟩, 40), (⟨"BoatsCalledInModel", "term", "()Z"⟩, 40)]
theorem lw_r3 : ∀ q ∈ lw_privs_3, lw_okq q := List.forall_mem_cons.mpr ⟨lw_p32, List.forall_mem_cons.mpr ⟨lw_p33, List.forall_mem_cons.mpr ⟨lw_p34, List.forall_mem_cons.mpr ⟨lw_p35, List.forall_mem_cons.mpr ⟨lw_p36, List.forall_mem_cons.mpr ⟨lw_p37, List.forall_mem_cons.mpr ⟨lw_p38, List.forall_mem_cons.mpr ⟨lw_p39, List.forall_mem_cons.mpr ⟨lw_p40, List.forall_mem_cons.mpr ⟨lw_p41, List.forall_mem_cons.mpr ⟨lw_p42, List.forall_mem_cons.mpr ⟨lw_p43, List.forall_mem_cons.mpr ⟨lw_p44, List.forall_mem_cons.mpr ⟨lw_p45, List.forall_mem_cons.mpr ⟨lw_p46, List.forall_mem_cons.mpr ⟨lw_p47, fun _ h => absurd h List.not_mem_nil⟩⟩⟩⟩⟩⟩⟩⟩⟩⟩⟩⟩⟩⟩⟩⟩
theorem lw_p48 : lw_okq (⟨"BoatsCalledInModel", "one", "()Z"⟩, 40) := ⟨⟨by decide +kernel, by decide +kernel⟩, List.mem_of_getElem? (i := 842) (by decide +kernel), List.mem_of_getElem? (i := 906) (by decide +kernel), List.mem_of_getElem? (i := 907) (by decide +kernel)⟩
theorem lw_p49 : lw_okq (⟨"BoatsCalledInModel", "name", "()I"⟩, 40) := ⟨⟨by decide +kernel, by decide +kernel⟩, List.mem_of_getElem? (i := 842) (by decide +kernel), List.mem_of_getElem? (i := 910) (by decide +kernel), List.mem_of_getElem? (i := 911) (by decide +kernel)⟩
theorem lw_p50 : lw_okq (⟨"BoatsCalledInModel", "is", "(C)Z"⟩, 40) := ⟨⟨by decide +kernel, by decide +kernel⟩, List.mem_of_getElem? (i := 842) (by decide +kernel), List.mem_of_getElem? (i := 920) (by decide +kernel), List.mem_of_getElem? (i := 921) (by decide +kernel)⟩
theorem lw_p51 : lw_okq (⟨"BoatsCalledInModel", "isBoat", "(I)Z"⟩, 40) := ⟨⟨by decide +kernel, by decide +kernel⟩, List.mem_of_getElem? (i := 842) (by decide +kernel), List.mem_of_getElem? (i := 1058) (by decide +kernel), List.mem_of_getElem? (i := 1059) (by decide +kernel)⟩
theorem lw_p52 : lw_okq (⟨"BoatsCalledInModel", "rows", "(I)I"⟩, 40) := ⟨⟨by decide +kernel, by decide +kernel⟩, List.mem_of_getElem? (i := 842) (by decide +kernel), List.mem_of_getElem? (i := 1066) (by decide +kernel), List.mem_of_getElem? (i := 1067) (by decide +kernel)⟩
theorem lw_p53 : lw_okq (⟨"BoatsCalledInModel", "hearing", "(I)I"⟩, 40) := ⟨⟨by decide +kernel, by decide +kernel⟩, List.mem_of_getElem? (i := 842) (by decide +kernel), List.mem_of_getElem? (i := 1070) (by decide +kernel), List.mem_of_getElem? (i := 1071) (by decide +kernel)⟩
theorem lw_p54 : lw_okq (⟨"BoatsCalledInModel", "would", "(I)Z"⟩, 40) := ⟨⟨by decide +kernel, by decide +kernel⟩, List.mem_of_getElem? (i := 842) (by decide +kernel), List.mem_of_getElem? (i := 1075) (by decide +kernel), List.mem_of_getElem? (i := 1076) (by decide +kernel)⟩
theorem lw_p55 : lw_okq (⟨"BoatsCalledInModel", "would", "(III)Z"⟩, 40) := ⟨⟨by decide +kernel, by decide +kernel⟩, List.mem_of_getElem? (i := 842) (by decide +kernel), List.mem_of_getElem? (i := 1079) (by decide +kernel), List.mem_of_getElem? (i := 1080) (by decide +kernel)⟩
theorem lw_p56 : lw_okq (⟨"BoatsCalledInModel", "rules", "(IIII)I"⟩, 40) := ⟨⟨by decide +kernel, by decide +kernel⟩, List.mem_of_getElem? (i := 842) (by decide +kernel), List.mem_of_getElem? (i := 1087) (by decide +kernel), List.mem_of_getElem? (i := 1088) (by decide +kernel)⟩
theorem lw_p57 : lw_okq (⟨"BoatsCalledInModel", "owes", "(II)I"⟩, 40) := ⟨⟨by decide +kernel, by decide +kernel⟩, List.mem_of_getElem? (i := 842) (by decide +kernel), List.mem_of_getElem? (i := 1091) (by decide +kernel), List.mem_of_getElem? (i := 1092) (by decide +kernel)⟩
theorem lw_p58 : lw_okq (⟨"BoatsCalledInModel", "needs", "(I)I"⟩, 40) := ⟨⟨by decide +kernel, by decide +kernel⟩, List.mem_of_getElem? (i := 842) (by decide +kernel), List.mem_of_getElem? (i := 1106) (by decide +kernel), List.mem_of_getElem? (i := 1107) (by decide +kernel)⟩
theorem lw_p59 : lw_okq (⟨"BoatsCalledInModel", "passes", "(I)I"⟩, 40) := ⟨⟨by decide +kernel, by decide +kernel⟩, List.mem_of_getElem? (i := 842) (by decide +kernel), List.mem_of_getElem? (i := 1114) (by decide +kernel), List.mem_of_getElem? (i := 1115) (by decide +kernel)⟩
theorem lw_p60 : lw_okq (⟨"BoatsCalledInModel", "comesIn", "(II)V"⟩, 40) := ⟨⟨by decide +kernel, by decide +kernel⟩, List.mem_of_getElem? (i := 842) (by decide +kernel), List.mem_of_getElem? (i := 1118) (by decide +kernel), List.mem_of_getElem? (i := 1119) (by decide +kernel)⟩
theorem lw_p61 : lw_okq (⟨"BoatsCalledInModel", "wouldBeIn", "(I)I"⟩, 40) := ⟨⟨by decide +kernel, by decide +kernel⟩, List.mem_of_getElem? (i := 842) (by decide +kernel), List.mem_of_getElem? (i := 1134) (by decide +kernel), List.mem_of_getElem? (i := 1135) (by decide +kernel)⟩
theorem lw_p62 : lw_okq (⟨"BoatsCalledInModel", "onTheLake", "(I)Z"⟩, 40) := ⟨⟨by decide +kernel, by decide +kernel⟩, List.mem_of_getElem? (i := 842) (by decide +kernel), List.mem_of_getElem? (i := 1142) (by decide +kernel), List.mem_of_getElem? (i := 1143) (by decide +kernel)⟩
theorem lw_p63 : lw_okq (⟨"BoatsCalledInModel", "fetches", "(I)I"⟩, 40) := ⟨⟨by decide +kernel, by decide +kernel⟩, List.mem_of_getElem? (i := 842) (by decide +kernel), List.mem_of_getElem? (i := 1146) (by decide +kernel), List.mem_of_getElem? (i := 1147) (by decide +kernel)⟩
def lw_privs_4 : List (MethodName × Nat) := [(⟨"BoatsCalledInModel", "one", "()Z"⟩, 40), (⟨"BoatsCalledInModel", "name", "()I"⟩, 40), (⟨"BoatsCalledInModel", "is", "(C)Z"⟩, 40), (⟨"BoatsCalledInModel", "isBoat", "(I)Z"⟩, 40), (⟨"BoatsCalledInModel", "rows", "(I)I"⟩, 40), (⟨"BoatsCalledInModel", "hearing", "(I)I"⟩, 40), (⟨"BoatsCalledInModel", "would", "(I)Z"⟩, 40), (⟨"BoatsCalledInModel", "would", "(III)Z"⟩, 40), (⟨"BoatsCalledInModel", "rules", "(IIII)I"⟩, 40), (⟨"BoatsCalledInModel", "owes", "(II)I"⟩, 40), (⟨"BoatsCalledInModel", "needs", "(I)I"⟩, 40), (⟨"BoatsCalledInModel", "passes", "(I)I"⟩, 40), (⟨"BoatsCalledInModel", "comesIn", "(II)V"⟩, 40), (⟨"BoatsCalledInModel", "wouldBeIn", "(I)I"⟩, 40), (⟨"BoatsCalledInModel", "onTheLake", "(I)Z"⟩, 40), (⟨"BoatsCalledInModel", "fetches", "(I)I"⟩, 40)]
theorem lw_r4 : ∀ q ∈ lw_privs_4, lw_okq q := List.forall_mem_cons.mpr ⟨lw_p48, List.forall_mem_cons.mpr ⟨lw_p49, List.forall_mem_cons.mpr ⟨lw_p50, List.forall_mem_cons.mpr ⟨lw_p51, List.forall_mem_cons.mpr ⟨lw_p52, List.forall_mem_cons.mpr ⟨lw_p53, List.forall_mem_cons.mpr ⟨lw_p54, List.forall_mem_cons.mpr ⟨lw_p55, List.forall_mem_cons.mpr ⟨lw_p56, List.forall_mem_cons.mpr ⟨lw_p57, List.forall_mem_cons.mpr ⟨lw_p58, List.forall_mem_cons.mpr ⟨lw_p59, List.forall_mem_cons.mpr ⟨lw_p60, List.forall_mem_cons.mpr ⟨lw_p61, List.forall_mem_cons.mpr ⟨lw_p62, List.forall_mem_cons.mpr ⟨lw_p63, fun _ h => absurd h List.not_mem_nil⟩⟩⟩⟩⟩⟩⟩⟩⟩⟩⟩⟩⟩⟩⟩⟩
theorem lw_p64 : lw_okq (⟨"BoatsCalledInModel", "goes", "(IIIII)V"⟩, 40) := ⟨⟨by decide +kernel, by decide +kernel⟩, List.mem_of_getElem? (i := 842) (by decide +kernel), List.mem_of_getElem? (i := 1150) (by decide +kernel), List.mem_of_getElem? (i := 1151) (by decide +kernel)⟩
theorem lw_p65 : lw_okq (⟨"BoatsCalledInModel", "thoseWho", "(I)I"⟩, 40) := ⟨⟨by decide +kernel, by decide +kernel⟩, List.mem_of_getElem? (i := 842) (by decide +kernel), List.mem_of_getElem? (i := 1206) (by decide +kernel), List.mem_of_getElem? (i := 1207) (by decide +kernel)⟩
def lw_privs_5 : List (MethodName × Nat) := [(⟨"BoatsCalledInModel", "goes", "(IIIII)V"⟩, 40), (⟨"BoatsCalledInModel", "thoseWho", "(I)I"⟩, 40)]
theorem lw_r5 : ∀ q ∈ lw_privs_5, lw_okq q := List.forall_mem_cons.mpr ⟨lw_p64, List.forall_mem_cons.mpr ⟨lw_p65, fun _ h => absurd h List.not_mem_nil⟩⟩
def lw_privs : List (MethodName × Nat) := lw_privs_1 ++ (lw_privs_2 ++ (lw_privs_3 ++ (lw_privs_4 ++ (lw_privs_5))))
def lw_tbl : List Cond := k2_sels lw_privs ++ tables_1
theorem lw_privs_ok : ∀ q ∈ lw_privs, lw_okq q := by
  show ∀ q ∈ lw_privs_1 ++ (lw_privs_2 ++ (lw_privs_3 ++ (lw_privs_4 ++ (lw_privs_5)))), lw_okq q
  exact List.forall_mem_append.mpr ⟨lw_r1, List.forall_mem_append.mpr ⟨lw_r2, List.forall_mem_append.mpr ⟨lw_r3, List.forall_mem_append.mpr ⟨lw_r4, lw_r5⟩⟩⟩⟩
def RX0 : String := "BoatsCalledIn$Boat"
def TX0 : u_T := fun k => match k with
  | 0 => ("BoatsCalledIn$Boat", "now", "[I", true)
  | _ => ("BoatsCalledIn$Boat", "kept", "[I", true)
def tyX0 : Nat → FieldType := fun k => match k with
  | 0 => .array .int
  | _ => .array .int
abbrev wsX00 : List Cond := u_ws RX0 TX0 2
theorem nmX0 : ∀ a, a < 2 → ∀ b, b < 2 → a ≠ b → (TX0 a).2.1 ≠ (TX0 b).2.1 := by decide +kernel
theorem tyX0_ok : ∀ k, k < 2 → parseFieldDescriptor (TX0 k).2.2.1 = some (tyX0 k) := by decide +kernel
abbrev cX0_init : ByteArray := prog_2_method_1_code
def yX0_init : MethodName := ⟨RX0, "<init>", "(II)V"⟩
abbrev cX0_kind : ByteArray := prog_2_method_2_code
def yX0_kind : MethodName := ⟨RX0, "kind", "()I"⟩
abbrev cX0_rows : ByteArray := prog_2_method_3_code
def yX0_rows : MethodName := ⟨RX0, "rows", "(I)I"⟩
abbrev cX0_hears : ByteArray := prog_2_method_4_code
def yX0_hears : MethodName := ⟨RX0, "hears", "(I)I"⟩
abbrev cX0_owes : ByteArray := prog_2_method_5_code
def yX0_owes : MethodName := ⟨RX0, "owes", "(II)I"⟩
abbrev cX0_rowsBy : ByteArray := prog_2_method_6_code
def yX0_rowsBy : MethodName := ⟨RX0, "rowsBy", "(I)I"⟩
abbrev cX0_hearsBy : ByteArray := prog_2_method_7_code
def yX0_hearsBy : MethodName := ⟨RX0, "hearsBy", "(I)I"⟩
abbrev cX0_owesBy : ByteArray := prog_2_method_8_code
def yX0_owesBy : MethodName := ⟨RX0, "owesBy", "(II)I"⟩
abbrev cX0_due : ByteArray := prog_2_method_9_code
def yX0_due : MethodName := ⟨RX0, "due", "()I"⟩
abbrev cX0_keep : ByteArray := prog_2_method_10_code
def yX0_keep : MethodName := ⟨RX0, "keep", "()V"⟩
abbrev cX0_layBack : ByteArray := prog_2_method_11_code
def yX0_layBack : MethodName := ⟨RX0, "layBack", "()V"⟩
def RX1 : String := "BoatsCalledIn$Deaf"
def TX1 : u_T := fun k => match k with
  | 0 => ("BoatsCalledIn$Boat", "now", "[I", true)
  | _ => ("BoatsCalledIn$Boat", "kept", "[I", true)
def tyX1 : Nat → FieldType := fun k => match k with
  | 0 => .array .int
  | _ => .array .int
abbrev wsX10 : List Cond := u_ws RX1 TX1 2
theorem nmX1 : ∀ a, a < 2 → ∀ b, b < 2 → a ≠ b → (TX1 a).2.1 ≠ (TX1 b).2.1 := by decide +kernel
theorem tyX1_ok : ∀ k, k < 2 → parseFieldDescriptor (TX1 k).2.2.1 = some (tyX1 k) := by decide +kernel
abbrev cX1_init : ByteArray := prog_3_method_1_code
def yX1_init : MethodName := ⟨RX1, "<init>", "(II)V"⟩
abbrev cX1_kind : ByteArray := prog_3_method_2_code
def yX1_kind : MethodName := ⟨RX1, "kind", "()I"⟩
abbrev cX1_hears : ByteArray := prog_3_method_3_code
def yX1_hears : MethodName := ⟨RX1, "hears", "(I)I"⟩
abbrev cX1_owes : ByteArray := prog_3_method_4_code
def yX1_owes : MethodName := ⟨RX1, "owes", "(II)I"⟩
def RX2 : String := "BoatsCalledIn$Leaky"
def TX2 : u_T := fun k => match k with
  | 0 => ("BoatsCalledIn$Boat", "now", "[I", true)
  | _ => ("BoatsCalledIn$Boat", "kept", "[I", true)
def tyX2 : Nat → FieldType := fun k => match k with
  | 0 => .array .int
  | _ => .array .int
abbrev wsX20 : List Cond := u_ws RX2 TX2 2
theorem nmX2 : ∀ a, a < 2 → ∀ b, b < 2 → a ≠ b → (TX2 a).2.1 ≠ (TX2 b).2.1 := by decide +kernel
theorem tyX2_ok : ∀ k, k < 2 → parseFieldDescriptor (TX2 k).2.2.1 = some (tyX2 k) := by decide +kernel
abbrev cX2_init : ByteArray := prog_4_method_1_code
def yX2_init : MethodName := ⟨RX2, "<init>", "(II)V"⟩
abbrev cX2_kind : ByteArray := prog_4_method_2_code
def yX2_kind : MethodName := ⟨RX2, "kind", "()I"⟩
abbrev cX2_rows : ByteArray := prog_4_method_3_code
def yX2_rows : MethodName := ⟨RX2, "rows", "(I)I"⟩
abbrev cX2_owes : ByteArray := prog_4_method_4_code
def yX2_owes : MethodName := ⟨RX2, "owes", "(II)I"⟩
def RX3 : String := "BoatsCalledIn$Lovers"
def TX3 : u_T := fun k => match k with
  | 0 => ("BoatsCalledIn$Boat", "now", "[I", true)
  | _ => ("BoatsCalledIn$Boat", "kept", "[I", true)
def tyX3 : Nat → FieldType := fun k => match k with
  | 0 => .array .int
  | _ => .array .int
abbrev wsX30 : List Cond := u_ws RX3 TX3 2
theorem nmX3 : ∀ a, a < 2 → ∀ b, b < 2 → a ≠ b → (TX3 a).2.1 ≠ (TX3 b).2.1 := by decide +kernel
theorem tyX3_ok : ∀ k, k < 2 → parseFieldDescriptor (TX3 k).2.2.1 = some (tyX3 k) := by decide +kernel
abbrev cX3_init : ByteArray := prog_5_method_1_code
def yX3_init : MethodName := ⟨RX3, "<init>", "(II)V"⟩
abbrev cX3_kind : ByteArray := prog_5_method_2_code
def yX3_kind : MethodName := ⟨RX3, "kind", "()I"⟩
abbrev cX3_rows : ByteArray := prog_5_method_3_code
def yX3_rows : MethodName := ⟨RX3, "rows", "(I)I"⟩
abbrev cX3_hears : ByteArray := prog_5_method_4_code
def yX3_hears : MethodName := ⟨RX3, "hears", "(I)I"⟩
abbrev cX3_owes : ByteArray := prog_5_method_5_code
def yX3_owes : MethodName := ⟨RX3, "owes", "(II)I"⟩
def RX4 : String := "BoatsCalledIn$Punt"
def TX4 : u_T := fun k => match k with
  | 0 => ("BoatsCalledIn$Boat", "now", "[I", true)
  | _ => ("BoatsCalledIn$Boat", "kept", "[I", true)
def tyX4 : Nat → FieldType := fun k => match k with
  | 0 => .array .int
  | _ => .array .int
abbrev wsX40 : List Cond := u_ws RX4 TX4 2
theorem nmX4 : ∀ a, a < 2 → ∀ b, b < 2 → a ≠ b → (TX4 a).2.1 ≠ (TX4 b).2.1 := by decide +kernel
theorem tyX4_ok : ∀ k, k < 2 → parseFieldDescriptor (TX4 k).2.2.1 = some (tyX4 k) := by decide +kernel
abbrev cX4_init : ByteArray := prog_6_method_1_code
def yX4_init : MethodName := ⟨RX4, "<init>", "(II)V"⟩
abbrev cX4_kind : ByteArray := prog_6_method_2_code
def yX4_kind : MethodName := ⟨RX4, "kind", "()I"⟩
abbrev cX4_rows : ByteArray := prog_6_method_3_code
def yX4_rows : MethodName := ⟨RX4, "rows", "(I)I"⟩
abbrev cX4_hears : ByteArray := prog_6_method_4_code
def yX4_hears : MethodName := ⟨RX4, "hears", "(I)I"⟩
abbrev cX4_owes : ByteArray := prog_6_method_5_code
def yX4_owes : MethodName := ⟨RX4, "owes", "(II)I"⟩
def RX5 : String := "BoatsCalledIn$Rule"
def TX5 : u_T := fun k => match k with
  | 0 => ("BoatsCalledIn$Rule", "code", "[I", true)
  | 1 => ("BoatsCalledIn$Rule", "ends", "[I", true)
  | 2 => ("BoatsCalledIn$Rule", "stack", "[I", true)
  | _ => ("BoatsCalledIn$Rule", "height", "I", false)
def tyX5 : Nat → FieldType := fun k => match k with
  | 0 => .array .int
  | 1 => .array .int
  | 2 => .array .int
  | _ => .int
abbrev wsX50 : List Cond := u_ws RX5 TX5 4
theorem nmX5 : ∀ a, a < 4 → ∀ b, b < 4 → a ≠ b → (TX5 a).2.1 ≠ (TX5 b).2.1 := by decide +kernel
theorem tyX5_ok : ∀ k, k < 4 → parseFieldDescriptor (TX5 k).2.2.1 = some (tyX5 k) := by decide +kernel
abbrev cX5_init : ByteArray := prog_7_method_1_code
def yX5_init : MethodName := ⟨RX5, "<init>", "([I[I)V"⟩
abbrev cX5_value : ByteArray := prog_7_method_2_code
def yX5_value : MethodName := ⟨RX5, "value", "(I[I)I"⟩
abbrev cX5_push : ByteArray := prog_7_method_3_code
def yX5_push : MethodName := ⟨RX5, "push", "(I)V"⟩
abbrev cX5_pop : ByteArray := prog_7_method_4_code
def yX5_pop : MethodName := ⟨RX5, "pop", "()I"⟩
abbrev cX5_joined : ByteArray := prog_7_method_5_code
def yX5_joined : MethodName := ⟨RX5, "joined", "(III)I"⟩
def RX6 : String := "BoatsCalledIn$Sheet"
def TX6 : u_T := fun k => match k with
  | 0 => ("BoatsCalledIn$Sheet", "row", "[I", true)
  | 1 => ("BoatsCalledIn$Sheet", "sort", "I", false)
  | _ => ("BoatsCalledIn$Sheet", "size", "I", false)
def tyX6 : Nat → FieldType := fun k => match k with
  | 0 => .array .int
  | 1 => .int
  | _ => .int
abbrev wsX60 : List Cond := u_ws RX6 TX6 3
theorem nmX6 : ∀ a, a < 3 → ∀ b, b < 3 → a ≠ b → (TX6 a).2.1 ≠ (TX6 b).2.1 := by decide +kernel
theorem tyX6_ok : ∀ k, k < 3 → parseFieldDescriptor (TX6 k).2.2.1 = some (tyX6 k) := by decide +kernel
abbrev cX6_init : ByteArray := prog_8_method_1_code
def yX6_init : MethodName := ⟨RX6, "<init>", "()V"⟩
abbrev cX6_become : ByteArray := prog_8_method_2_code
def yX6_become : MethodName := ⟨RX6, "become", "(II)V"⟩
abbrev cX6_isMissing : ByteArray := prog_8_method_3_code
def yX6_isMissing : MethodName := ⟨RX6, "isMissing", "()Z"⟩
abbrev cX6_has : ByteArray := prog_8_method_4_code
def yX6_has : MethodName := ⟨RX6, "has", "(JI)Z"⟩
abbrev cX6_at : ByteArray := prog_8_method_5_code
def yX6_at : MethodName := ⟨RX6, "at", "(I)I"⟩
abbrev cX6_put : ByteArray := prog_8_method_6_code
def yX6_put : MethodName := ⟨RX6, "put", "(II)V"⟩
def RX7 : String := "BoatsCalledIn$Skiff"
def TX7 : u_T := fun k => match k with
  | 0 => ("BoatsCalledIn$Boat", "now", "[I", true)
  | _ => ("BoatsCalledIn$Boat", "kept", "[I", true)
def tyX7 : Nat → FieldType := fun k => match k with
  | 0 => .array .int
  | _ => .array .int
abbrev wsX70 : List Cond := u_ws RX7 TX7 2
theorem nmX7 : ∀ a, a < 2 → ∀ b, b < 2 → a ≠ b → (TX7 a).2.1 ≠ (TX7 b).2.1 := by decide +kernel
theorem tyX7_ok : ∀ k, k < 2 → parseFieldDescriptor (TX7 k).2.2.1 = some (tyX7 k) := by decide +kernel
abbrev cX7_init : ByteArray := prog_9_method_1_code
def yX7_init : MethodName := ⟨RX7, "<init>", "(II)V"⟩
abbrev cX7_kind : ByteArray := prog_9_method_2_code
def yX7_kind : MethodName := ⟨RX7, "kind", "()I"⟩
abbrev cX7_rows : ByteArray := prog_9_method_3_code
def yX7_rows : MethodName := ⟨RX7, "rows", "(I)I"⟩
abbrev cX7_hears : ByteArray := prog_9_method_4_code
def yX7_hears : MethodName := ⟨RX7, "hears", "(I)I"⟩
def RX8 : String := "BoatsCalledIn$Tape"
def TX8 : u_T := fun k => match k with
  | 0 => ("BoatsCalledIn$Tape", "bytes", "[I", true)
  | 1 => ("BoatsCalledIn$Tape", "size", "I", false)
  | 2 => ("BoatsCalledIn$Tape", "code", "[I", true)
  | 3 => ("BoatsCalledIn$Tape", "codeSize", "I", false)
  | 4 => ("BoatsCalledIn$Tape", "ends", "[I", true)
  | 5 => ("BoatsCalledIn$Tape", "at", "I", false)
  | 6 => ("BoatsCalledIn$Tape", "behind", "I", false)
  | 7 => ("BoatsCalledIn$Tape", "token", "I", false)
  | _ => ("BoatsCalledIn$Tape", "number", "I", false)
def tyX8 : Nat → FieldType := fun k => match k with
  | 0 => .array .int
  | 1 => .int
  | 2 => .array .int
  | 3 => .int
  | 4 => .array .int
  | 5 => .int
  | 6 => .int
  | 7 => .int
  | _ => .int
abbrev wsX80 : List Cond := u_ws RX8 TX8 9
theorem nmX8 : ∀ a, a < 9 → ∀ b, b < 9 → a ≠ b → (TX8 a).2.1 ≠ (TX8 b).2.1 := by decide +kernel
theorem tyX8_ok : ∀ k, k < 9 → parseFieldDescriptor (TX8 k).2.2.1 = some (tyX8 k) := by decide +kernel
abbrev cX8_init : ByteArray := prog_10_method_1_code
def yX8_init : MethodName := ⟨RX8, "<init>", "()V"⟩
abbrev cX8_add : ByteArray := prog_10_method_2_code
def yX8_add : MethodName := ⟨RX8, "add", "(I)Z"⟩
abbrev cX8_empty : ByteArray := prog_10_method_3_code
def yX8_empty : MethodName := ⟨RX8, "empty", "()V"⟩
abbrev cX8_read : ByteArray := prog_10_method_4_code
def yX8_read : MethodName := ⟨RX8, "read", "()I"⟩
abbrev cX8_ruleRead : ByteArray := prog_10_method_5_code
def yX8_ruleRead : MethodName := ⟨RX8, "ruleRead", "()LBoatsCalledIn$Rule;"⟩
abbrev cX8_clauseOf : ByteArray := prog_10_method_6_code
def yX8_clauseOf : MethodName := ⟨RX8, "clauseOf", "(I)Z"⟩
abbrev cX8_either : ByteArray := prog_10_method_7_code
def yX8_either : MethodName := ⟨RX8, "either", "(I)Z"⟩
abbrev cX8_both : ByteArray := prog_10_method_8_code
def yX8_both : MethodName := ⟨RX8, "both", "(I)Z"⟩
abbrev cX8_denied : ByteArray := prog_10_method_9_code
def yX8_denied : MethodName := ⟨RX8, "denied", "(I)Z"⟩
abbrev cX8_compared : ByteArray := prog_10_method_10_code
def yX8_compared : MethodName := ⟨RX8, "compared", "(I)Z"⟩
abbrev cX8_sum : ByteArray := prog_10_method_11_code
def yX8_sum : MethodName := ⟨RX8, "sum", "(I)Z"⟩
abbrev cX8_product : ByteArray := prog_10_method_12_code
def yX8_product : MethodName := ⟨RX8, "product", "(I)Z"⟩
abbrev cX8_single : ByteArray := prog_10_method_13_code
def yX8_single : MethodName := ⟨RX8, "single", "(I)Z"⟩
abbrev cX8_skip : ByteArray := prog_10_method_14_code
def yX8_skip : MethodName := ⟨RX8, "skip", "(I)Z"⟩
abbrev cX8_emit : ByteArray := prog_10_method_15_code
def yX8_emit : MethodName := ⟨RX8, "emit", "(I)V"⟩
abbrev cX8_put : ByteArray := prog_10_method_16_code
def yX8_put : MethodName := ⟨RX8, "put", "(I)V"⟩
abbrev cX8_step : ByteArray := prog_10_method_17_code
def yX8_step : MethodName := ⟨RX8, "step", "()V"⟩
abbrev cX8_takeWord : ByteArray := prog_10_method_18_code
def yX8_takeWord : MethodName := ⟨RX8, "takeWord", "()V"⟩
abbrev cX8_takeNumber : ByteArray := prog_10_method_19_code
def yX8_takeNumber : MethodName := ⟨RX8, "takeNumber", "()V"⟩
abbrev cX8_isSpelled : ByteArray := prog_10_method_20_code
def yX8_isSpelled : MethodName := ⟨RX8, "isSpelled", "(Ljava/lang/String;)Z"⟩
abbrev cX8_spelling : ByteArray := prog_10_method_21_code
def yX8_spelling : MethodName := ⟨RX8, "spelling", "(I)Ljava/lang/String;"⟩
abbrev cX8_isLetter : ByteArray := prog_10_method_22_code
def yX8_isLetter : MethodName := ⟨RX8, "isLetter", "(I)Z"⟩
abbrev cX8_isDigit : ByteArray := prog_10_method_23_code
def yX8_isDigit : MethodName := ⟨RX8, "isDigit", "(I)Z"⟩
abbrev cX8_isSign : ByteArray := prog_10_method_24_code
def yX8_isSign : MethodName := ⟨RX8, "isSign", "(I)Z"⟩
def RX9 : String := "BoatsCalledIn$Tug"
def TX9 : u_T := fun k => match k with
  | 0 => ("BoatsCalledIn$Tug", "cells", "[I", true)
  | 1 => ("BoatsCalledIn$Tug", "tows", "I", false)
  | 2 => ("BoatsCalledIn$Tug", "speed", "I", false)
  | _ => ("BoatsCalledIn$Tug", "rest", "[I", true)
def tyX9 : Nat → FieldType := fun k => match k with
  | 0 => .array .int
  | 1 => .int
  | 2 => .int
  | _ => .array .int
abbrev wsX90 : List Cond := u_ws RX9 TX9 4
theorem nmX9 : ∀ a, a < 4 → ∀ b, b < 4 → a ≠ b → (TX9 a).2.1 ≠ (TX9 b).2.1 := by decide +kernel
theorem tyX9_ok : ∀ k, k < 4 → parseFieldDescriptor (TX9 k).2.2.1 = some (tyX9 k) := by decide +kernel
abbrev cX9_init : ByteArray := prog_11_method_1_code
def yX9_init : MethodName := ⟨RX9, "<init>", "()V"⟩
abbrev cX9_minutes : ByteArray := prog_11_method_2_code
def yX9_minutes : MethodName := ⟨RX9, "minutes", "(I)I"⟩
abbrev cX9_fetchedAs : ByteArray := prog_11_method_3_code
def yX9_fetchedAs : MethodName := ⟨RX9, "fetchedAs", "(II)I"⟩
abbrev cX9_best : ByteArray := prog_11_method_4_code
def yX9_best : MethodName := ⟨RX9, "best", "(III)I"⟩
abbrev cX9_through : ByteArray := prog_11_method_5_code
def yX9_through : MethodName := ⟨RX9, "through", "(IIII)I"⟩
def RX10 : String := "BoatsCalledIn"
def TX10 : u_T := fun k => match k with
  | 0 => ("BoatsCalledIn", "fleet", "[LBoatsCalledIn$Boat;", true)
  | 1 => ("BoatsCalledIn", "fleetSize", "I", false)
  | 2 => ("BoatsCalledIn", "lake", "[I", true)
  | 3 => ("BoatsCalledIn", "keptLake", "[I", true)
  | 4 => ("BoatsCalledIn", "keptSize", "I", false)
  | 5 => ("BoatsCalledIn", "tape", "LBoatsCalledIn$Tape;", true)
  | 6 => ("BoatsCalledIn", "rules", "[LBoatsCalledIn$Rule;", true)
  | 7 => ("BoatsCalledIn", "ruleCount", "I", false)
  | 8 => ("BoatsCalledIn", "names", "[I", true)
  | 9 => ("BoatsCalledIn", "tug", "LBoatsCalledIn$Tug;", true)
  | 10 => ("BoatsCalledIn", "inOrder", "[I", true)
  | _ => ("BoatsCalledIn", "sheets", "[LBoatsCalledIn$Sheet;", true)
def tyX10 : Nat → FieldType := fun k => match k with
  | 0 => .array (.object "BoatsCalledIn$Boat")
  | 1 => .int
  | 2 => .array .int
  | 3 => .array .int
  | 4 => .int
  | 5 => .object "BoatsCalledIn$Tape"
  | 6 => .array (.object "BoatsCalledIn$Rule")
  | 7 => .int
  | 8 => .array .int
  | 9 => .object "BoatsCalledIn$Tug"
  | 10 => .array .int
  | _ => .array (.object "BoatsCalledIn$Sheet")
abbrev wsX100 : List Cond := u_ws RX10 TX10 12
theorem nmX10 : ∀ a, a < 12 → ∀ b, b < 12 → a ≠ b → (TX10 a).2.1 ≠ (TX10 b).2.1 := by decide +kernel
theorem tyX10_ok : ∀ k, k < 12 → parseFieldDescriptor (TX10 k).2.2.1 = some (tyX10 k) := by decide +kernel
abbrev cX10_init : ByteArray := prog_1_method_1_code
def yX10_init : MethodName := ⟨RX10, "<init>", "()V"⟩
abbrev cX10_boat : ByteArray := prog_1_method_2_code
def yX10_boat : MethodName := ⟨RX10, "boat", "(III)I"⟩
abbrev cX10_set : ByteArray := prog_1_method_3_code
def yX10_set : MethodName := ⟨RX10, "set", "(III)I"⟩
abbrev cX10_told : ByteArray := prog_1_method_4_code
def yX10_told : MethodName := ⟨RX10, "told", "(II)I"⟩
abbrev cX10_fits : ByteArray := prog_1_method_5_code
def yX10_fits : MethodName := ⟨RX10, "fits", "(II)Z"⟩
abbrev cX10_isBoat : ByteArray := prog_1_method_6_code
def yX10_isBoat : MethodName := ⟨RX10, "isBoat", "(I)Z"⟩
abbrev cX10_newBoat : ByteArray := prog_1_method_7_code
def yX10_newBoat : MethodName := ⟨RX10, "newBoat", "(III)LBoatsCalledIn$Boat;"⟩
abbrev cX10_feed : ByteArray := prog_1_method_8_code
def yX10_feed : MethodName := ⟨RX10, "feed", "(I)I"⟩
abbrev cX10_text : ByteArray := prog_1_method_9_code
def yX10_text : MethodName := ⟨RX10, "text", "()I"⟩
abbrev cX10_force : ByteArray := prog_1_method_10_code
def yX10_force : MethodName := ⟨RX10, "force", "(I)I"⟩
abbrev cX10_rule : ByteArray := prog_1_method_11_code
def yX10_rule : MethodName := ⟨RX10, "rule", "()LBoatsCalledIn$Rule;"⟩
abbrev cX10_nameAll : ByteArray := prog_1_method_12_code
def yX10_nameAll : MethodName := ⟨RX10, "nameAll", "(IIII)V"⟩
abbrev cX10_isHidden : ByteArray := prog_1_method_13_code
def yX10_isHidden : MethodName := ⟨RX10, "isHidden", "(I)Z"⟩
abbrev cX10_far : ByteArray := prog_1_method_14_code
def yX10_far : MethodName := ⟨RX10, "far", "(II)I"⟩
abbrev cX10_call : ByteArray := prog_1_method_15_code
def yX10_call : MethodName := ⟨RX10, "call", "(I)I"⟩
abbrev cX10_time : ByteArray := prog_1_method_16_code
def yX10_time : MethodName := ⟨RX10, "time", "(I)I"⟩
abbrev cX10_nobody : ByteArray := prog_1_method_17_code
def yX10_nobody : MethodName := ⟨RX10, "nobody", "()I"⟩
abbrev cX10_callAt : ByteArray := prog_1_method_18_code
def yX10_callAt : MethodName := ⟨RX10, "callAt", "(I)I"⟩
abbrev cX10_allIn : ByteArray := prog_1_method_19_code
def yX10_allIn : MethodName := ⟨RX10, "allIn", "()I"⟩
abbrev cX10_isOnTheLake : ByteArray := prog_1_method_20_code
def yX10_isOnTheLake : MethodName := ⟨RX10, "isOnTheLake", "(I)Z"⟩
abbrev cX10_needs : ByteArray := prog_1_method_21_code
def yX10_needs : MethodName := ⟨RX10, "needs", "(I)I"⟩
abbrev cX10_wouldComeNow : ByteArray := prog_1_method_22_code
def yX10_wouldComeNow : MethodName := ⟨RX10, "wouldComeNow", "(I)Z"⟩
abbrev cX10_wouldCome : ByteArray := prog_1_method_23_code
def yX10_wouldCome : MethodName := ⟨RX10, "wouldCome", "(IIII)Z"⟩
abbrev cX10_comingAt : ByteArray := prog_1_method_24_code
def yX10_comingAt : MethodName := ⟨RX10, "comingAt", "(I)I"⟩
abbrev cX10_pass : ByteArray := prog_1_method_25_code
def yX10_pass : MethodName := ⟨RX10, "pass", "(I)I"⟩
abbrev cX10_comeIn : ByteArray := prog_1_method_26_code
def yX10_comeIn : MethodName := ⟨RX10, "comeIn", "(II)V"⟩
abbrev cX10_owed : ByteArray := prog_1_method_27_code
def yX10_owed : MethodName := ⟨RX10, "owed", "(II)I"⟩
abbrev cX10_fetch : ByteArray := prog_1_method_28_code
def yX10_fetch : MethodName := ⟨RX10, "fetch", "(II)I"⟩
abbrev cX10_launch : ByteArray := prog_1_method_29_code
def yX10_launch : MethodName := ⟨RX10, "launch", "(I)I"⟩
abbrev cX10_one : ByteArray := prog_1_method_30_code
def yX10_one : MethodName := ⟨RX10, "one", "(I)I"⟩
abbrev cX10_thunder : ByteArray := prog_1_method_31_code
def yX10_thunder : MethodName := ⟨RX10, "thunder", "(II)I"⟩
abbrev cX10_stand : ByteArray := prog_1_method_32_code
def yX10_stand : MethodName := ⟨RX10, "stand", "()I"⟩
abbrev cX10_heard : ByteArray := prog_1_method_33_code
def yX10_heard : MethodName := ⟨RX10, "heard", "(I)I"⟩
abbrev cX10_where : ByteArray := prog_1_method_34_code
def yX10_where : MethodName := ⟨RX10, "where", "(II)I"⟩
abbrev cX10_drawn : ByteArray := prog_1_method_35_code
def yX10_drawn : MethodName := ⟨RX10, "drawn", "(I)I"⟩
abbrev cX10_chance : ByteArray := prog_1_method_36_code
def yX10_chance : MethodName := ⟨RX10, "chance", "(III)J"⟩
abbrev cX10_image : ByteArray := prog_1_method_37_code
def yX10_image : MethodName := ⟨RX10, "image", "()I"⟩
abbrev cX10_back : ByteArray := prog_1_method_38_code
def yX10_back : MethodName := ⟨RX10, "back", "()I"⟩
abbrev cX10_count : ByteArray := prog_1_method_39_code
def yX10_count : MethodName := ⟨RX10, "count", "(I)I"⟩
abbrev cX10_those : ByteArray := prog_1_method_40_code
def yX10_those : MethodName := ⟨RX10, "those", "(I)I"⟩
abbrev cX10_areOnTheLake : ByteArray := prog_1_method_41_code
def yX10_areOnTheLake : MethodName := ⟨RX10, "areOnTheLake", "(I)Z"⟩
abbrev cX10_readyTug : ByteArray := prog_1_method_42_code
def yX10_readyTug : MethodName := ⟨RX10, "readyTug", "()V"⟩
abbrev cX10_inBy : ByteArray := prog_1_method_43_code
def yX10_inBy : MethodName := ⟨RX10, "inBy", "(I)I"⟩
abbrev cX10_mostFetched : ByteArray := prog_1_method_44_code
def yX10_mostFetched : MethodName := ⟨RX10, "mostFetched", "(II)I"⟩
abbrev cX10_orderComing : ByteArray := prog_1_method_45_code
def yX10_orderComing : MethodName := ⟨RX10, "orderComing", "()I"⟩
abbrev cX10_putInOrder : ByteArray := prog_1_method_46_code
def yX10_putInOrder : MethodName := ⟨RX10, "putInOrder", "(II)V"⟩
abbrev cX10_isTrue : ByteArray := prog_1_method_47_code
def yX10_isTrue : MethodName := ⟨RX10, "isTrue", "(II)Z"⟩
abbrev cX10_drawnWind : ByteArray := prog_1_method_48_code
def yX10_drawnWind : MethodName := ⟨RX10, "drawnWind", "(I)I"⟩
abbrev cX10_commonDivisor : ByteArray := prog_1_method_49_code
def yX10_commonDivisor : MethodName := ⟨RX10, "commonDivisor", "(II)I"⟩
abbrev cX10_sheet : ByteArray := prog_1_method_50_code
def yX10_sheet : MethodName := ⟨RX10, "sheet", "(III)I"⟩
abbrev cX10_cell : ByteArray := prog_1_method_51_code
def yX10_cell : MethodName := ⟨RX10, "cell", "(III)I"⟩
abbrev cX10_copy : ByteArray := prog_1_method_52_code
def yX10_copy : MethodName := ⟨RX10, "copy", "(IIIII)I"⟩
abbrev cX10_boats : ByteArray := prog_1_method_53_code
def yX10_boats : MethodName := ⟨RX10, "boats", "(IIII)I"⟩
abbrev cX10_taken : ByteArray := prog_1_method_54_code
def yX10_taken : MethodName := ⟨RX10, "taken", "(II)I"⟩
abbrev cX10_isSheet : ByteArray := prog_1_method_55_code
def yX10_isSheet : MethodName := ⟨RX10, "isSheet", "(I)Z"⟩
abbrev cX10_isOf : ByteArray := prog_1_method_56_code
def yX10_isOf : MethodName := ⟨RX10, "isOf", "(LBoatsCalledIn$Boat;I)Z"⟩
def RX11 : String := "BoatsCalledInModel"
def TX11 : u_T := fun k => match k with
  | 0 => ("BoatsCalledInModel", "boats", "I", false)
  | 1 => ("BoatsCalledInModel", "kind", "[I", true)
  | 2 => ("BoatsCalledInModel", "number", "[I", true)
  | 3 => ("BoatsCalledInModel", "cell", "[I", true)
  | 4 => ("BoatsCalledInModel", "out", "[I", true)
  | 5 => ("BoatsCalledInModel", "paid", "[I", true)
  | 6 => ("BoatsCalledInModel", "how", "[I", true)
  | 7 => ("BoatsCalledInModel", "when", "[I", true)
  | 8 => ("BoatsCalledInModel", "island", "I", false)
  | 9 => ("BoatsCalledInModel", "wind", "I", false)
  | 10 => ("BoatsCalledInModel", "minute", "I", false)
  | 11 => ("BoatsCalledInModel", "tows", "I", false)
  | 12 => ("BoatsCalledInModel", "speed", "I", false)
  | 13 => ("BoatsCalledInModel", "waiting", "I", false)
  | 14 => ("BoatsCalledInModel", "takings", "I", false)
  | 15 => ("BoatsCalledInModel", "taped", "I", false)
  | 16 => ("BoatsCalledInModel", "tape", "[I", true)
  | 17 => ("BoatsCalledInModel", "texts", "I", false)
  | 18 => ("BoatsCalledInModel", "rule", "I", false)
  | 19 => ("BoatsCalledInModel", "code", "[I", true)
  | 20 => ("BoatsCalledInModel", "begins", "[I", true)
  | 21 => ("BoatsCalledInModel", "made", "I", false)
  | 22 => ("BoatsCalledInModel", "at", "I", false)
  | 23 => ("BoatsCalledInModel", "from", "I", false)
  | 24 => ("BoatsCalledInModel", "sort", "I", false)
  | 25 => ("BoatsCalledInModel", "value", "I", false)
  | 26 => ("BoatsCalledInModel", "open", "I", false)
  | 27 => ("BoatsCalledInModel", "stack", "[I", true)
  | 28 => ("BoatsCalledInModel", "names", "[I", true)
  | 29 => ("BoatsCalledInModel", "fewest", "I", false)
  | 30 => ("BoatsCalledInModel", "order", "[I", true)
  | 31 => ("BoatsCalledInModel", "first", "[I", true)
  | 32 => ("BoatsCalledInModel", "minutes", "[I", true)
  | 33 => ("BoatsCalledInModel", "imaged", "Z", false)
  | 34 => ("BoatsCalledInModel", "oldBoats", "I", false)
  | 35 => ("BoatsCalledInModel", "old", "[I", true)
  | 36 => ("BoatsCalledInModel", "sheetSort", "[I", true)
  | 37 => ("BoatsCalledInModel", "sheetSize", "[I", true)
  | 38 => ("BoatsCalledInModel", "items", "[I", true)
  | _ => ("BoatsCalledInModel", "spare", "[I", true)
def tyX11 : Nat → FieldType := fun k => match k with
  | 0 => .int
  | 1 => .array .int
  | 2 => .array .int
  | 3 => .array .int
  | 4 => .array .int
  | 5 => .array .int
  | 6 => .array .int
  | 7 => .array .int
  | 8 => .int
  | 9 => .int
  | 10 => .int
  | 11 => .int
  | 12 => .int
  | 13 => .int
  | 14 => .int
  | 15 => .int
  | 16 => .array .int
  | 17 => .int
  | 18 => .int
  | 19 => .array .int
  | 20 => .array .int
  | 21 => .int
  | 22 => .int
  | 23 => .int
  | 24 => .int
  | 25 => .int
  | 26 => .int
  | 27 => .array .int
  | 28 => .array .int
  | 29 => .int
  | 30 => .array .int
  | 31 => .array .int
  | 32 => .array .int
  | 33 => .boolean
  | 34 => .int
  | 35 => .array .int
  | 36 => .array .int
  | 37 => .array .int
  | 38 => .array .int
  | _ => .array .int
abbrev wsX110 : List Cond := u_ws RX11 TX11 40
theorem nmX11 : ∀ a, a < 40 → ∀ b, b < 40 → a ≠ b → (TX11 a).2.1 ≠ (TX11 b).2.1 := by decide +kernel
theorem tyX11_ok : ∀ k, k < 40 → parseFieldDescriptor (TX11 k).2.2.1 = some (tyX11 k) := by decide +kernel
abbrev cX11_init : ByteArray := prog_13_method_1_code
def yX11_init : MethodName := ⟨RX11, "<init>", "()V"⟩
abbrev cX11_within : ByteArray := prog_13_method_2_code
def yX11_within : MethodName := ⟨RX11, "within", "(III)Z"⟩
abbrev cX11_isBoat : ByteArray := prog_13_method_3_code
def yX11_isBoat : MethodName := ⟨RX11, "isBoat", "(I)Z"⟩
abbrev cX11_far : ByteArray := prog_13_method_4_code
def yX11_far : MethodName := ⟨RX11, "far", "(II)I"⟩
abbrev cX11_boat : ByteArray := prog_13_method_5_code
def yX11_boat : MethodName := ⟨RX11, "boat", "(III)I"⟩
abbrev cX11_set : ByteArray := prog_13_method_6_code
def yX11_set : MethodName := ⟨RX11, "set", "(III)I"⟩
abbrev cX11_rows : ByteArray := prog_13_method_7_code
def yX11_rows : MethodName := ⟨RX11, "rows", "(I)I"⟩
abbrev cX11_hearing : ByteArray := prog_13_method_8_code
def yX11_hearing : MethodName := ⟨RX11, "hearing", "(I)I"⟩
abbrev cX11_rules : ByteArray := prog_13_method_9_code
def yX11_rules : MethodName := ⟨RX11, "rules", "(IIII)I"⟩
abbrev cX11_owes : ByteArray := prog_13_method_10_code
def yX11_owes : MethodName := ⟨RX11, "owes", "(II)I"⟩
abbrev cX11_would : ByteArray := prog_13_method_11_code
def yX11_would : MethodName := ⟨RX11, "would", "(III)Z"⟩
abbrev cX11_would_ : ByteArray := prog_13_method_12_code
def yX11_would_ : MethodName := ⟨RX11, "would", "(I)Z"⟩
abbrev cX11_needs : ByteArray := prog_13_method_13_code
def yX11_needs : MethodName := ⟨RX11, "needs", "(I)I"⟩
abbrev cX11_told : ByteArray := prog_13_method_14_code
def yX11_told : MethodName := ⟨RX11, "told", "(II)I"⟩
abbrev cX11_feed : ByteArray := prog_13_method_15_code
def yX11_feed : MethodName := ⟨RX11, "feed", "(I)I"⟩
abbrev cX11_next : ByteArray := prog_13_method_16_code
def yX11_next : MethodName := ⟨RX11, "next", "()V"⟩
abbrev cX11_isDigit : ByteArray := prog_13_method_17_code
def yX11_isDigit : MethodName := ⟨RX11, "isDigit", "(I)Z"⟩
abbrev cX11_isLetter : ByteArray := prog_13_method_18_code
def yX11_isLetter : MethodName := ⟨RX11, "isLetter", "(I)Z"⟩
abbrev cX11_is : ByteArray := prog_13_method_19_code
def yX11_is : MethodName := ⟨RX11, "is", "(Ljava/lang/String;)Z"⟩
abbrev cX11_is_ : ByteArray := prog_13_method_20_code
def yX11_is_ : MethodName := ⟨RX11, "is", "(C)Z"⟩
abbrev cX11_name : ByteArray := prog_13_method_21_code
def yX11_name : MethodName := ⟨RX11, "name", "()I"⟩
abbrev cX11_put : ByteArray := prog_13_method_22_code
def yX11_put : MethodName := ⟨RX11, "put", "(I)V"⟩
abbrev cX11_any : ByteArray := prog_13_method_23_code
def yX11_any : MethodName := ⟨RX11, "any", "()Z"⟩
abbrev cX11_both : ByteArray := prog_13_method_24_code
def yX11_both : MethodName := ⟨RX11, "both", "()Z"⟩
abbrev cX11_not : ByteArray := prog_13_method_25_code
def yX11_not : MethodName := ⟨RX11, "not", "()Z"⟩
abbrev cX11_sum : ByteArray := prog_13_method_26_code
def yX11_sum : MethodName := ⟨RX11, "sum", "()Z"⟩
abbrev cX11_term : ByteArray := prog_13_method_27_code
def yX11_term : MethodName := ⟨RX11, "term", "()Z"⟩
abbrev cX11_one : ByteArray := prog_13_method_28_code
def yX11_one : MethodName := ⟨RX11, "one", "()Z"⟩
abbrev cX11_part : ByteArray := prog_13_method_29_code
def yX11_part : MethodName := ⟨RX11, "part", "(Ljava/lang/String;I)Z"⟩
abbrev cX11_text : ByteArray := prog_13_method_30_code
def yX11_text : MethodName := ⟨RX11, "text", "()I"⟩
abbrev cX11_force : ByteArray := prog_13_method_31_code
def yX11_force : MethodName := ⟨RX11, "force", "(I)I"⟩
abbrev cX11_call : ByteArray := prog_13_method_32_code
def yX11_call : MethodName := ⟨RX11, "call", "(I)I"⟩
abbrev cX11_comesIn : ByteArray := prog_13_method_33_code
def yX11_comesIn : MethodName := ⟨RX11, "comesIn", "(II)V"⟩
abbrev cX11_passes : ByteArray := prog_13_method_34_code
def yX11_passes : MethodName := ⟨RX11, "passes", "(I)I"⟩
abbrev cX11_time : ByteArray := prog_13_method_35_code
def yX11_time : MethodName := ⟨RX11, "time", "(I)I"⟩
abbrev cX11_nobody : ByteArray := prog_13_method_36_code
def yX11_nobody : MethodName := ⟨RX11, "nobody", "()I"⟩
abbrev cX11_callAt : ByteArray := prog_13_method_37_code
def yX11_callAt : MethodName := ⟨RX11, "callAt", "(I)I"⟩
abbrev cX11_wouldBeIn : ByteArray := prog_13_method_38_code
def yX11_wouldBeIn : MethodName := ⟨RX11, "wouldBeIn", "(I)I"⟩
abbrev cX11_allIn : ByteArray := prog_13_method_39_code
def yX11_allIn : MethodName := ⟨RX11, "allIn", "()I"⟩
abbrev cX11_onTheLake : ByteArray := prog_13_method_40_code
def yX11_onTheLake : MethodName := ⟨RX11, "onTheLake", "(I)Z"⟩
abbrev cX11_goes : ByteArray := prog_13_method_41_code
def yX11_goes : MethodName := ⟨RX11, "goes", "(IIIII)V"⟩
abbrev cX11_fetches : ByteArray := prog_13_method_42_code
def yX11_fetches : MethodName := ⟨RX11, "fetches", "(I)I"⟩
abbrev cX11_fetch : ByteArray := prog_13_method_43_code
def yX11_fetch : MethodName := ⟨RX11, "fetch", "(II)I"⟩
abbrev cX11_launch : ByteArray := prog_13_method_44_code
def yX11_launch : MethodName := ⟨RX11, "launch", "(I)I"⟩
abbrev cX11_one_ : ByteArray := prog_13_method_45_code
def yX11_one_ : MethodName := ⟨RX11, "one", "(I)I"⟩
abbrev cX11_thunder : ByteArray := prog_13_method_46_code
def yX11_thunder : MethodName := ⟨RX11, "thunder", "(II)I"⟩
abbrev cX11_stand : ByteArray := prog_13_method_47_code
def yX11_stand : MethodName := ⟨RX11, "stand", "()I"⟩
abbrev cX11_heard : ByteArray := prog_13_method_48_code
def yX11_heard : MethodName := ⟨RX11, "heard", "(I)I"⟩
abbrev cX11_where : ByteArray := prog_13_method_49_code
def yX11_where : MethodName := ⟨RX11, "where", "(II)I"⟩
abbrev cX11_drawn : ByteArray := prog_13_method_50_code
def yX11_drawn : MethodName := ⟨RX11, "drawn", "(I)I"⟩
abbrev cX11_lowest : ByteArray := prog_13_method_51_code
def yX11_lowest : MethodName := ⟨RX11, "lowest", "(JJI)J"⟩
abbrev cX11_chance : ByteArray := prog_13_method_52_code
def yX11_chance : MethodName := ⟨RX11, "chance", "(III)J"⟩
abbrev cX11_image : ByteArray := prog_13_method_53_code
def yX11_image : MethodName := ⟨RX11, "image", "()I"⟩
abbrev cX11_back : ByteArray := prog_13_method_54_code
def yX11_back : MethodName := ⟨RX11, "back", "()I"⟩
abbrev cX11_thoseWho : ByteArray := prog_13_method_55_code
def yX11_thoseWho : MethodName := ⟨RX11, "thoseWho", "(I)I"⟩
abbrev cX11_count : ByteArray := prog_13_method_56_code
def yX11_count : MethodName := ⟨RX11, "count", "(I)I"⟩
abbrev cX11_sheet : ByteArray := prog_13_method_57_code
def yX11_sheet : MethodName := ⟨RX11, "sheet", "(III)I"⟩
abbrev cX11_cell : ByteArray := prog_13_method_58_code
def yX11_cell : MethodName := ⟨RX11, "cell", "(III)I"⟩
abbrev cX11_copy : ByteArray := prog_13_method_59_code
def yX11_copy : MethodName := ⟨RX11, "copy", "(IIIII)I"⟩
abbrev cX11_boats : ByteArray := prog_13_method_60_code
def yX11_boats : MethodName := ⟨RX11, "boats", "(IIII)I"⟩
abbrev cX11_taken : ByteArray := prog_13_method_61_code
def yX11_taken : MethodName := ⟨RX11, "taken", "(II)I"⟩
def RJx145de : String := "java/io/Serializable"
def TJx145de : u_T := fun k => match k with
  | _ => ("", "", "", false)
def tyJx145de : Nat → FieldType := fun k => match k with
  | _ => .int
def RJx9f9b0 : String := "java/lang/CharSequence"
def TJx9f9b0 : u_T := fun k => match k with
  | _ => ("", "", "", false)
def tyJx9f9b0 : Nat → FieldType := fun k => match k with
  | _ => .int
def RJx8e188 : String := "java/lang/Cloneable"
def TJx8e188 : u_T := fun k => match k with
  | _ => ("", "", "", false)
def tyJx8e188 : Nat → FieldType := fun k => match k with
  | _ => .int
def RJxb160c : String := "java/lang/Comparable"
def TJxb160c : u_T := fun k => match k with
  | _ => ("", "", "", false)
def tyJxb160c : Nat → FieldType := fun k => match k with
  | _ => .int
def RJ6 : String := "java/lang/Integer"
def TJ6 : u_T := fun k => match k with
  | _ => ("", "", "", false)
def tyJ6 : Nat → FieldType := fun k => match k with
  | _ => .int
abbrev wsJ60 : List Cond := u_ws RJ6 TJ6 0
abbrev cJ6_bitCount_0f7a4 : ByteArray := prog_15_method_49_code
def yJ6_bitCount_0f7a4 : MethodName := ⟨RJ6, "bitCount", "(I)I"⟩
def RJ9 : String := "java/lang/Math"
def TJ9 : u_T := fun k => match k with
  | _ => ("", "", "", false)
def tyJ9 : Nat → FieldType := fun k => match k with
  | _ => .int
abbrev wsJ90 : List Cond := u_ws RJ9 TJ9 0
abbrev cJ9_abs_0f7a4 : ByteArray := prog_16_method_59_code
def yJ9_abs_0f7a4 : MethodName := ⟨RJ9, "abs", "(I)I"⟩
abbrev cJ9_max_7cf53 : ByteArray := prog_16_method_65_code
def yJ9_max_7cf53 : MethodName := ⟨RJ9, "max", "(II)I"⟩
abbrev cJ9_min_7cf53 : ByteArray := prog_16_method_69_code
def yJ9_min_7cf53 : MethodName := ⟨RJ9, "min", "(II)I"⟩
def RJ0 : String := "java/lang/String"
def TJ0 : u_T := fun k => match k with
  | _ => ("", "", "", false)
def tyJ0 : Nat → FieldType := fun k => match k with
  | _ => .int
abbrev wsJ00 : List Cond := u_ws RJ0 TJ0 0
abbrev cJ0_length_8abf5 : ByteArray := prog_17_method_54_code
def yJ0_length_8abf5 : MethodName := ⟨RJ0, "length", "()I"⟩
abbrev cJ0_charAt_5068e : ByteArray := prog_17_method_56_code
def yJ0_charAt_5068e : MethodName := ⟨RJ0, "charAt", "(I)C"⟩
abbrev cJ0_coder_7d493 : ByteArray := prog_17_method_152_code
def yJ0_coder_7d493 : MethodName := ⟨RJ0, "coder", "()B"⟩
abbrev cJ0_isLatin1_aae02 : ByteArray := prog_17_method_154_code
def yJ0_isLatin1_aae02 : MethodName := ⟨RJ0, "isLatin1", "()Z"⟩
abbrev cJ0_checkIndex_df160 : ByteArray := prog_17_method_155_code
def yJ0_checkIndex_df160 : MethodName := ⟨RJ0, "checkIndex", "(II)V"⟩
def RJ1 : String := "java/lang/StringLatin1"
def TJ1 : u_T := fun k => match k with
  | _ => ("", "", "", false)
def tyJ1 : Nat → FieldType := fun k => match k with
  | _ => .int
abbrev wsJ10 : List Cond := u_ws RJ1 TJ1 0
abbrev cJ1_charAt_3b067 : ByteArray := prog_18_method_2_code
def yJ1_charAt_3b067 : MethodName := ⟨RJ1, "charAt", "([BI)C"⟩
def RJ2 : String := "java/lang/StringUTF16"
def TJ2 : u_T := fun k => match k with
  | _ => ("", "", "", false)
def tyJ2 : Nat → FieldType := fun k => match k with
  | _ => .int
abbrev wsJ20 : List Cond := u_ws RJ2 TJ2 0
abbrev cJ2_getChar_3b067 : ByteArray := prog_19_method_5_code
def yJ2_getChar_3b067 : MethodName := ⟨RJ2, "getChar", "([BI)C"⟩
abbrev cJ2_length_9d52b : ByteArray := prog_19_method_6_code
def yJ2_length_9d52b : MethodName := ⟨RJ2, "length", "([B)I"⟩
abbrev cJ2_charAt_3b067 : ByteArray := prog_19_method_83_code
def yJ2_charAt_3b067 : MethodName := ⟨RJ2, "charAt", "([BI)C"⟩
abbrev cJ2_checkIndex_2214a : ByteArray := prog_19_method_91_code
def yJ2_checkIndex_2214a : MethodName := ⟨RJ2, "checkIndex", "(I[B)V"⟩
def RJ10 : String := "java/lang/System"
def TJ10 : u_T := fun k => match k with
  | _ => ("", "", "", false)
def tyJ10 : Nat → FieldType := fun k => match k with
  | _ => .int
abbrev wsJ100 : List Cond := u_ws RJ10 TJ10 0
def RJxfd54e : String := "java/lang/constant/Constable"
def TJxfd54e : u_T := fun k => match k with
  | _ => ("", "", "", false)
def tyJxfd54e : Nat → FieldType := fun k => match k with
  | _ => .int
def RJx3cf43 : String := "java/lang/constant/ConstantDesc"
def TJx3cf43 : u_T := fun k => match k with
  | _ => ("", "", "", false)
def tyJx3cf43 : Nat → FieldType := fun k => match k with
  | _ => .int
def RJ7 : String := "java/util/Arrays"
def TJ7 : u_T := fun k => match k with
  | _ => ("", "", "", false)
def tyJ7 : Nat → FieldType := fun k => match k with
  | _ => .int
abbrev wsJ70 : List Cond := u_ws RJ7 TJ7 0
abbrev cJ7_fill_53178 : ByteArray := prog_21_method_103_code
def yJ7_fill_53178 : MethodName := ⟨RJ7, "fill", "([II)V"⟩
abbrev cJ7_copyOf_59c91 : ByteArray := prog_21_method_123_code
def yJ7_copyOf_59c91 : MethodName := ⟨RJ7, "copyOf", "([II)[I"⟩
def RJ3 : String := "jdk/internal/util/Preconditions"
def TJ3 : u_T := fun k => match k with
  | _ => ("", "", "", false)
def tyJ3 : Nat → FieldType := fun k => match k with
  | _ => .int
abbrev wsJ30 : List Cond := u_ws RJ3 TJ3 0
abbrev cJ3_checkIndex_8e157 : ByteArray := prog_22_method_11_code
def yJ3_checkIndex_8e157 : MethodName := ⟨RJ3, "checkIndex", "(IILjava/util/function/BiFunction;)I"⟩
def RL : String := "BoatsCalledInLaw"
abbrev cL_law : ByteArray := code
def yL_law : MethodName := ⟨RL, "law", "([I)Z"⟩
abbrev vwCl : List vw_C := [(RX0, TX0, 2), (RX1, TX1, 2), (RX2, TX2, 2), (RX3, TX3, 2), (RX4, TX4, 2), (RX5, TX5, 4), (RX6, TX6, 3), (RX7, TX7, 2), (RX8, TX8, 9), (RX9, TX9, 4), (RX10, TX10, 12), (RX11, TX11, 40)]
end
section
theorem dX0_init_0 : decode cX0_init 0 = .ok (.aload_n 0, 1) := by decide +kernel
theorem dX0_init_1 : decode cX0_init 1 = .ok (.invokespecial 3, 3) := by decide +kernel
theorem dX0_init_4 : decode cX0_init 4 = .ok (.aload_n 0, 1) := by decide +kernel
theorem dX0_init_5 : decode cX0_init 5 = .ok (.bipush 6, 2) := by decide +kernel
theorem dX0_init_7 : decode cX0_init 7 = .ok (.newarray .int, 2) := by decide +kernel
theorem dX0_init_9 : decode cX0_init 9 = .ok (.putfield 9, 3) := by decide +kernel
theorem dX0_init_12 : decode cX0_init 12 = .ok (.aload_n 0, 1) := by decide +kernel
theorem dX0_init_13 : decode cX0_init 13 = .ok (.bipush 6, 2) := by decide +kernel
theorem dX0_init_15 : decode cX0_init 15 = .ok (.newarray .int, 2) := by decide +kernel
theorem dX0_init_17 : decode cX0_init 17 = .ok (.putfield 15, 3) := by decide +kernel
theorem dX0_init_20 : decode cX0_init 20 = .ok (.aload_n 0, 1) := by decide +kernel
theorem dX0_init_21 : decode cX0_init 21 = .ok (.getfield 9, 3) := by decide +kernel
theorem dX0_init_24 : decode cX0_init 24 = .ok (.iconst 0, 1) := by decide +kernel
theorem dX0_init_25 : decode cX0_init 25 = .ok (.iload_n 1, 1) := by decide +kernel
theorem dX0_init_26 : decode cX0_init 26 = .ok (.bipush 100, 2) := by decide +kernel
theorem dX0_init_28 : decode cX0_init 28 = .ok (.idiv, 1) := by decide +kernel
theorem dX0_init_29 : decode cX0_init 29 = .ok (.iastore, 1) := by decide +kernel
theorem dX0_init_30 : decode cX0_init 30 = .ok (.aload_n 0, 1) := by decide +kernel
theorem dX0_init_31 : decode cX0_init 31 = .ok (.getfield 9, 3) := by decide +kernel
theorem dX0_init_34 : decode cX0_init 34 = .ok (.iconst 3, 1) := by decide +kernel
theorem dX0_init_35 : decode cX0_init 35 = .ok (.iload_n 1, 1) := by decide +kernel
theorem dX0_init_36 : decode cX0_init 36 = .ok (.bipush 100, 2) := by decide +kernel
theorem dX0_init_38 : decode cX0_init 38 = .ok (.irem, 1) := by decide +kernel
theorem dX0_init_39 : decode cX0_init 39 = .ok (.iastore, 1) := by decide +kernel
theorem dX0_init_40 : decode cX0_init 40 = .ok (.aload_n 0, 1) := by decide +kernel
theorem dX0_init_41 : decode cX0_init 41 = .ok (.getfield 9, 3) := by decide +kernel
theorem dX0_init_44 : decode cX0_init 44 = .ok (.iconst 2, 1) := by decide +kernel
theorem dX0_init_45 : decode cX0_init 45 = .ok (.iload_n 2, 1) := by decide +kernel
theorem dX0_init_46 : decode cX0_init 46 = .ok (.sipush 1000, 3) := by decide +kernel
theorem dX0_init_49 : decode cX0_init 49 = .ok (.idiv, 1) := by decide +kernel
theorem dX0_init_50 : decode cX0_init 50 = .ok (.iastore, 1) := by decide +kernel
theorem dX0_init_51 : decode cX0_init 51 = .ok (.aload_n 0, 1) := by decide +kernel
theorem dX0_init_52 : decode cX0_init 52 = .ok (.getfield 9, 3) := by decide +kernel
theorem dX0_init_55 : decode cX0_init 55 = .ok (.iconst 1, 1) := by decide +kernel
theorem dX0_init_56 : decode cX0_init 56 = .ok (.iload_n 2, 1) := by decide +kernel
theorem dX0_init_57 : decode cX0_init 57 = .ok (.sipush 1000, 3) := by decide +kernel
theorem dX0_init_60 : decode cX0_init 60 = .ok (.irem, 1) := by decide +kernel
theorem dX0_init_61 : decode cX0_init 61 = .ok (.iastore, 1) := by decide +kernel
theorem dX0_init_62 : decode cX0_init 62 = .ok (.aload_n 0, 1) := by decide +kernel
theorem dX0_init_63 : decode cX0_init 63 = .ok (.getfield 9, 3) := by decide +kernel
theorem dX0_init_66 : decode cX0_init 66 = .ok (.iconst 4, 1) := by decide +kernel
theorem dX0_init_67 : decode cX0_init 67 = .ok (.iconst 0, 1) := by decide +kernel
theorem dX0_init_68 : decode cX0_init 68 = .ok (.iastore, 1) := by decide +kernel
theorem dX0_init_69 : decode cX0_init 69 = .ok (.aload_n 0, 1) := by decide +kernel
theorem dX0_init_70 : decode cX0_init 70 = .ok (.getfield 9, 3) := by decide +kernel
theorem dX0_init_73 : decode cX0_init 73 = .ok (.iconst 5, 1) := by decide +kernel
theorem dX0_init_74 : decode cX0_init 74 = .ok (.iconst (-1), 1) := by decide +kernel
theorem dX0_init_75 : decode cX0_init 75 = .ok (.iastore, 1) := by decide +kernel
theorem dX0_init_76 : decode cX0_init 76 = .ok (.return_, 1) := by decide +kernel
theorem dX0_kind_0 : decode cX0_kind 0 = .ok (.iconst 0, 1) := by decide +kernel
theorem dX0_kind_1 : decode cX0_kind 1 = .ok (.ireturn, 1) := by decide +kernel
theorem dX0_rows_0 : decode cX0_rows 0 = .ok (.iconst 2, 1) := by decide +kernel
theorem dX0_rows_1 : decode cX0_rows 1 = .ok (.iload_n 1, 1) := by decide +kernel
theorem dX0_rows_2 : decode cX0_rows 2 = .ok (.iconst 2, 1) := by decide +kernel
theorem dX0_rows_3 : decode cX0_rows 3 = .ok (.idiv, 1) := by decide +kernel
theorem dX0_rows_4 : decode cX0_rows 4 = .ok (.iadd, 1) := by decide +kernel
theorem dX0_rows_5 : decode cX0_rows 5 = .ok (.ireturn, 1) := by decide +kernel
theorem dX0_hears_0 : decode cX0_hears 0 = .ok (.bipush 12, 2) := by decide +kernel
theorem dX0_hears_2 : decode cX0_hears 2 = .ok (.iload_n 1, 1) := by decide +kernel
theorem dX0_hears_3 : decode cX0_hears 3 = .ok (.isub, 1) := by decide +kernel
theorem dX0_hears_4 : decode cX0_hears 4 = .ok (.ireturn, 1) := by decide +kernel
theorem dX0_owes_0 : decode cX0_owes 0 = .ok (.iload_n 1, 1) := by decide +kernel
theorem dX0_owes_1 : decode cX0_owes 1 = .ok (.bipush 14, 2) := by decide +kernel
theorem dX0_owes_3 : decode cX0_owes 3 = .ok (.iadd, 1) := by decide +kernel
theorem dX0_owes_4 : decode cX0_owes 4 = .ok (.bipush 15, 2) := by decide +kernel
theorem dX0_owes_6 : decode cX0_owes 6 = .ok (.idiv, 1) := by decide +kernel
theorem dX0_owes_7 : decode cX0_owes 7 = .ok (.iload_n 2, 1) := by decide +kernel
theorem dX0_owes_8 : decode cX0_owes 8 = .ok (.imul, 1) := by decide +kernel
theorem dX0_owes_9 : decode cX0_owes 9 = .ok (.ireturn, 1) := by decide +kernel
theorem dX0_rowsBy_0 : decode cX0_rowsBy 0 = .ok (.iconst 1, 1) := by decide +kernel
theorem dX0_rowsBy_1 : decode cX0_rowsBy 1 = .ok (.aload_n 0, 1) := by decide +kernel
theorem dX0_rowsBy_2 : decode cX0_rowsBy 2 = .ok (.iload_n 1, 1) := by decide +kernel
theorem dX0_rowsBy_3 : decode cX0_rowsBy 3 = .ok (.invokevirtual 18, 3) := by decide +kernel
theorem dX0_rowsBy_6 : decode cX0_rowsBy 6 = .ok (.invokestatic 22, 3) := by decide +kernel
theorem dX0_rowsBy_9 : decode cX0_rowsBy 9 = .ok (.ireturn, 1) := by decide +kernel
theorem dX0_hearsBy_0 : decode cX0_hearsBy 0 = .ok (.iconst 0, 1) := by decide +kernel
theorem dX0_hearsBy_1 : decode cX0_hearsBy 1 = .ok (.aload_n 0, 1) := by decide +kernel
theorem dX0_hearsBy_2 : decode cX0_hearsBy 2 = .ok (.iload_n 1, 1) := by decide +kernel
theorem dX0_hearsBy_3 : decode cX0_hearsBy 3 = .ok (.invokevirtual 28, 3) := by decide +kernel
theorem dX0_hearsBy_6 : decode cX0_hearsBy 6 = .ok (.invokestatic 22, 3) := by decide +kernel
theorem dX0_hearsBy_9 : decode cX0_hearsBy 9 = .ok (.ireturn, 1) := by decide +kernel
theorem dX0_owesBy_0 : decode cX0_owesBy 0 = .ok (.iconst 0, 1) := by decide +kernel
theorem dX0_owesBy_1 : decode cX0_owesBy 1 = .ok (.aload_n 0, 1) := by decide +kernel
theorem dX0_owesBy_2 : decode cX0_owesBy 2 = .ok (.iload_n 1, 1) := by decide +kernel
theorem dX0_owesBy_3 : decode cX0_owesBy 3 = .ok (.iload_n 2, 1) := by decide +kernel
theorem dX0_owesBy_4 : decode cX0_owesBy 4 = .ok (.invokevirtual 31, 3) := by decide +kernel
theorem dX0_owesBy_7 : decode cX0_owesBy 7 = .ok (.invokestatic 22, 3) := by decide +kernel
theorem dX0_owesBy_10 : decode cX0_owesBy 10 = .ok (.ireturn, 1) := by decide +kernel
theorem dX0_due_0 : decode cX0_due 0 = .ok (.aload_n 0, 1) := by decide +kernel
theorem dX0_due_1 : decode cX0_due 1 = .ok (.getfield 9, 3) := by decide +kernel
theorem dX0_due_4 : decode cX0_due 4 = .ok (.iconst 1, 1) := by decide +kernel
theorem dX0_due_5 : decode cX0_due 5 = .ok (.iaload, 1) := by decide +kernel
theorem dX0_due_6 : decode cX0_due 6 = .ok (.aload_n 0, 1) := by decide +kernel
theorem dX0_due_7 : decode cX0_due 7 = .ok (.getfield 9, 3) := by decide +kernel
theorem dX0_due_10 : decode cX0_due 10 = .ok (.iconst 2, 1) := by decide +kernel
theorem dX0_due_11 : decode cX0_due 11 = .ok (.iaload, 1) := by decide +kernel
theorem dX0_due_12 : decode cX0_due 12 = .ok (.iadd, 1) := by decide +kernel
theorem dX0_due_13 : decode cX0_due 13 = .ok (.ireturn, 1) := by decide +kernel
theorem dX0_keep_0 : decode cX0_keep 0 = .ok (.aload_n 0, 1) := by decide +kernel
theorem dX0_keep_1 : decode cX0_keep 1 = .ok (.getfield 9, 3) := by decide +kernel
theorem dX0_keep_4 : decode cX0_keep 4 = .ok (.iconst 0, 1) := by decide +kernel
theorem dX0_keep_5 : decode cX0_keep 5 = .ok (.aload_n 0, 1) := by decide +kernel
theorem dX0_keep_6 : decode cX0_keep 6 = .ok (.getfield 15, 3) := by decide +kernel
theorem dX0_keep_9 : decode cX0_keep 9 = .ok (.iconst 0, 1) := by decide +kernel
theorem dX0_keep_10 : decode cX0_keep 10 = .ok (.bipush 6, 2) := by decide +kernel
theorem dX0_keep_12 : decode cX0_keep 12 = .ok (.invokestatic 34, 3) := by decide +kernel
theorem dX0_keep_15 : decode cX0_keep 15 = .ok (.return_, 1) := by decide +kernel
theorem dX0_layBack_0 : decode cX0_layBack 0 = .ok (.aload_n 0, 1) := by decide +kernel
theorem dX0_layBack_1 : decode cX0_layBack 1 = .ok (.getfield 15, 3) := by decide +kernel
theorem dX0_layBack_4 : decode cX0_layBack 4 = .ok (.iconst 0, 1) := by decide +kernel
theorem dX0_layBack_5 : decode cX0_layBack 5 = .ok (.aload_n 0, 1) := by decide +kernel
theorem dX0_layBack_6 : decode cX0_layBack 6 = .ok (.getfield 9, 3) := by decide +kernel
theorem dX0_layBack_9 : decode cX0_layBack 9 = .ok (.iconst 0, 1) := by decide +kernel
theorem dX0_layBack_10 : decode cX0_layBack 10 = .ok (.bipush 6, 2) := by decide +kernel
theorem dX0_layBack_12 : decode cX0_layBack 12 = .ok (.invokestatic 34, 3) := by decide +kernel
theorem dX0_layBack_15 : decode cX0_layBack 15 = .ok (.return_, 1) := by decide +kernel
theorem dX1_init_0 : decode cX1_init 0 = .ok (.aload_n 0, 1) := by decide +kernel
theorem dX1_init_1 : decode cX1_init 1 = .ok (.iload_n 1, 1) := by decide +kernel
theorem dX1_init_2 : decode cX1_init 2 = .ok (.iload_n 2, 1) := by decide +kernel
theorem dX1_init_3 : decode cX1_init 3 = .ok (.invokespecial 1, 3) := by decide +kernel
theorem dX1_init_6 : decode cX1_init 6 = .ok (.return_, 1) := by decide +kernel
theorem dX1_kind_0 : decode cX1_kind 0 = .ok (.iconst 4, 1) := by decide +kernel
theorem dX1_kind_1 : decode cX1_kind 1 = .ok (.ireturn, 1) := by decide +kernel
theorem dX1_hears_0 : decode cX1_hears 0 = .ok (.aload_n 0, 1) := by decide +kernel
theorem dX1_hears_1 : decode cX1_hears 1 = .ok (.iload_n 1, 1) := by decide +kernel
theorem dX1_hears_2 : decode cX1_hears 2 = .ok (.invokespecial 7, 3) := by decide +kernel
theorem dX1_hears_5 : decode cX1_hears 5 = .ok (.iconst 2, 1) := by decide +kernel
theorem dX1_hears_6 : decode cX1_hears 6 = .ok (.idiv, 1) := by decide +kernel
theorem dX1_hears_7 : decode cX1_hears 7 = .ok (.ireturn, 1) := by decide +kernel
theorem dX1_owes_0 : decode cX1_owes 0 = .ok (.aload_n 0, 1) := by decide +kernel
theorem dX1_owes_1 : decode cX1_owes 1 = .ok (.iload_n 1, 1) := by decide +kernel
theorem dX1_owes_2 : decode cX1_owes 2 = .ok (.iload_n 2, 1) := by decide +kernel
theorem dX1_owes_3 : decode cX1_owes 3 = .ok (.invokespecial 11, 3) := by decide +kernel
theorem dX1_owes_6 : decode cX1_owes 6 = .ok (.iconst 2, 1) := by decide +kernel
theorem dX1_owes_7 : decode cX1_owes 7 = .ok (.iadd, 1) := by decide +kernel
theorem dX1_owes_8 : decode cX1_owes 8 = .ok (.ireturn, 1) := by decide +kernel
theorem dX2_init_0 : decode cX2_init 0 = .ok (.aload_n 0, 1) := by decide +kernel
theorem dX2_init_1 : decode cX2_init 1 = .ok (.iload_n 1, 1) := by decide +kernel
theorem dX2_init_2 : decode cX2_init 2 = .ok (.iload_n 2, 1) := by decide +kernel
theorem dX2_init_3 : decode cX2_init 3 = .ok (.invokespecial 3, 3) := by decide +kernel
theorem dX2_init_6 : decode cX2_init 6 = .ok (.return_, 1) := by decide +kernel
theorem dX2_kind_0 : decode cX2_kind 0 = .ok (.iconst 3, 1) := by decide +kernel
theorem dX2_kind_1 : decode cX2_kind 1 = .ok (.ireturn, 1) := by decide +kernel
theorem dX2_rows_0 : decode cX2_rows 0 = .ok (.aload_n 0, 1) := by decide +kernel
theorem dX2_rows_1 : decode cX2_rows 1 = .ok (.iload_n 1, 1) := by decide +kernel
theorem dX2_rows_2 : decode cX2_rows 2 = .ok (.invokespecial 9, 3) := by decide +kernel
theorem dX2_rows_5 : decode cX2_rows 5 = .ok (.aload_n 0, 1) := by decide +kernel
theorem dX2_rows_6 : decode cX2_rows 6 = .ok (.getfield 13, 3) := by decide +kernel
theorem dX2_rows_9 : decode cX2_rows 9 = .ok (.iconst 3, 1) := by decide +kernel
theorem dX2_rows_10 : decode cX2_rows 10 = .ok (.iaload, 1) := by decide +kernel
theorem dX2_rows_11 : decode cX2_rows 11 = .ok (.iadd, 1) := by decide +kernel
theorem dX2_rows_12 : decode cX2_rows 12 = .ok (.ireturn, 1) := by decide +kernel
theorem dX2_owes_0 : decode cX2_owes 0 = .ok (.iconst 0, 1) := by decide +kernel
theorem dX2_owes_1 : decode cX2_owes 1 = .ok (.ireturn, 1) := by decide +kernel
theorem dX3_init_0 : decode cX3_init 0 = .ok (.aload_n 0, 1) := by decide +kernel
theorem dX3_init_1 : decode cX3_init 1 = .ok (.iload_n 1, 1) := by decide +kernel
theorem dX3_init_2 : decode cX3_init 2 = .ok (.iload_n 2, 1) := by decide +kernel
theorem dX3_init_3 : decode cX3_init 3 = .ok (.invokespecial 3, 3) := by decide +kernel
theorem dX3_init_6 : decode cX3_init 6 = .ok (.return_, 1) := by decide +kernel
theorem dX3_kind_0 : decode cX3_kind 0 = .ok (.iconst 5, 1) := by decide +kernel
theorem dX3_kind_1 : decode cX3_kind 1 = .ok (.ireturn, 1) := by decide +kernel
theorem dX3_rows_0 : decode cX3_rows 0 = .ok (.iconst 2, 1) := by decide +kernel
theorem dX3_rows_1 : decode cX3_rows 1 = .ok (.aload_n 0, 1) := by decide +kernel
theorem dX3_rows_2 : decode cX3_rows 2 = .ok (.iload_n 1, 1) := by decide +kernel
theorem dX3_rows_3 : decode cX3_rows 3 = .ok (.invokespecial 9, 3) := by decide +kernel
theorem dX3_rows_6 : decode cX3_rows 6 = .ok (.imul, 1) := by decide +kernel
theorem dX3_rows_7 : decode cX3_rows 7 = .ok (.ireturn, 1) := by decide +kernel
theorem dX3_hears_0 : decode cX3_hears 0 = .ok (.aload_n 0, 1) := by decide +kernel
theorem dX3_hears_1 : decode cX3_hears 1 = .ok (.getfield 13, 3) := by decide +kernel
theorem dX3_hears_4 : decode cX3_hears 4 = .ok (.iconst 3, 1) := by decide +kernel
theorem dX3_hears_5 : decode cX3_hears 5 = .ok (.iaload, 1) := by decide +kernel
theorem dX3_hears_6 : decode cX3_hears 6 = .ok (.iconst 2, 1) := by decide +kernel
theorem dX3_hears_7 : decode cX3_hears 7 = .ok (.irem, 1) := by decide +kernel
theorem dX3_hears_8 : decode cX3_hears 8 = .ok (.ifCond .eq 7, 3) := by decide +kernel
theorem dX3_hears_11 : decode cX3_hears 11 = .ok (.iconst 0, 1) := by decide +kernel
theorem dX3_hears_12 : decode cX3_hears 12 = .ok (.goto 8, 3) := by decide +kernel
theorem dX3_hears_15 : decode cX3_hears 15 = .ok (.aload_n 0, 1) := by decide +kernel
theorem dX3_hears_16 : decode cX3_hears 16 = .ok (.iload_n 1, 1) := by decide +kernel
theorem dX3_hears_17 : decode cX3_hears 17 = .ok (.invokespecial 19, 3) := by decide +kernel
theorem dX3_hears_20 : decode cX3_hears 20 = .ok (.ireturn, 1) := by decide +kernel
theorem dX3_owes_0 : decode cX3_owes 0 = .ok (.aload_n 0, 1) := by decide +kernel
theorem dX3_owes_1 : decode cX3_owes 1 = .ok (.iload_n 1, 1) := by decide +kernel
theorem dX3_owes_2 : decode cX3_owes 2 = .ok (.iload_n 2, 1) := by decide +kernel
theorem dX3_owes_3 : decode cX3_owes 3 = .ok (.invokespecial 22, 3) := by decide +kernel
theorem dX3_owes_6 : decode cX3_owes 6 = .ok (.istore_n 3, 1) := by decide +kernel
theorem dX3_owes_7 : decode cX3_owes 7 = .ok (.iload_n 3, 1) := by decide +kernel
theorem dX3_owes_8 : decode cX3_owes 8 = .ok (.ifCond .le 14, 3) := by decide +kernel
theorem dX3_owes_11 : decode cX3_owes 11 = .ok (.iload_n 3, 1) := by decide +kernel
theorem dX3_owes_12 : decode cX3_owes 12 = .ok (.aload_n 0, 1) := by decide +kernel
theorem dX3_owes_13 : decode cX3_owes 13 = .ok (.getfield 13, 3) := by decide +kernel
theorem dX3_owes_16 : decode cX3_owes 16 = .ok (.iconst 3, 1) := by decide +kernel
theorem dX3_owes_17 : decode cX3_owes 17 = .ok (.iaload, 1) := by decide +kernel
theorem dX3_owes_18 : decode cX3_owes 18 = .ok (.iadd, 1) := by decide +kernel
theorem dX3_owes_19 : decode cX3_owes 19 = .ok (.goto 4, 3) := by decide +kernel
theorem dX3_owes_22 : decode cX3_owes 22 = .ok (.iconst 0, 1) := by decide +kernel
theorem dX3_owes_23 : decode cX3_owes 23 = .ok (.ireturn, 1) := by decide +kernel
theorem dX4_init_0 : decode cX4_init 0 = .ok (.aload_n 0, 1) := by decide +kernel
theorem dX4_init_1 : decode cX4_init 1 = .ok (.iload_n 1, 1) := by decide +kernel
theorem dX4_init_2 : decode cX4_init 2 = .ok (.iload_n 2, 1) := by decide +kernel
theorem dX4_init_3 : decode cX4_init 3 = .ok (.invokespecial 1, 3) := by decide +kernel
theorem dX4_init_6 : decode cX4_init 6 = .ok (.return_, 1) := by decide +kernel
theorem dX4_kind_0 : decode cX4_kind 0 = .ok (.iconst 2, 1) := by decide +kernel
theorem dX4_kind_1 : decode cX4_kind 1 = .ok (.ireturn, 1) := by decide +kernel
theorem dX4_rows_0 : decode cX4_rows 0 = .ok (.aload_n 0, 1) := by decide +kernel
theorem dX4_rows_1 : decode cX4_rows 1 = .ok (.iload_n 1, 1) := by decide +kernel
theorem dX4_rows_2 : decode cX4_rows 2 = .ok (.invokespecial 7, 3) := by decide +kernel
theorem dX4_rows_5 : decode cX4_rows 5 = .ok (.iload_n 1, 1) := by decide +kernel
theorem dX4_rows_6 : decode cX4_rows 6 = .ok (.iadd, 1) := by decide +kernel
theorem dX4_rows_7 : decode cX4_rows 7 = .ok (.ireturn, 1) := by decide +kernel
theorem dX4_hears_0 : decode cX4_hears 0 = .ok (.aload_n 0, 1) := by decide +kernel
theorem dX4_hears_1 : decode cX4_hears 1 = .ok (.iload_n 1, 1) := by decide +kernel
theorem dX4_hears_2 : decode cX4_hears 2 = .ok (.invokespecial 11, 3) := by decide +kernel
theorem dX4_hears_5 : decode cX4_hears 5 = .ok (.iconst 3, 1) := by decide +kernel
theorem dX4_hears_6 : decode cX4_hears 6 = .ok (.isub, 1) := by decide +kernel
theorem dX4_hears_7 : decode cX4_hears 7 = .ok (.ireturn, 1) := by decide +kernel
theorem dX4_owes_0 : decode cX4_owes 0 = .ok (.aload_n 0, 1) := by decide +kernel
theorem dX4_owes_1 : decode cX4_owes 1 = .ok (.iload_n 1, 1) := by decide +kernel
theorem dX4_owes_2 : decode cX4_owes 2 = .ok (.iload_n 2, 1) := by decide +kernel
theorem dX4_owes_3 : decode cX4_owes 3 = .ok (.invokespecial 14, 3) := by decide +kernel
theorem dX4_owes_6 : decode cX4_owes 6 = .ok (.iconst 2, 1) := by decide +kernel
theorem dX4_owes_7 : decode cX4_owes 7 = .ok (.idiv, 1) := by decide +kernel
theorem dX4_owes_8 : decode cX4_owes 8 = .ok (.ireturn, 1) := by decide +kernel
theorem dX5_init_0 : decode cX5_init 0 = .ok (.aload_n 0, 1) := by decide +kernel
theorem dX5_init_1 : decode cX5_init 1 = .ok (.invokespecial 3, 3) := by decide +kernel
theorem dX5_init_4 : decode cX5_init 4 = .ok (.aload_n 0, 1) := by decide +kernel
theorem dX5_init_5 : decode cX5_init 5 = .ok (.bipush 31, 2) := by decide +kernel
theorem dX5_init_7 : decode cX5_init 7 = .ok (.newarray .int, 2) := by decide +kernel
theorem dX5_init_9 : decode cX5_init 9 = .ok (.putfield 9, 3) := by decide +kernel
theorem dX5_init_12 : decode cX5_init 12 = .ok (.aload_n 0, 1) := by decide +kernel
theorem dX5_init_13 : decode cX5_init 13 = .ok (.aload_n 1, 1) := by decide +kernel
theorem dX5_init_14 : decode cX5_init 14 = .ok (.putfield 15, 3) := by decide +kernel
theorem dX5_init_17 : decode cX5_init 17 = .ok (.aload_n 0, 1) := by decide +kernel
theorem dX5_init_18 : decode cX5_init 18 = .ok (.aload_n 2, 1) := by decide +kernel
theorem dX5_init_19 : decode cX5_init 19 = .ok (.putfield 18, 3) := by decide +kernel
theorem dX5_init_22 : decode cX5_init 22 = .ok (.return_, 1) := by decide +kernel
theorem dX5_value_0 : decode cX5_value 0 = .ok (.aload_n 0, 1) := by decide +kernel
theorem dX5_value_1 : decode cX5_value 1 = .ok (.iconst 0, 1) := by decide +kernel
theorem dX5_value_2 : decode cX5_value 2 = .ok (.putfield 21, 3) := by decide +kernel
theorem dX5_value_5 : decode cX5_value 5 = .ok (.iload_n 1, 1) := by decide +kernel
theorem dX5_value_6 : decode cX5_value 6 = .ok (.ifCond .ne 7, 3) := by decide +kernel
theorem dX5_value_9 : decode cX5_value 9 = .ok (.iconst 0, 1) := by decide +kernel
theorem dX5_value_10 : decode cX5_value 10 = .ok (.goto 11, 3) := by decide +kernel
theorem dX5_value_13 : decode cX5_value 13 = .ok (.aload_n 0, 1) := by decide +kernel
theorem dX5_value_14 : decode cX5_value 14 = .ok (.getfield 18, 3) := by decide +kernel
theorem dX5_value_17 : decode cX5_value 17 = .ok (.iload_n 1, 1) := by decide +kernel
theorem dX5_value_18 : decode cX5_value 18 = .ok (.iconst 1, 1) := by decide +kernel
theorem dX5_value_19 : decode cX5_value 19 = .ok (.isub, 1) := by decide +kernel
theorem dX5_value_20 : decode cX5_value 20 = .ok (.iaload, 1) := by decide +kernel
theorem dX5_value_21 : decode cX5_value 21 = .ok (.istore_n 3, 1) := by decide +kernel
theorem dX5_value_22 : decode cX5_value 22 = .ok (.iload_n 3, 1) := by decide +kernel
theorem dX5_value_23 : decode cX5_value 23 = .ok (.aload_n 0, 1) := by decide +kernel
theorem dX5_value_24 : decode cX5_value 24 = .ok (.getfield 18, 3) := by decide +kernel
theorem dX5_value_27 : decode cX5_value 27 = .ok (.iload_n 1, 1) := by decide +kernel
theorem dX5_value_28 : decode cX5_value 28 = .ok (.iaload, 1) := by decide +kernel
theorem dX5_value_29 : decode cX5_value 29 = .ok (.if_icmp .ge 121, 3) := by decide +kernel
theorem dX5_value_32 : decode cX5_value 32 = .ok (.iconst (-1), 1) := by decide +kernel
theorem dX5_value_33 : decode cX5_value 33 = .ok (.aload_n 0, 1) := by decide +kernel
theorem dX5_value_34 : decode cX5_value 34 = .ok (.getfield 15, 3) := by decide +kernel
theorem dX5_value_37 : decode cX5_value 37 = .ok (.iload_n 3, 1) := by decide +kernel
theorem dX5_value_38 : decode cX5_value 38 = .ok (.iaload, 1) := by decide +kernel
theorem dX5_value_39 : decode cX5_value 39 = .ok (.isub, 1) := by decide +kernel
theorem dX5_value_40 : decode cX5_value 40 = .ok (.istore 4, 2) := by decide +kernel
theorem dX5_value_42 : decode cX5_value 42 = .ok (.iload 4, 2) := by decide +kernel
theorem dX5_value_44 : decode cX5_value 44 = .ok (.ifCond .ge 16, 3) := by decide +kernel
theorem dX5_value_47 : decode cX5_value 47 = .ok (.aload_n 0, 1) := by decide +kernel
theorem dX5_value_48 : decode cX5_value 48 = .ok (.aload_n 0, 1) := by decide +kernel
theorem dX5_value_49 : decode cX5_value 49 = .ok (.getfield 15, 3) := by decide +kernel
theorem dX5_value_52 : decode cX5_value 52 = .ok (.iload_n 3, 1) := by decide +kernel
theorem dX5_value_53 : decode cX5_value 53 = .ok (.iaload, 1) := by decide +kernel
theorem dX5_value_54 : decode cX5_value 54 = .ok (.invokevirtual 25, 3) := by decide +kernel
theorem dX5_value_57 : decode cX5_value 57 = .ok (.goto 87, 3) := by decide +kernel
theorem dX5_value_60 : decode cX5_value 60 = .ok (.iload 4, 2) := by decide +kernel
theorem dX5_value_62 : decode cX5_value 62 = .ok (.bipush 6, 2) := by decide +kernel
theorem dX5_value_64 : decode cX5_value 64 = .ok (.if_icmp .ge 14, 3) := by decide +kernel
theorem dX5_value_67 : decode cX5_value 67 = .ok (.aload_n 0, 1) := by decide +kernel
theorem dX5_value_68 : decode cX5_value 68 = .ok (.aload_n 2, 1) := by decide +kernel
theorem dX5_value_69 : decode cX5_value 69 = .ok (.iload 4, 2) := by decide +kernel
theorem dX5_value_71 : decode cX5_value 71 = .ok (.iaload, 1) := by decide +kernel
theorem dX5_value_72 : decode cX5_value 72 = .ok (.invokevirtual 25, 3) := by decide +kernel
theorem dX5_value_75 : decode cX5_value 75 = .ok (.goto 69, 3) := by decide +kernel
theorem dX5_value_78 : decode cX5_value 78 = .ok (.iload 4, 2) := by decide +kernel
theorem dX5_value_80 : decode cX5_value 80 = .ok (.bipush 13, 2) := by decide +kernel
theorem dX5_value_82 : decode cX5_value 82 = .ok (.if_icmp .ne 15, 3) := by decide +kernel
theorem dX5_value_85 : decode cX5_value 85 = .ok (.aload_n 0, 1) := by decide +kernel
theorem dX5_value_86 : decode cX5_value 86 = .ok (.aload_n 0, 1) := by decide +kernel
theorem dX5_value_87 : decode cX5_value 87 = .ok (.invokevirtual 31, 3) := by decide +kernel
theorem dX5_value_90 : decode cX5_value 90 = .ok (.ineg, 1) := by decide +kernel
theorem dX5_value_91 : decode cX5_value 91 = .ok (.invokevirtual 25, 3) := by decide +kernel
theorem dX5_value_94 : decode cX5_value 94 = .ok (.goto 50, 3) := by decide +kernel
theorem dX5_value_97 : decode cX5_value 97 = .ok (.iload 4, 2) := by decide +kernel
theorem dX5_value_99 : decode cX5_value 99 = .ok (.bipush 11, 2) := by decide +kernel
theorem dX5_value_101 : decode cX5_value 101 = .ok (.if_icmp .ne 22, 3) := by decide +kernel
theorem dX5_value_104 : decode cX5_value 104 = .ok (.aload_n 0, 1) := by decide +kernel
theorem dX5_value_105 : decode cX5_value 105 = .ok (.aload_n 0, 1) := by decide +kernel
theorem dX5_value_106 : decode cX5_value 106 = .ok (.invokevirtual 31, 3) := by decide +kernel
theorem dX5_value_109 : decode cX5_value 109 = .ok (.ifCond .ne 7, 3) := by decide +kernel
theorem dX5_value_112 : decode cX5_value 112 = .ok (.iconst 1, 1) := by decide +kernel
theorem dX5_value_113 : decode cX5_value 113 = .ok (.goto 4, 3) := by decide +kernel
theorem dX5_value_116 : decode cX5_value 116 = .ok (.iconst 0, 1) := by decide +kernel
theorem dX5_value_117 : decode cX5_value 117 = .ok (.invokevirtual 25, 3) := by decide +kernel
theorem dX5_value_120 : decode cX5_value 120 = .ok (.goto 24, 3) := by decide +kernel
theorem dX5_value_123 : decode cX5_value 123 = .ok (.aload_n 0, 1) := by decide +kernel
theorem dX5_value_124 : decode cX5_value 124 = .ok (.invokevirtual 31, 3) := by decide +kernel
theorem dX5_value_127 : decode cX5_value 127 = .ok (.istore 5, 2) := by decide +kernel
theorem dX5_value_129 : decode cX5_value 129 = .ok (.aload_n 0, 1) := by decide +kernel
theorem dX5_value_130 : decode cX5_value 130 = .ok (.iload 4, 2) := by decide +kernel
theorem dX5_value_132 : decode cX5_value 132 = .ok (.aload_n 0, 1) := by decide +kernel
theorem dX5_value_133 : decode cX5_value 133 = .ok (.invokevirtual 31, 3) := by decide +kernel
theorem dX5_value_136 : decode cX5_value 136 = .ok (.iload 5, 2) := by decide +kernel
theorem dX5_value_138 : decode cX5_value 138 = .ok (.invokestatic 35, 3) := by decide +kernel
theorem dX5_value_141 : decode cX5_value 141 = .ok (.invokevirtual 25, 3) := by decide +kernel
theorem dX5_value_144 : decode cX5_value 144 = .ok (.iinc 3 1, 3) := by decide +kernel
theorem dX5_value_147 : decode cX5_value 147 = .ok (.goto (-125), 3) := by decide +kernel
theorem dX5_value_150 : decode cX5_value 150 = .ok (.aload_n 0, 1) := by decide +kernel
theorem dX5_value_151 : decode cX5_value 151 = .ok (.invokevirtual 31, 3) := by decide +kernel
theorem dX5_value_154 : decode cX5_value 154 = .ok (.ireturn, 1) := by decide +kernel
theorem dX5_push_0 : decode cX5_push 0 = .ok (.aload_n 0, 1) := by decide +kernel
theorem dX5_push_1 : decode cX5_push 1 = .ok (.getfield 21, 3) := by decide +kernel
theorem dX5_push_4 : decode cX5_push 4 = .ok (.aload_n 0, 1) := by decide +kernel
theorem dX5_push_5 : decode cX5_push 5 = .ok (.getfield 9, 3) := by decide +kernel
theorem dX5_push_8 : decode cX5_push 8 = .ok (.arraylength, 1) := by decide +kernel
theorem dX5_push_9 : decode cX5_push 9 = .ok (.if_icmp .ge 23, 3) := by decide +kernel
theorem dX5_push_12 : decode cX5_push 12 = .ok (.aload_n 0, 1) := by decide +kernel
theorem dX5_push_13 : decode cX5_push 13 = .ok (.getfield 9, 3) := by decide +kernel
theorem dX5_push_16 : decode cX5_push 16 = .ok (.aload_n 0, 1) := by decide +kernel
theorem dX5_push_17 : decode cX5_push 17 = .ok (.getfield 21, 3) := by decide +kernel
theorem dX5_push_20 : decode cX5_push 20 = .ok (.iload_n 1, 1) := by decide +kernel
theorem dX5_push_21 : decode cX5_push 21 = .ok (.iastore, 1) := by decide +kernel
theorem dX5_push_22 : decode cX5_push 22 = .ok (.aload_n 0, 1) := by decide +kernel
theorem dX5_push_23 : decode cX5_push 23 = .ok (.dup, 1) := by decide +kernel
theorem dX5_push_24 : decode cX5_push 24 = .ok (.getfield 21, 3) := by decide +kernel
theorem dX5_push_27 : decode cX5_push 27 = .ok (.iconst 1, 1) := by decide +kernel
theorem dX5_push_28 : decode cX5_push 28 = .ok (.iadd, 1) := by decide +kernel
theorem dX5_push_29 : decode cX5_push 29 = .ok (.putfield 21, 3) := by decide +kernel
theorem dX5_push_32 : decode cX5_push 32 = .ok (.return_, 1) := by decide +kernel
theorem dX5_pop_0 : decode cX5_pop 0 = .ok (.aload_n 0, 1) := by decide +kernel
theorem dX5_pop_1 : decode cX5_pop 1 = .ok (.getfield 21, 3) := by decide +kernel
theorem dX5_pop_4 : decode cX5_pop 4 = .ok (.ifCond .gt 5, 3) := by decide +kernel
theorem dX5_pop_7 : decode cX5_pop 7 = .ok (.iconst 0, 1) := by decide +kernel
theorem dX5_pop_8 : decode cX5_pop 8 = .ok (.ireturn, 1) := by decide +kernel
theorem dX5_pop_9 : decode cX5_pop 9 = .ok (.aload_n 0, 1) := by decide +kernel
theorem dX5_pop_10 : decode cX5_pop 10 = .ok (.dup, 1) := by decide +kernel
theorem dX5_pop_11 : decode cX5_pop 11 = .ok (.getfield 21, 3) := by decide +kernel
theorem dX5_pop_14 : decode cX5_pop 14 = .ok (.iconst 1, 1) := by decide +kernel
theorem dX5_pop_15 : decode cX5_pop 15 = .ok (.isub, 1) := by decide +kernel
theorem dX5_pop_16 : decode cX5_pop 16 = .ok (.putfield 21, 3) := by decide +kernel
theorem dX5_pop_19 : decode cX5_pop 19 = .ok (.aload_n 0, 1) := by decide +kernel
theorem dX5_pop_20 : decode cX5_pop 20 = .ok (.getfield 9, 3) := by decide +kernel
theorem dX5_pop_23 : decode cX5_pop 23 = .ok (.aload_n 0, 1) := by decide +kernel
theorem dX5_pop_24 : decode cX5_pop 24 = .ok (.getfield 21, 3) := by decide +kernel
theorem dX5_pop_27 : decode cX5_pop 27 = .ok (.iaload, 1) := by decide +kernel
theorem dX5_pop_28 : decode cX5_pop 28 = .ok (.ireturn, 1) := by decide +kernel
theorem dX5_joined_0 : decode cX5_joined 0 = .ok (.iload_n 0, 1) := by decide +kernel
theorem dX5_joined_1 : decode cX5_joined 1 = .ok (.lookupswitch 117 #[(9, 59), (10, 73), (43, 109), (45, 113), (60, 87), (61, 98)], 59) := by decide +kernel
theorem dX5_joined_60 : decode cX5_joined 60 = .ok (.iload_n 1, 1) := by decide +kernel
theorem dX5_joined_61 : decode cX5_joined 61 = .ok (.ifCond .ne 7, 3) := by decide +kernel
theorem dX5_joined_64 : decode cX5_joined 64 = .ok (.iload_n 2, 1) := by decide +kernel
theorem dX5_joined_65 : decode cX5_joined 65 = .ok (.ifCond .eq 7, 3) := by decide +kernel
theorem dX5_joined_68 : decode cX5_joined 68 = .ok (.iconst 1, 1) := by decide +kernel
theorem dX5_joined_69 : decode cX5_joined 69 = .ok (.goto 4, 3) := by decide +kernel
theorem dX5_joined_72 : decode cX5_joined 72 = .ok (.iconst 0, 1) := by decide +kernel
theorem dX5_joined_73 : decode cX5_joined 73 = .ok (.ireturn, 1) := by decide +kernel
theorem dX5_joined_74 : decode cX5_joined 74 = .ok (.iload_n 1, 1) := by decide +kernel
theorem dX5_joined_75 : decode cX5_joined 75 = .ok (.ifCond .eq 11, 3) := by decide +kernel
theorem dX5_joined_78 : decode cX5_joined 78 = .ok (.iload_n 2, 1) := by decide +kernel
theorem dX5_joined_79 : decode cX5_joined 79 = .ok (.ifCond .eq 7, 3) := by decide +kernel
theorem dX5_joined_82 : decode cX5_joined 82 = .ok (.iconst 1, 1) := by decide +kernel
theorem dX5_joined_83 : decode cX5_joined 83 = .ok (.goto 4, 3) := by decide +kernel
theorem dX5_joined_86 : decode cX5_joined 86 = .ok (.iconst 0, 1) := by decide +kernel
theorem dX5_joined_87 : decode cX5_joined 87 = .ok (.ireturn, 1) := by decide +kernel
theorem dX5_joined_88 : decode cX5_joined 88 = .ok (.iload_n 1, 1) := by decide +kernel
theorem dX5_joined_89 : decode cX5_joined 89 = .ok (.iload_n 2, 1) := by decide +kernel
theorem dX5_joined_90 : decode cX5_joined 90 = .ok (.if_icmp .ge 7, 3) := by decide +kernel
theorem dX5_joined_93 : decode cX5_joined 93 = .ok (.iconst 1, 1) := by decide +kernel
theorem dX5_joined_94 : decode cX5_joined 94 = .ok (.goto 4, 3) := by decide +kernel
theorem dX5_joined_97 : decode cX5_joined 97 = .ok (.iconst 0, 1) := by decide +kernel
theorem dX5_joined_98 : decode cX5_joined 98 = .ok (.ireturn, 1) := by decide +kernel
theorem dX5_joined_99 : decode cX5_joined 99 = .ok (.iload_n 1, 1) := by decide +kernel
theorem dX5_joined_100 : decode cX5_joined 100 = .ok (.iload_n 2, 1) := by decide +kernel
theorem dX5_joined_101 : decode cX5_joined 101 = .ok (.if_icmp .ne 7, 3) := by decide +kernel
theorem dX5_joined_104 : decode cX5_joined 104 = .ok (.iconst 1, 1) := by decide +kernel
theorem dX5_joined_105 : decode cX5_joined 105 = .ok (.goto 4, 3) := by decide +kernel
theorem dX5_joined_108 : decode cX5_joined 108 = .ok (.iconst 0, 1) := by decide +kernel
theorem dX5_joined_109 : decode cX5_joined 109 = .ok (.ireturn, 1) := by decide +kernel
theorem dX5_joined_110 : decode cX5_joined 110 = .ok (.iload_n 1, 1) := by decide +kernel
theorem dX5_joined_111 : decode cX5_joined 111 = .ok (.iload_n 2, 1) := by decide +kernel
theorem dX5_joined_112 : decode cX5_joined 112 = .ok (.iadd, 1) := by decide +kernel
theorem dX5_joined_113 : decode cX5_joined 113 = .ok (.ireturn, 1) := by decide +kernel
theorem dX5_joined_114 : decode cX5_joined 114 = .ok (.iload_n 1, 1) := by decide +kernel
theorem dX5_joined_115 : decode cX5_joined 115 = .ok (.iload_n 2, 1) := by decide +kernel
theorem dX5_joined_116 : decode cX5_joined 116 = .ok (.isub, 1) := by decide +kernel
theorem dX5_joined_117 : decode cX5_joined 117 = .ok (.ireturn, 1) := by decide +kernel
theorem dX5_joined_118 : decode cX5_joined 118 = .ok (.iload_n 1, 1) := by decide +kernel
theorem dX5_joined_119 : decode cX5_joined 119 = .ok (.iload_n 2, 1) := by decide +kernel
theorem dX5_joined_120 : decode cX5_joined 120 = .ok (.imul, 1) := by decide +kernel
theorem dX5_joined_121 : decode cX5_joined 121 = .ok (.ireturn, 1) := by decide +kernel
theorem dX6_init_0 : decode cX6_init 0 = .ok (.aload_n 0, 1) := by decide +kernel
theorem dX6_init_1 : decode cX6_init 1 = .ok (.invokespecial 3, 3) := by decide +kernel
theorem dX6_init_4 : decode cX6_init 4 = .ok (.aload_n 0, 1) := by decide +kernel
theorem dX6_init_5 : decode cX6_init 5 = .ok (.bipush 40, 2) := by decide +kernel
theorem dX6_init_7 : decode cX6_init 7 = .ok (.newarray .int, 2) := by decide +kernel
theorem dX6_init_9 : decode cX6_init 9 = .ok (.putfield 9, 3) := by decide +kernel
theorem dX6_init_12 : decode cX6_init 12 = .ok (.aload_n 0, 1) := by decide +kernel
theorem dX6_init_13 : decode cX6_init 13 = .ok (.iconst (-1), 1) := by decide +kernel
theorem dX6_init_14 : decode cX6_init 14 = .ok (.putfield 15, 3) := by decide +kernel
theorem dX6_init_17 : decode cX6_init 17 = .ok (.return_, 1) := by decide +kernel
theorem dX6_become_0 : decode cX6_become 0 = .ok (.aload_n 0, 1) := by decide +kernel
theorem dX6_become_1 : decode cX6_become 1 = .ok (.getfield 9, 3) := by decide +kernel
theorem dX6_become_4 : decode cX6_become 4 = .ok (.iconst 0, 1) := by decide +kernel
theorem dX6_become_5 : decode cX6_become 5 = .ok (.invokestatic 19, 3) := by decide +kernel
theorem dX6_become_8 : decode cX6_become 8 = .ok (.aload_n 0, 1) := by decide +kernel
theorem dX6_become_9 : decode cX6_become 9 = .ok (.iload_n 1, 1) := by decide +kernel
theorem dX6_become_10 : decode cX6_become 10 = .ok (.putfield 15, 3) := by decide +kernel
theorem dX6_become_13 : decode cX6_become 13 = .ok (.aload_n 0, 1) := by decide +kernel
theorem dX6_become_14 : decode cX6_become 14 = .ok (.iload_n 2, 1) := by decide +kernel
theorem dX6_become_15 : decode cX6_become 15 = .ok (.putfield 25, 3) := by decide +kernel
theorem dX6_become_18 : decode cX6_become 18 = .ok (.return_, 1) := by decide +kernel
theorem dX6_isMissing_0 : decode cX6_isMissing 0 = .ok (.aload_n 0, 1) := by decide +kernel
theorem dX6_isMissing_1 : decode cX6_isMissing 1 = .ok (.getfield 15, 3) := by decide +kernel
theorem dX6_isMissing_4 : decode cX6_isMissing 4 = .ok (.iconst (-1), 1) := by decide +kernel
theorem dX6_isMissing_5 : decode cX6_isMissing 5 = .ok (.if_icmp .ne 7, 3) := by decide +kernel
theorem dX6_isMissing_8 : decode cX6_isMissing 8 = .ok (.iconst 1, 1) := by decide +kernel
theorem dX6_isMissing_9 : decode cX6_isMissing 9 = .ok (.goto 4, 3) := by decide +kernel
theorem dX6_isMissing_12 : decode cX6_isMissing 12 = .ok (.iconst 0, 1) := by decide +kernel
theorem dX6_isMissing_13 : decode cX6_isMissing 13 = .ok (.ireturn, 1) := by decide +kernel
theorem dX6_has_0 : decode cX6_has 0 = .ok (.lload_n 1, 1) := by decide +kernel
theorem dX6_has_1 : decode cX6_has 1 = .ok (.lconst 0, 1) := by decide +kernel
theorem dX6_has_2 : decode cX6_has 2 = .ok (.lcmp, 1) := by decide +kernel
theorem dX6_has_3 : decode cX6_has 3 = .ok (.ifCond .lt 24, 3) := by decide +kernel
theorem dX6_has_6 : decode cX6_has 6 = .ok (.iload_n 3, 1) := by decide +kernel
theorem dX6_has_7 : decode cX6_has 7 = .ok (.ifCond .lt 20, 3) := by decide +kernel
theorem dX6_has_10 : decode cX6_has 10 = .ok (.lload_n 1, 1) := by decide +kernel
theorem dX6_has_11 : decode cX6_has 11 = .ok (.iload_n 3, 1) := by decide +kernel
theorem dX6_has_12 : decode cX6_has 12 = .ok (.i2l, 1) := by decide +kernel
theorem dX6_has_13 : decode cX6_has 13 = .ok (.ladd, 1) := by decide +kernel
theorem dX6_has_14 : decode cX6_has 14 = .ok (.aload_n 0, 1) := by decide +kernel
theorem dX6_has_15 : decode cX6_has 15 = .ok (.getfield 25, 3) := by decide +kernel
theorem dX6_has_18 : decode cX6_has 18 = .ok (.i2l, 1) := by decide +kernel
theorem dX6_has_19 : decode cX6_has 19 = .ok (.lcmp, 1) := by decide +kernel
theorem dX6_has_20 : decode cX6_has 20 = .ok (.ifCond .gt 7, 3) := by decide +kernel
theorem dX6_has_23 : decode cX6_has 23 = .ok (.iconst 1, 1) := by decide +kernel
theorem dX6_has_24 : decode cX6_has 24 = .ok (.goto 4, 3) := by decide +kernel
theorem dX6_has_27 : decode cX6_has 27 = .ok (.iconst 0, 1) := by decide +kernel
theorem dX6_has_28 : decode cX6_has 28 = .ok (.ireturn, 1) := by decide +kernel
theorem dX6_at_0 : decode cX6_at 0 = .ok (.aload_n 0, 1) := by decide +kernel
theorem dX6_at_1 : decode cX6_at 1 = .ok (.iload_n 1, 1) := by decide +kernel
theorem dX6_at_2 : decode cX6_at 2 = .ok (.i2l, 1) := by decide +kernel
theorem dX6_at_3 : decode cX6_at 3 = .ok (.iconst 1, 1) := by decide +kernel
theorem dX6_at_4 : decode cX6_at 4 = .ok (.invokevirtual 28, 3) := by decide +kernel
theorem dX6_at_7 : decode cX6_at 7 = .ok (.ifCond .eq 12, 3) := by decide +kernel
theorem dX6_at_10 : decode cX6_at 10 = .ok (.aload_n 0, 1) := by decide +kernel
theorem dX6_at_11 : decode cX6_at 11 = .ok (.getfield 9, 3) := by decide +kernel
theorem dX6_at_14 : decode cX6_at 14 = .ok (.iload_n 1, 1) := by decide +kernel
theorem dX6_at_15 : decode cX6_at 15 = .ok (.iaload, 1) := by decide +kernel
theorem dX6_at_16 : decode cX6_at 16 = .ok (.goto 4, 3) := by decide +kernel
theorem dX6_at_19 : decode cX6_at 19 = .ok (.iconst 0, 1) := by decide +kernel
theorem dX6_at_20 : decode cX6_at 20 = .ok (.ireturn, 1) := by decide +kernel
theorem dX6_put_0 : decode cX6_put 0 = .ok (.aload_n 0, 1) := by decide +kernel
theorem dX6_put_1 : decode cX6_put 1 = .ok (.iload_n 1, 1) := by decide +kernel
theorem dX6_put_2 : decode cX6_put 2 = .ok (.i2l, 1) := by decide +kernel
theorem dX6_put_3 : decode cX6_put 3 = .ok (.iconst 1, 1) := by decide +kernel
theorem dX6_put_4 : decode cX6_put 4 = .ok (.invokevirtual 28, 3) := by decide +kernel
theorem dX6_put_7 : decode cX6_put 7 = .ok (.ifCond .ne 4, 3) := by decide +kernel
theorem dX6_put_10 : decode cX6_put 10 = .ok (.return_, 1) := by decide +kernel
theorem dX6_put_11 : decode cX6_put 11 = .ok (.aload_n 0, 1) := by decide +kernel
theorem dX6_put_12 : decode cX6_put 12 = .ok (.getfield 15, 3) := by decide +kernel
theorem dX6_put_15 : decode cX6_put 15 = .ok (.lookupswitch 47 #[(0, 25), (1, 36)], 25) := by decide +kernel
theorem dX6_put_40 : decode cX6_put 40 = .ok (.aload_n 0, 1) := by decide +kernel
theorem dX6_put_41 : decode cX6_put 41 = .ok (.getfield 9, 3) := by decide +kernel
theorem dX6_put_44 : decode cX6_put 44 = .ok (.iload_n 1, 1) := by decide +kernel
theorem dX6_put_45 : decode cX6_put 45 = .ok (.iload_n 2, 1) := by decide +kernel
theorem dX6_put_46 : decode cX6_put 46 = .ok (.i2b, 1) := by decide +kernel
theorem dX6_put_47 : decode cX6_put 47 = .ok (.iastore, 1) := by decide +kernel
theorem dX6_put_48 : decode cX6_put 48 = .ok (.goto 21, 3) := by decide +kernel
theorem dX6_put_51 : decode cX6_put 51 = .ok (.aload_n 0, 1) := by decide +kernel
theorem dX6_put_52 : decode cX6_put 52 = .ok (.getfield 9, 3) := by decide +kernel
theorem dX6_put_55 : decode cX6_put 55 = .ok (.iload_n 1, 1) := by decide +kernel
theorem dX6_put_56 : decode cX6_put 56 = .ok (.iload_n 2, 1) := by decide +kernel
theorem dX6_put_57 : decode cX6_put 57 = .ok (.i2s, 1) := by decide +kernel
theorem dX6_put_58 : decode cX6_put 58 = .ok (.iastore, 1) := by decide +kernel
theorem dX6_put_59 : decode cX6_put 59 = .ok (.goto 10, 3) := by decide +kernel
theorem dX6_put_62 : decode cX6_put 62 = .ok (.aload_n 0, 1) := by decide +kernel
theorem dX6_put_63 : decode cX6_put 63 = .ok (.getfield 9, 3) := by decide +kernel
theorem dX6_put_66 : decode cX6_put 66 = .ok (.iload_n 1, 1) := by decide +kernel
theorem dX6_put_67 : decode cX6_put 67 = .ok (.iload_n 2, 1) := by decide +kernel
theorem dX6_put_68 : decode cX6_put 68 = .ok (.iastore, 1) := by decide +kernel
theorem dX6_put_69 : decode cX6_put 69 = .ok (.return_, 1) := by decide +kernel
theorem dX7_init_0 : decode cX7_init 0 = .ok (.aload_n 0, 1) := by decide +kernel
theorem dX7_init_1 : decode cX7_init 1 = .ok (.iload_n 1, 1) := by decide +kernel
theorem dX7_init_2 : decode cX7_init 2 = .ok (.iload_n 2, 1) := by decide +kernel
theorem dX7_init_3 : decode cX7_init 3 = .ok (.invokespecial 3, 3) := by decide +kernel
theorem dX7_init_6 : decode cX7_init 6 = .ok (.return_, 1) := by decide +kernel
theorem dX7_kind_0 : decode cX7_kind 0 = .ok (.iconst 1, 1) := by decide +kernel
theorem dX7_kind_1 : decode cX7_kind 1 = .ok (.ireturn, 1) := by decide +kernel
theorem dX7_rows_0 : decode cX7_rows 0 = .ok (.aload_n 0, 1) := by decide +kernel
theorem dX7_rows_1 : decode cX7_rows 1 = .ok (.iload_n 1, 1) := by decide +kernel
theorem dX7_rows_2 : decode cX7_rows 2 = .ok (.invokespecial 9, 3) := by decide +kernel
theorem dX7_rows_5 : decode cX7_rows 5 = .ok (.iconst 1, 1) := by decide +kernel
theorem dX7_rows_6 : decode cX7_rows 6 = .ok (.isub, 1) := by decide +kernel
theorem dX7_rows_7 : decode cX7_rows 7 = .ok (.ireturn, 1) := by decide +kernel
theorem dX7_hears_0 : decode cX7_hears 0 = .ok (.aload_n 0, 1) := by decide +kernel
theorem dX7_hears_1 : decode cX7_hears 1 = .ok (.iload_n 1, 1) := by decide +kernel
theorem dX7_hears_2 : decode cX7_hears 2 = .ok (.invokespecial 13, 3) := by decide +kernel
theorem dX7_hears_5 : decode cX7_hears 5 = .ok (.aload_n 0, 1) := by decide +kernel
theorem dX7_hears_6 : decode cX7_hears 6 = .ok (.getfield 16, 3) := by decide +kernel
theorem dX7_hears_9 : decode cX7_hears 9 = .ok (.iconst 3, 1) := by decide +kernel
theorem dX7_hears_10 : decode cX7_hears 10 = .ok (.iaload, 1) := by decide +kernel
theorem dX7_hears_11 : decode cX7_hears 11 = .ok (.iadd, 1) := by decide +kernel
theorem dX7_hears_12 : decode cX7_hears 12 = .ok (.ireturn, 1) := by decide +kernel
theorem dX8_init_0 : decode cX8_init 0 = .ok (.aload_n 0, 1) := by decide +kernel
theorem dX8_init_1 : decode cX8_init 1 = .ok (.invokespecial 3, 3) := by decide +kernel
theorem dX8_init_4 : decode cX8_init 4 = .ok (.aload_n 0, 1) := by decide +kernel
theorem dX8_init_5 : decode cX8_init 5 = .ok (.sipush 160, 3) := by decide +kernel
theorem dX8_init_8 : decode cX8_init 8 = .ok (.newarray .int, 2) := by decide +kernel
theorem dX8_init_10 : decode cX8_init 10 = .ok (.putfield 9, 3) := by decide +kernel
theorem dX8_init_13 : decode cX8_init 13 = .ok (.aload_n 0, 1) := by decide +kernel
theorem dX8_init_14 : decode cX8_init 14 = .ok (.sipush 160, 3) := by decide +kernel
theorem dX8_init_17 : decode cX8_init 17 = .ok (.newarray .int, 2) := by decide +kernel
theorem dX8_init_19 : decode cX8_init 19 = .ok (.putfield 15, 3) := by decide +kernel
theorem dX8_init_22 : decode cX8_init 22 = .ok (.aload_n 0, 1) := by decide +kernel
theorem dX8_init_23 : decode cX8_init 23 = .ok (.iconst 3, 1) := by decide +kernel
theorem dX8_init_24 : decode cX8_init 24 = .ok (.newarray .int, 2) := by decide +kernel
theorem dX8_init_26 : decode cX8_init 26 = .ok (.putfield 18, 3) := by decide +kernel
theorem dX8_init_29 : decode cX8_init 29 = .ok (.return_, 1) := by decide +kernel
theorem dX8_add_0 : decode cX8_add 0 = .ok (.aload_n 0, 1) := by decide +kernel
theorem dX8_add_1 : decode cX8_add 1 = .ok (.getfield 21, 3) := by decide +kernel
theorem dX8_add_4 : decode cX8_add 4 = .ok (.sipush 160, 3) := by decide +kernel
theorem dX8_add_7 : decode cX8_add 7 = .ok (.if_icmp .lt 5, 3) := by decide +kernel
theorem dX8_add_10 : decode cX8_add 10 = .ok (.iconst 0, 1) := by decide +kernel
theorem dX8_add_11 : decode cX8_add 11 = .ok (.ireturn, 1) := by decide +kernel
theorem dX8_add_12 : decode cX8_add 12 = .ok (.aload_n 0, 1) := by decide +kernel
theorem dX8_add_13 : decode cX8_add 13 = .ok (.getfield 9, 3) := by decide +kernel
theorem dX8_add_16 : decode cX8_add 16 = .ok (.aload_n 0, 1) := by decide +kernel
theorem dX8_add_17 : decode cX8_add 17 = .ok (.getfield 21, 3) := by decide +kernel
theorem dX8_add_20 : decode cX8_add 20 = .ok (.iload_n 1, 1) := by decide +kernel
theorem dX8_add_21 : decode cX8_add 21 = .ok (.iastore, 1) := by decide +kernel
theorem dX8_add_22 : decode cX8_add 22 = .ok (.aload_n 0, 1) := by decide +kernel
theorem dX8_add_23 : decode cX8_add 23 = .ok (.dup, 1) := by decide +kernel
theorem dX8_add_24 : decode cX8_add 24 = .ok (.getfield 21, 3) := by decide +kernel
theorem dX8_add_27 : decode cX8_add 27 = .ok (.iconst 1, 1) := by decide +kernel
theorem dX8_add_28 : decode cX8_add 28 = .ok (.iadd, 1) := by decide +kernel
theorem dX8_add_29 : decode cX8_add 29 = .ok (.putfield 21, 3) := by decide +kernel
theorem dX8_add_32 : decode cX8_add 32 = .ok (.iconst 1, 1) := by decide +kernel
theorem dX8_add_33 : decode cX8_add 33 = .ok (.ireturn, 1) := by decide +kernel
theorem dX8_empty_0 : decode cX8_empty 0 = .ok (.aload_n 0, 1) := by decide +kernel
theorem dX8_empty_1 : decode cX8_empty 1 = .ok (.iconst 0, 1) := by decide +kernel
theorem dX8_empty_2 : decode cX8_empty 2 = .ok (.putfield 21, 3) := by decide +kernel
theorem dX8_empty_5 : decode cX8_empty 5 = .ok (.return_, 1) := by decide +kernel
theorem dX8_read_0 : decode cX8_read 0 = .ok (.aload_n 0, 1) := by decide +kernel
theorem dX8_read_1 : decode cX8_read 1 = .ok (.iconst 0, 1) := by decide +kernel
theorem dX8_read_2 : decode cX8_read 2 = .ok (.putfield 25, 3) := by decide +kernel
theorem dX8_read_5 : decode cX8_read 5 = .ok (.aload_n 0, 1) := by decide +kernel
theorem dX8_read_6 : decode cX8_read 6 = .ok (.iconst 0, 1) := by decide +kernel
theorem dX8_read_7 : decode cX8_read 7 = .ok (.putfield 28, 3) := by decide +kernel
theorem dX8_read_10 : decode cX8_read 10 = .ok (.aload_n 0, 1) := by decide +kernel
theorem dX8_read_11 : decode cX8_read 11 = .ok (.invokevirtual 31, 3) := by decide +kernel
theorem dX8_read_14 : decode cX8_read 14 = .ok (.iconst 0, 1) := by decide +kernel
theorem dX8_read_15 : decode cX8_read 15 = .ok (.istore_n 1, 1) := by decide +kernel
theorem dX8_read_16 : decode cX8_read 16 = .ok (.iload_n 1, 1) := by decide +kernel
theorem dX8_read_17 : decode cX8_read 17 = .ok (.iconst 3, 1) := by decide +kernel
theorem dX8_read_18 : decode cX8_read 18 = .ok (.if_icmp .ge 35, 3) := by decide +kernel
theorem dX8_read_21 : decode cX8_read 21 = .ok (.aload_n 0, 1) := by decide +kernel
theorem dX8_read_22 : decode cX8_read 22 = .ok (.bipush 6, 2) := by decide +kernel
theorem dX8_read_24 : decode cX8_read 24 = .ok (.iload_n 1, 1) := by decide +kernel
theorem dX8_read_25 : decode cX8_read 25 = .ok (.iadd, 1) := by decide +kernel
theorem dX8_read_26 : decode cX8_read 26 = .ok (.invokevirtual 34, 3) := by decide +kernel
theorem dX8_read_29 : decode cX8_read 29 = .ok (.ifCond .ne 8, 3) := by decide +kernel
theorem dX8_read_32 : decode cX8_read 32 = .ok (.aload_n 0, 1) := by decide +kernel
theorem dX8_read_33 : decode cX8_read 33 = .ok (.getfield 38, 3) := by decide +kernel
theorem dX8_read_36 : decode cX8_read 36 = .ok (.ireturn, 1) := by decide +kernel
theorem dX8_read_37 : decode cX8_read 37 = .ok (.aload_n 0, 1) := by decide +kernel
theorem dX8_read_38 : decode cX8_read 38 = .ok (.getfield 18, 3) := by decide +kernel
theorem dX8_read_41 : decode cX8_read 41 = .ok (.iload_n 1, 1) := by decide +kernel
theorem dX8_read_42 : decode cX8_read 42 = .ok (.aload_n 0, 1) := by decide +kernel
theorem dX8_read_43 : decode cX8_read 43 = .ok (.getfield 25, 3) := by decide +kernel
theorem dX8_read_46 : decode cX8_read 46 = .ok (.iastore, 1) := by decide +kernel
theorem dX8_read_47 : decode cX8_read 47 = .ok (.iinc 1 1, 3) := by decide +kernel
theorem dX8_read_50 : decode cX8_read 50 = .ok (.goto (-34), 3) := by decide +kernel
theorem dX8_read_53 : decode cX8_read 53 = .ok (.aload_n 0, 1) := by decide +kernel
theorem dX8_read_54 : decode cX8_read 54 = .ok (.getfield 41, 3) := by decide +kernel
theorem dX8_read_57 : decode cX8_read 57 = .ok (.iconst (-1), 1) := by decide +kernel
theorem dX8_read_58 : decode cX8_read 58 = .ok (.if_icmp .ne 7, 3) := by decide +kernel
theorem dX8_read_61 : decode cX8_read 61 = .ok (.iconst (-1), 1) := by decide +kernel
theorem dX8_read_62 : decode cX8_read 62 = .ok (.goto 7, 3) := by decide +kernel
theorem dX8_read_65 : decode cX8_read 65 = .ok (.aload_n 0, 1) := by decide +kernel
theorem dX8_read_66 : decode cX8_read 66 = .ok (.getfield 38, 3) := by decide +kernel
theorem dX8_read_69 : decode cX8_read 69 = .ok (.ireturn, 1) := by decide +kernel
theorem dX8_ruleRead_0 : decode cX8_ruleRead 0 = .ok (.new 44, 3) := by decide +kernel
theorem dX8_ruleRead_3 : decode cX8_ruleRead 3 = .ok (.dup, 1) := by decide +kernel
theorem dX8_ruleRead_4 : decode cX8_ruleRead 4 = .ok (.aload_n 0, 1) := by decide +kernel
theorem dX8_ruleRead_5 : decode cX8_ruleRead 5 = .ok (.getfield 15, 3) := by decide +kernel
theorem dX8_ruleRead_8 : decode cX8_ruleRead 8 = .ok (.aload_n 0, 1) := by decide +kernel
theorem dX8_ruleRead_9 : decode cX8_ruleRead 9 = .ok (.getfield 25, 3) := by decide +kernel
theorem dX8_ruleRead_12 : decode cX8_ruleRead 12 = .ok (.invokestatic 46, 3) := by decide +kernel
theorem dX8_ruleRead_15 : decode cX8_ruleRead 15 = .ok (.aload_n 0, 1) := by decide +kernel
theorem dX8_ruleRead_16 : decode cX8_ruleRead 16 = .ok (.getfield 18, 3) := by decide +kernel
theorem dX8_ruleRead_19 : decode cX8_ruleRead 19 = .ok (.iconst 3, 1) := by decide +kernel
theorem dX8_ruleRead_20 : decode cX8_ruleRead 20 = .ok (.invokestatic 46, 3) := by decide +kernel
theorem dX8_ruleRead_23 : decode cX8_ruleRead 23 = .ok (.invokespecial 52, 3) := by decide +kernel
theorem dX8_ruleRead_26 : decode cX8_ruleRead 26 = .ok (.areturn, 1) := by decide +kernel
theorem dX8_clauseOf_0 : decode cX8_clauseOf 0 = .ok (.aload_n 0, 1) := by decide +kernel
theorem dX8_clauseOf_1 : decode cX8_clauseOf 1 = .ok (.iload_n 1, 1) := by decide +kernel
theorem dX8_clauseOf_2 : decode cX8_clauseOf 2 = .ok (.invokevirtual 55, 3) := by decide +kernel
theorem dX8_clauseOf_5 : decode cX8_clauseOf 5 = .ok (.ifCond .eq 24, 3) := by decide +kernel
theorem dX8_clauseOf_8 : decode cX8_clauseOf 8 = .ok (.aload_n 0, 1) := by decide +kernel
theorem dX8_clauseOf_9 : decode cX8_clauseOf 9 = .ok (.iconst 0, 1) := by decide +kernel
theorem dX8_clauseOf_10 : decode cX8_clauseOf 10 = .ok (.invokevirtual 58, 3) := by decide +kernel
theorem dX8_clauseOf_13 : decode cX8_clauseOf 13 = .ok (.ifCond .eq 16, 3) := by decide +kernel
theorem dX8_clauseOf_16 : decode cX8_clauseOf 16 = .ok (.aload_n 0, 1) := by decide +kernel
theorem dX8_clauseOf_17 : decode cX8_clauseOf 17 = .ok (.bipush 59, 2) := by decide +kernel
theorem dX8_clauseOf_19 : decode cX8_clauseOf 19 = .ok (.invokevirtual 55, 3) := by decide +kernel
theorem dX8_clauseOf_22 : decode cX8_clauseOf 22 = .ok (.ifCond .eq 7, 3) := by decide +kernel
theorem dX8_clauseOf_25 : decode cX8_clauseOf 25 = .ok (.iconst 1, 1) := by decide +kernel
theorem dX8_clauseOf_26 : decode cX8_clauseOf 26 = .ok (.goto 4, 3) := by decide +kernel
theorem dX8_clauseOf_29 : decode cX8_clauseOf 29 = .ok (.iconst 0, 1) := by decide +kernel
theorem dX8_clauseOf_30 : decode cX8_clauseOf 30 = .ok (.ireturn, 1) := by decide +kernel
theorem dX8_either_0 : decode cX8_either 0 = .ok (.aload_n 0, 1) := by decide +kernel
theorem dX8_either_1 : decode cX8_either 1 = .ok (.iload_n 1, 1) := by decide +kernel
theorem dX8_either_2 : decode cX8_either 2 = .ok (.invokevirtual 61, 3) := by decide +kernel
theorem dX8_either_5 : decode cX8_either 5 = .ok (.ifCond .ne 5, 3) := by decide +kernel
theorem dX8_either_8 : decode cX8_either 8 = .ok (.iconst 0, 1) := by decide +kernel
theorem dX8_either_9 : decode cX8_either 9 = .ok (.ireturn, 1) := by decide +kernel
theorem dX8_either_10 : decode cX8_either 10 = .ok (.iconst 0, 1) := by decide +kernel
theorem dX8_either_11 : decode cX8_either 11 = .ok (.istore_n 2, 1) := by decide +kernel
theorem dX8_either_12 : decode cX8_either 12 = .ok (.iload_n 2, 1) := by decide +kernel
theorem dX8_either_13 : decode cX8_either 13 = .ok (.sipush 160, 3) := by decide +kernel
theorem dX8_either_16 : decode cX8_either 16 = .ok (.if_icmp .ge 38, 3) := by decide +kernel
theorem dX8_either_19 : decode cX8_either 19 = .ok (.aload_n 0, 1) := by decide +kernel
theorem dX8_either_20 : decode cX8_either 20 = .ok (.getfield 41, 3) := by decide +kernel
theorem dX8_either_23 : decode cX8_either 23 = .ok (.bipush 9, 2) := by decide +kernel
theorem dX8_either_25 : decode cX8_either 25 = .ok (.if_icmp .ne 29, 3) := by decide +kernel
theorem dX8_either_28 : decode cX8_either 28 = .ok (.aload_n 0, 1) := by decide +kernel
theorem dX8_either_29 : decode cX8_either 29 = .ok (.invokevirtual 31, 3) := by decide +kernel
theorem dX8_either_32 : decode cX8_either 32 = .ok (.aload_n 0, 1) := by decide +kernel
theorem dX8_either_33 : decode cX8_either 33 = .ok (.iload_n 1, 1) := by decide +kernel
theorem dX8_either_34 : decode cX8_either 34 = .ok (.invokevirtual 61, 3) := by decide +kernel
theorem dX8_either_37 : decode cX8_either 37 = .ok (.ifCond .ne 5, 3) := by decide +kernel
theorem dX8_either_40 : decode cX8_either 40 = .ok (.iconst 0, 1) := by decide +kernel
theorem dX8_either_41 : decode cX8_either 41 = .ok (.ireturn, 1) := by decide +kernel
theorem dX8_either_42 : decode cX8_either 42 = .ok (.aload_n 0, 1) := by decide +kernel
theorem dX8_either_43 : decode cX8_either 43 = .ok (.bipush 9, 2) := by decide +kernel
theorem dX8_either_45 : decode cX8_either 45 = .ok (.invokevirtual 64, 3) := by decide +kernel
theorem dX8_either_48 : decode cX8_either 48 = .ok (.iinc 2 1, 3) := by decide +kernel
theorem dX8_either_51 : decode cX8_either 51 = .ok (.goto (-39), 3) := by decide +kernel
theorem dX8_either_54 : decode cX8_either 54 = .ok (.iconst 1, 1) := by decide +kernel
theorem dX8_either_55 : decode cX8_either 55 = .ok (.ireturn, 1) := by decide +kernel
theorem dX8_both_0 : decode cX8_both 0 = .ok (.aload_n 0, 1) := by decide +kernel
theorem dX8_both_1 : decode cX8_both 1 = .ok (.iload_n 1, 1) := by decide +kernel
theorem dX8_both_2 : decode cX8_both 2 = .ok (.invokevirtual 68, 3) := by decide +kernel
theorem dX8_both_5 : decode cX8_both 5 = .ok (.ifCond .ne 5, 3) := by decide +kernel
theorem dX8_both_8 : decode cX8_both 8 = .ok (.iconst 0, 1) := by decide +kernel
theorem dX8_both_9 : decode cX8_both 9 = .ok (.ireturn, 1) := by decide +kernel
theorem dX8_both_10 : decode cX8_both 10 = .ok (.iconst 0, 1) := by decide +kernel
theorem dX8_both_11 : decode cX8_both 11 = .ok (.istore_n 2, 1) := by decide +kernel
theorem dX8_both_12 : decode cX8_both 12 = .ok (.iload_n 2, 1) := by decide +kernel
theorem dX8_both_13 : decode cX8_both 13 = .ok (.sipush 160, 3) := by decide +kernel
theorem dX8_both_16 : decode cX8_both 16 = .ok (.if_icmp .ge 38, 3) := by decide +kernel
theorem dX8_both_19 : decode cX8_both 19 = .ok (.aload_n 0, 1) := by decide +kernel
theorem dX8_both_20 : decode cX8_both 20 = .ok (.getfield 41, 3) := by decide +kernel
theorem dX8_both_23 : decode cX8_both 23 = .ok (.bipush 10, 2) := by decide +kernel
theorem dX8_both_25 : decode cX8_both 25 = .ok (.if_icmp .ne 29, 3) := by decide +kernel
theorem dX8_both_28 : decode cX8_both 28 = .ok (.aload_n 0, 1) := by decide +kernel
theorem dX8_both_29 : decode cX8_both 29 = .ok (.invokevirtual 31, 3) := by decide +kernel
theorem dX8_both_32 : decode cX8_both 32 = .ok (.aload_n 0, 1) := by decide +kernel
theorem dX8_both_33 : decode cX8_both 33 = .ok (.iload_n 1, 1) := by decide +kernel
theorem dX8_both_34 : decode cX8_both 34 = .ok (.invokevirtual 68, 3) := by decide +kernel
theorem dX8_both_37 : decode cX8_both 37 = .ok (.ifCond .ne 5, 3) := by decide +kernel
theorem dX8_both_40 : decode cX8_both 40 = .ok (.iconst 0, 1) := by decide +kernel
theorem dX8_both_41 : decode cX8_both 41 = .ok (.ireturn, 1) := by decide +kernel
theorem dX8_both_42 : decode cX8_both 42 = .ok (.aload_n 0, 1) := by decide +kernel
theorem dX8_both_43 : decode cX8_both 43 = .ok (.bipush 10, 2) := by decide +kernel
theorem dX8_both_45 : decode cX8_both 45 = .ok (.invokevirtual 64, 3) := by decide +kernel
theorem dX8_both_48 : decode cX8_both 48 = .ok (.iinc 2 1, 3) := by decide +kernel
theorem dX8_both_51 : decode cX8_both 51 = .ok (.goto (-39), 3) := by decide +kernel
theorem dX8_both_54 : decode cX8_both 54 = .ok (.iconst 1, 1) := by decide +kernel
theorem dX8_both_55 : decode cX8_both 55 = .ok (.ireturn, 1) := by decide +kernel
theorem dX8_denied_0 : decode cX8_denied 0 = .ok (.aload_n 0, 1) := by decide +kernel
theorem dX8_denied_1 : decode cX8_denied 1 = .ok (.getfield 41, 3) := by decide +kernel
theorem dX8_denied_4 : decode cX8_denied 4 = .ok (.bipush 11, 2) := by decide +kernel
theorem dX8_denied_6 : decode cX8_denied 6 = .ok (.if_icmp .eq 9, 3) := by decide +kernel
theorem dX8_denied_9 : decode cX8_denied 9 = .ok (.aload_n 0, 1) := by decide +kernel
theorem dX8_denied_10 : decode cX8_denied 10 = .ok (.iload_n 1, 1) := by decide +kernel
theorem dX8_denied_11 : decode cX8_denied 11 = .ok (.invokevirtual 71, 3) := by decide +kernel
theorem dX8_denied_14 : decode cX8_denied 14 = .ok (.ireturn, 1) := by decide +kernel
theorem dX8_denied_15 : decode cX8_denied 15 = .ok (.iload_n 1, 1) := by decide +kernel
theorem dX8_denied_16 : decode cX8_denied 16 = .ok (.iconst 5, 1) := by decide +kernel
theorem dX8_denied_17 : decode cX8_denied 17 = .ok (.if_icmp .lt 5, 3) := by decide +kernel
theorem dX8_denied_20 : decode cX8_denied 20 = .ok (.iconst 0, 1) := by decide +kernel
theorem dX8_denied_21 : decode cX8_denied 21 = .ok (.ireturn, 1) := by decide +kernel
theorem dX8_denied_22 : decode cX8_denied 22 = .ok (.aload_n 0, 1) := by decide +kernel
theorem dX8_denied_23 : decode cX8_denied 23 = .ok (.invokevirtual 31, 3) := by decide +kernel
theorem dX8_denied_26 : decode cX8_denied 26 = .ok (.aload_n 0, 1) := by decide +kernel
theorem dX8_denied_27 : decode cX8_denied 27 = .ok (.iload_n 1, 1) := by decide +kernel
theorem dX8_denied_28 : decode cX8_denied 28 = .ok (.iconst 1, 1) := by decide +kernel
theorem dX8_denied_29 : decode cX8_denied 29 = .ok (.iadd, 1) := by decide +kernel
theorem dX8_denied_30 : decode cX8_denied 30 = .ok (.invokevirtual 68, 3) := by decide +kernel
theorem dX8_denied_33 : decode cX8_denied 33 = .ok (.ifCond .ne 5, 3) := by decide +kernel
theorem dX8_denied_36 : decode cX8_denied 36 = .ok (.iconst 0, 1) := by decide +kernel
theorem dX8_denied_37 : decode cX8_denied 37 = .ok (.ireturn, 1) := by decide +kernel
theorem dX8_denied_38 : decode cX8_denied 38 = .ok (.aload_n 0, 1) := by decide +kernel
theorem dX8_denied_39 : decode cX8_denied 39 = .ok (.bipush 11, 2) := by decide +kernel
theorem dX8_denied_41 : decode cX8_denied 41 = .ok (.invokevirtual 64, 3) := by decide +kernel
theorem dX8_denied_44 : decode cX8_denied 44 = .ok (.iconst 1, 1) := by decide +kernel
theorem dX8_denied_45 : decode cX8_denied 45 = .ok (.ireturn, 1) := by decide +kernel
theorem dX8_compared_0 : decode cX8_compared 0 = .ok (.aload_n 0, 1) := by decide +kernel
theorem dX8_compared_1 : decode cX8_compared 1 = .ok (.iload_n 1, 1) := by decide +kernel
theorem dX8_compared_2 : decode cX8_compared 2 = .ok (.invokevirtual 74, 3) := by decide +kernel
theorem dX8_compared_5 : decode cX8_compared 5 = .ok (.ifCond .ne 5, 3) := by decide +kernel
theorem dX8_compared_8 : decode cX8_compared 8 = .ok (.iconst 0, 1) := by decide +kernel
theorem dX8_compared_9 : decode cX8_compared 9 = .ok (.ireturn, 1) := by decide +kernel
theorem dX8_compared_10 : decode cX8_compared 10 = .ok (.aload_n 0, 1) := by decide +kernel
theorem dX8_compared_11 : decode cX8_compared 11 = .ok (.getfield 41, 3) := by decide +kernel
theorem dX8_compared_14 : decode cX8_compared 14 = .ok (.istore_n 2, 1) := by decide +kernel
theorem dX8_compared_15 : decode cX8_compared 15 = .ok (.iload_n 2, 1) := by decide +kernel
theorem dX8_compared_16 : decode cX8_compared 16 = .ok (.bipush 60, 2) := by decide +kernel
theorem dX8_compared_18 : decode cX8_compared 18 = .ok (.if_icmp .eq 11, 3) := by decide +kernel
theorem dX8_compared_21 : decode cX8_compared 21 = .ok (.iload_n 2, 1) := by decide +kernel
theorem dX8_compared_22 : decode cX8_compared 22 = .ok (.bipush 61, 2) := by decide +kernel
theorem dX8_compared_24 : decode cX8_compared 24 = .ok (.if_icmp .eq 5, 3) := by decide +kernel
theorem dX8_compared_27 : decode cX8_compared 27 = .ok (.iconst 1, 1) := by decide +kernel
theorem dX8_compared_28 : decode cX8_compared 28 = .ok (.ireturn, 1) := by decide +kernel
theorem dX8_compared_29 : decode cX8_compared 29 = .ok (.aload_n 0, 1) := by decide +kernel
theorem dX8_compared_30 : decode cX8_compared 30 = .ok (.invokevirtual 31, 3) := by decide +kernel
theorem dX8_compared_33 : decode cX8_compared 33 = .ok (.aload_n 0, 1) := by decide +kernel
theorem dX8_compared_34 : decode cX8_compared 34 = .ok (.iload_n 1, 1) := by decide +kernel
theorem dX8_compared_35 : decode cX8_compared 35 = .ok (.invokevirtual 74, 3) := by decide +kernel
theorem dX8_compared_38 : decode cX8_compared 38 = .ok (.ifCond .ne 5, 3) := by decide +kernel
theorem dX8_compared_41 : decode cX8_compared 41 = .ok (.iconst 0, 1) := by decide +kernel
theorem dX8_compared_42 : decode cX8_compared 42 = .ok (.ireturn, 1) := by decide +kernel
theorem dX8_compared_43 : decode cX8_compared 43 = .ok (.aload_n 0, 1) := by decide +kernel
theorem dX8_compared_44 : decode cX8_compared 44 = .ok (.iload_n 2, 1) := by decide +kernel
theorem dX8_compared_45 : decode cX8_compared 45 = .ok (.invokevirtual 64, 3) := by decide +kernel
theorem dX8_compared_48 : decode cX8_compared 48 = .ok (.iconst 1, 1) := by decide +kernel
theorem dX8_compared_49 : decode cX8_compared 49 = .ok (.ireturn, 1) := by decide +kernel
theorem dX8_sum_0 : decode cX8_sum 0 = .ok (.aload_n 0, 1) := by decide +kernel
theorem dX8_sum_1 : decode cX8_sum 1 = .ok (.iload_n 1, 1) := by decide +kernel
theorem dX8_sum_2 : decode cX8_sum 2 = .ok (.invokevirtual 77, 3) := by decide +kernel
theorem dX8_sum_5 : decode cX8_sum 5 = .ok (.ifCond .ne 5, 3) := by decide +kernel
theorem dX8_sum_8 : decode cX8_sum 8 = .ok (.iconst 0, 1) := by decide +kernel
theorem dX8_sum_9 : decode cX8_sum 9 = .ok (.ireturn, 1) := by decide +kernel
theorem dX8_sum_10 : decode cX8_sum 10 = .ok (.iconst 0, 1) := by decide +kernel
theorem dX8_sum_11 : decode cX8_sum 11 = .ok (.istore_n 2, 1) := by decide +kernel
theorem dX8_sum_12 : decode cX8_sum 12 = .ok (.iload_n 2, 1) := by decide +kernel
theorem dX8_sum_13 : decode cX8_sum 13 = .ok (.sipush 160, 3) := by decide +kernel
theorem dX8_sum_16 : decode cX8_sum 16 = .ok (.if_icmp .ge 51, 3) := by decide +kernel
theorem dX8_sum_19 : decode cX8_sum 19 = .ok (.aload_n 0, 1) := by decide +kernel
theorem dX8_sum_20 : decode cX8_sum 20 = .ok (.getfield 41, 3) := by decide +kernel
theorem dX8_sum_23 : decode cX8_sum 23 = .ok (.bipush 43, 2) := by decide +kernel
theorem dX8_sum_25 : decode cX8_sum 25 = .ok (.if_icmp .eq 12, 3) := by decide +kernel
theorem dX8_sum_28 : decode cX8_sum 28 = .ok (.aload_n 0, 1) := by decide +kernel
theorem dX8_sum_29 : decode cX8_sum 29 = .ok (.getfield 41, 3) := by decide +kernel
theorem dX8_sum_32 : decode cX8_sum 32 = .ok (.bipush 45, 2) := by decide +kernel
theorem dX8_sum_34 : decode cX8_sum 34 = .ok (.if_icmp .ne 33, 3) := by decide +kernel
theorem dX8_sum_37 : decode cX8_sum 37 = .ok (.aload_n 0, 1) := by decide +kernel
theorem dX8_sum_38 : decode cX8_sum 38 = .ok (.getfield 41, 3) := by decide +kernel
theorem dX8_sum_41 : decode cX8_sum 41 = .ok (.istore_n 3, 1) := by decide +kernel
theorem dX8_sum_42 : decode cX8_sum 42 = .ok (.aload_n 0, 1) := by decide +kernel
theorem dX8_sum_43 : decode cX8_sum 43 = .ok (.invokevirtual 31, 3) := by decide +kernel
theorem dX8_sum_46 : decode cX8_sum 46 = .ok (.aload_n 0, 1) := by decide +kernel
theorem dX8_sum_47 : decode cX8_sum 47 = .ok (.iload_n 1, 1) := by decide +kernel
theorem dX8_sum_48 : decode cX8_sum 48 = .ok (.invokevirtual 77, 3) := by decide +kernel
theorem dX8_sum_51 : decode cX8_sum 51 = .ok (.ifCond .ne 5, 3) := by decide +kernel
theorem dX8_sum_54 : decode cX8_sum 54 = .ok (.iconst 0, 1) := by decide +kernel
theorem dX8_sum_55 : decode cX8_sum 55 = .ok (.ireturn, 1) := by decide +kernel
theorem dX8_sum_56 : decode cX8_sum 56 = .ok (.aload_n 0, 1) := by decide +kernel
theorem dX8_sum_57 : decode cX8_sum 57 = .ok (.iload_n 3, 1) := by decide +kernel
theorem dX8_sum_58 : decode cX8_sum 58 = .ok (.invokevirtual 64, 3) := by decide +kernel
theorem dX8_sum_61 : decode cX8_sum 61 = .ok (.iinc 2 1, 3) := by decide +kernel
theorem dX8_sum_64 : decode cX8_sum 64 = .ok (.goto (-52), 3) := by decide +kernel
theorem dX8_sum_67 : decode cX8_sum 67 = .ok (.iconst 1, 1) := by decide +kernel
theorem dX8_sum_68 : decode cX8_sum 68 = .ok (.ireturn, 1) := by decide +kernel
theorem dX8_product_0 : decode cX8_product 0 = .ok (.aload_n 0, 1) := by decide +kernel
theorem dX8_product_1 : decode cX8_product 1 = .ok (.iload_n 1, 1) := by decide +kernel
theorem dX8_product_2 : decode cX8_product 2 = .ok (.invokevirtual 80, 3) := by decide +kernel
theorem dX8_product_5 : decode cX8_product 5 = .ok (.ifCond .ne 5, 3) := by decide +kernel
theorem dX8_product_8 : decode cX8_product 8 = .ok (.iconst 0, 1) := by decide +kernel
theorem dX8_product_9 : decode cX8_product 9 = .ok (.ireturn, 1) := by decide +kernel
theorem dX8_product_10 : decode cX8_product 10 = .ok (.iconst 0, 1) := by decide +kernel
theorem dX8_product_11 : decode cX8_product 11 = .ok (.istore_n 2, 1) := by decide +kernel
theorem dX8_product_12 : decode cX8_product 12 = .ok (.iload_n 2, 1) := by decide +kernel
theorem dX8_product_13 : decode cX8_product 13 = .ok (.sipush 160, 3) := by decide +kernel
theorem dX8_product_16 : decode cX8_product 16 = .ok (.if_icmp .ge 38, 3) := by decide +kernel
theorem dX8_product_19 : decode cX8_product 19 = .ok (.aload_n 0, 1) := by decide +kernel
theorem dX8_product_20 : decode cX8_product 20 = .ok (.getfield 41, 3) := by decide +kernel
theorem dX8_product_23 : decode cX8_product 23 = .ok (.bipush 42, 2) := by decide +kernel
theorem dX8_product_25 : decode cX8_product 25 = .ok (.if_icmp .ne 29, 3) := by decide +kernel
theorem dX8_product_28 : decode cX8_product 28 = .ok (.aload_n 0, 1) := by decide +kernel
theorem dX8_product_29 : decode cX8_product 29 = .ok (.invokevirtual 31, 3) := by decide +kernel
theorem dX8_product_32 : decode cX8_product 32 = .ok (.aload_n 0, 1) := by decide +kernel
theorem dX8_product_33 : decode cX8_product 33 = .ok (.iload_n 1, 1) := by decide +kernel
theorem dX8_product_34 : decode cX8_product 34 = .ok (.invokevirtual 80, 3) := by decide +kernel
theorem dX8_product_37 : decode cX8_product 37 = .ok (.ifCond .ne 5, 3) := by decide +kernel
theorem dX8_product_40 : decode cX8_product 40 = .ok (.iconst 0, 1) := by decide +kernel
theorem dX8_product_41 : decode cX8_product 41 = .ok (.ireturn, 1) := by decide +kernel
theorem dX8_product_42 : decode cX8_product 42 = .ok (.aload_n 0, 1) := by decide +kernel
theorem dX8_product_43 : decode cX8_product 43 = .ok (.bipush 42, 2) := by decide +kernel
theorem dX8_product_45 : decode cX8_product 45 = .ok (.invokevirtual 64, 3) := by decide +kernel
theorem dX8_product_48 : decode cX8_product 48 = .ok (.iinc 2 1, 3) := by decide +kernel
theorem dX8_product_51 : decode cX8_product 51 = .ok (.goto (-39), 3) := by decide +kernel
theorem dX8_product_54 : decode cX8_product 54 = .ok (.iconst 1, 1) := by decide +kernel
theorem dX8_product_55 : decode cX8_product 55 = .ok (.ireturn, 1) := by decide +kernel
theorem dX8_single_0 : decode cX8_single 0 = .ok (.aload_n 0, 1) := by decide +kernel
theorem dX8_single_1 : decode cX8_single 1 = .ok (.getfield 41, 3) := by decide +kernel
theorem dX8_single_4 : decode cX8_single 4 = .ok (.bipush 12, 2) := by decide +kernel
theorem dX8_single_6 : decode cX8_single 6 = .ok (.if_icmp .ne 17, 3) := by decide +kernel
theorem dX8_single_9 : decode cX8_single 9 = .ok (.aload_n 0, 1) := by decide +kernel
theorem dX8_single_10 : decode cX8_single 10 = .ok (.aload_n 0, 1) := by decide +kernel
theorem dX8_single_11 : decode cX8_single 11 = .ok (.getfield 83, 3) := by decide +kernel
theorem dX8_single_14 : decode cX8_single 14 = .ok (.invokevirtual 86, 3) := by decide +kernel
theorem dX8_single_17 : decode cX8_single 17 = .ok (.aload_n 0, 1) := by decide +kernel
theorem dX8_single_18 : decode cX8_single 18 = .ok (.invokevirtual 31, 3) := by decide +kernel
theorem dX8_single_21 : decode cX8_single 21 = .ok (.iconst 1, 1) := by decide +kernel
theorem dX8_single_22 : decode cX8_single 22 = .ok (.ireturn, 1) := by decide +kernel
theorem dX8_single_23 : decode cX8_single 23 = .ok (.aload_n 0, 1) := by decide +kernel
theorem dX8_single_24 : decode cX8_single 24 = .ok (.getfield 41, 3) := by decide +kernel
theorem dX8_single_27 : decode cX8_single 27 = .ok (.ifCond .lt 26, 3) := by decide +kernel
theorem dX8_single_30 : decode cX8_single 30 = .ok (.aload_n 0, 1) := by decide +kernel
theorem dX8_single_31 : decode cX8_single 31 = .ok (.getfield 41, 3) := by decide +kernel
theorem dX8_single_34 : decode cX8_single 34 = .ok (.bipush 6, 2) := by decide +kernel
theorem dX8_single_36 : decode cX8_single 36 = .ok (.if_icmp .ge 17, 3) := by decide +kernel
theorem dX8_single_39 : decode cX8_single 39 = .ok (.aload_n 0, 1) := by decide +kernel
theorem dX8_single_40 : decode cX8_single 40 = .ok (.aload_n 0, 1) := by decide +kernel
theorem dX8_single_41 : decode cX8_single 41 = .ok (.getfield 41, 3) := by decide +kernel
theorem dX8_single_44 : decode cX8_single 44 = .ok (.invokevirtual 64, 3) := by decide +kernel
theorem dX8_single_47 : decode cX8_single 47 = .ok (.aload_n 0, 1) := by decide +kernel
theorem dX8_single_48 : decode cX8_single 48 = .ok (.invokevirtual 31, 3) := by decide +kernel
theorem dX8_single_51 : decode cX8_single 51 = .ok (.iconst 1, 1) := by decide +kernel
theorem dX8_single_52 : decode cX8_single 52 = .ok (.ireturn, 1) := by decide +kernel
theorem dX8_single_53 : decode cX8_single 53 = .ok (.iload_n 1, 1) := by decide +kernel
theorem dX8_single_54 : decode cX8_single 54 = .ok (.iconst 5, 1) := by decide +kernel
theorem dX8_single_55 : decode cX8_single 55 = .ok (.if_icmp .lt 5, 3) := by decide +kernel
theorem dX8_single_58 : decode cX8_single 58 = .ok (.iconst 0, 1) := by decide +kernel
theorem dX8_single_59 : decode cX8_single 59 = .ok (.ireturn, 1) := by decide +kernel
theorem dX8_single_60 : decode cX8_single 60 = .ok (.aload_n 0, 1) := by decide +kernel
theorem dX8_single_61 : decode cX8_single 61 = .ok (.getfield 41, 3) := by decide +kernel
theorem dX8_single_64 : decode cX8_single 64 = .ok (.bipush 45, 2) := by decide +kernel
theorem dX8_single_66 : decode cX8_single 66 = .ok (.if_icmp .ne 27, 3) := by decide +kernel
theorem dX8_single_69 : decode cX8_single 69 = .ok (.aload_n 0, 1) := by decide +kernel
theorem dX8_single_70 : decode cX8_single 70 = .ok (.invokevirtual 31, 3) := by decide +kernel
theorem dX8_single_73 : decode cX8_single 73 = .ok (.aload_n 0, 1) := by decide +kernel
theorem dX8_single_74 : decode cX8_single 74 = .ok (.iload_n 1, 1) := by decide +kernel
theorem dX8_single_75 : decode cX8_single 75 = .ok (.iconst 1, 1) := by decide +kernel
theorem dX8_single_76 : decode cX8_single 76 = .ok (.iadd, 1) := by decide +kernel
theorem dX8_single_77 : decode cX8_single 77 = .ok (.invokevirtual 80, 3) := by decide +kernel
theorem dX8_single_80 : decode cX8_single 80 = .ok (.ifCond .ne 5, 3) := by decide +kernel
theorem dX8_single_83 : decode cX8_single 83 = .ok (.iconst 0, 1) := by decide +kernel
theorem dX8_single_84 : decode cX8_single 84 = .ok (.ireturn, 1) := by decide +kernel
theorem dX8_single_85 : decode cX8_single 85 = .ok (.aload_n 0, 1) := by decide +kernel
theorem dX8_single_86 : decode cX8_single 86 = .ok (.bipush 13, 2) := by decide +kernel
theorem dX8_single_88 : decode cX8_single 88 = .ok (.invokevirtual 64, 3) := by decide +kernel
theorem dX8_single_91 : decode cX8_single 91 = .ok (.iconst 1, 1) := by decide +kernel
theorem dX8_single_92 : decode cX8_single 92 = .ok (.ireturn, 1) := by decide +kernel
theorem dX8_single_93 : decode cX8_single 93 = .ok (.aload_n 0, 1) := by decide +kernel
theorem dX8_single_94 : decode cX8_single 94 = .ok (.getfield 41, 3) := by decide +kernel
theorem dX8_single_97 : decode cX8_single 97 = .ok (.bipush 40, 2) := by decide +kernel
theorem dX8_single_99 : decode cX8_single 99 = .ok (.if_icmp .eq 5, 3) := by decide +kernel
theorem dX8_single_102 : decode cX8_single 102 = .ok (.iconst 0, 1) := by decide +kernel
theorem dX8_single_103 : decode cX8_single 103 = .ok (.ireturn, 1) := by decide +kernel
theorem dX8_single_104 : decode cX8_single 104 = .ok (.aload_n 0, 1) := by decide +kernel
theorem dX8_single_105 : decode cX8_single 105 = .ok (.invokevirtual 31, 3) := by decide +kernel
theorem dX8_single_108 : decode cX8_single 108 = .ok (.aload_n 0, 1) := by decide +kernel
theorem dX8_single_109 : decode cX8_single 109 = .ok (.iload_n 1, 1) := by decide +kernel
theorem dX8_single_110 : decode cX8_single 110 = .ok (.iconst 1, 1) := by decide +kernel
theorem dX8_single_111 : decode cX8_single 111 = .ok (.iadd, 1) := by decide +kernel
theorem dX8_single_112 : decode cX8_single 112 = .ok (.invokevirtual 58, 3) := by decide +kernel
theorem dX8_single_115 : decode cX8_single 115 = .ok (.ifCond .eq 16, 3) := by decide +kernel
theorem dX8_single_118 : decode cX8_single 118 = .ok (.aload_n 0, 1) := by decide +kernel
theorem dX8_single_119 : decode cX8_single 119 = .ok (.bipush 41, 2) := by decide +kernel
theorem dX8_single_121 : decode cX8_single 121 = .ok (.invokevirtual 55, 3) := by decide +kernel
theorem dX8_single_124 : decode cX8_single 124 = .ok (.ifCond .eq 7, 3) := by decide +kernel
theorem dX8_single_127 : decode cX8_single 127 = .ok (.iconst 1, 1) := by decide +kernel
theorem dX8_single_128 : decode cX8_single 128 = .ok (.goto 4, 3) := by decide +kernel
theorem dX8_single_131 : decode cX8_single 131 = .ok (.iconst 0, 1) := by decide +kernel
theorem dX8_single_132 : decode cX8_single 132 = .ok (.ireturn, 1) := by decide +kernel
theorem dX8_skip_0 : decode cX8_skip 0 = .ok (.aload_n 0, 1) := by decide +kernel
theorem dX8_skip_1 : decode cX8_skip 1 = .ok (.getfield 41, 3) := by decide +kernel
theorem dX8_skip_4 : decode cX8_skip 4 = .ok (.iload_n 1, 1) := by decide +kernel
theorem dX8_skip_5 : decode cX8_skip 5 = .ok (.if_icmp .eq 5, 3) := by decide +kernel
theorem dX8_skip_8 : decode cX8_skip 8 = .ok (.iconst 0, 1) := by decide +kernel
theorem dX8_skip_9 : decode cX8_skip 9 = .ok (.ireturn, 1) := by decide +kernel
theorem dX8_skip_10 : decode cX8_skip 10 = .ok (.aload_n 0, 1) := by decide +kernel
theorem dX8_skip_11 : decode cX8_skip 11 = .ok (.invokevirtual 31, 3) := by decide +kernel
theorem dX8_skip_14 : decode cX8_skip 14 = .ok (.iconst 1, 1) := by decide +kernel
theorem dX8_skip_15 : decode cX8_skip 15 = .ok (.ireturn, 1) := by decide +kernel
theorem dX8_emit_0 : decode cX8_emit 0 = .ok (.aload_n 0, 1) := by decide +kernel
theorem dX8_emit_1 : decode cX8_emit 1 = .ok (.iconst (-1), 1) := by decide +kernel
theorem dX8_emit_2 : decode cX8_emit 2 = .ok (.iload_n 1, 1) := by decide +kernel
theorem dX8_emit_3 : decode cX8_emit 3 = .ok (.isub, 1) := by decide +kernel
theorem dX8_emit_4 : decode cX8_emit 4 = .ok (.invokevirtual 86, 3) := by decide +kernel
theorem dX8_emit_7 : decode cX8_emit 7 = .ok (.return_, 1) := by decide +kernel
theorem dX8_put_0 : decode cX8_put 0 = .ok (.aload_n 0, 1) := by decide +kernel
theorem dX8_put_1 : decode cX8_put 1 = .ok (.getfield 25, 3) := by decide +kernel
theorem dX8_put_4 : decode cX8_put 4 = .ok (.sipush 160, 3) := by decide +kernel
theorem dX8_put_7 : decode cX8_put 7 = .ok (.if_icmp .ge 23, 3) := by decide +kernel
theorem dX8_put_10 : decode cX8_put 10 = .ok (.aload_n 0, 1) := by decide +kernel
theorem dX8_put_11 : decode cX8_put 11 = .ok (.getfield 15, 3) := by decide +kernel
theorem dX8_put_14 : decode cX8_put 14 = .ok (.aload_n 0, 1) := by decide +kernel
theorem dX8_put_15 : decode cX8_put 15 = .ok (.getfield 25, 3) := by decide +kernel
theorem dX8_put_18 : decode cX8_put 18 = .ok (.iload_n 1, 1) := by decide +kernel
theorem dX8_put_19 : decode cX8_put 19 = .ok (.iastore, 1) := by decide +kernel
theorem dX8_put_20 : decode cX8_put 20 = .ok (.aload_n 0, 1) := by decide +kernel
theorem dX8_put_21 : decode cX8_put 21 = .ok (.dup, 1) := by decide +kernel
theorem dX8_put_22 : decode cX8_put 22 = .ok (.getfield 25, 3) := by decide +kernel
theorem dX8_put_25 : decode cX8_put 25 = .ok (.iconst 1, 1) := by decide +kernel
theorem dX8_put_26 : decode cX8_put 26 = .ok (.iadd, 1) := by decide +kernel
theorem dX8_put_27 : decode cX8_put 27 = .ok (.putfield 25, 3) := by decide +kernel
theorem dX8_put_30 : decode cX8_put 30 = .ok (.return_, 1) := by decide +kernel
theorem dX8_step_0 : decode cX8_step 0 = .ok (.aload_n 0, 1) := by decide +kernel
theorem dX8_step_1 : decode cX8_step 1 = .ok (.aload_n 0, 1) := by decide +kernel
theorem dX8_step_2 : decode cX8_step 2 = .ok (.getfield 28, 3) := by decide +kernel
theorem dX8_step_5 : decode cX8_step 5 = .ok (.putfield 38, 3) := by decide +kernel
theorem dX8_step_8 : decode cX8_step 8 = .ok (.aload_n 0, 1) := by decide +kernel
theorem dX8_step_9 : decode cX8_step 9 = .ok (.getfield 38, 3) := by decide +kernel
theorem dX8_step_12 : decode cX8_step 12 = .ok (.aload_n 0, 1) := by decide +kernel
theorem dX8_step_13 : decode cX8_step 13 = .ok (.getfield 21, 3) := by decide +kernel
theorem dX8_step_16 : decode cX8_step 16 = .ok (.if_icmp .ge 44, 3) := by decide +kernel
theorem dX8_step_19 : decode cX8_step 19 = .ok (.aload_n 0, 1) := by decide +kernel
theorem dX8_step_20 : decode cX8_step 20 = .ok (.getfield 9, 3) := by decide +kernel
theorem dX8_step_23 : decode cX8_step 23 = .ok (.aload_n 0, 1) := by decide +kernel
theorem dX8_step_24 : decode cX8_step 24 = .ok (.getfield 38, 3) := by decide +kernel
theorem dX8_step_27 : decode cX8_step 27 = .ok (.iaload, 1) := by decide +kernel
theorem dX8_step_28 : decode cX8_step 28 = .ok (.bipush 32, 2) := by decide +kernel
theorem dX8_step_30 : decode cX8_step 30 = .ok (.if_icmp .eq 17, 3) := by decide +kernel
theorem dX8_step_33 : decode cX8_step 33 = .ok (.aload_n 0, 1) := by decide +kernel
theorem dX8_step_34 : decode cX8_step 34 = .ok (.getfield 9, 3) := by decide +kernel
theorem dX8_step_37 : decode cX8_step 37 = .ok (.aload_n 0, 1) := by decide +kernel
theorem dX8_step_38 : decode cX8_step 38 = .ok (.getfield 38, 3) := by decide +kernel
theorem dX8_step_41 : decode cX8_step 41 = .ok (.iaload, 1) := by decide +kernel
theorem dX8_step_42 : decode cX8_step 42 = .ok (.bipush 10, 2) := by decide +kernel
theorem dX8_step_44 : decode cX8_step 44 = .ok (.if_icmp .ne 16, 3) := by decide +kernel
theorem dX8_step_47 : decode cX8_step 47 = .ok (.aload_n 0, 1) := by decide +kernel
theorem dX8_step_48 : decode cX8_step 48 = .ok (.dup, 1) := by decide +kernel
theorem dX8_step_49 : decode cX8_step 49 = .ok (.getfield 38, 3) := by decide +kernel
theorem dX8_step_52 : decode cX8_step 52 = .ok (.iconst 1, 1) := by decide +kernel
theorem dX8_step_53 : decode cX8_step 53 = .ok (.iadd, 1) := by decide +kernel
theorem dX8_step_54 : decode cX8_step 54 = .ok (.putfield 38, 3) := by decide +kernel
theorem dX8_step_57 : decode cX8_step 57 = .ok (.goto (-49), 3) := by decide +kernel
theorem dX8_step_60 : decode cX8_step 60 = .ok (.aload_n 0, 1) := by decide +kernel
theorem dX8_step_61 : decode cX8_step 61 = .ok (.aload_n 0, 1) := by decide +kernel
theorem dX8_step_62 : decode cX8_step 62 = .ok (.getfield 38, 3) := by decide +kernel
theorem dX8_step_65 : decode cX8_step 65 = .ok (.putfield 28, 3) := by decide +kernel
theorem dX8_step_68 : decode cX8_step 68 = .ok (.aload_n 0, 1) := by decide +kernel
theorem dX8_step_69 : decode cX8_step 69 = .ok (.getfield 38, 3) := by decide +kernel
theorem dX8_step_72 : decode cX8_step 72 = .ok (.aload_n 0, 1) := by decide +kernel
theorem dX8_step_73 : decode cX8_step 73 = .ok (.getfield 21, 3) := by decide +kernel
theorem dX8_step_76 : decode cX8_step 76 = .ok (.if_icmp .lt 11, 3) := by decide +kernel
theorem dX8_step_79 : decode cX8_step 79 = .ok (.aload_n 0, 1) := by decide +kernel
theorem dX8_step_80 : decode cX8_step 80 = .ok (.iconst (-1), 1) := by decide +kernel
theorem dX8_step_81 : decode cX8_step 81 = .ok (.putfield 41, 3) := by decide +kernel
theorem dX8_step_84 : decode cX8_step 84 = .ok (.goto 90, 3) := by decide +kernel
theorem dX8_step_87 : decode cX8_step 87 = .ok (.aload_n 0, 1) := by decide +kernel
theorem dX8_step_88 : decode cX8_step 88 = .ok (.getfield 9, 3) := by decide +kernel
theorem dX8_step_91 : decode cX8_step 91 = .ok (.aload_n 0, 1) := by decide +kernel
theorem dX8_step_92 : decode cX8_step 92 = .ok (.getfield 38, 3) := by decide +kernel
theorem dX8_step_95 : decode cX8_step 95 = .ok (.iaload, 1) := by decide +kernel
theorem dX8_step_96 : decode cX8_step 96 = .ok (.invokestatic 89, 3) := by decide +kernel
theorem dX8_step_99 : decode cX8_step 99 = .ok (.ifCond .eq 10, 3) := by decide +kernel
theorem dX8_step_102 : decode cX8_step 102 = .ok (.aload_n 0, 1) := by decide +kernel
theorem dX8_step_103 : decode cX8_step 103 = .ok (.invokevirtual 92, 3) := by decide +kernel
theorem dX8_step_106 : decode cX8_step 106 = .ok (.goto 68, 3) := by decide +kernel
theorem dX8_step_109 : decode cX8_step 109 = .ok (.aload_n 0, 1) := by decide +kernel
theorem dX8_step_110 : decode cX8_step 110 = .ok (.getfield 9, 3) := by decide +kernel
theorem dX8_step_113 : decode cX8_step 113 = .ok (.aload_n 0, 1) := by decide +kernel
theorem dX8_step_114 : decode cX8_step 114 = .ok (.getfield 38, 3) := by decide +kernel
theorem dX8_step_117 : decode cX8_step 117 = .ok (.iaload, 1) := by decide +kernel
theorem dX8_step_118 : decode cX8_step 118 = .ok (.invokestatic 95, 3) := by decide +kernel
theorem dX8_step_121 : decode cX8_step 121 = .ok (.ifCond .eq 10, 3) := by decide +kernel
theorem dX8_step_124 : decode cX8_step 124 = .ok (.aload_n 0, 1) := by decide +kernel
theorem dX8_step_125 : decode cX8_step 125 = .ok (.invokevirtual 98, 3) := by decide +kernel
theorem dX8_step_128 : decode cX8_step 128 = .ok (.goto 46, 3) := by decide +kernel
theorem dX8_step_131 : decode cX8_step 131 = .ok (.aload_n 0, 1) := by decide +kernel
theorem dX8_step_132 : decode cX8_step 132 = .ok (.aload_n 0, 1) := by decide +kernel
theorem dX8_step_133 : decode cX8_step 133 = .ok (.getfield 38, 3) := by decide +kernel
theorem dX8_step_136 : decode cX8_step 136 = .ok (.iconst 1, 1) := by decide +kernel
theorem dX8_step_137 : decode cX8_step 137 = .ok (.iadd, 1) := by decide +kernel
theorem dX8_step_138 : decode cX8_step 138 = .ok (.putfield 28, 3) := by decide +kernel
theorem dX8_step_141 : decode cX8_step 141 = .ok (.aload_n 0, 1) := by decide +kernel
theorem dX8_step_142 : decode cX8_step 142 = .ok (.aload_n 0, 1) := by decide +kernel
theorem dX8_step_143 : decode cX8_step 143 = .ok (.getfield 9, 3) := by decide +kernel
theorem dX8_step_146 : decode cX8_step 146 = .ok (.aload_n 0, 1) := by decide +kernel
theorem dX8_step_147 : decode cX8_step 147 = .ok (.getfield 38, 3) := by decide +kernel
theorem dX8_step_150 : decode cX8_step 150 = .ok (.iaload, 1) := by decide +kernel
theorem dX8_step_151 : decode cX8_step 151 = .ok (.invokestatic 101, 3) := by decide +kernel
theorem dX8_step_154 : decode cX8_step 154 = .ok (.ifCond .eq 15, 3) := by decide +kernel
theorem dX8_step_157 : decode cX8_step 157 = .ok (.aload_n 0, 1) := by decide +kernel
theorem dX8_step_158 : decode cX8_step 158 = .ok (.getfield 9, 3) := by decide +kernel
theorem dX8_step_161 : decode cX8_step 161 = .ok (.aload_n 0, 1) := by decide +kernel
theorem dX8_step_162 : decode cX8_step 162 = .ok (.getfield 38, 3) := by decide +kernel
theorem dX8_step_165 : decode cX8_step 165 = .ok (.iaload, 1) := by decide +kernel
theorem dX8_step_166 : decode cX8_step 166 = .ok (.goto 5, 3) := by decide +kernel
theorem dX8_step_169 : decode cX8_step 169 = .ok (.bipush (-2), 2) := by decide +kernel
theorem dX8_step_171 : decode cX8_step 171 = .ok (.putfield 41, 3) := by decide +kernel
theorem dX8_step_174 : decode cX8_step 174 = .ok (.return_, 1) := by decide +kernel
theorem dX8_takeWord_0 : decode cX8_takeWord 0 = .ok (.aload_n 0, 1) := by decide +kernel
theorem dX8_takeWord_1 : decode cX8_takeWord 1 = .ok (.getfield 28, 3) := by decide +kernel
theorem dX8_takeWord_4 : decode cX8_takeWord 4 = .ok (.aload_n 0, 1) := by decide +kernel
theorem dX8_takeWord_5 : decode cX8_takeWord 5 = .ok (.getfield 21, 3) := by decide +kernel
theorem dX8_takeWord_8 : decode cX8_takeWord 8 = .ok (.if_icmp .ge 31, 3) := by decide +kernel
theorem dX8_takeWord_11 : decode cX8_takeWord 11 = .ok (.aload_n 0, 1) := by decide +kernel
theorem dX8_takeWord_12 : decode cX8_takeWord 12 = .ok (.getfield 9, 3) := by decide +kernel
theorem dX8_takeWord_15 : decode cX8_takeWord 15 = .ok (.aload_n 0, 1) := by decide +kernel
theorem dX8_takeWord_16 : decode cX8_takeWord 16 = .ok (.getfield 28, 3) := by decide +kernel
theorem dX8_takeWord_19 : decode cX8_takeWord 19 = .ok (.iaload, 1) := by decide +kernel
theorem dX8_takeWord_20 : decode cX8_takeWord 20 = .ok (.invokestatic 89, 3) := by decide +kernel
theorem dX8_takeWord_23 : decode cX8_takeWord 23 = .ok (.ifCond .eq 16, 3) := by decide +kernel
theorem dX8_takeWord_26 : decode cX8_takeWord 26 = .ok (.aload_n 0, 1) := by decide +kernel
theorem dX8_takeWord_27 : decode cX8_takeWord 27 = .ok (.dup, 1) := by decide +kernel
theorem dX8_takeWord_28 : decode cX8_takeWord 28 = .ok (.getfield 28, 3) := by decide +kernel
theorem dX8_takeWord_31 : decode cX8_takeWord 31 = .ok (.iconst 1, 1) := by decide +kernel
theorem dX8_takeWord_32 : decode cX8_takeWord 32 = .ok (.iadd, 1) := by decide +kernel
theorem dX8_takeWord_33 : decode cX8_takeWord 33 = .ok (.putfield 28, 3) := by decide +kernel
theorem dX8_takeWord_36 : decode cX8_takeWord 36 = .ok (.goto (-36), 3) := by decide +kernel
theorem dX8_takeWord_39 : decode cX8_takeWord 39 = .ok (.aload_n 0, 1) := by decide +kernel
theorem dX8_takeWord_40 : decode cX8_takeWord 40 = .ok (.bipush (-2), 2) := by decide +kernel
theorem dX8_takeWord_42 : decode cX8_takeWord 42 = .ok (.putfield 41, 3) := by decide +kernel
theorem dX8_takeWord_45 : decode cX8_takeWord 45 = .ok (.iconst 0, 1) := by decide +kernel
theorem dX8_takeWord_46 : decode cX8_takeWord 46 = .ok (.istore_n 1, 1) := by decide +kernel
theorem dX8_takeWord_47 : decode cX8_takeWord 47 = .ok (.iload_n 1, 1) := by decide +kernel
theorem dX8_takeWord_48 : decode cX8_takeWord 48 = .ok (.bipush 12, 2) := by decide +kernel
theorem dX8_takeWord_50 : decode cX8_takeWord 50 = .ok (.if_icmp .ge 25, 3) := by decide +kernel
theorem dX8_takeWord_53 : decode cX8_takeWord 53 = .ok (.aload_n 0, 1) := by decide +kernel
theorem dX8_takeWord_54 : decode cX8_takeWord 54 = .ok (.iload_n 1, 1) := by decide +kernel
theorem dX8_takeWord_55 : decode cX8_takeWord 55 = .ok (.invokestatic 104, 3) := by decide +kernel
theorem dX8_takeWord_58 : decode cX8_takeWord 58 = .ok (.invokevirtual 108, 3) := by decide +kernel
theorem dX8_takeWord_61 : decode cX8_takeWord 61 = .ok (.ifCond .eq 8, 3) := by decide +kernel
theorem dX8_takeWord_64 : decode cX8_takeWord 64 = .ok (.aload_n 0, 1) := by decide +kernel
theorem dX8_takeWord_65 : decode cX8_takeWord 65 = .ok (.iload_n 1, 1) := by decide +kernel
theorem dX8_takeWord_66 : decode cX8_takeWord 66 = .ok (.putfield 41, 3) := by decide +kernel
theorem dX8_takeWord_69 : decode cX8_takeWord 69 = .ok (.iinc 1 1, 3) := by decide +kernel
theorem dX8_takeWord_72 : decode cX8_takeWord 72 = .ok (.goto (-25), 3) := by decide +kernel
theorem dX8_takeWord_75 : decode cX8_takeWord 75 = .ok (.return_, 1) := by decide +kernel
theorem dX8_takeNumber_0 : decode cX8_takeNumber 0 = .ok (.aload_n 0, 1) := by decide +kernel
theorem dX8_takeNumber_1 : decode cX8_takeNumber 1 = .ok (.iconst 0, 1) := by decide +kernel
theorem dX8_takeNumber_2 : decode cX8_takeNumber 2 = .ok (.putfield 83, 3) := by decide +kernel
theorem dX8_takeNumber_5 : decode cX8_takeNumber 5 = .ok (.aload_n 0, 1) := by decide +kernel
theorem dX8_takeNumber_6 : decode cX8_takeNumber 6 = .ok (.getfield 28, 3) := by decide +kernel
theorem dX8_takeNumber_9 : decode cX8_takeNumber 9 = .ok (.aload_n 0, 1) := by decide +kernel
theorem dX8_takeNumber_10 : decode cX8_takeNumber 10 = .ok (.getfield 21, 3) := by decide +kernel
theorem dX8_takeNumber_13 : decode cX8_takeNumber 13 = .ok (.if_icmp .ge 55, 3) := by decide +kernel
theorem dX8_takeNumber_16 : decode cX8_takeNumber 16 = .ok (.aload_n 0, 1) := by decide +kernel
theorem dX8_takeNumber_17 : decode cX8_takeNumber 17 = .ok (.getfield 9, 3) := by decide +kernel
theorem dX8_takeNumber_20 : decode cX8_takeNumber 20 = .ok (.aload_n 0, 1) := by decide +kernel
theorem dX8_takeNumber_21 : decode cX8_takeNumber 21 = .ok (.getfield 28, 3) := by decide +kernel
theorem dX8_takeNumber_24 : decode cX8_takeNumber 24 = .ok (.iaload, 1) := by decide +kernel
theorem dX8_takeNumber_25 : decode cX8_takeNumber 25 = .ok (.invokestatic 95, 3) := by decide +kernel
theorem dX8_takeNumber_28 : decode cX8_takeNumber 28 = .ok (.ifCond .eq 40, 3) := by decide +kernel
theorem dX8_takeNumber_31 : decode cX8_takeNumber 31 = .ok (.aload_n 0, 1) := by decide +kernel
theorem dX8_takeNumber_32 : decode cX8_takeNumber 32 = .ok (.aload_n 0, 1) := by decide +kernel
theorem dX8_takeNumber_33 : decode cX8_takeNumber 33 = .ok (.getfield 83, 3) := by decide +kernel
theorem dX8_takeNumber_36 : decode cX8_takeNumber 36 = .ok (.bipush 10, 2) := by decide +kernel
theorem dX8_takeNumber_38 : decode cX8_takeNumber 38 = .ok (.imul, 1) := by decide +kernel
theorem dX8_takeNumber_39 : decode cX8_takeNumber 39 = .ok (.aload_n 0, 1) := by decide +kernel
theorem dX8_takeNumber_40 : decode cX8_takeNumber 40 = .ok (.getfield 9, 3) := by decide +kernel
theorem dX8_takeNumber_43 : decode cX8_takeNumber 43 = .ok (.aload_n 0, 1) := by decide +kernel
theorem dX8_takeNumber_44 : decode cX8_takeNumber 44 = .ok (.getfield 28, 3) := by decide +kernel
theorem dX8_takeNumber_47 : decode cX8_takeNumber 47 = .ok (.iaload, 1) := by decide +kernel
theorem dX8_takeNumber_48 : decode cX8_takeNumber 48 = .ok (.iadd, 1) := by decide +kernel
theorem dX8_takeNumber_49 : decode cX8_takeNumber 49 = .ok (.bipush 48, 2) := by decide +kernel
theorem dX8_takeNumber_51 : decode cX8_takeNumber 51 = .ok (.isub, 1) := by decide +kernel
theorem dX8_takeNumber_52 : decode cX8_takeNumber 52 = .ok (.putfield 83, 3) := by decide +kernel
theorem dX8_takeNumber_55 : decode cX8_takeNumber 55 = .ok (.aload_n 0, 1) := by decide +kernel
theorem dX8_takeNumber_56 : decode cX8_takeNumber 56 = .ok (.dup, 1) := by decide +kernel
theorem dX8_takeNumber_57 : decode cX8_takeNumber 57 = .ok (.getfield 28, 3) := by decide +kernel
theorem dX8_takeNumber_60 : decode cX8_takeNumber 60 = .ok (.iconst 1, 1) := by decide +kernel
theorem dX8_takeNumber_61 : decode cX8_takeNumber 61 = .ok (.iadd, 1) := by decide +kernel
theorem dX8_takeNumber_62 : decode cX8_takeNumber 62 = .ok (.putfield 28, 3) := by decide +kernel
theorem dX8_takeNumber_65 : decode cX8_takeNumber 65 = .ok (.goto (-60), 3) := by decide +kernel
theorem dX8_takeNumber_68 : decode cX8_takeNumber 68 = .ok (.aload_n 0, 1) := by decide +kernel
theorem dX8_takeNumber_69 : decode cX8_takeNumber 69 = .ok (.aload_n 0, 1) := by decide +kernel
theorem dX8_takeNumber_70 : decode cX8_takeNumber 70 = .ok (.getfield 28, 3) := by decide +kernel
theorem dX8_takeNumber_73 : decode cX8_takeNumber 73 = .ok (.aload_n 0, 1) := by decide +kernel
theorem dX8_takeNumber_74 : decode cX8_takeNumber 74 = .ok (.getfield 38, 3) := by decide +kernel
theorem dX8_takeNumber_77 : decode cX8_takeNumber 77 = .ok (.isub, 1) := by decide +kernel
theorem dX8_takeNumber_78 : decode cX8_takeNumber 78 = .ok (.iconst 4, 1) := by decide +kernel
theorem dX8_takeNumber_79 : decode cX8_takeNumber 79 = .ok (.if_icmp .gt 8, 3) := by decide +kernel
theorem dX8_takeNumber_82 : decode cX8_takeNumber 82 = .ok (.bipush 12, 2) := by decide +kernel
theorem dX8_takeNumber_84 : decode cX8_takeNumber 84 = .ok (.goto 5, 3) := by decide +kernel
theorem dX8_takeNumber_87 : decode cX8_takeNumber 87 = .ok (.bipush (-2), 2) := by decide +kernel
theorem dX8_takeNumber_89 : decode cX8_takeNumber 89 = .ok (.putfield 41, 3) := by decide +kernel
theorem dX8_takeNumber_92 : decode cX8_takeNumber 92 = .ok (.return_, 1) := by decide +kernel
theorem dX8_isSpelled_0 : decode cX8_isSpelled 0 = .ok (.aload_n 1, 1) := by decide +kernel
theorem dX8_isSpelled_1 : decode cX8_isSpelled 1 = .ok (.invokevirtual 112, 3) := by decide +kernel
theorem dX8_isSpelled_4 : decode cX8_isSpelled 4 = .ok (.aload_n 0, 1) := by decide +kernel
theorem dX8_isSpelled_5 : decode cX8_isSpelled 5 = .ok (.getfield 28, 3) := by decide +kernel
theorem dX8_isSpelled_8 : decode cX8_isSpelled 8 = .ok (.aload_n 0, 1) := by decide +kernel
theorem dX8_isSpelled_9 : decode cX8_isSpelled 9 = .ok (.getfield 38, 3) := by decide +kernel
theorem dX8_isSpelled_12 : decode cX8_isSpelled 12 = .ok (.isub, 1) := by decide +kernel
theorem dX8_isSpelled_13 : decode cX8_isSpelled 13 = .ok (.if_icmp .eq 5, 3) := by decide +kernel
theorem dX8_isSpelled_16 : decode cX8_isSpelled 16 = .ok (.iconst 0, 1) := by decide +kernel
theorem dX8_isSpelled_17 : decode cX8_isSpelled 17 = .ok (.ireturn, 1) := by decide +kernel
theorem dX8_isSpelled_18 : decode cX8_isSpelled 18 = .ok (.iconst 0, 1) := by decide +kernel
theorem dX8_isSpelled_19 : decode cX8_isSpelled 19 = .ok (.istore_n 2, 1) := by decide +kernel
theorem dX8_isSpelled_20 : decode cX8_isSpelled 20 = .ok (.iload_n 2, 1) := by decide +kernel
theorem dX8_isSpelled_21 : decode cX8_isSpelled 21 = .ok (.aload_n 1, 1) := by decide +kernel
theorem dX8_isSpelled_22 : decode cX8_isSpelled 22 = .ok (.invokevirtual 112, 3) := by decide +kernel
theorem dX8_isSpelled_25 : decode cX8_isSpelled 25 = .ok (.if_icmp .ge 30, 3) := by decide +kernel
theorem dX8_isSpelled_28 : decode cX8_isSpelled 28 = .ok (.aload_n 1, 1) := by decide +kernel
theorem dX8_isSpelled_29 : decode cX8_isSpelled 29 = .ok (.iload_n 2, 1) := by decide +kernel
theorem dX8_isSpelled_30 : decode cX8_isSpelled 30 = .ok (.invokevirtual 118, 3) := by decide +kernel
theorem dX8_isSpelled_33 : decode cX8_isSpelled 33 = .ok (.aload_n 0, 1) := by decide +kernel
theorem dX8_isSpelled_34 : decode cX8_isSpelled 34 = .ok (.getfield 9, 3) := by decide +kernel
theorem dX8_isSpelled_37 : decode cX8_isSpelled 37 = .ok (.aload_n 0, 1) := by decide +kernel
theorem dX8_isSpelled_38 : decode cX8_isSpelled 38 = .ok (.getfield 38, 3) := by decide +kernel
theorem dX8_isSpelled_41 : decode cX8_isSpelled 41 = .ok (.iload_n 2, 1) := by decide +kernel
theorem dX8_isSpelled_42 : decode cX8_isSpelled 42 = .ok (.iadd, 1) := by decide +kernel
theorem dX8_isSpelled_43 : decode cX8_isSpelled 43 = .ok (.iaload, 1) := by decide +kernel
theorem dX8_isSpelled_44 : decode cX8_isSpelled 44 = .ok (.if_icmp .eq 5, 3) := by decide +kernel
theorem dX8_isSpelled_47 : decode cX8_isSpelled 47 = .ok (.iconst 0, 1) := by decide +kernel
theorem dX8_isSpelled_48 : decode cX8_isSpelled 48 = .ok (.ireturn, 1) := by decide +kernel
theorem dX8_isSpelled_49 : decode cX8_isSpelled 49 = .ok (.iinc 2 1, 3) := by decide +kernel
theorem dX8_isSpelled_52 : decode cX8_isSpelled 52 = .ok (.goto (-32), 3) := by decide +kernel
theorem dX8_isSpelled_55 : decode cX8_isSpelled 55 = .ok (.iconst 1, 1) := by decide +kernel
theorem dX8_isSpelled_56 : decode cX8_isSpelled 56 = .ok (.ireturn, 1) := by decide +kernel
theorem dX8_spelling_0 : decode cX8_spelling 0 = .ok (.iload_n 0, 1) := by decide +kernel
theorem dX8_spelling_1 : decode cX8_spelling 1 = .ok (.tableswitch 92 0 10 #[59, 62, 65, 68, 71, 74, 77, 80, 83, 86, 89], 59) := by decide +kernel
theorem dX8_spelling_60 : decode cX8_spelling 60 = .ok (.ldc 122, 2) := by decide +kernel
theorem dX8_spelling_62 : decode cX8_spelling 62 = .ok (.areturn, 1) := by decide +kernel
theorem dX8_spelling_63 : decode cX8_spelling 63 = .ok (.ldc 124, 2) := by decide +kernel
theorem dX8_spelling_65 : decode cX8_spelling 65 = .ok (.areturn, 1) := by decide +kernel
theorem dX8_spelling_66 : decode cX8_spelling 66 = .ok (.ldc 126, 2) := by decide +kernel
theorem dX8_spelling_68 : decode cX8_spelling 68 = .ok (.areturn, 1) := by decide +kernel
theorem dX8_spelling_69 : decode cX8_spelling 69 = .ok (.ldc 128, 2) := by decide +kernel
theorem dX8_spelling_71 : decode cX8_spelling 71 = .ok (.areturn, 1) := by decide +kernel
theorem dX8_spelling_72 : decode cX8_spelling 72 = .ok (.ldc 130, 2) := by decide +kernel
theorem dX8_spelling_74 : decode cX8_spelling 74 = .ok (.areturn, 1) := by decide +kernel
theorem dX8_spelling_75 : decode cX8_spelling 75 = .ok (.ldc 132, 2) := by decide +kernel
theorem dX8_spelling_77 : decode cX8_spelling 77 = .ok (.areturn, 1) := by decide +kernel
theorem dX8_spelling_78 : decode cX8_spelling 78 = .ok (.ldc 134, 2) := by decide +kernel
theorem dX8_spelling_80 : decode cX8_spelling 80 = .ok (.areturn, 1) := by decide +kernel
theorem dX8_spelling_81 : decode cX8_spelling 81 = .ok (.ldc 136, 2) := by decide +kernel
theorem dX8_spelling_83 : decode cX8_spelling 83 = .ok (.areturn, 1) := by decide +kernel
theorem dX8_spelling_84 : decode cX8_spelling 84 = .ok (.ldc 138, 2) := by decide +kernel
theorem dX8_spelling_86 : decode cX8_spelling 86 = .ok (.areturn, 1) := by decide +kernel
theorem dX8_spelling_87 : decode cX8_spelling 87 = .ok (.ldc 140, 2) := by decide +kernel
theorem dX8_spelling_89 : decode cX8_spelling 89 = .ok (.areturn, 1) := by decide +kernel
theorem dX8_spelling_90 : decode cX8_spelling 90 = .ok (.ldc 142, 2) := by decide +kernel
theorem dX8_spelling_92 : decode cX8_spelling 92 = .ok (.areturn, 1) := by decide +kernel
theorem dX8_spelling_93 : decode cX8_spelling 93 = .ok (.ldc 144, 2) := by decide +kernel
theorem dX8_spelling_95 : decode cX8_spelling 95 = .ok (.areturn, 1) := by decide +kernel
theorem dX8_isLetter_0 : decode cX8_isLetter 0 = .ok (.iload_n 0, 1) := by decide +kernel
theorem dX8_isLetter_1 : decode cX8_isLetter 1 = .ok (.bipush 97, 2) := by decide +kernel
theorem dX8_isLetter_3 : decode cX8_isLetter 3 = .ok (.if_icmp .lt 13, 3) := by decide +kernel
theorem dX8_isLetter_6 : decode cX8_isLetter 6 = .ok (.iload_n 0, 1) := by decide +kernel
theorem dX8_isLetter_7 : decode cX8_isLetter 7 = .ok (.bipush 122, 2) := by decide +kernel
theorem dX8_isLetter_9 : decode cX8_isLetter 9 = .ok (.if_icmp .gt 7, 3) := by decide +kernel
theorem dX8_isLetter_12 : decode cX8_isLetter 12 = .ok (.iconst 1, 1) := by decide +kernel
theorem dX8_isLetter_13 : decode cX8_isLetter 13 = .ok (.goto 4, 3) := by decide +kernel
theorem dX8_isLetter_16 : decode cX8_isLetter 16 = .ok (.iconst 0, 1) := by decide +kernel
theorem dX8_isLetter_17 : decode cX8_isLetter 17 = .ok (.ireturn, 1) := by decide +kernel
theorem dX8_isDigit_0 : decode cX8_isDigit 0 = .ok (.iload_n 0, 1) := by decide +kernel
theorem dX8_isDigit_1 : decode cX8_isDigit 1 = .ok (.bipush 48, 2) := by decide +kernel
theorem dX8_isDigit_3 : decode cX8_isDigit 3 = .ok (.if_icmp .lt 13, 3) := by decide +kernel
theorem dX8_isDigit_6 : decode cX8_isDigit 6 = .ok (.iload_n 0, 1) := by decide +kernel
theorem dX8_isDigit_7 : decode cX8_isDigit 7 = .ok (.bipush 57, 2) := by decide +kernel
theorem dX8_isDigit_9 : decode cX8_isDigit 9 = .ok (.if_icmp .gt 7, 3) := by decide +kernel
theorem dX8_isDigit_12 : decode cX8_isDigit 12 = .ok (.iconst 1, 1) := by decide +kernel
theorem dX8_isDigit_13 : decode cX8_isDigit 13 = .ok (.goto 4, 3) := by decide +kernel
theorem dX8_isDigit_16 : decode cX8_isDigit 16 = .ok (.iconst 0, 1) := by decide +kernel
theorem dX8_isDigit_17 : decode cX8_isDigit 17 = .ok (.ireturn, 1) := by decide +kernel
theorem dX8_isSign_0 : decode cX8_isSign 0 = .ok (.iload_n 0, 1) := by decide +kernel
theorem dX8_isSign_1 : decode cX8_isSign 1 = .ok (.bipush 40, 2) := by decide +kernel
theorem dX8_isSign_3 : decode cX8_isSign 3 = .ok (.if_icmp .lt 9, 3) := by decide +kernel
theorem dX8_isSign_6 : decode cX8_isSign 6 = .ok (.iload_n 0, 1) := by decide +kernel
theorem dX8_isSign_7 : decode cX8_isSign 7 = .ok (.bipush 43, 2) := by decide +kernel
theorem dX8_isSign_9 : decode cX8_isSign 9 = .ok (.if_icmp .le 21, 3) := by decide +kernel
theorem dX8_isSign_12 : decode cX8_isSign 12 = .ok (.iload_n 0, 1) := by decide +kernel
theorem dX8_isSign_13 : decode cX8_isSign 13 = .ok (.bipush 45, 2) := by decide +kernel
theorem dX8_isSign_15 : decode cX8_isSign 15 = .ok (.if_icmp .eq 15, 3) := by decide +kernel
theorem dX8_isSign_18 : decode cX8_isSign 18 = .ok (.iload_n 0, 1) := by decide +kernel
theorem dX8_isSign_19 : decode cX8_isSign 19 = .ok (.bipush 59, 2) := by decide +kernel
theorem dX8_isSign_21 : decode cX8_isSign 21 = .ok (.if_icmp .lt 13, 3) := by decide +kernel
theorem dX8_isSign_24 : decode cX8_isSign 24 = .ok (.iload_n 0, 1) := by decide +kernel
theorem dX8_isSign_25 : decode cX8_isSign 25 = .ok (.bipush 61, 2) := by decide +kernel
theorem dX8_isSign_27 : decode cX8_isSign 27 = .ok (.if_icmp .gt 7, 3) := by decide +kernel
theorem dX8_isSign_30 : decode cX8_isSign 30 = .ok (.iconst 1, 1) := by decide +kernel
theorem dX8_isSign_31 : decode cX8_isSign 31 = .ok (.goto 4, 3) := by decide +kernel
theorem dX8_isSign_34 : decode cX8_isSign 34 = .ok (.iconst 0, 1) := by decide +kernel
theorem dX8_isSign_35 : decode cX8_isSign 35 = .ok (.ireturn, 1) := by decide +kernel
theorem dX9_init_0 : decode cX9_init 0 = .ok (.aload_n 0, 1) := by decide +kernel
theorem dX9_init_1 : decode cX9_init 1 = .ok (.invokespecial 3, 3) := by decide +kernel
theorem dX9_init_4 : decode cX9_init 4 = .ok (.aload_n 0, 1) := by decide +kernel
theorem dX9_init_5 : decode cX9_init 5 = .ok (.bipush 7, 2) := by decide +kernel
theorem dX9_init_7 : decode cX9_init 7 = .ok (.newarray .int, 2) := by decide +kernel
theorem dX9_init_9 : decode cX9_init 9 = .ok (.putfield 9, 3) := by decide +kernel
theorem dX9_init_12 : decode cX9_init 12 = .ok (.aload_n 0, 1) := by decide +kernel
theorem dX9_init_13 : decode cX9_init 13 = .ok (.iconst 1, 1) := by decide +kernel
theorem dX9_init_14 : decode cX9_init 14 = .ok (.putfield 15, 3) := by decide +kernel
theorem dX9_init_17 : decode cX9_init 17 = .ok (.aload_n 0, 1) := by decide +kernel
theorem dX9_init_18 : decode cX9_init 18 = .ok (.iconst 1, 1) := by decide +kernel
theorem dX9_init_19 : decode cX9_init 19 = .ok (.putfield 19, 3) := by decide +kernel
theorem dX9_init_22 : decode cX9_init 22 = .ok (.aload_n 0, 1) := by decide +kernel
theorem dX9_init_23 : decode cX9_init 23 = .ok (.sipush 896, 3) := by decide +kernel
theorem dX9_init_26 : decode cX9_init 26 = .ok (.newarray .int, 2) := by decide +kernel
theorem dX9_init_28 : decode cX9_init 28 = .ok (.putfield 22, 3) := by decide +kernel
theorem dX9_init_31 : decode cX9_init 31 = .ok (.return_, 1) := by decide +kernel
theorem dX9_minutes_0 : decode cX9_minutes 0 = .ok (.iconst 1, 1) := by decide +kernel
theorem dX9_minutes_1 : decode cX9_minutes 1 = .ok (.istore_n 2, 1) := by decide +kernel
theorem dX9_minutes_2 : decode cX9_minutes 2 = .ok (.iload_n 2, 1) := by decide +kernel
theorem dX9_minutes_3 : decode cX9_minutes 3 = .ok (.iload_n 1, 1) := by decide +kernel
theorem dX9_minutes_4 : decode cX9_minutes 4 = .ok (.if_icmp .gt 76, 3) := by decide +kernel
theorem dX9_minutes_7 : decode cX9_minutes 7 = .ok (.iload_n 2, 1) := by decide +kernel
theorem dX9_minutes_8 : decode cX9_minutes 8 = .ok (.iload_n 1, 1) := by decide +kernel
theorem dX9_minutes_9 : decode cX9_minutes 9 = .ok (.iconst (-1), 1) := by decide +kernel
theorem dX9_minutes_10 : decode cX9_minutes 10 = .ok (.ixor, 1) := by decide +kernel
theorem dX9_minutes_11 : decode cX9_minutes 11 = .ok (.iand, 1) := by decide +kernel
theorem dX9_minutes_12 : decode cX9_minutes 12 = .ok (.ifCond .eq 6, 3) := by decide +kernel
theorem dX9_minutes_15 : decode cX9_minutes 15 = .ok (.goto 59, 3) := by decide +kernel
theorem dX9_minutes_18 : decode cX9_minutes 18 = .ok (.iconst 0, 1) := by decide +kernel
theorem dX9_minutes_19 : decode cX9_minutes 19 = .ok (.istore_n 3, 1) := by decide +kernel
theorem dX9_minutes_20 : decode cX9_minutes 20 = .ok (.iload_n 3, 1) := by decide +kernel
theorem dX9_minutes_21 : decode cX9_minutes 21 = .ok (.bipush 7, 2) := by decide +kernel
theorem dX9_minutes_23 : decode cX9_minutes 23 = .ok (.if_icmp .ge 51, 3) := by decide +kernel
theorem dX9_minutes_26 : decode cX9_minutes 26 = .ok (.iload_n 2, 1) := by decide +kernel
theorem dX9_minutes_27 : decode cX9_minutes 27 = .ok (.iload_n 1, 1) := by decide +kernel
theorem dX9_minutes_28 : decode cX9_minutes 28 = .ok (.if_icmp .eq 15, 3) := by decide +kernel
theorem dX9_minutes_31 : decode cX9_minutes 31 = .ok (.iload_n 1, 1) := by decide +kernel
theorem dX9_minutes_32 : decode cX9_minutes 32 = .ok (.iload_n 2, 1) := by decide +kernel
theorem dX9_minutes_33 : decode cX9_minutes 33 = .ok (.iconst (-1), 1) := by decide +kernel
theorem dX9_minutes_34 : decode cX9_minutes 34 = .ok (.ixor, 1) := by decide +kernel
theorem dX9_minutes_35 : decode cX9_minutes 35 = .ok (.iand, 1) := by decide +kernel
theorem dX9_minutes_36 : decode cX9_minutes 36 = .ok (.iconst 1, 1) := by decide +kernel
theorem dX9_minutes_37 : decode cX9_minutes 37 = .ok (.iload_n 3, 1) := by decide +kernel
theorem dX9_minutes_38 : decode cX9_minutes 38 = .ok (.ishl, 1) := by decide +kernel
theorem dX9_minutes_39 : decode cX9_minutes 39 = .ok (.iand, 1) := by decide +kernel
theorem dX9_minutes_40 : decode cX9_minutes 40 = .ok (.ifCond .eq 28, 3) := by decide +kernel
theorem dX9_minutes_43 : decode cX9_minutes 43 = .ok (.aload_n 0, 1) := by decide +kernel
theorem dX9_minutes_44 : decode cX9_minutes 44 = .ok (.getfield 22, 3) := by decide +kernel
theorem dX9_minutes_47 : decode cX9_minutes 47 = .ok (.iload_n 2, 1) := by decide +kernel
theorem dX9_minutes_48 : decode cX9_minutes 48 = .ok (.bipush 7, 2) := by decide +kernel
theorem dX9_minutes_50 : decode cX9_minutes 50 = .ok (.imul, 1) := by decide +kernel
theorem dX9_minutes_51 : decode cX9_minutes 51 = .ok (.iload_n 3, 1) := by decide +kernel
theorem dX9_minutes_52 : decode cX9_minutes 52 = .ok (.iadd, 1) := by decide +kernel
theorem dX9_minutes_53 : decode cX9_minutes 53 = .ok (.aload_n 0, 1) := by decide +kernel
theorem dX9_minutes_54 : decode cX9_minutes 54 = .ok (.iload_n 1, 1) := by decide +kernel
theorem dX9_minutes_55 : decode cX9_minutes 55 = .ok (.iload_n 2, 1) := by decide +kernel
theorem dX9_minutes_56 : decode cX9_minutes 56 = .ok (.iload_n 3, 1) := by decide +kernel
theorem dX9_minutes_57 : decode cX9_minutes 57 = .ok (.aload_n 0, 1) := by decide +kernel
theorem dX9_minutes_58 : decode cX9_minutes 58 = .ok (.iload_n 1, 1) := by decide +kernel
theorem dX9_minutes_59 : decode cX9_minutes 59 = .ok (.iload_n 2, 1) := by decide +kernel
theorem dX9_minutes_60 : decode cX9_minutes 60 = .ok (.iload_n 3, 1) := by decide +kernel
theorem dX9_minutes_61 : decode cX9_minutes 61 = .ok (.invokevirtual 25, 3) := by decide +kernel
theorem dX9_minutes_64 : decode cX9_minutes 64 = .ok (.invokevirtual 29, 3) := by decide +kernel
theorem dX9_minutes_67 : decode cX9_minutes 67 = .ok (.iastore, 1) := by decide +kernel
theorem dX9_minutes_68 : decode cX9_minutes 68 = .ok (.iinc 3 1, 3) := by decide +kernel
theorem dX9_minutes_71 : decode cX9_minutes 71 = .ok (.goto (-51), 3) := by decide +kernel
theorem dX9_minutes_74 : decode cX9_minutes 74 = .ok (.iinc 2 1, 3) := by decide +kernel
theorem dX9_minutes_77 : decode cX9_minutes 77 = .ok (.goto (-75), 3) := by decide +kernel
theorem dX9_minutes_80 : decode cX9_minutes 80 = .ok (.aload_n 0, 1) := by decide +kernel
theorem dX9_minutes_81 : decode cX9_minutes 81 = .ok (.getfield 22, 3) := by decide +kernel
theorem dX9_minutes_84 : decode cX9_minutes 84 = .ok (.iload_n 1, 1) := by decide +kernel
theorem dX9_minutes_85 : decode cX9_minutes 85 = .ok (.bipush 7, 2) := by decide +kernel
theorem dX9_minutes_87 : decode cX9_minutes 87 = .ok (.imul, 1) := by decide +kernel
theorem dX9_minutes_88 : decode cX9_minutes 88 = .ok (.iaload, 1) := by decide +kernel
theorem dX9_minutes_89 : decode cX9_minutes 89 = .ok (.ireturn, 1) := by decide +kernel
theorem dX9_fetchedAs_0 : decode cX9_fetchedAs 0 = .ok (.aload_n 0, 1) := by decide +kernel
theorem dX9_fetchedAs_1 : decode cX9_fetchedAs 1 = .ok (.iload_n 1, 1) := by decide +kernel
theorem dX9_fetchedAs_2 : decode cX9_fetchedAs 2 = .ok (.invokevirtual 33, 3) := by decide +kernel
theorem dX9_fetchedAs_5 : decode cX9_fetchedAs 5 = .ok (.pop, 1) := by decide +kernel
theorem dX9_fetchedAs_6 : decode cX9_fetchedAs 6 = .ok (.iload_n 1, 1) := by decide +kernel
theorem dX9_fetchedAs_7 : decode cX9_fetchedAs 7 = .ok (.istore_n 3, 1) := by decide +kernel
theorem dX9_fetchedAs_8 : decode cX9_fetchedAs 8 = .ok (.iconst 0, 1) := by decide +kernel
theorem dX9_fetchedAs_9 : decode cX9_fetchedAs 9 = .ok (.istore 4, 2) := by decide +kernel
theorem dX9_fetchedAs_11 : decode cX9_fetchedAs 11 = .ok (.iconst 1, 1) := by decide +kernel
theorem dX9_fetchedAs_12 : decode cX9_fetchedAs 12 = .ok (.istore 5, 2) := by decide +kernel
theorem dX9_fetchedAs_14 : decode cX9_fetchedAs 14 = .ok (.iload 5, 2) := by decide +kernel
theorem dX9_fetchedAs_16 : decode cX9_fetchedAs 16 = .ok (.iload_n 2, 1) := by decide +kernel
theorem dX9_fetchedAs_17 : decode cX9_fetchedAs 17 = .ok (.if_icmp .gt 41, 3) := by decide +kernel
theorem dX9_fetchedAs_20 : decode cX9_fetchedAs 20 = .ok (.iload_n 3, 1) := by decide +kernel
theorem dX9_fetchedAs_21 : decode cX9_fetchedAs 21 = .ok (.ifCond .eq 37, 3) := by decide +kernel
theorem dX9_fetchedAs_24 : decode cX9_fetchedAs 24 = .ok (.aload_n 0, 1) := by decide +kernel
theorem dX9_fetchedAs_25 : decode cX9_fetchedAs 25 = .ok (.iload_n 1, 1) := by decide +kernel
theorem dX9_fetchedAs_26 : decode cX9_fetchedAs 26 = .ok (.iload_n 3, 1) := by decide +kernel
theorem dX9_fetchedAs_27 : decode cX9_fetchedAs 27 = .ok (.iload 4, 2) := by decide +kernel
theorem dX9_fetchedAs_29 : decode cX9_fetchedAs 29 = .ok (.invokevirtual 25, 3) := by decide +kernel
theorem dX9_fetchedAs_32 : decode cX9_fetchedAs 32 = .ok (.istore 4, 2) := by decide +kernel
theorem dX9_fetchedAs_34 : decode cX9_fetchedAs 34 = .ok (.iload_n 3, 1) := by decide +kernel
theorem dX9_fetchedAs_35 : decode cX9_fetchedAs 35 = .ok (.iconst 1, 1) := by decide +kernel
theorem dX9_fetchedAs_36 : decode cX9_fetchedAs 36 = .ok (.iload 4, 2) := by decide +kernel
theorem dX9_fetchedAs_38 : decode cX9_fetchedAs 38 = .ok (.ishl, 1) := by decide +kernel
theorem dX9_fetchedAs_39 : decode cX9_fetchedAs 39 = .ok (.iconst (-1), 1) := by decide +kernel
theorem dX9_fetchedAs_40 : decode cX9_fetchedAs 40 = .ok (.ixor, 1) := by decide +kernel
theorem dX9_fetchedAs_41 : decode cX9_fetchedAs 41 = .ok (.iand, 1) := by decide +kernel
theorem dX9_fetchedAs_42 : decode cX9_fetchedAs 42 = .ok (.istore_n 3, 1) := by decide +kernel
theorem dX9_fetchedAs_43 : decode cX9_fetchedAs 43 = .ok (.iload 5, 2) := by decide +kernel
theorem dX9_fetchedAs_45 : decode cX9_fetchedAs 45 = .ok (.iload_n 2, 1) := by decide +kernel
theorem dX9_fetchedAs_46 : decode cX9_fetchedAs 46 = .ok (.if_icmp .ne 6, 3) := by decide +kernel
theorem dX9_fetchedAs_49 : decode cX9_fetchedAs 49 = .ok (.iload 4, 2) := by decide +kernel
theorem dX9_fetchedAs_51 : decode cX9_fetchedAs 51 = .ok (.ireturn, 1) := by decide +kernel
theorem dX9_fetchedAs_52 : decode cX9_fetchedAs 52 = .ok (.iinc 5 1, 3) := by decide +kernel
theorem dX9_fetchedAs_55 : decode cX9_fetchedAs 55 = .ok (.goto (-41), 3) := by decide +kernel
theorem dX9_fetchedAs_58 : decode cX9_fetchedAs 58 = .ok (.iconst (-1), 1) := by decide +kernel
theorem dX9_fetchedAs_59 : decode cX9_fetchedAs 59 = .ok (.ireturn, 1) := by decide +kernel
theorem dX9_best_0 : decode cX9_best 0 = .ok (.iconst (-1), 1) := by decide +kernel
theorem dX9_best_1 : decode cX9_best 1 = .ok (.istore 4, 2) := by decide +kernel
theorem dX9_best_3 : decode cX9_best 3 = .ok (.iconst 0, 1) := by decide +kernel
theorem dX9_best_4 : decode cX9_best 4 = .ok (.istore 5, 2) := by decide +kernel
theorem dX9_best_6 : decode cX9_best 6 = .ok (.iconst 0, 1) := by decide +kernel
theorem dX9_best_7 : decode cX9_best 7 = .ok (.istore 6, 2) := by decide +kernel
theorem dX9_best_9 : decode cX9_best 9 = .ok (.iload 6, 2) := by decide +kernel
theorem dX9_best_11 : decode cX9_best 11 = .ok (.bipush 7, 2) := by decide +kernel
end
section
theorem dX9_best_13 : decode cX9_best 13 = .ok (.if_icmp .ge 53, 3) := by decide +kernel
theorem dX9_best_16 : decode cX9_best 16 = .ok (.iload_n 2, 1) := by decide +kernel
theorem dX9_best_17 : decode cX9_best 17 = .ok (.iload 6, 2) := by decide +kernel
theorem dX9_best_19 : decode cX9_best 19 = .ok (.ishr, 1) := by decide +kernel
theorem dX9_best_20 : decode cX9_best 20 = .ok (.iconst 1, 1) := by decide +kernel
theorem dX9_best_21 : decode cX9_best 21 = .ok (.iand, 1) := by decide +kernel
theorem dX9_best_22 : decode cX9_best 22 = .ok (.ifCond .ne 6, 3) := by decide +kernel
theorem dX9_best_25 : decode cX9_best 25 = .ok (.goto 35, 3) := by decide +kernel
theorem dX9_best_28 : decode cX9_best 28 = .ok (.aload_n 0, 1) := by decide +kernel
theorem dX9_best_29 : decode cX9_best 29 = .ok (.iload_n 1, 1) := by decide +kernel
theorem dX9_best_30 : decode cX9_best 30 = .ok (.iload_n 2, 1) := by decide +kernel
theorem dX9_best_31 : decode cX9_best 31 = .ok (.iload_n 3, 1) := by decide +kernel
theorem dX9_best_32 : decode cX9_best 32 = .ok (.iload 6, 2) := by decide +kernel
theorem dX9_best_34 : decode cX9_best 34 = .ok (.invokevirtual 29, 3) := by decide +kernel
theorem dX9_best_37 : decode cX9_best 37 = .ok (.istore 7, 2) := by decide +kernel
theorem dX9_best_39 : decode cX9_best 39 = .ok (.iload 4, 2) := by decide +kernel
theorem dX9_best_41 : decode cX9_best 41 = .ok (.iconst (-1), 1) := by decide +kernel
theorem dX9_best_42 : decode cX9_best 42 = .ok (.if_icmp .eq 10, 3) := by decide +kernel
theorem dX9_best_45 : decode cX9_best 45 = .ok (.iload 7, 2) := by decide +kernel
theorem dX9_best_47 : decode cX9_best 47 = .ok (.iload 5, 2) := by decide +kernel
theorem dX9_best_49 : decode cX9_best 49 = .ok (.if_icmp .ge 11, 3) := by decide +kernel
theorem dX9_best_52 : decode cX9_best 52 = .ok (.iload 6, 2) := by decide +kernel
theorem dX9_best_54 : decode cX9_best 54 = .ok (.istore 4, 2) := by decide +kernel
theorem dX9_best_56 : decode cX9_best 56 = .ok (.iload 7, 2) := by decide +kernel
theorem dX9_best_58 : decode cX9_best 58 = .ok (.istore 5, 2) := by decide +kernel
theorem dX9_best_60 : decode cX9_best 60 = .ok (.iinc 6 1, 3) := by decide +kernel
theorem dX9_best_63 : decode cX9_best 63 = .ok (.goto (-54), 3) := by decide +kernel
theorem dX9_best_66 : decode cX9_best 66 = .ok (.iload 4, 2) := by decide +kernel
theorem dX9_best_68 : decode cX9_best 68 = .ok (.ireturn, 1) := by decide +kernel
theorem dX9_through_0 : decode cX9_through 0 = .ok (.iload_n 1, 1) := by decide +kernel
theorem dX9_through_1 : decode cX9_through 1 = .ok (.invokestatic 37, 3) := by decide +kernel
theorem dX9_through_4 : decode cX9_through 4 = .ok (.iload_n 2, 1) := by decide +kernel
theorem dX9_through_5 : decode cX9_through 5 = .ok (.invokestatic 37, 3) := by decide +kernel
theorem dX9_through_8 : decode cX9_through 8 = .ok (.isub, 1) := by decide +kernel
theorem dX9_through_9 : decode cX9_through 9 = .ok (.aload_n 0, 1) := by decide +kernel
theorem dX9_through_10 : decode cX9_through 10 = .ok (.getfield 15, 3) := by decide +kernel
theorem dX9_through_13 : decode cX9_through 13 = .ok (.irem, 1) := by decide +kernel
theorem dX9_through_14 : decode cX9_through 14 = .ok (.istore 5, 2) := by decide +kernel
theorem dX9_through_16 : decode cX9_through 16 = .ok (.iload 5, 2) := by decide +kernel
theorem dX9_through_18 : decode cX9_through 18 = .ok (.ifCond .ne 7, 3) := by decide +kernel
theorem dX9_through_21 : decode cX9_through 21 = .ok (.iconst 0, 1) := by decide +kernel
theorem dX9_through_22 : decode cX9_through 22 = .ok (.goto 9, 3) := by decide +kernel
theorem dX9_through_25 : decode cX9_through 25 = .ok (.aload_n 0, 1) := by decide +kernel
theorem dX9_through_26 : decode cX9_through 26 = .ok (.getfield 9, 3) := by decide +kernel
theorem dX9_through_29 : decode cX9_through 29 = .ok (.iload_n 3, 1) := by decide +kernel
theorem dX9_through_30 : decode cX9_through 30 = .ok (.iaload, 1) := by decide +kernel
theorem dX9_through_31 : decode cX9_through 31 = .ok (.istore 6, 2) := by decide +kernel
theorem dX9_through_33 : decode cX9_through 33 = .ok (.iload_n 2, 1) := by decide +kernel
theorem dX9_through_34 : decode cX9_through 34 = .ok (.iconst 1, 1) := by decide +kernel
theorem dX9_through_35 : decode cX9_through 35 = .ok (.iload 4, 2) := by decide +kernel
theorem dX9_through_37 : decode cX9_through 37 = .ok (.ishl, 1) := by decide +kernel
theorem dX9_through_38 : decode cX9_through 38 = .ok (.iconst (-1), 1) := by decide +kernel
theorem dX9_through_39 : decode cX9_through 39 = .ok (.ixor, 1) := by decide +kernel
theorem dX9_through_40 : decode cX9_through 40 = .ok (.iand, 1) := by decide +kernel
theorem dX9_through_41 : decode cX9_through 41 = .ok (.istore 7, 2) := by decide +kernel
theorem dX9_through_43 : decode cX9_through 43 = .ok (.iload 6, 2) := by decide +kernel
theorem dX9_through_45 : decode cX9_through 45 = .ok (.aload_n 0, 1) := by decide +kernel
theorem dX9_through_46 : decode cX9_through 46 = .ok (.getfield 9, 3) := by decide +kernel
theorem dX9_through_49 : decode cX9_through 49 = .ok (.iload 4, 2) := by decide +kernel
theorem dX9_through_51 : decode cX9_through 51 = .ok (.iaload, 1) := by decide +kernel
theorem dX9_through_52 : decode cX9_through 52 = .ok (.invokestatic 42, 3) := by decide +kernel
theorem dX9_through_55 : decode cX9_through 55 = .ok (.aload_n 0, 1) := by decide +kernel
theorem dX9_through_56 : decode cX9_through 56 = .ok (.getfield 19, 3) := by decide +kernel
theorem dX9_through_59 : decode cX9_through 59 = .ok (.iload 5, 2) := by decide +kernel
theorem dX9_through_61 : decode cX9_through 61 = .ok (.iadd, 1) := by decide +kernel
theorem dX9_through_62 : decode cX9_through 62 = .ok (.imul, 1) := by decide +kernel
theorem dX9_through_63 : decode cX9_through 63 = .ok (.istore 8, 2) := by decide +kernel
theorem dX9_through_65 : decode cX9_through 65 = .ok (.iload 7, 2) := by decide +kernel
theorem dX9_through_67 : decode cX9_through 67 = .ok (.ifCond .eq 14, 3) := by decide +kernel
theorem dX9_through_70 : decode cX9_through 70 = .ok (.iload 5, 2) := by decide +kernel
theorem dX9_through_72 : decode cX9_through 72 = .ok (.iconst 1, 1) := by decide +kernel
theorem dX9_through_73 : decode cX9_through 73 = .ok (.iadd, 1) := by decide +kernel
theorem dX9_through_74 : decode cX9_through 74 = .ok (.aload_n 0, 1) := by decide +kernel
theorem dX9_through_75 : decode cX9_through 75 = .ok (.getfield 15, 3) := by decide +kernel
theorem dX9_through_78 : decode cX9_through 78 = .ok (.if_icmp .ne 29, 3) := by decide +kernel
theorem dX9_through_81 : decode cX9_through 81 = .ok (.iload 8, 2) := by decide +kernel
theorem dX9_through_83 : decode cX9_through 83 = .ok (.aload_n 0, 1) := by decide +kernel
theorem dX9_through_84 : decode cX9_through 84 = .ok (.getfield 9, 3) := by decide +kernel
theorem dX9_through_87 : decode cX9_through 87 = .ok (.iload 4, 2) := by decide +kernel
theorem dX9_through_89 : decode cX9_through 89 = .ok (.iaload, 1) := by decide +kernel
theorem dX9_through_90 : decode cX9_through 90 = .ok (.iconst 0, 1) := by decide +kernel
theorem dX9_through_91 : decode cX9_through 91 = .ok (.invokestatic 42, 3) := by decide +kernel
theorem dX9_through_94 : decode cX9_through 94 = .ok (.aload_n 0, 1) := by decide +kernel
theorem dX9_through_95 : decode cX9_through 95 = .ok (.getfield 19, 3) := by decide +kernel
theorem dX9_through_98 : decode cX9_through 98 = .ok (.iload 5, 2) := by decide +kernel
theorem dX9_through_100 : decode cX9_through 100 = .ok (.iadd, 1) := by decide +kernel
theorem dX9_through_101 : decode cX9_through 101 = .ok (.iconst 1, 1) := by decide +kernel
theorem dX9_through_102 : decode cX9_through 102 = .ok (.iadd, 1) := by decide +kernel
theorem dX9_through_103 : decode cX9_through 103 = .ok (.imul, 1) := by decide +kernel
theorem dX9_through_104 : decode cX9_through 104 = .ok (.iadd, 1) := by decide +kernel
theorem dX9_through_105 : decode cX9_through 105 = .ok (.istore 8, 2) := by decide +kernel
theorem dX9_through_107 : decode cX9_through 107 = .ok (.iload 8, 2) := by decide +kernel
theorem dX9_through_109 : decode cX9_through 109 = .ok (.aload_n 0, 1) := by decide +kernel
theorem dX9_through_110 : decode cX9_through 110 = .ok (.getfield 22, 3) := by decide +kernel
theorem dX9_through_113 : decode cX9_through 113 = .ok (.iload 7, 2) := by decide +kernel
theorem dX9_through_115 : decode cX9_through 115 = .ok (.bipush 7, 2) := by decide +kernel
theorem dX9_through_117 : decode cX9_through 117 = .ok (.imul, 1) := by decide +kernel
theorem dX9_through_118 : decode cX9_through 118 = .ok (.iload 4, 2) := by decide +kernel
theorem dX9_through_120 : decode cX9_through 120 = .ok (.iadd, 1) := by decide +kernel
theorem dX9_through_121 : decode cX9_through 121 = .ok (.iaload, 1) := by decide +kernel
theorem dX9_through_122 : decode cX9_through 122 = .ok (.iadd, 1) := by decide +kernel
theorem dX9_through_123 : decode cX9_through 123 = .ok (.ireturn, 1) := by decide +kernel
theorem dX10_init_0 : decode cX10_init 0 = .ok (.aload_n 0, 1) := by decide +kernel
theorem dX10_init_1 : decode cX10_init 1 = .ok (.invokespecial 1, 3) := by decide +kernel
theorem dX10_init_4 : decode cX10_init 4 = .ok (.aload_n 0, 1) := by decide +kernel
theorem dX10_init_5 : decode cX10_init 5 = .ok (.bipush 7, 2) := by decide +kernel
theorem dX10_init_7 : decode cX10_init 7 = .ok (.anewarray 9, 3) := by decide +kernel
theorem dX10_init_10 : decode cX10_init 10 = .ok (.putfield 11, 3) := by decide +kernel
theorem dX10_init_13 : decode cX10_init 13 = .ok (.aload_n 0, 1) := by decide +kernel
theorem dX10_init_14 : decode cX10_init 14 = .ok (.bipush 12, 2) := by decide +kernel
theorem dX10_init_16 : decode cX10_init 16 = .ok (.newarray .int, 2) := by decide +kernel
theorem dX10_init_18 : decode cX10_init 18 = .ok (.putfield 15, 3) := by decide +kernel
theorem dX10_init_21 : decode cX10_init 21 = .ok (.aload_n 0, 1) := by decide +kernel
theorem dX10_init_22 : decode cX10_init 22 = .ok (.bipush 12, 2) := by decide +kernel
theorem dX10_init_24 : decode cX10_init 24 = .ok (.newarray .int, 2) := by decide +kernel
theorem dX10_init_26 : decode cX10_init 26 = .ok (.putfield 19, 3) := by decide +kernel
theorem dX10_init_29 : decode cX10_init 29 = .ok (.aload_n 0, 1) := by decide +kernel
theorem dX10_init_30 : decode cX10_init 30 = .ok (.iconst (-1), 1) := by decide +kernel
theorem dX10_init_31 : decode cX10_init 31 = .ok (.putfield 22, 3) := by decide +kernel
theorem dX10_init_34 : decode cX10_init 34 = .ok (.aload_n 0, 1) := by decide +kernel
theorem dX10_init_35 : decode cX10_init 35 = .ok (.new 26, 3) := by decide +kernel
theorem dX10_init_38 : decode cX10_init 38 = .ok (.dup, 1) := by decide +kernel
theorem dX10_init_39 : decode cX10_init 39 = .ok (.invokespecial 28, 3) := by decide +kernel
theorem dX10_init_42 : decode cX10_init 42 = .ok (.putfield 29, 3) := by decide +kernel
theorem dX10_init_45 : decode cX10_init 45 = .ok (.aload_n 0, 1) := by decide +kernel
theorem dX10_init_46 : decode cX10_init 46 = .ok (.bipush 6, 2) := by decide +kernel
theorem dX10_init_48 : decode cX10_init 48 = .ok (.anewarray 33, 3) := by decide +kernel
theorem dX10_init_51 : decode cX10_init 51 = .ok (.putfield 35, 3) := by decide +kernel
theorem dX10_init_54 : decode cX10_init 54 = .ok (.aload_n 0, 1) := by decide +kernel
theorem dX10_init_55 : decode cX10_init 55 = .ok (.bipush 6, 2) := by decide +kernel
theorem dX10_init_57 : decode cX10_init 57 = .ok (.newarray .int, 2) := by decide +kernel
theorem dX10_init_59 : decode cX10_init 59 = .ok (.putfield 39, 3) := by decide +kernel
theorem dX10_init_62 : decode cX10_init 62 = .ok (.aload_n 0, 1) := by decide +kernel
theorem dX10_init_63 : decode cX10_init 63 = .ok (.new 42, 3) := by decide +kernel
theorem dX10_init_66 : decode cX10_init 66 = .ok (.dup, 1) := by decide +kernel
theorem dX10_init_67 : decode cX10_init 67 = .ok (.invokespecial 44, 3) := by decide +kernel
theorem dX10_init_70 : decode cX10_init 70 = .ok (.putfield 45, 3) := by decide +kernel
theorem dX10_init_73 : decode cX10_init 73 = .ok (.aload_n 0, 1) := by decide +kernel
theorem dX10_init_74 : decode cX10_init 74 = .ok (.bipush 7, 2) := by decide +kernel
theorem dX10_init_76 : decode cX10_init 76 = .ok (.newarray .int, 2) := by decide +kernel
theorem dX10_init_78 : decode cX10_init 78 = .ok (.putfield 49, 3) := by decide +kernel
theorem dX10_init_81 : decode cX10_init 81 = .ok (.aload_n 0, 1) := by decide +kernel
theorem dX10_init_82 : decode cX10_init 82 = .ok (.iconst 4, 1) := by decide +kernel
theorem dX10_init_83 : decode cX10_init 83 = .ok (.anewarray 52, 3) := by decide +kernel
theorem dX10_init_86 : decode cX10_init 86 = .ok (.putfield 54, 3) := by decide +kernel
theorem dX10_init_89 : decode cX10_init 89 = .ok (.aload_n 0, 1) := by decide +kernel
theorem dX10_init_90 : decode cX10_init 90 = .ok (.getfield 15, 3) := by decide +kernel
theorem dX10_init_93 : decode cX10_init 93 = .ok (.iconst 4, 1) := by decide +kernel
theorem dX10_init_94 : decode cX10_init 94 = .ok (.bipush 27, 2) := by decide +kernel
theorem dX10_init_96 : decode cX10_init 96 = .ok (.iastore, 1) := by decide +kernel
theorem dX10_init_97 : decode cX10_init 97 = .ok (.aload_n 0, 1) := by decide +kernel
theorem dX10_init_98 : decode cX10_init 98 = .ok (.getfield 15, 3) := by decide +kernel
theorem dX10_init_101 : decode cX10_init 101 = .ok (.bipush 6, 2) := by decide +kernel
theorem dX10_init_103 : decode cX10_init 103 = .ok (.iconst 2, 1) := by decide +kernel
theorem dX10_init_104 : decode cX10_init 104 = .ok (.iastore, 1) := by decide +kernel
theorem dX10_init_105 : decode cX10_init 105 = .ok (.aload_n 0, 1) := by decide +kernel
theorem dX10_init_106 : decode cX10_init 106 = .ok (.getfield 15, 3) := by decide +kernel
theorem dX10_init_109 : decode cX10_init 109 = .ok (.bipush 7, 2) := by decide +kernel
theorem dX10_init_111 : decode cX10_init 111 = .ok (.iconst 1, 1) := by decide +kernel
theorem dX10_init_112 : decode cX10_init 112 = .ok (.iastore, 1) := by decide +kernel
theorem dX10_init_113 : decode cX10_init 113 = .ok (.iconst 0, 1) := by decide +kernel
theorem dX10_init_114 : decode cX10_init 114 = .ok (.istore_n 1, 1) := by decide +kernel
theorem dX10_init_115 : decode cX10_init 115 = .ok (.iload_n 1, 1) := by decide +kernel
theorem dX10_init_116 : decode cX10_init 116 = .ok (.iconst 4, 1) := by decide +kernel
theorem dX10_init_117 : decode cX10_init 117 = .ok (.if_icmp .ge 22, 3) := by decide +kernel
theorem dX10_init_120 : decode cX10_init 120 = .ok (.aload_n 0, 1) := by decide +kernel
theorem dX10_init_121 : decode cX10_init 121 = .ok (.getfield 54, 3) := by decide +kernel
theorem dX10_init_124 : decode cX10_init 124 = .ok (.iload_n 1, 1) := by decide +kernel
theorem dX10_init_125 : decode cX10_init 125 = .ok (.new 52, 3) := by decide +kernel
theorem dX10_init_128 : decode cX10_init 128 = .ok (.dup, 1) := by decide +kernel
theorem dX10_init_129 : decode cX10_init 129 = .ok (.invokespecial 58, 3) := by decide +kernel
theorem dX10_init_132 : decode cX10_init 132 = .ok (.aastore, 1) := by decide +kernel
theorem dX10_init_133 : decode cX10_init 133 = .ok (.iinc 1 1, 3) := by decide +kernel
theorem dX10_init_136 : decode cX10_init 136 = .ok (.goto (-21), 3) := by decide +kernel
theorem dX10_init_139 : decode cX10_init 139 = .ok (.iconst 0, 1) := by decide +kernel
theorem dX10_init_140 : decode cX10_init 140 = .ok (.istore_n 1, 1) := by decide +kernel
theorem dX10_init_141 : decode cX10_init 141 = .ok (.iload_n 1, 1) := by decide +kernel
theorem dX10_init_142 : decode cX10_init 142 = .ok (.ldc 59, 2) := by decide +kernel
theorem dX10_init_144 : decode cX10_init 144 = .ok (.invokevirtual 61, 3) := by decide +kernel
theorem dX10_init_147 : decode cX10_init 147 = .ok (.if_icmp .ge 23, 3) := by decide +kernel
theorem dX10_init_150 : decode cX10_init 150 = .ok (.aload_n 0, 1) := by decide +kernel
theorem dX10_init_151 : decode cX10_init 151 = .ok (.getfield 29, 3) := by decide +kernel
theorem dX10_init_154 : decode cX10_init 154 = .ok (.ldc 59, 2) := by decide +kernel
theorem dX10_init_156 : decode cX10_init 156 = .ok (.iload_n 1, 1) := by decide +kernel
theorem dX10_init_157 : decode cX10_init 157 = .ok (.invokevirtual 67, 3) := by decide +kernel
theorem dX10_init_160 : decode cX10_init 160 = .ok (.invokevirtual 71, 3) := by decide +kernel
theorem dX10_init_163 : decode cX10_init 163 = .ok (.pop, 1) := by decide +kernel
theorem dX10_init_164 : decode cX10_init 164 = .ok (.iinc 1 1, 3) := by decide +kernel
theorem dX10_init_167 : decode cX10_init 167 = .ok (.goto (-26), 3) := by decide +kernel
theorem dX10_init_170 : decode cX10_init 170 = .ok (.aload_n 0, 1) := by decide +kernel
theorem dX10_init_171 : decode cX10_init 171 = .ok (.getfield 29, 3) := by decide +kernel
theorem dX10_init_174 : decode cX10_init 174 = .ok (.invokevirtual 75, 3) := by decide +kernel
theorem dX10_init_177 : decode cX10_init 177 = .ok (.pop, 1) := by decide +kernel
theorem dX10_init_178 : decode cX10_init 178 = .ok (.aload_n 0, 1) := by decide +kernel
theorem dX10_init_179 : decode cX10_init 179 = .ok (.getfield 35, 3) := by decide +kernel
theorem dX10_init_182 : decode cX10_init 182 = .ok (.iconst 0, 1) := by decide +kernel
theorem dX10_init_183 : decode cX10_init 183 = .ok (.aload_n 0, 1) := by decide +kernel
theorem dX10_init_184 : decode cX10_init 184 = .ok (.getfield 29, 3) := by decide +kernel
theorem dX10_init_187 : decode cX10_init 187 = .ok (.invokevirtual 78, 3) := by decide +kernel
theorem dX10_init_190 : decode cX10_init 190 = .ok (.aastore, 1) := by decide +kernel
theorem dX10_init_191 : decode cX10_init 191 = .ok (.aload_n 0, 1) := by decide +kernel
theorem dX10_init_192 : decode cX10_init 192 = .ok (.iconst 1, 1) := by decide +kernel
theorem dX10_init_193 : decode cX10_init 193 = .ok (.putfield 82, 3) := by decide +kernel
theorem dX10_init_196 : decode cX10_init 196 = .ok (.aload_n 0, 1) := by decide +kernel
theorem dX10_init_197 : decode cX10_init 197 = .ok (.getfield 29, 3) := by decide +kernel
theorem dX10_init_200 : decode cX10_init 200 = .ok (.invokevirtual 85, 3) := by decide +kernel
theorem dX10_init_203 : decode cX10_init 203 = .ok (.return_, 1) := by decide +kernel
theorem dX10_boat_0 : decode cX10_boat 0 = .ok (.iload_n 1, 1) := by decide +kernel
theorem dX10_boat_1 : decode cX10_boat 1 = .ok (.ifCond .lt 16, 3) := by decide +kernel
theorem dX10_boat_4 : decode cX10_boat 4 = .ok (.iload_n 1, 1) := by decide +kernel
theorem dX10_boat_5 : decode cX10_boat 5 = .ok (.iconst 5, 1) := by decide +kernel
theorem dX10_boat_6 : decode cX10_boat 6 = .ok (.if_icmp .gt 11, 3) := by decide +kernel
theorem dX10_boat_9 : decode cX10_boat 9 = .ok (.iload_n 2, 1) := by decide +kernel
theorem dX10_boat_10 : decode cX10_boat 10 = .ok (.ifCond .lt 7, 3) := by decide +kernel
theorem dX10_boat_13 : decode cX10_boat 13 = .ok (.iload_n 3, 1) := by decide +kernel
theorem dX10_boat_14 : decode cX10_boat 14 = .ok (.ifCond .ge 6, 3) := by decide +kernel
theorem dX10_boat_17 : decode cX10_boat 17 = .ok (.bipush (-2), 2) := by decide +kernel
theorem dX10_boat_19 : decode cX10_boat 19 = .ok (.ireturn, 1) := by decide +kernel
theorem dX10_boat_20 : decode cX10_boat 20 = .ok (.iconst 0, 1) := by decide +kernel
theorem dX10_boat_21 : decode cX10_boat 21 = .ok (.iload_n 2, 1) := by decide +kernel
theorem dX10_boat_22 : decode cX10_boat 22 = .ok (.bipush 100, 2) := by decide +kernel
theorem dX10_boat_24 : decode cX10_boat 24 = .ok (.idiv, 1) := by decide +kernel
theorem dX10_boat_25 : decode cX10_boat 25 = .ok (.invokestatic 88, 3) := by decide +kernel
theorem dX10_boat_28 : decode cX10_boat 28 = .ok (.ifCond .eq 26, 3) := by decide +kernel
theorem dX10_boat_31 : decode cX10_boat 31 = .ok (.iconst 3, 1) := by decide +kernel
theorem dX10_boat_32 : decode cX10_boat 32 = .ok (.iload_n 2, 1) := by decide +kernel
theorem dX10_boat_33 : decode cX10_boat 33 = .ok (.bipush 100, 2) := by decide +kernel
theorem dX10_boat_35 : decode cX10_boat 35 = .ok (.irem, 1) := by decide +kernel
theorem dX10_boat_36 : decode cX10_boat 36 = .ok (.invokestatic 88, 3) := by decide +kernel
theorem dX10_boat_39 : decode cX10_boat 39 = .ok (.ifCond .eq 15, 3) := by decide +kernel
theorem dX10_boat_42 : decode cX10_boat 42 = .ok (.iconst 2, 1) := by decide +kernel
theorem dX10_boat_43 : decode cX10_boat 43 = .ok (.iload_n 3, 1) := by decide +kernel
theorem dX10_boat_44 : decode cX10_boat 44 = .ok (.sipush 1000, 3) := by decide +kernel
theorem dX10_boat_47 : decode cX10_boat 47 = .ok (.idiv, 1) := by decide +kernel
theorem dX10_boat_48 : decode cX10_boat 48 = .ok (.invokestatic 88, 3) := by decide +kernel
theorem dX10_boat_51 : decode cX10_boat 51 = .ok (.ifCond .ne 6, 3) := by decide +kernel
theorem dX10_boat_54 : decode cX10_boat 54 = .ok (.bipush (-2), 2) := by decide +kernel
theorem dX10_boat_56 : decode cX10_boat 56 = .ok (.ireturn, 1) := by decide +kernel
theorem dX10_boat_57 : decode cX10_boat 57 = .ok (.aload_n 0, 1) := by decide +kernel
theorem dX10_boat_58 : decode cX10_boat 58 = .ok (.getfield 92, 3) := by decide +kernel
theorem dX10_boat_61 : decode cX10_boat 61 = .ok (.bipush 7, 2) := by decide +kernel
theorem dX10_boat_63 : decode cX10_boat 63 = .ok (.if_icmp .lt 6, 3) := by decide +kernel
theorem dX10_boat_66 : decode cX10_boat 66 = .ok (.bipush (-4), 2) := by decide +kernel
theorem dX10_boat_68 : decode cX10_boat 68 = .ok (.ireturn, 1) := by decide +kernel
theorem dX10_boat_69 : decode cX10_boat 69 = .ok (.aload_n 0, 1) := by decide +kernel
theorem dX10_boat_70 : decode cX10_boat 70 = .ok (.getfield 11, 3) := by decide +kernel
theorem dX10_boat_73 : decode cX10_boat 73 = .ok (.aload_n 0, 1) := by decide +kernel
theorem dX10_boat_74 : decode cX10_boat 74 = .ok (.getfield 92, 3) := by decide +kernel
theorem dX10_boat_77 : decode cX10_boat 77 = .ok (.iload_n 1, 1) := by decide +kernel
theorem dX10_boat_78 : decode cX10_boat 78 = .ok (.iload_n 2, 1) := by decide +kernel
theorem dX10_boat_79 : decode cX10_boat 79 = .ok (.iload_n 3, 1) := by decide +kernel
theorem dX10_boat_80 : decode cX10_boat 80 = .ok (.invokestatic 95, 3) := by decide +kernel
theorem dX10_boat_83 : decode cX10_boat 83 = .ok (.aastore, 1) := by decide +kernel
theorem dX10_boat_84 : decode cX10_boat 84 = .ok (.aload_n 0, 1) := by decide +kernel
theorem dX10_boat_85 : decode cX10_boat 85 = .ok (.dup, 1) := by decide +kernel
theorem dX10_boat_86 : decode cX10_boat 86 = .ok (.getfield 92, 3) := by decide +kernel
theorem dX10_boat_89 : decode cX10_boat 89 = .ok (.iconst 1, 1) := by decide +kernel
theorem dX10_boat_90 : decode cX10_boat 90 = .ok (.iadd, 1) := by decide +kernel
theorem dX10_boat_91 : decode cX10_boat 91 = .ok (.putfield 92, 3) := by decide +kernel
theorem dX10_boat_94 : decode cX10_boat 94 = .ok (.aload_n 0, 1) := by decide +kernel
theorem dX10_boat_95 : decode cX10_boat 95 = .ok (.getfield 92, 3) := by decide +kernel
theorem dX10_boat_98 : decode cX10_boat 98 = .ok (.iconst 1, 1) := by decide +kernel
theorem dX10_boat_99 : decode cX10_boat 99 = .ok (.isub, 1) := by decide +kernel
theorem dX10_boat_100 : decode cX10_boat 100 = .ok (.ireturn, 1) := by decide +kernel
theorem dX10_set_0 : decode cX10_set 0 = .ok (.iload_n 1, 1) := by decide +kernel
theorem dX10_set_1 : decode cX10_set 1 = .ok (.ifCond .lt 17, 3) := by decide +kernel
theorem dX10_set_4 : decode cX10_set 4 = .ok (.iload_n 1, 1) := by decide +kernel
theorem dX10_set_5 : decode cX10_set 5 = .ok (.bipush 8, 2) := by decide +kernel
theorem dX10_set_7 : decode cX10_set 7 = .ok (.if_icmp .gt 11, 3) := by decide +kernel
theorem dX10_set_10 : decode cX10_set 10 = .ok (.iload_n 1, 1) := by decide +kernel
theorem dX10_set_11 : decode cX10_set 11 = .ok (.iload_n 3, 1) := by decide +kernel
theorem dX10_set_12 : decode cX10_set 12 = .ok (.invokestatic 88, 3) := by decide +kernel
theorem dX10_set_15 : decode cX10_set 15 = .ok (.ifCond .ne 6, 3) := by decide +kernel
theorem dX10_set_18 : decode cX10_set 18 = .ok (.bipush (-2), 2) := by decide +kernel
theorem dX10_set_20 : decode cX10_set 20 = .ok (.ireturn, 1) := by decide +kernel
theorem dX10_set_21 : decode cX10_set 21 = .ok (.iload_n 1, 1) := by decide +kernel
theorem dX10_set_22 : decode cX10_set 22 = .ok (.iconst 3, 1) := by decide +kernel
theorem dX10_set_23 : decode cX10_set 23 = .ok (.if_icmp .gt 14, 3) := by decide +kernel
theorem dX10_set_26 : decode cX10_set 26 = .ok (.aload_n 0, 1) := by decide +kernel
theorem dX10_set_27 : decode cX10_set 27 = .ok (.iload_n 2, 1) := by decide +kernel
theorem dX10_set_28 : decode cX10_set 28 = .ok (.invokevirtual 99, 3) := by decide +kernel
theorem dX10_set_31 : decode cX10_set 31 = .ok (.ifCond .ne 6, 3) := by decide +kernel
theorem dX10_set_34 : decode cX10_set 34 = .ok (.bipush (-2), 2) := by decide +kernel
theorem dX10_set_36 : decode cX10_set 36 = .ok (.ireturn, 1) := by decide +kernel
theorem dX10_set_37 : decode cX10_set 37 = .ok (.iload_n 1, 1) := by decide +kernel
theorem dX10_set_38 : decode cX10_set 38 = .ok (.iconst 3, 1) := by decide +kernel
theorem dX10_set_39 : decode cX10_set 39 = .ok (.if_icmp .gt 15, 3) := by decide +kernel
theorem dX10_set_42 : decode cX10_set 42 = .ok (.aload_n 0, 1) := by decide +kernel
theorem dX10_set_43 : decode cX10_set 43 = .ok (.getfield 11, 3) := by decide +kernel
theorem dX10_set_46 : decode cX10_set 46 = .ok (.iload_n 2, 1) := by decide +kernel
theorem dX10_set_47 : decode cX10_set 47 = .ok (.aaload, 1) := by decide +kernel
theorem dX10_set_48 : decode cX10_set 48 = .ok (.getfield 102, 3) := by decide +kernel
theorem dX10_set_51 : decode cX10_set 51 = .ok (.goto 7, 3) := by decide +kernel
theorem dX10_set_54 : decode cX10_set 54 = .ok (.aload_n 0, 1) := by decide +kernel
theorem dX10_set_55 : decode cX10_set 55 = .ok (.getfield 15, 3) := by decide +kernel
theorem dX10_set_58 : decode cX10_set 58 = .ok (.astore 4, 2) := by decide +kernel
theorem dX10_set_60 : decode cX10_set 60 = .ok (.aload 4, 2) := by decide +kernel
theorem dX10_set_62 : decode cX10_set 62 = .ok (.iload_n 1, 1) := by decide +kernel
theorem dX10_set_63 : decode cX10_set 63 = .ok (.iaload, 1) := by decide +kernel
theorem dX10_set_64 : decode cX10_set 64 = .ok (.istore 5, 2) := by decide +kernel
theorem dX10_set_66 : decode cX10_set 66 = .ok (.aload 4, 2) := by decide +kernel
theorem dX10_set_68 : decode cX10_set 68 = .ok (.iload_n 1, 1) := by decide +kernel
theorem dX10_set_69 : decode cX10_set 69 = .ok (.iload_n 3, 1) := by decide +kernel
theorem dX10_set_70 : decode cX10_set 70 = .ok (.iastore, 1) := by decide +kernel
theorem dX10_set_71 : decode cX10_set 71 = .ok (.iload 5, 2) := by decide +kernel
theorem dX10_set_73 : decode cX10_set 73 = .ok (.ireturn, 1) := by decide +kernel
theorem dX10_told_0 : decode cX10_told 0 = .ok (.aload_n 0, 1) := by decide +kernel
theorem dX10_told_1 : decode cX10_told 1 = .ok (.iload_n 1, 1) := by decide +kernel
theorem dX10_told_2 : decode cX10_told 2 = .ok (.invokevirtual 99, 3) := by decide +kernel
theorem dX10_told_5 : decode cX10_told 5 = .ok (.ifCond .ne 6, 3) := by decide +kernel
theorem dX10_told_8 : decode cX10_told 8 = .ok (.bipush (-2), 2) := by decide +kernel
theorem dX10_told_10 : decode cX10_told 10 = .ok (.ireturn, 1) := by decide +kernel
theorem dX10_told_11 : decode cX10_told 11 = .ok (.aload_n 0, 1) := by decide +kernel
theorem dX10_told_12 : decode cX10_told 12 = .ok (.getfield 11, 3) := by decide +kernel
theorem dX10_told_15 : decode cX10_told 15 = .ok (.iload_n 1, 1) := by decide +kernel
theorem dX10_told_16 : decode cX10_told 16 = .ok (.aaload, 1) := by decide +kernel
theorem dX10_told_17 : decode cX10_told 17 = .ok (.astore_n 3, 1) := by decide +kernel
theorem dX10_told_18 : decode cX10_told 18 = .ok (.iload_n 2, 1) := by decide +kernel
theorem dX10_told_19 : decode cX10_told 19 = .ok (.tableswitch 153 0 10 #[57, 64, 71, 78, 85, 90, 97, 104, 115, 126, 140], 57) := by decide +kernel
theorem dX10_told_76 : decode cX10_told 76 = .ok (.aload_n 3, 1) := by decide +kernel
theorem dX10_told_77 : decode cX10_told 77 = .ok (.getfield 102, 3) := by decide +kernel
theorem dX10_told_80 : decode cX10_told 80 = .ok (.iconst 0, 1) := by decide +kernel
theorem dX10_told_81 : decode cX10_told 81 = .ok (.iaload, 1) := by decide +kernel
theorem dX10_told_82 : decode cX10_told 82 = .ok (.ireturn, 1) := by decide +kernel
theorem dX10_told_83 : decode cX10_told 83 = .ok (.aload_n 3, 1) := by decide +kernel
theorem dX10_told_84 : decode cX10_told 84 = .ok (.getfield 102, 3) := by decide +kernel
theorem dX10_told_87 : decode cX10_told 87 = .ok (.iconst 1, 1) := by decide +kernel
theorem dX10_told_88 : decode cX10_told 88 = .ok (.iaload, 1) := by decide +kernel
theorem dX10_told_89 : decode cX10_told 89 = .ok (.ireturn, 1) := by decide +kernel
theorem dX10_told_90 : decode cX10_told 90 = .ok (.aload_n 3, 1) := by decide +kernel
theorem dX10_told_91 : decode cX10_told 91 = .ok (.getfield 102, 3) := by decide +kernel
theorem dX10_told_94 : decode cX10_told 94 = .ok (.iconst 2, 1) := by decide +kernel
theorem dX10_told_95 : decode cX10_told 95 = .ok (.iaload, 1) := by decide +kernel
theorem dX10_told_96 : decode cX10_told 96 = .ok (.ireturn, 1) := by decide +kernel
theorem dX10_told_97 : decode cX10_told 97 = .ok (.aload_n 3, 1) := by decide +kernel
theorem dX10_told_98 : decode cX10_told 98 = .ok (.getfield 102, 3) := by decide +kernel
theorem dX10_told_101 : decode cX10_told 101 = .ok (.iconst 3, 1) := by decide +kernel
theorem dX10_told_102 : decode cX10_told 102 = .ok (.iaload, 1) := by decide +kernel
theorem dX10_told_103 : decode cX10_told 103 = .ok (.ireturn, 1) := by decide +kernel
theorem dX10_told_104 : decode cX10_told 104 = .ok (.aload_n 3, 1) := by decide +kernel
theorem dX10_told_105 : decode cX10_told 105 = .ok (.invokevirtual 105, 3) := by decide +kernel
theorem dX10_told_108 : decode cX10_told 108 = .ok (.ireturn, 1) := by decide +kernel
theorem dX10_told_109 : decode cX10_told 109 = .ok (.aload_n 3, 1) := by decide +kernel
theorem dX10_told_110 : decode cX10_told 110 = .ok (.getfield 102, 3) := by decide +kernel
theorem dX10_told_113 : decode cX10_told 113 = .ok (.iconst 4, 1) := by decide +kernel
theorem dX10_told_114 : decode cX10_told 114 = .ok (.iaload, 1) := by decide +kernel
theorem dX10_told_115 : decode cX10_told 115 = .ok (.ireturn, 1) := by decide +kernel
theorem dX10_told_116 : decode cX10_told 116 = .ok (.aload_n 3, 1) := by decide +kernel
theorem dX10_told_117 : decode cX10_told 117 = .ok (.getfield 102, 3) := by decide +kernel
theorem dX10_told_120 : decode cX10_told 120 = .ok (.iconst 5, 1) := by decide +kernel
theorem dX10_told_121 : decode cX10_told 121 = .ok (.iaload, 1) := by decide +kernel
theorem dX10_told_122 : decode cX10_told 122 = .ok (.ireturn, 1) := by decide +kernel
theorem dX10_told_123 : decode cX10_told 123 = .ok (.aload_n 3, 1) := by decide +kernel
theorem dX10_told_124 : decode cX10_told 124 = .ok (.aload_n 0, 1) := by decide +kernel
theorem dX10_told_125 : decode cX10_told 125 = .ok (.getfield 15, 3) := by decide +kernel
theorem dX10_told_128 : decode cX10_told 128 = .ok (.iconst 5, 1) := by decide +kernel
theorem dX10_told_129 : decode cX10_told 129 = .ok (.iaload, 1) := by decide +kernel
theorem dX10_told_130 : decode cX10_told 130 = .ok (.invokevirtual 108, 3) := by decide +kernel
theorem dX10_told_133 : decode cX10_told 133 = .ok (.ireturn, 1) := by decide +kernel
theorem dX10_told_134 : decode cX10_told 134 = .ok (.aload_n 3, 1) := by decide +kernel
theorem dX10_told_135 : decode cX10_told 135 = .ok (.aload_n 0, 1) := by decide +kernel
theorem dX10_told_136 : decode cX10_told 136 = .ok (.getfield 15, 3) := by decide +kernel
theorem dX10_told_139 : decode cX10_told 139 = .ok (.iconst 5, 1) := by decide +kernel
theorem dX10_told_140 : decode cX10_told 140 = .ok (.iaload, 1) := by decide +kernel
theorem dX10_told_141 : decode cX10_told 141 = .ok (.invokevirtual 112, 3) := by decide +kernel
theorem dX10_told_144 : decode cX10_told 144 = .ok (.ireturn, 1) := by decide +kernel
theorem dX10_told_145 : decode cX10_told 145 = .ok (.aload_n 0, 1) := by decide +kernel
theorem dX10_told_146 : decode cX10_told 146 = .ok (.iload_n 1, 1) := by decide +kernel
theorem dX10_told_147 : decode cX10_told 147 = .ok (.invokevirtual 115, 3) := by decide +kernel
theorem dX10_told_150 : decode cX10_told 150 = .ok (.ifCond .eq 7, 3) := by decide +kernel
theorem dX10_told_153 : decode cX10_told 153 = .ok (.iconst 1, 1) := by decide +kernel
theorem dX10_told_154 : decode cX10_told 154 = .ok (.goto 4, 3) := by decide +kernel
theorem dX10_told_157 : decode cX10_told 157 = .ok (.iconst 0, 1) := by decide +kernel
theorem dX10_told_158 : decode cX10_told 158 = .ok (.ireturn, 1) := by decide +kernel
theorem dX10_told_159 : decode cX10_told 159 = .ok (.aload_n 0, 1) := by decide +kernel
theorem dX10_told_160 : decode cX10_told 160 = .ok (.iload_n 1, 1) := by decide +kernel
theorem dX10_told_161 : decode cX10_told 161 = .ok (.aload_n 0, 1) := by decide +kernel
theorem dX10_told_162 : decode cX10_told 162 = .ok (.getfield 15, 3) := by decide +kernel
theorem dX10_told_165 : decode cX10_told 165 = .ok (.bipush 9, 2) := by decide +kernel
theorem dX10_told_167 : decode cX10_told 167 = .ok (.iaload, 1) := by decide +kernel
theorem dX10_told_168 : decode cX10_told 168 = .ok (.invokevirtual 118, 3) := by decide +kernel
theorem dX10_told_171 : decode cX10_told 171 = .ok (.ireturn, 1) := by decide +kernel
theorem dX10_told_172 : decode cX10_told 172 = .ok (.bipush (-2), 2) := by decide +kernel
theorem dX10_told_174 : decode cX10_told 174 = .ok (.ireturn, 1) := by decide +kernel
theorem dX10_fits_0 : decode cX10_fits 0 = .ok (.iload_n 1, 1) := by decide +kernel
theorem dX10_fits_1 : decode cX10_fits 1 = .ok (.getstatic 122, 3) := by decide +kernel
theorem dX10_fits_4 : decode cX10_fits 4 = .ok (.iload_n 0, 1) := by decide +kernel
theorem dX10_fits_5 : decode cX10_fits 5 = .ok (.iaload, 1) := by decide +kernel
theorem dX10_fits_6 : decode cX10_fits 6 = .ok (.if_icmp .lt 16, 3) := by decide +kernel
theorem dX10_fits_9 : decode cX10_fits 9 = .ok (.iload_n 1, 1) := by decide +kernel
theorem dX10_fits_10 : decode cX10_fits 10 = .ok (.getstatic 125, 3) := by decide +kernel
theorem dX10_fits_13 : decode cX10_fits 13 = .ok (.iload_n 0, 1) := by decide +kernel
theorem dX10_fits_14 : decode cX10_fits 14 = .ok (.iaload, 1) := by decide +kernel
theorem dX10_fits_15 : decode cX10_fits 15 = .ok (.if_icmp .gt 7, 3) := by decide +kernel
theorem dX10_fits_18 : decode cX10_fits 18 = .ok (.iconst 1, 1) := by decide +kernel
theorem dX10_fits_19 : decode cX10_fits 19 = .ok (.goto 4, 3) := by decide +kernel
theorem dX10_fits_22 : decode cX10_fits 22 = .ok (.iconst 0, 1) := by decide +kernel
theorem dX10_fits_23 : decode cX10_fits 23 = .ok (.ireturn, 1) := by decide +kernel
theorem dX10_isBoat_0 : decode cX10_isBoat 0 = .ok (.iload_n 1, 1) := by decide +kernel
theorem dX10_isBoat_1 : decode cX10_isBoat 1 = .ok (.ifCond .lt 15, 3) := by decide +kernel
theorem dX10_isBoat_4 : decode cX10_isBoat 4 = .ok (.iload_n 1, 1) := by decide +kernel
theorem dX10_isBoat_5 : decode cX10_isBoat 5 = .ok (.aload_n 0, 1) := by decide +kernel
theorem dX10_isBoat_6 : decode cX10_isBoat 6 = .ok (.getfield 92, 3) := by decide +kernel
theorem dX10_isBoat_9 : decode cX10_isBoat 9 = .ok (.if_icmp .ge 7, 3) := by decide +kernel
theorem dX10_isBoat_12 : decode cX10_isBoat 12 = .ok (.iconst 1, 1) := by decide +kernel
theorem dX10_isBoat_13 : decode cX10_isBoat 13 = .ok (.goto 4, 3) := by decide +kernel
theorem dX10_isBoat_16 : decode cX10_isBoat 16 = .ok (.iconst 0, 1) := by decide +kernel
theorem dX10_isBoat_17 : decode cX10_isBoat 17 = .ok (.ireturn, 1) := by decide +kernel
theorem dX10_newBoat_0 : decode cX10_newBoat 0 = .ok (.iload_n 0, 1) := by decide +kernel
theorem dX10_newBoat_1 : decode cX10_newBoat 1 = .ok (.tableswitch 85 1 5 #[35, 45, 55, 65, 75], 35) := by decide +kernel
theorem dX10_newBoat_36 : decode cX10_newBoat 36 = .ok (.new 128, 3) := by decide +kernel
theorem dX10_newBoat_39 : decode cX10_newBoat 39 = .ok (.dup, 1) := by decide +kernel
theorem dX10_newBoat_40 : decode cX10_newBoat 40 = .ok (.iload_n 1, 1) := by decide +kernel
theorem dX10_newBoat_41 : decode cX10_newBoat 41 = .ok (.iload_n 2, 1) := by decide +kernel
theorem dX10_newBoat_42 : decode cX10_newBoat 42 = .ok (.invokespecial 130, 3) := by decide +kernel
theorem dX10_newBoat_45 : decode cX10_newBoat 45 = .ok (.areturn, 1) := by decide +kernel
theorem dX10_newBoat_46 : decode cX10_newBoat 46 = .ok (.new 133, 3) := by decide +kernel
theorem dX10_newBoat_49 : decode cX10_newBoat 49 = .ok (.dup, 1) := by decide +kernel
theorem dX10_newBoat_50 : decode cX10_newBoat 50 = .ok (.iload_n 1, 1) := by decide +kernel
theorem dX10_newBoat_51 : decode cX10_newBoat 51 = .ok (.iload_n 2, 1) := by decide +kernel
theorem dX10_newBoat_52 : decode cX10_newBoat 52 = .ok (.invokespecial 135, 3) := by decide +kernel
theorem dX10_newBoat_55 : decode cX10_newBoat 55 = .ok (.areturn, 1) := by decide +kernel
theorem dX10_newBoat_56 : decode cX10_newBoat 56 = .ok (.new 136, 3) := by decide +kernel
theorem dX10_newBoat_59 : decode cX10_newBoat 59 = .ok (.dup, 1) := by decide +kernel
theorem dX10_newBoat_60 : decode cX10_newBoat 60 = .ok (.iload_n 1, 1) := by decide +kernel
theorem dX10_newBoat_61 : decode cX10_newBoat 61 = .ok (.iload_n 2, 1) := by decide +kernel
theorem dX10_newBoat_62 : decode cX10_newBoat 62 = .ok (.invokespecial 138, 3) := by decide +kernel
theorem dX10_newBoat_65 : decode cX10_newBoat 65 = .ok (.areturn, 1) := by decide +kernel
theorem dX10_newBoat_66 : decode cX10_newBoat 66 = .ok (.new 139, 3) := by decide +kernel
theorem dX10_newBoat_69 : decode cX10_newBoat 69 = .ok (.dup, 1) := by decide +kernel
theorem dX10_newBoat_70 : decode cX10_newBoat 70 = .ok (.iload_n 1, 1) := by decide +kernel
theorem dX10_newBoat_71 : decode cX10_newBoat 71 = .ok (.iload_n 2, 1) := by decide +kernel
theorem dX10_newBoat_72 : decode cX10_newBoat 72 = .ok (.invokespecial 141, 3) := by decide +kernel
theorem dX10_newBoat_75 : decode cX10_newBoat 75 = .ok (.areturn, 1) := by decide +kernel
theorem dX10_newBoat_76 : decode cX10_newBoat 76 = .ok (.new 142, 3) := by decide +kernel
theorem dX10_newBoat_79 : decode cX10_newBoat 79 = .ok (.dup, 1) := by decide +kernel
theorem dX10_newBoat_80 : decode cX10_newBoat 80 = .ok (.iload_n 1, 1) := by decide +kernel
theorem dX10_newBoat_81 : decode cX10_newBoat 81 = .ok (.iload_n 2, 1) := by decide +kernel
theorem dX10_newBoat_82 : decode cX10_newBoat 82 = .ok (.invokespecial 144, 3) := by decide +kernel
theorem dX10_newBoat_85 : decode cX10_newBoat 85 = .ok (.areturn, 1) := by decide +kernel
theorem dX10_newBoat_86 : decode cX10_newBoat 86 = .ok (.new 9, 3) := by decide +kernel
theorem dX10_newBoat_89 : decode cX10_newBoat 89 = .ok (.dup, 1) := by decide +kernel
theorem dX10_newBoat_90 : decode cX10_newBoat 90 = .ok (.iload_n 1, 1) := by decide +kernel
theorem dX10_newBoat_91 : decode cX10_newBoat 91 = .ok (.iload_n 2, 1) := by decide +kernel
theorem dX10_newBoat_92 : decode cX10_newBoat 92 = .ok (.invokespecial 145, 3) := by decide +kernel
theorem dX10_newBoat_95 : decode cX10_newBoat 95 = .ok (.areturn, 1) := by decide +kernel
theorem dX10_feed_0 : decode cX10_feed 0 = .ok (.iload_n 1, 1) := by decide +kernel
theorem dX10_feed_1 : decode cX10_feed 1 = .ok (.ifCond .lt 10, 3) := by decide +kernel
theorem dX10_feed_4 : decode cX10_feed 4 = .ok (.iload_n 1, 1) := by decide +kernel
theorem dX10_feed_5 : decode cX10_feed 5 = .ok (.sipush 255, 3) := by decide +kernel
theorem dX10_feed_8 : decode cX10_feed 8 = .ok (.if_icmp .le 6, 3) := by decide +kernel
theorem dX10_feed_11 : decode cX10_feed 11 = .ok (.bipush (-2), 2) := by decide +kernel
theorem dX10_feed_13 : decode cX10_feed 13 = .ok (.ireturn, 1) := by decide +kernel
theorem dX10_feed_14 : decode cX10_feed 14 = .ok (.aload_n 0, 1) := by decide +kernel
theorem dX10_feed_15 : decode cX10_feed 15 = .ok (.getfield 29, 3) := by decide +kernel
theorem dX10_feed_18 : decode cX10_feed 18 = .ok (.iload_n 1, 1) := by decide +kernel
theorem dX10_feed_19 : decode cX10_feed 19 = .ok (.invokevirtual 71, 3) := by decide +kernel
theorem dX10_feed_22 : decode cX10_feed 22 = .ok (.ifCond .eq 13, 3) := by decide +kernel
theorem dX10_feed_25 : decode cX10_feed 25 = .ok (.aload_n 0, 1) := by decide +kernel
theorem dX10_feed_26 : decode cX10_feed 26 = .ok (.getfield 29, 3) := by decide +kernel
theorem dX10_feed_29 : decode cX10_feed 29 = .ok (.getfield 146, 3) := by decide +kernel
theorem dX10_feed_32 : decode cX10_feed 32 = .ok (.goto 5, 3) := by decide +kernel
theorem dX10_feed_35 : decode cX10_feed 35 = .ok (.bipush (-4), 2) := by decide +kernel
theorem dX10_feed_37 : decode cX10_feed 37 = .ok (.ireturn, 1) := by decide +kernel
theorem dX10_text_0 : decode cX10_text 0 = .ok (.aload_n 0, 1) := by decide +kernel
theorem dX10_text_1 : decode cX10_text 1 = .ok (.getfield 82, 3) := by decide +kernel
theorem dX10_text_4 : decode cX10_text 4 = .ok (.bipush 6, 2) := by decide +kernel
theorem dX10_text_6 : decode cX10_text 6 = .ok (.if_icmp .lt 6, 3) := by decide +kernel
theorem dX10_text_9 : decode cX10_text 9 = .ok (.bipush (-4), 2) := by decide +kernel
theorem dX10_text_11 : decode cX10_text 11 = .ok (.ireturn, 1) := by decide +kernel
theorem dX10_text_12 : decode cX10_text 12 = .ok (.aload_n 0, 1) := by decide +kernel
theorem dX10_text_13 : decode cX10_text 13 = .ok (.getfield 29, 3) := by decide +kernel
theorem dX10_text_16 : decode cX10_text 16 = .ok (.invokevirtual 75, 3) := by decide +kernel
theorem dX10_text_19 : decode cX10_text 19 = .ok (.istore_n 1, 1) := by decide +kernel
theorem dX10_text_20 : decode cX10_text 20 = .ok (.iload_n 1, 1) := by decide +kernel
theorem dX10_text_21 : decode cX10_text 21 = .ok (.iconst (-1), 1) := by decide +kernel
theorem dX10_text_22 : decode cX10_text 22 = .ok (.if_icmp .ne 29, 3) := by decide +kernel
theorem dX10_text_25 : decode cX10_text 25 = .ok (.aload_n 0, 1) := by decide +kernel
theorem dX10_text_26 : decode cX10_text 26 = .ok (.getfield 35, 3) := by decide +kernel
theorem dX10_text_29 : decode cX10_text 29 = .ok (.aload_n 0, 1) := by decide +kernel
theorem dX10_text_30 : decode cX10_text 30 = .ok (.getfield 82, 3) := by decide +kernel
theorem dX10_text_33 : decode cX10_text 33 = .ok (.aload_n 0, 1) := by decide +kernel
theorem dX10_text_34 : decode cX10_text 34 = .ok (.getfield 29, 3) := by decide +kernel
theorem dX10_text_37 : decode cX10_text 37 = .ok (.invokevirtual 78, 3) := by decide +kernel
theorem dX10_text_40 : decode cX10_text 40 = .ok (.aastore, 1) := by decide +kernel
theorem dX10_text_41 : decode cX10_text 41 = .ok (.aload_n 0, 1) := by decide +kernel
theorem dX10_text_42 : decode cX10_text 42 = .ok (.dup, 1) := by decide +kernel
theorem dX10_text_43 : decode cX10_text 43 = .ok (.getfield 82, 3) := by decide +kernel
theorem dX10_text_46 : decode cX10_text 46 = .ok (.iconst 1, 1) := by decide +kernel
theorem dX10_text_47 : decode cX10_text 47 = .ok (.iadd, 1) := by decide +kernel
theorem dX10_text_48 : decode cX10_text 48 = .ok (.putfield 82, 3) := by decide +kernel
theorem dX10_text_51 : decode cX10_text 51 = .ok (.aload_n 0, 1) := by decide +kernel
theorem dX10_text_52 : decode cX10_text 52 = .ok (.getfield 29, 3) := by decide +kernel
theorem dX10_text_55 : decode cX10_text 55 = .ok (.invokevirtual 85, 3) := by decide +kernel
theorem dX10_text_58 : decode cX10_text 58 = .ok (.iload_n 1, 1) := by decide +kernel
theorem dX10_text_59 : decode cX10_text 59 = .ok (.iconst (-1), 1) := by decide +kernel
theorem dX10_text_60 : decode cX10_text 60 = .ok (.if_icmp .ne 12, 3) := by decide +kernel
theorem dX10_text_63 : decode cX10_text 63 = .ok (.aload_n 0, 1) := by decide +kernel
theorem dX10_text_64 : decode cX10_text 64 = .ok (.getfield 82, 3) := by decide +kernel
theorem dX10_text_67 : decode cX10_text 67 = .ok (.iconst 1, 1) := by decide +kernel
theorem dX10_text_68 : decode cX10_text 68 = .ok (.isub, 1) := by decide +kernel
theorem dX10_text_69 : decode cX10_text 69 = .ok (.goto 7, 3) := by decide +kernel
theorem dX10_text_72 : decode cX10_text 72 = .ok (.bipush (-100), 2) := by decide +kernel
theorem dX10_text_74 : decode cX10_text 74 = .ok (.iload_n 1, 1) := by decide +kernel
theorem dX10_text_75 : decode cX10_text 75 = .ok (.isub, 1) := by decide +kernel
theorem dX10_text_76 : decode cX10_text 76 = .ok (.ireturn, 1) := by decide +kernel
theorem dX10_force_0 : decode cX10_force 0 = .ok (.iload_n 1, 1) := by decide +kernel
theorem dX10_force_1 : decode cX10_force 1 = .ok (.ifCond .lt 11, 3) := by decide +kernel
theorem dX10_force_4 : decode cX10_force 4 = .ok (.iload_n 1, 1) := by decide +kernel
theorem dX10_force_5 : decode cX10_force 5 = .ok (.aload_n 0, 1) := by decide +kernel
theorem dX10_force_6 : decode cX10_force 6 = .ok (.getfield 82, 3) := by decide +kernel
theorem dX10_force_9 : decode cX10_force 9 = .ok (.if_icmp .lt 6, 3) := by decide +kernel
theorem dX10_force_12 : decode cX10_force 12 = .ok (.bipush (-2), 2) := by decide +kernel
theorem dX10_force_14 : decode cX10_force 14 = .ok (.ireturn, 1) := by decide +kernel
theorem dX10_force_15 : decode cX10_force 15 = .ok (.aload_n 0, 1) := by decide +kernel
theorem dX10_force_16 : decode cX10_force 16 = .ok (.getfield 15, 3) := by decide +kernel
theorem dX10_force_19 : decode cX10_force 19 = .ok (.bipush 11, 2) := by decide +kernel
theorem dX10_force_21 : decode cX10_force 21 = .ok (.iaload, 1) := by decide +kernel
theorem dX10_force_22 : decode cX10_force 22 = .ok (.istore_n 2, 1) := by decide +kernel
theorem dX10_force_23 : decode cX10_force 23 = .ok (.aload_n 0, 1) := by decide +kernel
theorem dX10_force_24 : decode cX10_force 24 = .ok (.getfield 15, 3) := by decide +kernel
theorem dX10_force_27 : decode cX10_force 27 = .ok (.bipush 11, 2) := by decide +kernel
theorem dX10_force_29 : decode cX10_force 29 = .ok (.iload_n 1, 1) := by decide +kernel
theorem dX10_force_30 : decode cX10_force 30 = .ok (.iastore, 1) := by decide +kernel
theorem dX10_force_31 : decode cX10_force 31 = .ok (.iload_n 2, 1) := by decide +kernel
theorem dX10_force_32 : decode cX10_force 32 = .ok (.ireturn, 1) := by decide +kernel
theorem dX10_rule_0 : decode cX10_rule 0 = .ok (.aload_n 0, 1) := by decide +kernel
theorem dX10_rule_1 : decode cX10_rule 1 = .ok (.getfield 35, 3) := by decide +kernel
theorem dX10_rule_4 : decode cX10_rule 4 = .ok (.aload_n 0, 1) := by decide +kernel
theorem dX10_rule_5 : decode cX10_rule 5 = .ok (.getfield 15, 3) := by decide +kernel
theorem dX10_rule_8 : decode cX10_rule 8 = .ok (.bipush 11, 2) := by decide +kernel
theorem dX10_rule_10 : decode cX10_rule 10 = .ok (.iaload, 1) := by decide +kernel
theorem dX10_rule_11 : decode cX10_rule 11 = .ok (.aaload, 1) := by decide +kernel
theorem dX10_rule_12 : decode cX10_rule 12 = .ok (.areturn, 1) := by decide +kernel
theorem dX10_nameAll_0 : decode cX10_nameAll 0 = .ok (.aload_n 0, 1) := by decide +kernel
theorem dX10_nameAll_1 : decode cX10_nameAll 1 = .ok (.getfield 39, 3) := by decide +kernel
theorem dX10_nameAll_4 : decode cX10_nameAll 4 = .ok (.iconst 0, 1) := by decide +kernel
theorem dX10_nameAll_5 : decode cX10_nameAll 5 = .ok (.iconst 0, 1) := by decide +kernel
theorem dX10_nameAll_6 : decode cX10_nameAll 6 = .ok (.iload_n 2, 1) := by decide +kernel
theorem dX10_nameAll_7 : decode cX10_nameAll 7 = .ok (.invokestatic 149, 3) := by decide +kernel
theorem dX10_nameAll_10 : decode cX10_nameAll 10 = .ok (.iastore, 1) := by decide +kernel
theorem dX10_nameAll_11 : decode cX10_nameAll 11 = .ok (.aload_n 0, 1) := by decide +kernel
theorem dX10_nameAll_12 : decode cX10_nameAll 12 = .ok (.getfield 39, 3) := by decide +kernel
theorem dX10_nameAll_15 : decode cX10_nameAll 15 = .ok (.iconst 1, 1) := by decide +kernel
theorem dX10_nameAll_16 : decode cX10_nameAll 16 = .ok (.iload 4, 2) := by decide +kernel
theorem dX10_nameAll_18 : decode cX10_nameAll 18 = .ok (.iastore, 1) := by decide +kernel
theorem dX10_nameAll_19 : decode cX10_nameAll 19 = .ok (.aload_n 0, 1) := by decide +kernel
theorem dX10_nameAll_20 : decode cX10_nameAll 20 = .ok (.getfield 39, 3) := by decide +kernel
theorem dX10_nameAll_23 : decode cX10_nameAll 23 = .ok (.iconst 2, 1) := by decide +kernel
theorem dX10_nameAll_24 : decode cX10_nameAll 24 = .ok (.iload_n 3, 1) := by decide +kernel
theorem dX10_nameAll_25 : decode cX10_nameAll 25 = .ok (.aload_n 0, 1) := by decide +kernel
theorem dX10_nameAll_26 : decode cX10_nameAll 26 = .ok (.getfield 11, 3) := by decide +kernel
theorem dX10_nameAll_29 : decode cX10_nameAll 29 = .ok (.iload_n 1, 1) := by decide +kernel
theorem dX10_nameAll_30 : decode cX10_nameAll 30 = .ok (.aaload, 1) := by decide +kernel
theorem dX10_nameAll_31 : decode cX10_nameAll 31 = .ok (.invokevirtual 152, 3) := by decide +kernel
theorem dX10_nameAll_34 : decode cX10_nameAll 34 = .ok (.isub, 1) := by decide +kernel
theorem dX10_nameAll_35 : decode cX10_nameAll 35 = .ok (.iastore, 1) := by decide +kernel
theorem dX10_nameAll_36 : decode cX10_nameAll 36 = .ok (.aload_n 0, 1) := by decide +kernel
theorem dX10_nameAll_37 : decode cX10_nameAll 37 = .ok (.getfield 39, 3) := by decide +kernel
theorem dX10_nameAll_40 : decode cX10_nameAll 40 = .ok (.iconst 3, 1) := by decide +kernel
theorem dX10_nameAll_41 : decode cX10_nameAll 41 = .ok (.aload_n 0, 1) := by decide +kernel
theorem dX10_nameAll_42 : decode cX10_nameAll 42 = .ok (.iload_n 2, 1) := by decide +kernel
theorem dX10_nameAll_43 : decode cX10_nameAll 43 = .ok (.invokevirtual 155, 3) := by decide +kernel
theorem dX10_nameAll_46 : decode cX10_nameAll 46 = .ok (.ifCond .eq 7, 3) := by decide +kernel
theorem dX10_nameAll_49 : decode cX10_nameAll 49 = .ok (.iconst 1, 1) := by decide +kernel
theorem dX10_nameAll_50 : decode cX10_nameAll 50 = .ok (.goto 4, 3) := by decide +kernel
theorem dX10_nameAll_53 : decode cX10_nameAll 53 = .ok (.iconst 0, 1) := by decide +kernel
theorem dX10_nameAll_54 : decode cX10_nameAll 54 = .ok (.iastore, 1) := by decide +kernel
theorem dX10_nameAll_55 : decode cX10_nameAll 55 = .ok (.aload_n 0, 1) := by decide +kernel
theorem dX10_nameAll_56 : decode cX10_nameAll 56 = .ok (.getfield 39, 3) := by decide +kernel
theorem dX10_nameAll_59 : decode cX10_nameAll 59 = .ok (.iconst 4, 1) := by decide +kernel
theorem dX10_nameAll_60 : decode cX10_nameAll 60 = .ok (.iload_n 1, 1) := by decide +kernel
theorem dX10_nameAll_61 : decode cX10_nameAll 61 = .ok (.iastore, 1) := by decide +kernel
theorem dX10_nameAll_62 : decode cX10_nameAll 62 = .ok (.aload_n 0, 1) := by decide +kernel
theorem dX10_nameAll_63 : decode cX10_nameAll 63 = .ok (.getfield 39, 3) := by decide +kernel
theorem dX10_nameAll_66 : decode cX10_nameAll 66 = .ok (.iconst 5, 1) := by decide +kernel
theorem dX10_nameAll_67 : decode cX10_nameAll 67 = .ok (.iload_n 3, 1) := by decide +kernel
theorem dX10_nameAll_68 : decode cX10_nameAll 68 = .ok (.iastore, 1) := by decide +kernel
theorem dX10_nameAll_69 : decode cX10_nameAll 69 = .ok (.return_, 1) := by decide +kernel
theorem dX10_isHidden_0 : decode cX10_isHidden 0 = .ok (.iload_n 1, 1) := by decide +kernel
theorem dX10_isHidden_1 : decode cX10_isHidden 1 = .ok (.bipush 8, 2) := by decide +kernel
theorem dX10_isHidden_3 : decode cX10_isHidden 3 = .ok (.idiv, 1) := by decide +kernel
theorem dX10_isHidden_4 : decode cX10_isHidden 4 = .ok (.aload_n 0, 1) := by decide +kernel
theorem dX10_isHidden_5 : decode cX10_isHidden 5 = .ok (.getfield 15, 3) := by decide +kernel
theorem dX10_isHidden_8 : decode cX10_isHidden 8 = .ok (.iconst 4, 1) := by decide +kernel
theorem dX10_isHidden_9 : decode cX10_isHidden 9 = .ok (.iaload, 1) := by decide +kernel
theorem dX10_isHidden_10 : decode cX10_isHidden 10 = .ok (.bipush 8, 2) := by decide +kernel
theorem dX10_isHidden_12 : decode cX10_isHidden 12 = .ok (.idiv, 1) := by decide +kernel
theorem dX10_isHidden_13 : decode cX10_isHidden 13 = .ok (.if_icmp .ne 23, 3) := by decide +kernel
theorem dX10_isHidden_16 : decode cX10_isHidden 16 = .ok (.iload_n 1, 1) := by decide +kernel
theorem dX10_isHidden_17 : decode cX10_isHidden 17 = .ok (.bipush 8, 2) := by decide +kernel
theorem dX10_isHidden_19 : decode cX10_isHidden 19 = .ok (.irem, 1) := by decide +kernel
theorem dX10_isHidden_20 : decode cX10_isHidden 20 = .ok (.aload_n 0, 1) := by decide +kernel
theorem dX10_isHidden_21 : decode cX10_isHidden 21 = .ok (.getfield 15, 3) := by decide +kernel
theorem dX10_isHidden_24 : decode cX10_isHidden 24 = .ok (.iconst 4, 1) := by decide +kernel
theorem dX10_isHidden_25 : decode cX10_isHidden 25 = .ok (.iaload, 1) := by decide +kernel
theorem dX10_isHidden_26 : decode cX10_isHidden 26 = .ok (.bipush 8, 2) := by decide +kernel
theorem dX10_isHidden_28 : decode cX10_isHidden 28 = .ok (.irem, 1) := by decide +kernel
theorem dX10_isHidden_29 : decode cX10_isHidden 29 = .ok (.if_icmp .le 7, 3) := by decide +kernel
theorem dX10_isHidden_32 : decode cX10_isHidden 32 = .ok (.iconst 1, 1) := by decide +kernel
theorem dX10_isHidden_33 : decode cX10_isHidden 33 = .ok (.goto 4, 3) := by decide +kernel
theorem dX10_isHidden_36 : decode cX10_isHidden 36 = .ok (.iconst 0, 1) := by decide +kernel
theorem dX10_isHidden_37 : decode cX10_isHidden 37 = .ok (.ireturn, 1) := by decide +kernel
theorem dX10_far_0 : decode cX10_far 0 = .ok (.iload_n 0, 1) := by decide +kernel
theorem dX10_far_1 : decode cX10_far 1 = .ok (.bipush 8, 2) := by decide +kernel
theorem dX10_far_3 : decode cX10_far 3 = .ok (.idiv, 1) := by decide +kernel
theorem dX10_far_4 : decode cX10_far 4 = .ok (.iload_n 1, 1) := by decide +kernel
theorem dX10_far_5 : decode cX10_far 5 = .ok (.bipush 8, 2) := by decide +kernel
theorem dX10_far_7 : decode cX10_far 7 = .ok (.idiv, 1) := by decide +kernel
theorem dX10_far_8 : decode cX10_far 8 = .ok (.isub, 1) := by decide +kernel
theorem dX10_far_9 : decode cX10_far 9 = .ok (.invokestatic 158, 3) := by decide +kernel
theorem dX10_far_12 : decode cX10_far 12 = .ok (.iload_n 0, 1) := by decide +kernel
theorem dX10_far_13 : decode cX10_far 13 = .ok (.bipush 8, 2) := by decide +kernel
theorem dX10_far_15 : decode cX10_far 15 = .ok (.irem, 1) := by decide +kernel
theorem dX10_far_16 : decode cX10_far 16 = .ok (.iload_n 1, 1) := by decide +kernel
theorem dX10_far_17 : decode cX10_far 17 = .ok (.bipush 8, 2) := by decide +kernel
theorem dX10_far_19 : decode cX10_far 19 = .ok (.irem, 1) := by decide +kernel
theorem dX10_far_20 : decode cX10_far 20 = .ok (.isub, 1) := by decide +kernel
theorem dX10_far_21 : decode cX10_far 21 = .ok (.invokestatic 158, 3) := by decide +kernel
theorem dX10_far_24 : decode cX10_far 24 = .ok (.iadd, 1) := by decide +kernel
theorem dX10_far_25 : decode cX10_far 25 = .ok (.ireturn, 1) := by decide +kernel
theorem dX10_call_0 : decode cX10_call 0 = .ok (.aload_n 0, 1) := by decide +kernel
theorem dX10_call_1 : decode cX10_call 1 = .ok (.iload_n 1, 1) := by decide +kernel
theorem dX10_call_2 : decode cX10_call 2 = .ok (.invokevirtual 99, 3) := by decide +kernel
theorem dX10_call_5 : decode cX10_call 5 = .ok (.ifCond .ne 6, 3) := by decide +kernel
theorem dX10_call_8 : decode cX10_call 8 = .ok (.bipush (-2), 2) := by decide +kernel
theorem dX10_call_10 : decode cX10_call 10 = .ok (.ireturn, 1) := by decide +kernel
theorem dX10_call_11 : decode cX10_call 11 = .ok (.aload_n 0, 1) := by decide +kernel
theorem dX10_call_12 : decode cX10_call 12 = .ok (.iload_n 1, 1) := by decide +kernel
theorem dX10_call_13 : decode cX10_call 13 = .ok (.invokevirtual 163, 3) := by decide +kernel
theorem dX10_call_16 : decode cX10_call 16 = .ok (.ifCond .ne 6, 3) := by decide +kernel
theorem dX10_call_19 : decode cX10_call 19 = .ok (.bipush (-3), 2) := by decide +kernel
theorem dX10_call_21 : decode cX10_call 21 = .ok (.ireturn, 1) := by decide +kernel
theorem dX10_call_22 : decode cX10_call 22 = .ok (.aload_n 0, 1) := by decide +kernel
theorem dX10_call_23 : decode cX10_call 23 = .ok (.iload_n 1, 1) := by decide +kernel
theorem dX10_call_24 : decode cX10_call 24 = .ok (.invokevirtual 115, 3) := by decide +kernel
theorem dX10_call_27 : decode cX10_call 27 = .ok (.ifCond .ne 5, 3) := by decide +kernel
theorem dX10_call_30 : decode cX10_call 30 = .ok (.iconst 0, 1) := by decide +kernel
theorem dX10_call_31 : decode cX10_call 31 = .ok (.ireturn, 1) := by decide +kernel
theorem dX10_call_32 : decode cX10_call 32 = .ok (.aload_n 0, 1) := by decide +kernel
theorem dX10_call_33 : decode cX10_call 33 = .ok (.getfield 11, 3) := by decide +kernel
theorem dX10_call_36 : decode cX10_call 36 = .ok (.iload_n 1, 1) := by decide +kernel
theorem dX10_call_37 : decode cX10_call 37 = .ok (.aaload, 1) := by decide +kernel
theorem dX10_call_38 : decode cX10_call 38 = .ok (.getfield 102, 3) := by decide +kernel
theorem dX10_call_41 : decode cX10_call 41 = .ok (.iconst 4, 1) := by decide +kernel
theorem dX10_call_42 : decode cX10_call 42 = .ok (.iconst 1, 1) := by decide +kernel
theorem dX10_call_43 : decode cX10_call 43 = .ok (.iastore, 1) := by decide +kernel
theorem dX10_call_44 : decode cX10_call 44 = .ok (.aload_n 0, 1) := by decide +kernel
theorem dX10_call_45 : decode cX10_call 45 = .ok (.getfield 11, 3) := by decide +kernel
theorem dX10_call_48 : decode cX10_call 48 = .ok (.iload_n 1, 1) := by decide +kernel
theorem dX10_call_49 : decode cX10_call 49 = .ok (.aaload, 1) := by decide +kernel
theorem dX10_call_50 : decode cX10_call 50 = .ok (.getfield 102, 3) := by decide +kernel
theorem dX10_call_53 : decode cX10_call 53 = .ok (.iconst 5, 1) := by decide +kernel
theorem dX10_call_54 : decode cX10_call 54 = .ok (.aload_n 0, 1) := by decide +kernel
theorem dX10_call_55 : decode cX10_call 55 = .ok (.getfield 15, 3) := by decide +kernel
theorem dX10_call_58 : decode cX10_call 58 = .ok (.bipush 9, 2) := by decide +kernel
theorem dX10_call_60 : decode cX10_call 60 = .ok (.iaload, 1) := by decide +kernel
theorem dX10_call_61 : decode cX10_call 61 = .ok (.aload_n 0, 1) := by decide +kernel
theorem dX10_call_62 : decode cX10_call 62 = .ok (.iload_n 1, 1) := by decide +kernel
theorem dX10_call_63 : decode cX10_call 63 = .ok (.invokevirtual 166, 3) := by decide +kernel
theorem dX10_call_66 : decode cX10_call 66 = .ok (.iadd, 1) := by decide +kernel
theorem dX10_call_67 : decode cX10_call 67 = .ok (.iastore, 1) := by decide +kernel
theorem dX10_call_68 : decode cX10_call 68 = .ok (.iconst 1, 1) := by decide +kernel
theorem dX10_call_69 : decode cX10_call 69 = .ok (.ireturn, 1) := by decide +kernel
theorem dX10_time_0 : decode cX10_time 0 = .ok (.iload_n 1, 1) := by decide +kernel
theorem dX10_time_1 : decode cX10_time 1 = .ok (.ifCond .lt 10, 3) := by decide +kernel
theorem dX10_time_4 : decode cX10_time 4 = .ok (.iload_n 1, 1) := by decide +kernel
theorem dX10_time_5 : decode cX10_time 5 = .ok (.sipush 240, 3) := by decide +kernel
theorem dX10_time_8 : decode cX10_time 8 = .ok (.if_icmp .le 8, 3) := by decide +kernel
theorem dX10_time_11 : decode cX10_time 11 = .ok (.bipush (-2), 2) := by decide +kernel
theorem dX10_time_13 : decode cX10_time 13 = .ok (.goto 8, 3) := by decide +kernel
theorem dX10_time_16 : decode cX10_time 16 = .ok (.aload_n 0, 1) := by decide +kernel
theorem dX10_time_17 : decode cX10_time 17 = .ok (.iload_n 1, 1) := by decide +kernel
theorem dX10_time_18 : decode cX10_time 18 = .ok (.invokevirtual 169, 3) := by decide +kernel
theorem dX10_time_21 : decode cX10_time 21 = .ok (.ireturn, 1) := by decide +kernel
theorem dX10_nobody_0 : decode cX10_nobody 0 = .ok (.iconst 0, 1) := by decide +kernel
theorem dX10_nobody_1 : decode cX10_nobody 1 = .ok (.istore_n 1, 1) := by decide +kernel
theorem dX10_nobody_2 : decode cX10_nobody 2 = .ok (.iconst 0, 1) := by decide +kernel
theorem dX10_nobody_3 : decode cX10_nobody 3 = .ok (.istore_n 2, 1) := by decide +kernel
theorem dX10_nobody_4 : decode cX10_nobody 4 = .ok (.iload_n 2, 1) := by decide +kernel
theorem dX10_nobody_5 : decode cX10_nobody 5 = .ok (.aload_n 0, 1) := by decide +kernel
theorem dX10_nobody_6 : decode cX10_nobody 6 = .ok (.getfield 92, 3) := by decide +kernel
theorem dX10_nobody_9 : decode cX10_nobody 9 = .ok (.if_icmp .ge 31, 3) := by decide +kernel
theorem dX10_nobody_12 : decode cX10_nobody 12 = .ok (.aload_n 0, 1) := by decide +kernel
theorem dX10_nobody_13 : decode cX10_nobody 13 = .ok (.iload_n 2, 1) := by decide +kernel
theorem dX10_nobody_14 : decode cX10_nobody 14 = .ok (.invokevirtual 163, 3) := by decide +kernel
theorem dX10_nobody_17 : decode cX10_nobody 17 = .ok (.ifCond .eq 17, 3) := by decide +kernel
theorem dX10_nobody_20 : decode cX10_nobody 20 = .ok (.aload_n 0, 1) := by decide +kernel
theorem dX10_nobody_21 : decode cX10_nobody 21 = .ok (.iload_n 2, 1) := by decide +kernel
theorem dX10_nobody_22 : decode cX10_nobody 22 = .ok (.invokevirtual 115, 3) := by decide +kernel
theorem dX10_nobody_25 : decode cX10_nobody 25 = .ok (.ifCond .ne 9, 3) := by decide +kernel
theorem dX10_nobody_28 : decode cX10_nobody 28 = .ok (.iload_n 1, 1) := by decide +kernel
theorem dX10_nobody_29 : decode cX10_nobody 29 = .ok (.iconst 1, 1) := by decide +kernel
theorem dX10_nobody_30 : decode cX10_nobody 30 = .ok (.iload_n 2, 1) := by decide +kernel
theorem dX10_nobody_31 : decode cX10_nobody 31 = .ok (.ishl, 1) := by decide +kernel
theorem dX10_nobody_32 : decode cX10_nobody 32 = .ok (.ior, 1) := by decide +kernel
theorem dX10_nobody_33 : decode cX10_nobody 33 = .ok (.istore_n 1, 1) := by decide +kernel
theorem dX10_nobody_34 : decode cX10_nobody 34 = .ok (.iinc 2 1, 3) := by decide +kernel
theorem dX10_nobody_37 : decode cX10_nobody 37 = .ok (.goto (-33), 3) := by decide +kernel
theorem dX10_nobody_40 : decode cX10_nobody 40 = .ok (.iload_n 1, 1) := by decide +kernel
theorem dX10_nobody_41 : decode cX10_nobody 41 = .ok (.ireturn, 1) := by decide +kernel
theorem dX10_callAt_0 : decode cX10_callAt 0 = .ok (.aload_n 0, 1) := by decide +kernel
theorem dX10_callAt_1 : decode cX10_callAt 1 = .ok (.iload_n 1, 1) := by decide +kernel
theorem dX10_callAt_2 : decode cX10_callAt 2 = .ok (.invokevirtual 99, 3) := by decide +kernel
theorem dX10_callAt_5 : decode cX10_callAt 5 = .ok (.ifCond .ne 6, 3) := by decide +kernel
theorem dX10_callAt_8 : decode cX10_callAt 8 = .ok (.bipush (-2), 2) := by decide +kernel
theorem dX10_callAt_10 : decode cX10_callAt 10 = .ok (.ireturn, 1) := by decide +kernel
theorem dX10_callAt_11 : decode cX10_callAt 11 = .ok (.aload_n 0, 1) := by decide +kernel
theorem dX10_callAt_12 : decode cX10_callAt 12 = .ok (.iload_n 1, 1) := by decide +kernel
theorem dX10_callAt_13 : decode cX10_callAt 13 = .ok (.invokevirtual 163, 3) := by decide +kernel
theorem dX10_callAt_16 : decode cX10_callAt 16 = .ok (.ifCond .ne 6, 3) := by decide +kernel
theorem dX10_callAt_19 : decode cX10_callAt 19 = .ok (.bipush (-3), 2) := by decide +kernel
theorem dX10_callAt_21 : decode cX10_callAt 21 = .ok (.ireturn, 1) := by decide +kernel
theorem dX10_callAt_22 : decode cX10_callAt 22 = .ok (.aload_n 0, 1) := by decide +kernel
theorem dX10_callAt_23 : decode cX10_callAt 23 = .ok (.getfield 11, 3) := by decide +kernel
theorem dX10_callAt_26 : decode cX10_callAt 26 = .ok (.iload_n 1, 1) := by decide +kernel
theorem dX10_callAt_27 : decode cX10_callAt 27 = .ok (.aaload, 1) := by decide +kernel
theorem dX10_callAt_28 : decode cX10_callAt 28 = .ok (.invokevirtual 152, 3) := by decide +kernel
theorem dX10_callAt_31 : decode cX10_callAt 31 = .ok (.aload_n 0, 1) := by decide +kernel
theorem dX10_callAt_32 : decode cX10_callAt 32 = .ok (.iload_n 1, 1) := by decide +kernel
theorem dX10_callAt_33 : decode cX10_callAt 33 = .ok (.invokevirtual 166, 3) := by decide +kernel
theorem dX10_callAt_36 : decode cX10_callAt 36 = .ok (.isub, 1) := by decide +kernel
theorem dX10_callAt_37 : decode cX10_callAt 37 = .ok (.istore_n 2, 1) := by decide +kernel
theorem dX10_callAt_38 : decode cX10_callAt 38 = .ok (.iconst 0, 1) := by decide +kernel
theorem dX10_callAt_39 : decode cX10_callAt 39 = .ok (.istore_n 3, 1) := by decide +kernel
theorem dX10_callAt_40 : decode cX10_callAt 40 = .ok (.iload_n 3, 1) := by decide +kernel
theorem dX10_callAt_41 : decode cX10_callAt 41 = .ok (.sipush 240, 3) := by decide +kernel
theorem dX10_callAt_44 : decode cX10_callAt 44 = .ok (.if_icmp .gt 55, 3) := by decide +kernel
theorem dX10_callAt_47 : decode cX10_callAt 47 = .ok (.aload_n 0, 1) := by decide +kernel
theorem dX10_callAt_48 : decode cX10_callAt 48 = .ok (.getfield 15, 3) := by decide +kernel
theorem dX10_callAt_51 : decode cX10_callAt 51 = .ok (.bipush 9, 2) := by decide +kernel
theorem dX10_callAt_53 : decode cX10_callAt 53 = .ok (.iaload, 1) := by decide +kernel
theorem dX10_callAt_54 : decode cX10_callAt 54 = .ok (.iload_n 3, 1) := by decide +kernel
theorem dX10_callAt_55 : decode cX10_callAt 55 = .ok (.iadd, 1) := by decide +kernel
theorem dX10_callAt_56 : decode cX10_callAt 56 = .ok (.istore 4, 2) := by decide +kernel
theorem dX10_callAt_58 : decode cX10_callAt 58 = .ok (.iload 4, 2) := by decide +kernel
theorem dX10_callAt_60 : decode cX10_callAt 60 = .ok (.iload_n 2, 1) := by decide +kernel
theorem dX10_callAt_61 : decode cX10_callAt 61 = .ok (.if_icmp .lt 32, 3) := by decide +kernel
theorem dX10_callAt_64 : decode cX10_callAt 64 = .ok (.aload_n 0, 1) := by decide +kernel
theorem dX10_callAt_65 : decode cX10_callAt 65 = .ok (.iload_n 1, 1) := by decide +kernel
theorem dX10_callAt_66 : decode cX10_callAt 66 = .ok (.aload_n 0, 1) := by decide +kernel
theorem dX10_callAt_67 : decode cX10_callAt 67 = .ok (.getfield 11, 3) := by decide +kernel
theorem dX10_callAt_70 : decode cX10_callAt 70 = .ok (.iload_n 1, 1) := by decide +kernel
theorem dX10_callAt_71 : decode cX10_callAt 71 = .ok (.aaload, 1) := by decide +kernel
theorem dX10_callAt_72 : decode cX10_callAt 72 = .ok (.getfield 102, 3) := by decide +kernel
theorem dX10_callAt_75 : decode cX10_callAt 75 = .ok (.iconst 0, 1) := by decide +kernel
theorem dX10_callAt_76 : decode cX10_callAt 76 = .ok (.iaload, 1) := by decide +kernel
theorem dX10_callAt_77 : decode cX10_callAt 77 = .ok (.iload 4, 2) := by decide +kernel
theorem dX10_callAt_79 : decode cX10_callAt 79 = .ok (.aload_n 0, 1) := by decide +kernel
theorem dX10_callAt_80 : decode cX10_callAt 80 = .ok (.getfield 15, 3) := by decide +kernel
theorem dX10_callAt_83 : decode cX10_callAt 83 = .ok (.iconst 5, 1) := by decide +kernel
theorem dX10_callAt_84 : decode cX10_callAt 84 = .ok (.iaload, 1) := by decide +kernel
theorem dX10_callAt_85 : decode cX10_callAt 85 = .ok (.invokevirtual 172, 3) := by decide +kernel
theorem dX10_callAt_88 : decode cX10_callAt 88 = .ok (.ifCond .eq 5, 3) := by decide +kernel
theorem dX10_callAt_91 : decode cX10_callAt 91 = .ok (.iload_n 3, 1) := by decide +kernel
theorem dX10_callAt_92 : decode cX10_callAt 92 = .ok (.ireturn, 1) := by decide +kernel
theorem dX10_callAt_93 : decode cX10_callAt 93 = .ok (.iinc 3 1, 3) := by decide +kernel
theorem dX10_callAt_96 : decode cX10_callAt 96 = .ok (.goto (-56), 3) := by decide +kernel
theorem dX10_callAt_99 : decode cX10_callAt 99 = .ok (.iconst (-1), 1) := by decide +kernel
theorem dX10_callAt_100 : decode cX10_callAt 100 = .ok (.ireturn, 1) := by decide +kernel
theorem dX10_allIn_0 : decode cX10_allIn 0 = .ok (.aload_n 0, 1) := by decide +kernel
theorem dX10_allIn_1 : decode cX10_allIn 1 = .ok (.getfield 15, 3) := by decide +kernel
theorem dX10_allIn_4 : decode cX10_allIn 4 = .ok (.bipush 9, 2) := by decide +kernel
theorem dX10_allIn_6 : decode cX10_allIn 6 = .ok (.iaload, 1) := by decide +kernel
theorem dX10_allIn_7 : decode cX10_allIn 7 = .ok (.istore_n 1, 1) := by decide +kernel
theorem dX10_allIn_8 : decode cX10_allIn 8 = .ok (.iconst 0, 1) := by decide +kernel
theorem dX10_allIn_9 : decode cX10_allIn 9 = .ok (.istore_n 2, 1) := by decide +kernel
theorem dX10_allIn_10 : decode cX10_allIn 10 = .ok (.iload_n 2, 1) := by decide +kernel
theorem dX10_allIn_11 : decode cX10_allIn 11 = .ok (.aload_n 0, 1) := by decide +kernel
theorem dX10_allIn_12 : decode cX10_allIn 12 = .ok (.getfield 92, 3) := by decide +kernel
theorem dX10_allIn_15 : decode cX10_allIn 15 = .ok (.if_icmp .ge 19, 3) := by decide +kernel
theorem dX10_allIn_18 : decode cX10_allIn 18 = .ok (.iload_n 1, 1) := by decide +kernel
theorem dX10_allIn_19 : decode cX10_allIn 19 = .ok (.aload_n 0, 1) := by decide +kernel
theorem dX10_allIn_20 : decode cX10_allIn 20 = .ok (.iload_n 2, 1) := by decide +kernel
theorem dX10_allIn_21 : decode cX10_allIn 21 = .ok (.invokevirtual 176, 3) := by decide +kernel
theorem dX10_allIn_24 : decode cX10_allIn 24 = .ok (.invokestatic 179, 3) := by decide +kernel
theorem dX10_allIn_27 : decode cX10_allIn 27 = .ok (.istore_n 1, 1) := by decide +kernel
theorem dX10_allIn_28 : decode cX10_allIn 28 = .ok (.iinc 2 1, 3) := by decide +kernel
theorem dX10_allIn_31 : decode cX10_allIn 31 = .ok (.goto (-21), 3) := by decide +kernel
theorem dX10_allIn_34 : decode cX10_allIn 34 = .ok (.iload_n 1, 1) := by decide +kernel
theorem dX10_allIn_35 : decode cX10_allIn 35 = .ok (.ireturn, 1) := by decide +kernel
theorem dX10_isOnTheLake_0 : decode cX10_isOnTheLake 0 = .ok (.aload_n 0, 1) := by decide +kernel
theorem dX10_isOnTheLake_1 : decode cX10_isOnTheLake 1 = .ok (.getfield 11, 3) := by decide +kernel
theorem dX10_isOnTheLake_4 : decode cX10_isOnTheLake 4 = .ok (.iload_n 1, 1) := by decide +kernel
theorem dX10_isOnTheLake_5 : decode cX10_isOnTheLake 5 = .ok (.aaload, 1) := by decide +kernel
theorem dX10_isOnTheLake_6 : decode cX10_isOnTheLake 6 = .ok (.getfield 102, 3) := by decide +kernel
theorem dX10_isOnTheLake_9 : decode cX10_isOnTheLake 9 = .ok (.iconst 4, 1) := by decide +kernel
theorem dX10_isOnTheLake_10 : decode cX10_isOnTheLake 10 = .ok (.iaload, 1) := by decide +kernel
theorem dX10_isOnTheLake_11 : decode cX10_isOnTheLake 11 = .ok (.ifCond .ne 7, 3) := by decide +kernel
theorem dX10_isOnTheLake_14 : decode cX10_isOnTheLake 14 = .ok (.iconst 1, 1) := by decide +kernel
theorem dX10_isOnTheLake_15 : decode cX10_isOnTheLake 15 = .ok (.goto 4, 3) := by decide +kernel
theorem dX10_isOnTheLake_18 : decode cX10_isOnTheLake 18 = .ok (.iconst 0, 1) := by decide +kernel
theorem dX10_isOnTheLake_19 : decode cX10_isOnTheLake 19 = .ok (.ireturn, 1) := by decide +kernel
theorem dX10_needs_0 : decode cX10_needs 0 = .ok (.iconst 0, 1) := by decide +kernel
theorem dX10_needs_1 : decode cX10_needs 1 = .ok (.aload_n 0, 1) := by decide +kernel
theorem dX10_needs_2 : decode cX10_needs 2 = .ok (.getfield 11, 3) := by decide +kernel
theorem dX10_needs_5 : decode cX10_needs 5 = .ok (.iload_n 1, 1) := by decide +kernel
theorem dX10_needs_6 : decode cX10_needs 6 = .ok (.aaload, 1) := by decide +kernel
theorem dX10_needs_7 : decode cX10_needs 7 = .ok (.getfield 102, 3) := by decide +kernel
theorem dX10_needs_10 : decode cX10_needs 10 = .ok (.iconst 0, 1) := by decide +kernel
theorem dX10_needs_11 : decode cX10_needs 11 = .ok (.iaload, 1) := by decide +kernel
theorem dX10_needs_12 : decode cX10_needs 12 = .ok (.invokestatic 149, 3) := by decide +kernel
theorem dX10_needs_15 : decode cX10_needs 15 = .ok (.aload_n 0, 1) := by decide +kernel
theorem dX10_needs_16 : decode cX10_needs 16 = .ok (.getfield 11, 3) := by decide +kernel
theorem dX10_needs_19 : decode cX10_needs 19 = .ok (.iload_n 1, 1) := by decide +kernel
theorem dX10_needs_20 : decode cX10_needs 20 = .ok (.aaload, 1) := by decide +kernel
theorem dX10_needs_21 : decode cX10_needs 21 = .ok (.aload_n 0, 1) := by decide +kernel
theorem dX10_needs_22 : decode cX10_needs 22 = .ok (.getfield 15, 3) := by decide +kernel
theorem dX10_needs_25 : decode cX10_needs 25 = .ok (.iconst 5, 1) := by decide +kernel
theorem dX10_needs_26 : decode cX10_needs 26 = .ok (.iaload, 1) := by decide +kernel
theorem dX10_needs_27 : decode cX10_needs 27 = .ok (.invokevirtual 108, 3) := by decide +kernel
theorem dX10_needs_30 : decode cX10_needs 30 = .ok (.imul, 1) := by decide +kernel
theorem dX10_needs_31 : decode cX10_needs 31 = .ok (.ireturn, 1) := by decide +kernel
theorem dX10_wouldComeNow_0 : decode cX10_wouldComeNow 0 = .ok (.aload_n 0, 1) := by decide +kernel
theorem dX10_wouldComeNow_1 : decode cX10_wouldComeNow 1 = .ok (.iload_n 1, 1) := by decide +kernel
theorem dX10_wouldComeNow_2 : decode cX10_wouldComeNow 2 = .ok (.aload_n 0, 1) := by decide +kernel
theorem dX10_wouldComeNow_3 : decode cX10_wouldComeNow 3 = .ok (.getfield 11, 3) := by decide +kernel
theorem dX10_wouldComeNow_6 : decode cX10_wouldComeNow 6 = .ok (.iload_n 1, 1) := by decide +kernel
theorem dX10_wouldComeNow_7 : decode cX10_wouldComeNow 7 = .ok (.aaload, 1) := by decide +kernel
theorem dX10_wouldComeNow_8 : decode cX10_wouldComeNow 8 = .ok (.getfield 102, 3) := by decide +kernel
theorem dX10_wouldComeNow_11 : decode cX10_wouldComeNow 11 = .ok (.iconst 0, 1) := by decide +kernel
theorem dX10_wouldComeNow_12 : decode cX10_wouldComeNow 12 = .ok (.iaload, 1) := by decide +kernel
theorem dX10_wouldComeNow_13 : decode cX10_wouldComeNow 13 = .ok (.aload_n 0, 1) := by decide +kernel
theorem dX10_wouldComeNow_14 : decode cX10_wouldComeNow 14 = .ok (.getfield 15, 3) := by decide +kernel
theorem dX10_wouldComeNow_17 : decode cX10_wouldComeNow 17 = .ok (.bipush 9, 2) := by decide +kernel
theorem dX10_wouldComeNow_19 : decode cX10_wouldComeNow 19 = .ok (.iaload, 1) := by decide +kernel
theorem dX10_wouldComeNow_20 : decode cX10_wouldComeNow 20 = .ok (.aload_n 0, 1) := by decide +kernel
theorem dX10_wouldComeNow_21 : decode cX10_wouldComeNow 21 = .ok (.getfield 15, 3) := by decide +kernel
theorem dX10_wouldComeNow_24 : decode cX10_wouldComeNow 24 = .ok (.iconst 5, 1) := by decide +kernel
theorem dX10_wouldComeNow_25 : decode cX10_wouldComeNow 25 = .ok (.iaload, 1) := by decide +kernel
theorem dX10_wouldComeNow_26 : decode cX10_wouldComeNow 26 = .ok (.invokevirtual 172, 3) := by decide +kernel
theorem dX10_wouldComeNow_29 : decode cX10_wouldComeNow 29 = .ok (.ireturn, 1) := by decide +kernel
theorem dX10_wouldCome_0 : decode cX10_wouldCome 0 = .ok (.iconst 0, 1) := by decide +kernel
theorem dX10_wouldCome_1 : decode cX10_wouldCome 1 = .ok (.iload_n 2, 1) := by decide +kernel
theorem dX10_wouldCome_2 : decode cX10_wouldCome 2 = .ok (.invokestatic 149, 3) := by decide +kernel
theorem dX10_wouldCome_5 : decode cX10_wouldCome 5 = .ok (.aload_n 0, 1) := by decide +kernel
theorem dX10_wouldCome_6 : decode cX10_wouldCome 6 = .ok (.getfield 11, 3) := by decide +kernel
theorem dX10_wouldCome_9 : decode cX10_wouldCome 9 = .ok (.iload_n 1, 1) := by decide +kernel
theorem dX10_wouldCome_10 : decode cX10_wouldCome 10 = .ok (.aaload, 1) := by decide +kernel
theorem dX10_wouldCome_11 : decode cX10_wouldCome 11 = .ok (.iload 4, 2) := by decide +kernel
theorem dX10_wouldCome_13 : decode cX10_wouldCome 13 = .ok (.invokevirtual 112, 3) := by decide +kernel
theorem dX10_wouldCome_16 : decode cX10_wouldCome 16 = .ok (.if_icmp .le 5, 3) := by decide +kernel
theorem dX10_wouldCome_19 : decode cX10_wouldCome 19 = .ok (.iconst 0, 1) := by decide +kernel
theorem dX10_wouldCome_20 : decode cX10_wouldCome 20 = .ok (.ireturn, 1) := by decide +kernel
theorem dX10_wouldCome_21 : decode cX10_wouldCome 21 = .ok (.aload_n 0, 1) := by decide +kernel
theorem dX10_wouldCome_22 : decode cX10_wouldCome 22 = .ok (.iload_n 1, 1) := by decide +kernel
theorem dX10_wouldCome_23 : decode cX10_wouldCome 23 = .ok (.iload_n 2, 1) := by decide +kernel
theorem dX10_wouldCome_24 : decode cX10_wouldCome 24 = .ok (.iload_n 3, 1) := by decide +kernel
theorem dX10_wouldCome_25 : decode cX10_wouldCome 25 = .ok (.iload 4, 2) := by decide +kernel
theorem dX10_wouldCome_27 : decode cX10_wouldCome 27 = .ok (.invokevirtual 182, 3) := by decide +kernel
theorem dX10_wouldCome_30 : decode cX10_wouldCome 30 = .ok (.aload_n 0, 1) := by decide +kernel
theorem dX10_wouldCome_31 : decode cX10_wouldCome 31 = .ok (.invokevirtual 186, 3) := by decide +kernel
theorem dX10_wouldCome_34 : decode cX10_wouldCome 34 = .ok (.iconst 1, 1) := by decide +kernel
theorem dX10_wouldCome_35 : decode cX10_wouldCome 35 = .ok (.aload_n 0, 1) := by decide +kernel
theorem dX10_wouldCome_36 : decode cX10_wouldCome 36 = .ok (.getfield 39, 3) := by decide +kernel
theorem dX10_wouldCome_39 : decode cX10_wouldCome 39 = .ok (.invokevirtual 189, 3) := by decide +kernel
theorem dX10_wouldCome_42 : decode cX10_wouldCome 42 = .ok (.ifCond .eq 22, 3) := by decide +kernel
theorem dX10_wouldCome_45 : decode cX10_wouldCome 45 = .ok (.aload_n 0, 1) := by decide +kernel
theorem dX10_wouldCome_46 : decode cX10_wouldCome 46 = .ok (.invokevirtual 186, 3) := by decide +kernel
theorem dX10_wouldCome_49 : decode cX10_wouldCome 49 = .ok (.iconst 2, 1) := by decide +kernel
theorem dX10_wouldCome_50 : decode cX10_wouldCome 50 = .ok (.aload_n 0, 1) := by decide +kernel
theorem dX10_wouldCome_51 : decode cX10_wouldCome 51 = .ok (.getfield 39, 3) := by decide +kernel
theorem dX10_wouldCome_54 : decode cX10_wouldCome 54 = .ok (.invokevirtual 189, 3) := by decide +kernel
theorem dX10_wouldCome_57 : decode cX10_wouldCome 57 = .ok (.ifCond .eq 7, 3) := by decide +kernel
theorem dX10_wouldCome_60 : decode cX10_wouldCome 60 = .ok (.iconst 1, 1) := by decide +kernel
theorem dX10_wouldCome_61 : decode cX10_wouldCome 61 = .ok (.goto 4, 3) := by decide +kernel
theorem dX10_wouldCome_64 : decode cX10_wouldCome 64 = .ok (.iconst 0, 1) := by decide +kernel
theorem dX10_wouldCome_65 : decode cX10_wouldCome 65 = .ok (.ireturn, 1) := by decide +kernel
theorem dX10_comingAt_0 : decode cX10_comingAt 0 = .ok (.aload_n 0, 1) := by decide +kernel
theorem dX10_comingAt_1 : decode cX10_comingAt 1 = .ok (.getfield 11, 3) := by decide +kernel
theorem dX10_comingAt_4 : decode cX10_comingAt 4 = .ok (.iload_n 1, 1) := by decide +kernel
theorem dX10_comingAt_5 : decode cX10_comingAt 5 = .ok (.aaload, 1) := by decide +kernel
theorem dX10_comingAt_6 : decode cX10_comingAt 6 = .ok (.getfield 102, 3) := by decide +kernel
theorem dX10_comingAt_9 : decode cX10_comingAt 9 = .ok (.iconst 4, 1) := by decide +kernel
theorem dX10_comingAt_10 : decode cX10_comingAt 10 = .ok (.iaload, 1) := by decide +kernel
theorem dX10_comingAt_11 : decode cX10_comingAt 11 = .ok (.iconst 1, 1) := by decide +kernel
theorem dX10_comingAt_12 : decode cX10_comingAt 12 = .ok (.if_icmp .ne 15, 3) := by decide +kernel
theorem dX10_comingAt_15 : decode cX10_comingAt 15 = .ok (.aload_n 0, 1) := by decide +kernel
theorem dX10_comingAt_16 : decode cX10_comingAt 16 = .ok (.getfield 11, 3) := by decide +kernel
theorem dX10_comingAt_19 : decode cX10_comingAt 19 = .ok (.iload_n 1, 1) := by decide +kernel
theorem dX10_comingAt_20 : decode cX10_comingAt 20 = .ok (.aaload, 1) := by decide +kernel
theorem dX10_comingAt_21 : decode cX10_comingAt 21 = .ok (.getfield 102, 3) := by decide +kernel
theorem dX10_comingAt_24 : decode cX10_comingAt 24 = .ok (.iconst 5, 1) := by decide +kernel
theorem dX10_comingAt_25 : decode cX10_comingAt 25 = .ok (.iaload, 1) := by decide +kernel
theorem dX10_comingAt_26 : decode cX10_comingAt 26 = .ok (.ireturn, 1) := by decide +kernel
theorem dX10_comingAt_27 : decode cX10_comingAt 27 = .ok (.aload_n 0, 1) := by decide +kernel
theorem dX10_comingAt_28 : decode cX10_comingAt 28 = .ok (.iload_n 1, 1) := by decide +kernel
theorem dX10_comingAt_29 : decode cX10_comingAt 29 = .ok (.invokevirtual 163, 3) := by decide +kernel
theorem dX10_comingAt_32 : decode cX10_comingAt 32 = .ok (.ifCond .eq 27, 3) := by decide +kernel
theorem dX10_comingAt_35 : decode cX10_comingAt 35 = .ok (.aload_n 0, 1) := by decide +kernel
theorem dX10_comingAt_36 : decode cX10_comingAt 36 = .ok (.iload_n 1, 1) := by decide +kernel
theorem dX10_comingAt_37 : decode cX10_comingAt 37 = .ok (.invokevirtual 115, 3) := by decide +kernel
theorem dX10_comingAt_40 : decode cX10_comingAt 40 = .ok (.ifCond .eq 19, 3) := by decide +kernel
theorem dX10_comingAt_43 : decode cX10_comingAt 43 = .ok (.aload_n 0, 1) := by decide +kernel
theorem dX10_comingAt_44 : decode cX10_comingAt 44 = .ok (.getfield 15, 3) := by decide +kernel
theorem dX10_comingAt_47 : decode cX10_comingAt 47 = .ok (.bipush 9, 2) := by decide +kernel
theorem dX10_comingAt_49 : decode cX10_comingAt 49 = .ok (.iaload, 1) := by decide +kernel
theorem dX10_comingAt_50 : decode cX10_comingAt 50 = .ok (.aload_n 0, 1) := by decide +kernel
theorem dX10_comingAt_51 : decode cX10_comingAt 51 = .ok (.iload_n 1, 1) := by decide +kernel
theorem dX10_comingAt_52 : decode cX10_comingAt 52 = .ok (.invokevirtual 166, 3) := by decide +kernel
theorem dX10_comingAt_55 : decode cX10_comingAt 55 = .ok (.iadd, 1) := by decide +kernel
theorem dX10_comingAt_56 : decode cX10_comingAt 56 = .ok (.goto 4, 3) := by decide +kernel
theorem dX10_comingAt_59 : decode cX10_comingAt 59 = .ok (.iconst (-1), 1) := by decide +kernel
theorem dX10_comingAt_60 : decode cX10_comingAt 60 = .ok (.ireturn, 1) := by decide +kernel
theorem dX10_pass_0 : decode cX10_pass 0 = .ok (.aload_n 0, 1) := by decide +kernel
theorem dX10_pass_1 : decode cX10_pass 1 = .ok (.getfield 15, 3) := by decide +kernel
theorem dX10_pass_4 : decode cX10_pass 4 = .ok (.bipush 9, 2) := by decide +kernel
theorem dX10_pass_6 : decode cX10_pass 6 = .ok (.sipush 9999, 3) := by decide +kernel
theorem dX10_pass_9 : decode cX10_pass 9 = .ok (.aload_n 0, 1) := by decide +kernel
theorem dX10_pass_10 : decode cX10_pass 10 = .ok (.getfield 15, 3) := by decide +kernel
theorem dX10_pass_13 : decode cX10_pass 13 = .ok (.bipush 9, 2) := by decide +kernel
theorem dX10_pass_15 : decode cX10_pass 15 = .ok (.iaload, 1) := by decide +kernel
theorem dX10_pass_16 : decode cX10_pass 16 = .ok (.iload_n 1, 1) := by decide +kernel
theorem dX10_pass_17 : decode cX10_pass 17 = .ok (.iadd, 1) := by decide +kernel
theorem dX10_pass_18 : decode cX10_pass 18 = .ok (.invokestatic 193, 3) := by decide +kernel
theorem dX10_pass_21 : decode cX10_pass 21 = .ok (.iastore, 1) := by decide +kernel
theorem dX10_pass_22 : decode cX10_pass 22 = .ok (.iconst 0, 1) := by decide +kernel
theorem dX10_pass_23 : decode cX10_pass 23 = .ok (.istore_n 2, 1) := by decide +kernel
theorem dX10_pass_24 : decode cX10_pass 24 = .ok (.iconst 0, 1) := by decide +kernel
theorem dX10_pass_25 : decode cX10_pass 25 = .ok (.istore_n 3, 1) := by decide +kernel
theorem dX10_pass_26 : decode cX10_pass 26 = .ok (.iload_n 3, 1) := by decide +kernel
theorem dX10_pass_27 : decode cX10_pass 27 = .ok (.aload_n 0, 1) := by decide +kernel
theorem dX10_pass_28 : decode cX10_pass 28 = .ok (.getfield 92, 3) := by decide +kernel
theorem dX10_pass_31 : decode cX10_pass 31 = .ok (.if_icmp .ge 64, 3) := by decide +kernel
theorem dX10_pass_34 : decode cX10_pass 34 = .ok (.aload_n 0, 1) := by decide +kernel
theorem dX10_pass_35 : decode cX10_pass 35 = .ok (.getfield 11, 3) := by decide +kernel
theorem dX10_pass_38 : decode cX10_pass 38 = .ok (.iload_n 3, 1) := by decide +kernel
theorem dX10_pass_39 : decode cX10_pass 39 = .ok (.aaload, 1) := by decide +kernel
theorem dX10_pass_40 : decode cX10_pass 40 = .ok (.getfield 102, 3) := by decide +kernel
theorem dX10_pass_43 : decode cX10_pass 43 = .ok (.iconst 4, 1) := by decide +kernel
theorem dX10_pass_44 : decode cX10_pass 44 = .ok (.iaload, 1) := by decide +kernel
theorem dX10_pass_45 : decode cX10_pass 45 = .ok (.iconst 1, 1) := by decide +kernel
theorem dX10_pass_46 : decode cX10_pass 46 = .ok (.if_icmp .ne 43, 3) := by decide +kernel
theorem dX10_pass_49 : decode cX10_pass 49 = .ok (.aload_n 0, 1) := by decide +kernel
theorem dX10_pass_50 : decode cX10_pass 50 = .ok (.getfield 11, 3) := by decide +kernel
theorem dX10_pass_53 : decode cX10_pass 53 = .ok (.iload_n 3, 1) := by decide +kernel
theorem dX10_pass_54 : decode cX10_pass 54 = .ok (.aaload, 1) := by decide +kernel
theorem dX10_pass_55 : decode cX10_pass 55 = .ok (.getfield 102, 3) := by decide +kernel
theorem dX10_pass_58 : decode cX10_pass 58 = .ok (.iconst 5, 1) := by decide +kernel
theorem dX10_pass_59 : decode cX10_pass 59 = .ok (.iaload, 1) := by decide +kernel
theorem dX10_pass_60 : decode cX10_pass 60 = .ok (.aload_n 0, 1) := by decide +kernel
theorem dX10_pass_61 : decode cX10_pass 61 = .ok (.getfield 15, 3) := by decide +kernel
theorem dX10_pass_64 : decode cX10_pass 64 = .ok (.bipush 9, 2) := by decide +kernel
theorem dX10_pass_66 : decode cX10_pass 66 = .ok (.iaload, 1) := by decide +kernel
theorem dX10_pass_67 : decode cX10_pass 67 = .ok (.if_icmp .gt 22, 3) := by decide +kernel
theorem dX10_pass_70 : decode cX10_pass 70 = .ok (.aload_n 0, 1) := by decide +kernel
theorem dX10_pass_71 : decode cX10_pass 71 = .ok (.iload_n 3, 1) := by decide +kernel
theorem dX10_pass_72 : decode cX10_pass 72 = .ok (.aload_n 0, 1) := by decide +kernel
theorem dX10_pass_73 : decode cX10_pass 73 = .ok (.getfield 11, 3) := by decide +kernel
theorem dX10_pass_76 : decode cX10_pass 76 = .ok (.iload_n 3, 1) := by decide +kernel
theorem dX10_pass_77 : decode cX10_pass 77 = .ok (.aaload, 1) := by decide +kernel
theorem dX10_pass_78 : decode cX10_pass 78 = .ok (.getfield 102, 3) := by decide +kernel
theorem dX10_pass_81 : decode cX10_pass 81 = .ok (.iconst 5, 1) := by decide +kernel
theorem dX10_pass_82 : decode cX10_pass 82 = .ok (.iaload, 1) := by decide +kernel
theorem dX10_pass_83 : decode cX10_pass 83 = .ok (.invokevirtual 196, 3) := by decide +kernel
theorem dX10_pass_86 : decode cX10_pass 86 = .ok (.iinc 2 1, 3) := by decide +kernel
theorem dX10_pass_89 : decode cX10_pass 89 = .ok (.iinc 3 1, 3) := by decide +kernel
theorem dX10_pass_92 : decode cX10_pass 92 = .ok (.goto (-66), 3) := by decide +kernel
theorem dX10_pass_95 : decode cX10_pass 95 = .ok (.iload_n 2, 1) := by decide +kernel
theorem dX10_pass_96 : decode cX10_pass 96 = .ok (.ireturn, 1) := by decide +kernel
theorem dX10_comeIn_0 : decode cX10_comeIn 0 = .ok (.aload_n 0, 1) := by decide +kernel
theorem dX10_comeIn_1 : decode cX10_comeIn 1 = .ok (.getfield 15, 3) := by decide +kernel
theorem dX10_comeIn_4 : decode cX10_comeIn 4 = .ok (.bipush 10, 2) := by decide +kernel
theorem dX10_comeIn_6 : decode cX10_comeIn 6 = .ok (.dup2, 1) := by decide +kernel
theorem dX10_comeIn_7 : decode cX10_comeIn 7 = .ok (.iaload, 1) := by decide +kernel
theorem dX10_comeIn_8 : decode cX10_comeIn 8 = .ok (.aload_n 0, 1) := by decide +kernel
theorem dX10_comeIn_9 : decode cX10_comeIn 9 = .ok (.iload_n 1, 1) := by decide +kernel
theorem dX10_comeIn_10 : decode cX10_comeIn 10 = .ok (.iload_n 2, 1) := by decide +kernel
theorem dX10_comeIn_11 : decode cX10_comeIn 11 = .ok (.invokevirtual 118, 3) := by decide +kernel
theorem dX10_comeIn_14 : decode cX10_comeIn 14 = .ok (.iadd, 1) := by decide +kernel
theorem dX10_comeIn_15 : decode cX10_comeIn 15 = .ok (.iastore, 1) := by decide +kernel
theorem dX10_comeIn_16 : decode cX10_comeIn 16 = .ok (.aload_n 0, 1) := by decide +kernel
theorem dX10_comeIn_17 : decode cX10_comeIn 17 = .ok (.getfield 15, 3) := by decide +kernel
theorem dX10_comeIn_20 : decode cX10_comeIn 20 = .ok (.bipush 8, 2) := by decide +kernel
theorem dX10_comeIn_22 : decode cX10_comeIn 22 = .ok (.iconst 0, 1) := by decide +kernel
theorem dX10_comeIn_23 : decode cX10_comeIn 23 = .ok (.aload_n 0, 1) := by decide +kernel
theorem dX10_comeIn_24 : decode cX10_comeIn 24 = .ok (.getfield 15, 3) := by decide +kernel
theorem dX10_comeIn_27 : decode cX10_comeIn 27 = .ok (.bipush 8, 2) := by decide +kernel
theorem dX10_comeIn_29 : decode cX10_comeIn 29 = .ok (.iaload, 1) := by decide +kernel
theorem dX10_comeIn_30 : decode cX10_comeIn 30 = .ok (.iconst 1, 1) := by decide +kernel
theorem dX10_comeIn_31 : decode cX10_comeIn 31 = .ok (.isub, 1) := by decide +kernel
theorem dX10_comeIn_32 : decode cX10_comeIn 32 = .ok (.invokestatic 179, 3) := by decide +kernel
theorem dX10_comeIn_35 : decode cX10_comeIn 35 = .ok (.iastore, 1) := by decide +kernel
theorem dX10_comeIn_36 : decode cX10_comeIn 36 = .ok (.aload_n 0, 1) := by decide +kernel
theorem dX10_comeIn_37 : decode cX10_comeIn 37 = .ok (.getfield 11, 3) := by decide +kernel
theorem dX10_comeIn_40 : decode cX10_comeIn 40 = .ok (.iload_n 1, 1) := by decide +kernel
theorem dX10_comeIn_41 : decode cX10_comeIn 41 = .ok (.aaload, 1) := by decide +kernel
theorem dX10_comeIn_42 : decode cX10_comeIn 42 = .ok (.getfield 102, 3) := by decide +kernel
theorem dX10_comeIn_45 : decode cX10_comeIn 45 = .ok (.iconst 4, 1) := by decide +kernel
theorem dX10_comeIn_46 : decode cX10_comeIn 46 = .ok (.iconst 2, 1) := by decide +kernel
theorem dX10_comeIn_47 : decode cX10_comeIn 47 = .ok (.iastore, 1) := by decide +kernel
theorem dX10_comeIn_48 : decode cX10_comeIn 48 = .ok (.aload_n 0, 1) := by decide +kernel
theorem dX10_comeIn_49 : decode cX10_comeIn 49 = .ok (.getfield 11, 3) := by decide +kernel
theorem dX10_comeIn_52 : decode cX10_comeIn 52 = .ok (.iload_n 1, 1) := by decide +kernel
theorem dX10_comeIn_53 : decode cX10_comeIn 53 = .ok (.aaload, 1) := by decide +kernel
theorem dX10_comeIn_54 : decode cX10_comeIn 54 = .ok (.getfield 102, 3) := by decide +kernel
theorem dX10_comeIn_57 : decode cX10_comeIn 57 = .ok (.iconst 5, 1) := by decide +kernel
theorem dX10_comeIn_58 : decode cX10_comeIn 58 = .ok (.iload_n 2, 1) := by decide +kernel
theorem dX10_comeIn_59 : decode cX10_comeIn 59 = .ok (.iastore, 1) := by decide +kernel
theorem dX10_comeIn_60 : decode cX10_comeIn 60 = .ok (.return_, 1) := by decide +kernel
theorem dX10_owed_0 : decode cX10_owed 0 = .ok (.aload_n 0, 1) := by decide +kernel
theorem dX10_owed_1 : decode cX10_owed 1 = .ok (.iload_n 1, 1) := by decide +kernel
theorem dX10_owed_2 : decode cX10_owed 2 = .ok (.aload_n 0, 1) := by decide +kernel
theorem dX10_owed_3 : decode cX10_owed 3 = .ok (.getfield 11, 3) := by decide +kernel
theorem dX10_owed_6 : decode cX10_owed 6 = .ok (.iload_n 1, 1) := by decide +kernel
theorem dX10_owed_7 : decode cX10_owed 7 = .ok (.aaload, 1) := by decide +kernel
theorem dX10_owed_8 : decode cX10_owed 8 = .ok (.getfield 102, 3) := by decide +kernel
theorem dX10_owed_11 : decode cX10_owed 11 = .ok (.iconst 0, 1) := by decide +kernel
theorem dX10_owed_12 : decode cX10_owed 12 = .ok (.iaload, 1) := by decide +kernel
theorem dX10_owed_13 : decode cX10_owed 13 = .ok (.iload_n 2, 1) := by decide +kernel
theorem dX10_owed_14 : decode cX10_owed 14 = .ok (.aload_n 0, 1) := by decide +kernel
theorem dX10_owed_15 : decode cX10_owed 15 = .ok (.getfield 15, 3) := by decide +kernel
theorem dX10_owed_18 : decode cX10_owed 18 = .ok (.iconst 5, 1) := by decide +kernel
theorem dX10_owed_19 : decode cX10_owed 19 = .ok (.iaload, 1) := by decide +kernel
theorem dX10_owed_20 : decode cX10_owed 20 = .ok (.invokevirtual 182, 3) := by decide +kernel
theorem dX10_owed_23 : decode cX10_owed 23 = .ok (.iconst 0, 1) := by decide +kernel
theorem dX10_owed_24 : decode cX10_owed 24 = .ok (.bipush 99, 2) := by decide +kernel
theorem dX10_owed_26 : decode cX10_owed 26 = .ok (.aload_n 0, 1) := by decide +kernel
theorem dX10_owed_27 : decode cX10_owed 27 = .ok (.invokevirtual 186, 3) := by decide +kernel
theorem dX10_owed_30 : decode cX10_owed 30 = .ok (.iconst 0, 1) := by decide +kernel
theorem dX10_owed_31 : decode cX10_owed 31 = .ok (.aload_n 0, 1) := by decide +kernel
theorem dX10_owed_32 : decode cX10_owed 32 = .ok (.getfield 39, 3) := by decide +kernel
theorem dX10_owed_35 : decode cX10_owed 35 = .ok (.invokevirtual 189, 3) := by decide +kernel
theorem dX10_owed_38 : decode cX10_owed 38 = .ok (.invokestatic 193, 3) := by decide +kernel
theorem dX10_owed_41 : decode cX10_owed 41 = .ok (.invokestatic 179, 3) := by decide +kernel
theorem dX10_owed_44 : decode cX10_owed 44 = .ok (.istore_n 3, 1) := by decide +kernel
theorem dX10_owed_45 : decode cX10_owed 45 = .ok (.aload_n 0, 1) := by decide +kernel
theorem dX10_owed_46 : decode cX10_owed 46 = .ok (.getfield 11, 3) := by decide +kernel
theorem dX10_owed_49 : decode cX10_owed 49 = .ok (.iload_n 1, 1) := by decide +kernel
theorem dX10_owed_50 : decode cX10_owed 50 = .ok (.aaload, 1) := by decide +kernel
theorem dX10_owed_51 : decode cX10_owed 51 = .ok (.iconst 0, 1) := by decide +kernel
theorem dX10_owed_52 : decode cX10_owed 52 = .ok (.iload_n 2, 1) := by decide +kernel
theorem dX10_owed_53 : decode cX10_owed 53 = .ok (.aload_n 0, 1) := by decide +kernel
theorem dX10_owed_54 : decode cX10_owed 54 = .ok (.getfield 11, 3) := by decide +kernel
theorem dX10_owed_57 : decode cX10_owed 57 = .ok (.iload_n 1, 1) := by decide +kernel
theorem dX10_owed_58 : decode cX10_owed 58 = .ok (.aaload, 1) := by decide +kernel
theorem dX10_owed_59 : decode cX10_owed 59 = .ok (.invokevirtual 152, 3) := by decide +kernel
theorem dX10_owed_62 : decode cX10_owed 62 = .ok (.isub, 1) := by decide +kernel
theorem dX10_owed_63 : decode cX10_owed 63 = .ok (.invokestatic 179, 3) := by decide +kernel
theorem dX10_owed_66 : decode cX10_owed 66 = .ok (.iload_n 3, 1) := by decide +kernel
theorem dX10_owed_67 : decode cX10_owed 67 = .ok (.invokevirtual 199, 3) := by decide +kernel
theorem dX10_owed_70 : decode cX10_owed 70 = .ok (.ireturn, 1) := by decide +kernel
theorem dX10_fetch_0 : decode cX10_fetch 0 = .ok (.aload_n 0, 1) := by decide +kernel
theorem dX10_fetch_1 : decode cX10_fetch 1 = .ok (.iload_n 1, 1) := by decide +kernel
theorem dX10_fetch_2 : decode cX10_fetch 2 = .ok (.invokevirtual 202, 3) := by decide +kernel
theorem dX10_fetch_5 : decode cX10_fetch 5 = .ok (.ifCond .eq 13, 3) := by decide +kernel
theorem dX10_fetch_8 : decode cX10_fetch 8 = .ok (.iload_n 2, 1) := by decide +kernel
theorem dX10_fetch_9 : decode cX10_fetch 9 = .ok (.ifCond .lt 9, 3) := by decide +kernel
theorem dX10_fetch_12 : decode cX10_fetch 12 = .ok (.iload_n 2, 1) := by decide +kernel
theorem dX10_fetch_13 : decode cX10_fetch 13 = .ok (.bipush 7, 2) := by decide +kernel
theorem dX10_fetch_15 : decode cX10_fetch 15 = .ok (.if_icmp .le 6, 3) := by decide +kernel
theorem dX10_fetch_18 : decode cX10_fetch 18 = .ok (.bipush (-2), 2) := by decide +kernel
theorem dX10_fetch_20 : decode cX10_fetch 20 = .ok (.ireturn, 1) := by decide +kernel
theorem dX10_fetch_21 : decode cX10_fetch 21 = .ok (.aload_n 0, 1) := by decide +kernel
theorem dX10_fetch_22 : decode cX10_fetch 22 = .ok (.invokevirtual 205, 3) := by decide +kernel
theorem dX10_fetch_25 : decode cX10_fetch 25 = .ok (.iload_n 2, 1) := by decide +kernel
theorem dX10_fetch_26 : decode cX10_fetch 26 = .ok (.ifCond .ne 14, 3) := by decide +kernel
theorem dX10_fetch_29 : decode cX10_fetch 29 = .ok (.aload_n 0, 1) := by decide +kernel
theorem dX10_fetch_30 : decode cX10_fetch 30 = .ok (.getfield 45, 3) := by decide +kernel
theorem dX10_fetch_33 : decode cX10_fetch 33 = .ok (.iload_n 1, 1) := by decide +kernel
theorem dX10_fetch_34 : decode cX10_fetch 34 = .ok (.invokevirtual 208, 3) := by decide +kernel
theorem dX10_fetch_37 : decode cX10_fetch 37 = .ok (.goto 12, 3) := by decide +kernel
theorem dX10_fetch_40 : decode cX10_fetch 40 = .ok (.aload_n 0, 1) := by decide +kernel
theorem dX10_fetch_41 : decode cX10_fetch 41 = .ok (.getfield 45, 3) := by decide +kernel
theorem dX10_fetch_44 : decode cX10_fetch 44 = .ok (.iload_n 1, 1) := by decide +kernel
theorem dX10_fetch_45 : decode cX10_fetch 45 = .ok (.iload_n 2, 1) := by decide +kernel
theorem dX10_fetch_46 : decode cX10_fetch 46 = .ok (.invokevirtual 211, 3) := by decide +kernel
theorem dX10_fetch_49 : decode cX10_fetch 49 = .ok (.ireturn, 1) := by decide +kernel
theorem dX10_launch_0 : decode cX10_launch 0 = .ok (.aload_n 0, 1) := by decide +kernel
theorem dX10_launch_1 : decode cX10_launch 1 = .ok (.iload_n 1, 1) := by decide +kernel
theorem dX10_launch_2 : decode cX10_launch 2 = .ok (.invokevirtual 202, 3) := by decide +kernel
theorem dX10_launch_5 : decode cX10_launch 5 = .ok (.ifCond .ne 6, 3) := by decide +kernel
theorem dX10_launch_8 : decode cX10_launch 8 = .ok (.bipush (-2), 2) := by decide +kernel
theorem dX10_launch_10 : decode cX10_launch 10 = .ok (.ireturn, 1) := by decide +kernel
theorem dX10_launch_11 : decode cX10_launch 11 = .ok (.aload_n 0, 1) := by decide +kernel
theorem dX10_launch_12 : decode cX10_launch 12 = .ok (.invokevirtual 205, 3) := by decide +kernel
theorem dX10_launch_15 : decode cX10_launch 15 = .ok (.aload_n 0, 1) := by decide +kernel
theorem dX10_launch_16 : decode cX10_launch 16 = .ok (.getfield 45, 3) := by decide +kernel
theorem dX10_launch_19 : decode cX10_launch 19 = .ok (.iload_n 1, 1) := by decide +kernel
theorem dX10_launch_20 : decode cX10_launch 20 = .ok (.invokevirtual 208, 3) := by decide +kernel
theorem dX10_launch_23 : decode cX10_launch 23 = .ok (.istore_n 2, 1) := by decide +kernel
theorem dX10_launch_24 : decode cX10_launch 24 = .ok (.aload_n 0, 1) := by decide +kernel
theorem dX10_launch_25 : decode cX10_launch 25 = .ok (.iload_n 2, 1) := by decide +kernel
theorem dX10_launch_26 : decode cX10_launch 26 = .ok (.invokevirtual 169, 3) := by decide +kernel
theorem dX10_launch_29 : decode cX10_launch 29 = .ok (.pop, 1) := by decide +kernel
theorem dX10_launch_30 : decode cX10_launch 30 = .ok (.iconst 0, 1) := by decide +kernel
theorem dX10_launch_31 : decode cX10_launch 31 = .ok (.istore_n 3, 1) := by decide +kernel
theorem dX10_launch_32 : decode cX10_launch 32 = .ok (.iload_n 3, 1) := by decide +kernel
theorem dX10_launch_33 : decode cX10_launch 33 = .ok (.aload_n 0, 1) := by decide +kernel
theorem dX10_launch_34 : decode cX10_launch 34 = .ok (.getfield 92, 3) := by decide +kernel
theorem dX10_launch_37 : decode cX10_launch 37 = .ok (.if_icmp .ge 30, 3) := by decide +kernel
theorem dX10_launch_40 : decode cX10_launch 40 = .ok (.iload_n 1, 1) := by decide +kernel
theorem dX10_launch_41 : decode cX10_launch 41 = .ok (.iload_n 3, 1) := by decide +kernel
theorem dX10_launch_42 : decode cX10_launch 42 = .ok (.ishr, 1) := by decide +kernel
theorem dX10_launch_43 : decode cX10_launch 43 = .ok (.iconst 1, 1) := by decide +kernel
theorem dX10_launch_44 : decode cX10_launch 44 = .ok (.iand, 1) := by decide +kernel
theorem dX10_launch_45 : decode cX10_launch 45 = .ok (.iconst 1, 1) := by decide +kernel
theorem dX10_launch_46 : decode cX10_launch 46 = .ok (.if_icmp .ne 15, 3) := by decide +kernel
theorem dX10_launch_49 : decode cX10_launch 49 = .ok (.aload_n 0, 1) := by decide +kernel
theorem dX10_launch_50 : decode cX10_launch 50 = .ok (.iload_n 3, 1) := by decide +kernel
theorem dX10_launch_51 : decode cX10_launch 51 = .ok (.aload_n 0, 1) := by decide +kernel
theorem dX10_launch_52 : decode cX10_launch 52 = .ok (.getfield 15, 3) := by decide +kernel
theorem dX10_launch_55 : decode cX10_launch 55 = .ok (.bipush 9, 2) := by decide +kernel
theorem dX10_launch_57 : decode cX10_launch 57 = .ok (.iaload, 1) := by decide +kernel
theorem dX10_launch_58 : decode cX10_launch 58 = .ok (.invokevirtual 196, 3) := by decide +kernel
theorem dX10_launch_61 : decode cX10_launch 61 = .ok (.iinc 3 1, 3) := by decide +kernel
theorem dX10_launch_64 : decode cX10_launch 64 = .ok (.goto (-32), 3) := by decide +kernel
theorem dX10_launch_67 : decode cX10_launch 67 = .ok (.iload_n 2, 1) := by decide +kernel
theorem dX10_launch_68 : decode cX10_launch 68 = .ok (.ireturn, 1) := by decide +kernel
theorem dX10_one_0 : decode cX10_one 0 = .ok (.iload_n 1, 1) := by decide +kernel
theorem dX10_one_1 : decode cX10_one 1 = .ok (.ifCond .lt 8, 3) := by decide +kernel
theorem dX10_one_4 : decode cX10_one 4 = .ok (.iload_n 1, 1) := by decide +kernel
theorem dX10_one_5 : decode cX10_one 5 = .ok (.iconst 1, 1) := by decide +kernel
theorem dX10_one_6 : decode cX10_one 6 = .ok (.if_icmp .le 6, 3) := by decide +kernel
theorem dX10_one_9 : decode cX10_one 9 = .ok (.bipush (-2), 2) := by decide +kernel
theorem dX10_one_11 : decode cX10_one 11 = .ok (.ireturn, 1) := by decide +kernel
theorem dX10_one_12 : decode cX10_one 12 = .ok (.aload_n 0, 1) := by decide +kernel
theorem dX10_one_13 : decode cX10_one 13 = .ok (.invokevirtual 205, 3) := by decide +kernel
theorem dX10_one_16 : decode cX10_one 16 = .ok (.iconst (-1), 1) := by decide +kernel
theorem dX10_one_17 : decode cX10_one 17 = .ok (.istore_n 2, 1) := by decide +kernel
theorem dX10_one_18 : decode cX10_one 18 = .ok (.iconst 0, 1) := by decide +kernel
theorem dX10_one_19 : decode cX10_one 19 = .ok (.istore_n 3, 1) := by decide +kernel
theorem dX10_one_20 : decode cX10_one 20 = .ok (.iconst 0, 1) := by decide +kernel
theorem dX10_one_21 : decode cX10_one 21 = .ok (.istore 4, 2) := by decide +kernel
theorem dX10_one_23 : decode cX10_one 23 = .ok (.iload 4, 2) := by decide +kernel
theorem dX10_one_25 : decode cX10_one 25 = .ok (.aload_n 0, 1) := by decide +kernel
theorem dX10_one_26 : decode cX10_one 26 = .ok (.getfield 92, 3) := by decide +kernel
theorem dX10_one_29 : decode cX10_one 29 = .ok (.if_icmp .ge 58, 3) := by decide +kernel
theorem dX10_one_32 : decode cX10_one 32 = .ok (.aload_n 0, 1) := by decide +kernel
theorem dX10_one_33 : decode cX10_one 33 = .ok (.iload 4, 2) := by decide +kernel
theorem dX10_one_35 : decode cX10_one 35 = .ok (.invokevirtual 163, 3) := by decide +kernel
theorem dX10_one_38 : decode cX10_one 38 = .ok (.ifCond .eq 17, 3) := by decide +kernel
theorem dX10_one_41 : decode cX10_one 41 = .ok (.aload_n 0, 1) := by decide +kernel
theorem dX10_one_42 : decode cX10_one 42 = .ok (.getfield 45, 3) := by decide +kernel
theorem dX10_one_45 : decode cX10_one 45 = .ok (.iconst 1, 1) := by decide +kernel
theorem dX10_one_46 : decode cX10_one 46 = .ok (.iload 4, 2) := by decide +kernel
theorem dX10_one_48 : decode cX10_one 48 = .ok (.ishl, 1) := by decide +kernel
theorem dX10_one_49 : decode cX10_one 49 = .ok (.invokevirtual 208, 3) := by decide +kernel
theorem dX10_one_52 : decode cX10_one 52 = .ok (.goto 4, 3) := by decide +kernel
theorem dX10_one_55 : decode cX10_one 55 = .ok (.iconst (-1), 1) := by decide +kernel
theorem dX10_one_56 : decode cX10_one 56 = .ok (.istore 5, 2) := by decide +kernel
theorem dX10_one_58 : decode cX10_one 58 = .ok (.iload 5, 2) := by decide +kernel
theorem dX10_one_60 : decode cX10_one 60 = .ok (.iconst (-1), 1) := by decide +kernel
theorem dX10_one_61 : decode cX10_one 61 = .ok (.if_icmp .eq 20, 3) := by decide +kernel
theorem dX10_one_64 : decode cX10_one 64 = .ok (.iload_n 2, 1) := by decide +kernel
theorem dX10_one_65 : decode cX10_one 65 = .ok (.iconst (-1), 1) := by decide +kernel
theorem dX10_one_66 : decode cX10_one 66 = .ok (.if_icmp .eq 9, 3) := by decide +kernel
theorem dX10_one_69 : decode cX10_one 69 = .ok (.iload 5, 2) := by decide +kernel
theorem dX10_one_71 : decode cX10_one 71 = .ok (.iload_n 3, 1) := by decide +kernel
theorem dX10_one_72 : decode cX10_one 72 = .ok (.if_icmp .ge 9, 3) := by decide +kernel
theorem dX10_one_75 : decode cX10_one 75 = .ok (.iload 4, 2) := by decide +kernel
theorem dX10_one_77 : decode cX10_one 77 = .ok (.istore_n 2, 1) := by decide +kernel
theorem dX10_one_78 : decode cX10_one 78 = .ok (.iload 5, 2) := by decide +kernel
theorem dX10_one_80 : decode cX10_one 80 = .ok (.istore_n 3, 1) := by decide +kernel
theorem dX10_one_81 : decode cX10_one 81 = .ok (.iinc 4 1, 3) := by decide +kernel
theorem dX10_one_84 : decode cX10_one 84 = .ok (.goto (-61), 3) := by decide +kernel
theorem dX10_one_87 : decode cX10_one 87 = .ok (.iload_n 1, 1) := by decide +kernel
theorem dX10_one_88 : decode cX10_one 88 = .ok (.ifCond .ne 7, 3) := by decide +kernel
theorem dX10_one_91 : decode cX10_one 91 = .ok (.iload_n 2, 1) := by decide +kernel
theorem dX10_one_92 : decode cX10_one 92 = .ok (.goto 4, 3) := by decide +kernel
theorem dX10_one_95 : decode cX10_one 95 = .ok (.iload_n 3, 1) := by decide +kernel
theorem dX10_one_96 : decode cX10_one 96 = .ok (.ireturn, 1) := by decide +kernel
theorem dX10_thunder_0 : decode cX10_thunder 0 = .ok (.iload_n 1, 1) := by decide +kernel
theorem dX10_thunder_1 : decode cX10_thunder 1 = .ok (.ifCond .lt 19, 3) := by decide +kernel
theorem dX10_thunder_4 : decode cX10_thunder 4 = .ok (.iload_n 1, 1) := by decide +kernel
theorem dX10_thunder_5 : decode cX10_thunder 5 = .ok (.sipush 240, 3) := by decide +kernel
theorem dX10_thunder_8 : decode cX10_thunder 8 = .ok (.if_icmp .gt 12, 3) := by decide +kernel
theorem dX10_thunder_11 : decode cX10_thunder 11 = .ok (.iload_n 2, 1) := by decide +kernel
theorem dX10_thunder_12 : decode cX10_thunder 12 = .ok (.ifCond .lt 8, 3) := by decide +kernel
theorem dX10_thunder_15 : decode cX10_thunder 15 = .ok (.iload_n 2, 1) := by decide +kernel
theorem dX10_thunder_16 : decode cX10_thunder 16 = .ok (.iconst 1, 1) := by decide +kernel
theorem dX10_thunder_17 : decode cX10_thunder 17 = .ok (.if_icmp .le 6, 3) := by decide +kernel
theorem dX10_thunder_20 : decode cX10_thunder 20 = .ok (.bipush (-2), 2) := by decide +kernel
theorem dX10_thunder_22 : decode cX10_thunder 22 = .ok (.ireturn, 1) := by decide +kernel
theorem dX10_thunder_23 : decode cX10_thunder 23 = .ok (.iload_n 2, 1) := by decide +kernel
theorem dX10_thunder_24 : decode cX10_thunder 24 = .ok (.ifCond .ne 19, 3) := by decide +kernel
theorem dX10_thunder_27 : decode cX10_thunder 27 = .ok (.aload_n 0, 1) := by decide +kernel
theorem dX10_thunder_28 : decode cX10_thunder 28 = .ok (.aload_n 0, 1) := by decide +kernel
theorem dX10_thunder_29 : decode cX10_thunder 29 = .ok (.getfield 15, 3) := by decide +kernel
theorem dX10_thunder_32 : decode cX10_thunder 32 = .ok (.bipush 9, 2) := by decide +kernel
theorem dX10_thunder_34 : decode cX10_thunder 34 = .ok (.iaload, 1) := by decide +kernel
theorem dX10_thunder_35 : decode cX10_thunder 35 = .ok (.iload_n 1, 1) := by decide +kernel
theorem dX10_thunder_36 : decode cX10_thunder 36 = .ok (.iadd, 1) := by decide +kernel
theorem dX10_thunder_37 : decode cX10_thunder 37 = .ok (.invokevirtual 214, 3) := by decide +kernel
theorem dX10_thunder_40 : decode cX10_thunder 40 = .ok (.goto 12, 3) := by decide +kernel
theorem dX10_thunder_43 : decode cX10_thunder 43 = .ok (.aload_n 0, 1) := by decide +kernel
theorem dX10_thunder_44 : decode cX10_thunder 44 = .ok (.aload_n 0, 1) := by decide +kernel
theorem dX10_thunder_45 : decode cX10_thunder 45 = .ok (.invokevirtual 217, 3) := by decide +kernel
theorem dX10_thunder_48 : decode cX10_thunder 48 = .ok (.iload_n 1, 1) := by decide +kernel
theorem dX10_thunder_49 : decode cX10_thunder 49 = .ok (.invokevirtual 220, 3) := by decide +kernel
theorem dX10_thunder_52 : decode cX10_thunder 52 = .ok (.ireturn, 1) := by decide +kernel
theorem dX10_stand_0 : decode cX10_stand 0 = .ok (.aload_n 0, 1) := by decide +kernel
theorem dX10_stand_1 : decode cX10_stand 1 = .ok (.invokevirtual 223, 3) := by decide +kernel
theorem dX10_stand_4 : decode cX10_stand 4 = .ok (.istore_n 1, 1) := by decide +kernel
theorem dX10_stand_5 : decode cX10_stand 5 = .ok (.iconst 0, 1) := by decide +kernel
theorem dX10_stand_6 : decode cX10_stand 6 = .ok (.istore_n 2, 1) := by decide +kernel
theorem dX10_stand_7 : decode cX10_stand 7 = .ok (.iconst 0, 1) := by decide +kernel
theorem dX10_stand_8 : decode cX10_stand 8 = .ok (.istore_n 3, 1) := by decide +kernel
theorem dX10_stand_9 : decode cX10_stand 9 = .ok (.iload_n 3, 1) := by decide +kernel
theorem dX10_stand_10 : decode cX10_stand 10 = .ok (.aload_n 0, 1) := by decide +kernel
theorem dX10_stand_11 : decode cX10_stand 11 = .ok (.getfield 15, 3) := by decide +kernel
theorem dX10_stand_14 : decode cX10_stand 14 = .ok (.bipush 8, 2) := by decide +kernel
theorem dX10_stand_16 : decode cX10_stand 16 = .ok (.iaload, 1) := by decide +kernel
theorem dX10_stand_17 : decode cX10_stand 17 = .ok (.if_icmp .ge 37, 3) := by decide +kernel
theorem dX10_stand_20 : decode cX10_stand 20 = .ok (.iload_n 2, 1) := by decide +kernel
theorem dX10_stand_21 : decode cX10_stand 21 = .ok (.iload_n 3, 1) := by decide +kernel
theorem dX10_stand_22 : decode cX10_stand 22 = .ok (.iload_n 1, 1) := by decide +kernel
theorem dX10_stand_23 : decode cX10_stand 23 = .ok (.if_icmp .ge 20, 3) := by decide +kernel
theorem dX10_stand_26 : decode cX10_stand 26 = .ok (.aload_n 0, 1) := by decide +kernel
theorem dX10_stand_27 : decode cX10_stand 27 = .ok (.getfield 49, 3) := by decide +kernel
theorem dX10_stand_30 : decode cX10_stand 30 = .ok (.iload_n 3, 1) := by decide +kernel
theorem dX10_stand_31 : decode cX10_stand 31 = .ok (.iaload, 1) := by decide +kernel
theorem dX10_stand_32 : decode cX10_stand 32 = .ok (.aload_n 0, 1) := by decide +kernel
theorem dX10_stand_33 : decode cX10_stand 33 = .ok (.getfield 15, 3) := by decide +kernel
theorem dX10_stand_36 : decode cX10_stand 36 = .ok (.bipush 9, 2) := by decide +kernel
theorem dX10_stand_38 : decode cX10_stand 38 = .ok (.iaload, 1) := by decide +kernel
theorem dX10_stand_39 : decode cX10_stand 39 = .ok (.isub, 1) := by decide +kernel
theorem dX10_stand_40 : decode cX10_stand 40 = .ok (.goto 6, 3) := by decide +kernel
theorem dX10_stand_43 : decode cX10_stand 43 = .ok (.sipush 240, 3) := by decide +kernel
theorem dX10_stand_46 : decode cX10_stand 46 = .ok (.iadd, 1) := by decide +kernel
theorem dX10_stand_47 : decode cX10_stand 47 = .ok (.istore_n 2, 1) := by decide +kernel
theorem dX10_stand_48 : decode cX10_stand 48 = .ok (.iinc 3 1, 3) := by decide +kernel
theorem dX10_stand_51 : decode cX10_stand 51 = .ok (.goto (-42), 3) := by decide +kernel
theorem dX10_stand_54 : decode cX10_stand 54 = .ok (.iload_n 2, 1) := by decide +kernel
theorem dX10_stand_55 : decode cX10_stand 55 = .ok (.ireturn, 1) := by decide +kernel
theorem dX10_heard_0 : decode cX10_heard 0 = .ok (.iload_n 1, 1) := by decide +kernel
theorem dX10_heard_1 : decode cX10_heard 1 = .ok (.invokestatic 226, 3) := by decide +kernel
theorem dX10_heard_4 : decode cX10_heard 4 = .ok (.ifCond .ne 6, 3) := by decide +kernel
theorem dX10_heard_7 : decode cX10_heard 7 = .ok (.bipush (-2), 2) := by decide +kernel
theorem dX10_heard_9 : decode cX10_heard 9 = .ok (.ireturn, 1) := by decide +kernel
theorem dX10_heard_10 : decode cX10_heard 10 = .ok (.aload_n 0, 1) := by decide +kernel
theorem dX10_heard_11 : decode cX10_heard 11 = .ok (.getfield 54, 3) := by decide +kernel
theorem dX10_heard_14 : decode cX10_heard 14 = .ok (.iload_n 1, 1) := by decide +kernel
theorem dX10_heard_15 : decode cX10_heard 15 = .ok (.aaload, 1) := by decide +kernel
theorem dX10_heard_16 : decode cX10_heard 16 = .ok (.astore_n 2, 1) := by decide +kernel
theorem dX10_heard_17 : decode cX10_heard 17 = .ok (.aload_n 2, 1) := by decide +kernel
theorem dX10_heard_18 : decode cX10_heard 18 = .ok (.invokevirtual 229, 3) := by decide +kernel
theorem dX10_heard_21 : decode cX10_heard 21 = .ok (.ifCond .eq 6, 3) := by decide +kernel
theorem dX10_heard_24 : decode cX10_heard 24 = .ok (.bipush (-11), 2) := by decide +kernel
theorem dX10_heard_26 : decode cX10_heard 26 = .ok (.ireturn, 1) := by decide +kernel
theorem dX10_heard_27 : decode cX10_heard 27 = .ok (.aload_n 2, 1) := by decide +kernel
theorem dX10_heard_28 : decode cX10_heard 28 = .ok (.getfield 233, 3) := by decide +kernel
theorem dX10_heard_31 : decode cX10_heard 31 = .ok (.iconst 2, 1) := by decide +kernel
theorem dX10_heard_32 : decode cX10_heard 32 = .ok (.irem, 1) := by decide +kernel
theorem dX10_heard_33 : decode cX10_heard 33 = .ok (.ifCond .eq 6, 3) := by decide +kernel
theorem dX10_heard_36 : decode cX10_heard 36 = .ok (.bipush (-2), 2) := by decide +kernel
theorem dX10_heard_38 : decode cX10_heard 38 = .ok (.ireturn, 1) := by decide +kernel
theorem dX10_heard_39 : decode cX10_heard 39 = .ok (.iconst 0, 1) := by decide +kernel
theorem dX10_heard_40 : decode cX10_heard 40 = .ok (.istore_n 3, 1) := by decide +kernel
theorem dX10_heard_41 : decode cX10_heard 41 = .ok (.iload_n 3, 1) := by decide +kernel
theorem dX10_heard_42 : decode cX10_heard 42 = .ok (.aload_n 2, 1) := by decide +kernel
theorem dX10_heard_43 : decode cX10_heard 43 = .ok (.getfield 233, 3) := by decide +kernel
theorem dX10_heard_46 : decode cX10_heard 46 = .ok (.iconst 2, 1) := by decide +kernel
theorem dX10_heard_47 : decode cX10_heard 47 = .ok (.idiv, 1) := by decide +kernel
theorem dX10_heard_48 : decode cX10_heard 48 = .ok (.if_icmp .ge 34, 3) := by decide +kernel
theorem dX10_heard_51 : decode cX10_heard 51 = .ok (.aload_n 0, 1) := by decide +kernel
theorem dX10_heard_52 : decode cX10_heard 52 = .ok (.aload_n 2, 1) := by decide +kernel
theorem dX10_heard_53 : decode cX10_heard 53 = .ok (.iconst 2, 1) := by decide +kernel
theorem dX10_heard_54 : decode cX10_heard 54 = .ok (.iload_n 3, 1) := by decide +kernel
theorem dX10_heard_55 : decode cX10_heard 55 = .ok (.imul, 1) := by decide +kernel
theorem dX10_heard_56 : decode cX10_heard 56 = .ok (.invokevirtual 234, 3) := by decide +kernel
theorem dX10_heard_59 : decode cX10_heard 59 = .ok (.aload_n 2, 1) := by decide +kernel
theorem dX10_heard_60 : decode cX10_heard 60 = .ok (.iconst 2, 1) := by decide +kernel
theorem dX10_heard_61 : decode cX10_heard 61 = .ok (.iload_n 3, 1) := by decide +kernel
theorem dX10_heard_62 : decode cX10_heard 62 = .ok (.imul, 1) := by decide +kernel
theorem dX10_heard_63 : decode cX10_heard 63 = .ok (.iconst 1, 1) := by decide +kernel
theorem dX10_heard_64 : decode cX10_heard 64 = .ok (.iadd, 1) := by decide +kernel
theorem dX10_heard_65 : decode cX10_heard 65 = .ok (.invokevirtual 234, 3) := by decide +kernel
theorem dX10_heard_68 : decode cX10_heard 68 = .ok (.invokevirtual 237, 3) := by decide +kernel
theorem dX10_heard_71 : decode cX10_heard 71 = .ok (.ifCond .ne 5, 3) := by decide +kernel
theorem dX10_heard_74 : decode cX10_heard 74 = .ok (.iload_n 3, 1) := by decide +kernel
theorem dX10_heard_75 : decode cX10_heard 75 = .ok (.ireturn, 1) := by decide +kernel
theorem dX10_heard_76 : decode cX10_heard 76 = .ok (.iinc 3 1, 3) := by decide +kernel
theorem dX10_heard_79 : decode cX10_heard 79 = .ok (.goto (-38), 3) := by decide +kernel
theorem dX10_heard_82 : decode cX10_heard 82 = .ok (.iconst (-1), 1) := by decide +kernel
theorem dX10_heard_83 : decode cX10_heard 83 = .ok (.ireturn, 1) := by decide +kernel
theorem dX10_where_0 : decode cX10_where 0 = .ok (.aload_n 0, 1) := by decide +kernel
theorem dX10_where_1 : decode cX10_where 1 = .ok (.iload_n 1, 1) := by decide +kernel
theorem dX10_where_2 : decode cX10_where 2 = .ok (.invokevirtual 99, 3) := by decide +kernel
theorem dX10_where_5 : decode cX10_where 5 = .ok (.ifCond .eq 13, 3) := by decide +kernel
theorem dX10_where_8 : decode cX10_where 8 = .ok (.iload_n 2, 1) := by decide +kernel
theorem dX10_where_9 : decode cX10_where 9 = .ok (.ifCond .lt 9, 3) := by decide +kernel
theorem dX10_where_12 : decode cX10_where 12 = .ok (.iload_n 2, 1) := by decide +kernel
theorem dX10_where_13 : decode cX10_where 13 = .ok (.bipush 6, 2) := by decide +kernel
theorem dX10_where_15 : decode cX10_where 15 = .ok (.if_icmp .lt 6, 3) := by decide +kernel
theorem dX10_where_18 : decode cX10_where 18 = .ok (.bipush (-2), 2) := by decide +kernel
theorem dX10_where_20 : decode cX10_where 20 = .ok (.ireturn, 1) := by decide +kernel
theorem dX10_where_21 : decode cX10_where 21 = .ok (.iconst 0, 1) := by decide +kernel
theorem dX10_where_22 : decode cX10_where 22 = .ok (.istore_n 3, 1) := by decide +kernel
theorem dX10_where_23 : decode cX10_where 23 = .ok (.iconst 0, 1) := by decide +kernel
theorem dX10_where_24 : decode cX10_where 24 = .ok (.istore 4, 2) := by decide +kernel
theorem dX10_where_26 : decode cX10_where 26 = .ok (.iload 4, 2) := by decide +kernel
theorem dX10_where_28 : decode cX10_where 28 = .ok (.bipush 8, 2) := by decide +kernel
theorem dX10_where_30 : decode cX10_where 30 = .ok (.if_icmp .ge 44, 3) := by decide +kernel
theorem dX10_where_33 : decode cX10_where 33 = .ok (.aload_n 0, 1) := by decide +kernel
theorem dX10_where_34 : decode cX10_where 34 = .ok (.iload_n 1, 1) := by decide +kernel
theorem dX10_where_35 : decode cX10_where 35 = .ok (.bipush 8, 2) := by decide +kernel
theorem dX10_where_37 : decode cX10_where 37 = .ok (.iload_n 2, 1) := by decide +kernel
theorem dX10_where_38 : decode cX10_where 38 = .ok (.imul, 1) := by decide +kernel
theorem dX10_where_39 : decode cX10_where 39 = .ok (.iload 4, 2) := by decide +kernel
end
section
theorem dX10_where_41 : decode cX10_where 41 = .ok (.iadd, 1) := by decide +kernel
theorem dX10_where_42 : decode cX10_where 42 = .ok (.aload_n 0, 1) := by decide +kernel
theorem dX10_where_43 : decode cX10_where 43 = .ok (.getfield 15, 3) := by decide +kernel
theorem dX10_where_46 : decode cX10_where 46 = .ok (.bipush 9, 2) := by decide +kernel
theorem dX10_where_48 : decode cX10_where 48 = .ok (.iaload, 1) := by decide +kernel
theorem dX10_where_49 : decode cX10_where 49 = .ok (.aload_n 0, 1) := by decide +kernel
theorem dX10_where_50 : decode cX10_where 50 = .ok (.getfield 15, 3) := by decide +kernel
theorem dX10_where_53 : decode cX10_where 53 = .ok (.iconst 5, 1) := by decide +kernel
theorem dX10_where_54 : decode cX10_where 54 = .ok (.iaload, 1) := by decide +kernel
theorem dX10_where_55 : decode cX10_where 55 = .ok (.invokevirtual 172, 3) := by decide +kernel
theorem dX10_where_58 : decode cX10_where 58 = .ok (.ifCond .eq 10, 3) := by decide +kernel
theorem dX10_where_61 : decode cX10_where 61 = .ok (.iload_n 3, 1) := by decide +kernel
theorem dX10_where_62 : decode cX10_where 62 = .ok (.iconst 1, 1) := by decide +kernel
theorem dX10_where_63 : decode cX10_where 63 = .ok (.iload 4, 2) := by decide +kernel
theorem dX10_where_65 : decode cX10_where 65 = .ok (.ishl, 1) := by decide +kernel
theorem dX10_where_66 : decode cX10_where 66 = .ok (.ior, 1) := by decide +kernel
theorem dX10_where_67 : decode cX10_where 67 = .ok (.istore_n 3, 1) := by decide +kernel
theorem dX10_where_68 : decode cX10_where 68 = .ok (.iinc 4 1, 3) := by decide +kernel
theorem dX10_where_71 : decode cX10_where 71 = .ok (.goto (-45), 3) := by decide +kernel
theorem dX10_where_74 : decode cX10_where 74 = .ok (.iload_n 3, 1) := by decide +kernel
theorem dX10_where_75 : decode cX10_where 75 = .ok (.ireturn, 1) := by decide +kernel
theorem dX10_drawn_0 : decode cX10_drawn 0 = .ok (.iload_n 1, 1) := by decide +kernel
theorem dX10_drawn_1 : decode cX10_drawn 1 = .ok (.invokestatic 240, 3) := by decide +kernel
theorem dX10_drawn_4 : decode cX10_drawn 4 = .ok (.istore_n 2, 1) := by decide +kernel
theorem dX10_drawn_5 : decode cX10_drawn 5 = .ok (.iconst 0, 1) := by decide +kernel
theorem dX10_drawn_6 : decode cX10_drawn 6 = .ok (.istore_n 3, 1) := by decide +kernel
theorem dX10_drawn_7 : decode cX10_drawn 7 = .ok (.iconst 0, 1) := by decide +kernel
theorem dX10_drawn_8 : decode cX10_drawn 8 = .ok (.istore 4, 2) := by decide +kernel
theorem dX10_drawn_10 : decode cX10_drawn 10 = .ok (.iload 4, 2) := by decide +kernel
theorem dX10_drawn_12 : decode cX10_drawn 12 = .ok (.aload_n 0, 1) := by decide +kernel
theorem dX10_drawn_13 : decode cX10_drawn 13 = .ok (.getfield 92, 3) := by decide +kernel
theorem dX10_drawn_16 : decode cX10_drawn 16 = .ok (.if_icmp .ge 50, 3) := by decide +kernel
theorem dX10_drawn_19 : decode cX10_drawn 19 = .ok (.aload_n 0, 1) := by decide +kernel
theorem dX10_drawn_20 : decode cX10_drawn 20 = .ok (.iload 4, 2) := by decide +kernel
theorem dX10_drawn_22 : decode cX10_drawn 22 = .ok (.invokevirtual 163, 3) := by decide +kernel
theorem dX10_drawn_25 : decode cX10_drawn 25 = .ok (.ifCond .eq 35, 3) := by decide +kernel
theorem dX10_drawn_28 : decode cX10_drawn 28 = .ok (.aload_n 0, 1) := by decide +kernel
theorem dX10_drawn_29 : decode cX10_drawn 29 = .ok (.iload 4, 2) := by decide +kernel
theorem dX10_drawn_31 : decode cX10_drawn 31 = .ok (.aload_n 0, 1) := by decide +kernel
theorem dX10_drawn_32 : decode cX10_drawn 32 = .ok (.getfield 11, 3) := by decide +kernel
theorem dX10_drawn_35 : decode cX10_drawn 35 = .ok (.iload 4, 2) := by decide +kernel
theorem dX10_drawn_37 : decode cX10_drawn 37 = .ok (.aaload, 1) := by decide +kernel
theorem dX10_drawn_38 : decode cX10_drawn 38 = .ok (.getfield 102, 3) := by decide +kernel
theorem dX10_drawn_41 : decode cX10_drawn 41 = .ok (.iconst 0, 1) := by decide +kernel
theorem dX10_drawn_42 : decode cX10_drawn 42 = .ok (.iaload, 1) := by decide +kernel
theorem dX10_drawn_43 : decode cX10_drawn 43 = .ok (.aload_n 0, 1) := by decide +kernel
theorem dX10_drawn_44 : decode cX10_drawn 44 = .ok (.getfield 15, 3) := by decide +kernel
theorem dX10_drawn_47 : decode cX10_drawn 47 = .ok (.bipush 9, 2) := by decide +kernel
theorem dX10_drawn_49 : decode cX10_drawn 49 = .ok (.iaload, 1) := by decide +kernel
theorem dX10_drawn_50 : decode cX10_drawn 50 = .ok (.iload_n 2, 1) := by decide +kernel
theorem dX10_drawn_51 : decode cX10_drawn 51 = .ok (.invokevirtual 172, 3) := by decide +kernel
theorem dX10_drawn_54 : decode cX10_drawn 54 = .ok (.ifCond .eq 6, 3) := by decide +kernel
theorem dX10_drawn_57 : decode cX10_drawn 57 = .ok (.iinc 3 1, 3) := by decide +kernel
theorem dX10_drawn_60 : decode cX10_drawn 60 = .ok (.iinc 4 1, 3) := by decide +kernel
theorem dX10_drawn_63 : decode cX10_drawn 63 = .ok (.goto (-53), 3) := by decide +kernel
theorem dX10_drawn_66 : decode cX10_drawn 66 = .ok (.iload_n 3, 1) := by decide +kernel
theorem dX10_drawn_67 : decode cX10_drawn 67 = .ok (.ireturn, 1) := by decide +kernel
theorem dX10_chance_0 : decode cX10_chance 0 = .ok (.iload_n 2, 1) := by decide +kernel
theorem dX10_chance_1 : decode cX10_chance 1 = .ok (.iconst 1, 1) := by decide +kernel
theorem dX10_chance_2 : decode cX10_chance 2 = .ok (.if_icmp .lt 18, 3) := by decide +kernel
theorem dX10_chance_5 : decode cX10_chance 5 = .ok (.iload_n 2, 1) := by decide +kernel
theorem dX10_chance_6 : decode cX10_chance 6 = .ok (.bipush 20, 2) := by decide +kernel
theorem dX10_chance_8 : decode cX10_chance 8 = .ok (.if_icmp .gt 12, 3) := by decide +kernel
theorem dX10_chance_11 : decode cX10_chance 11 = .ok (.iload_n 3, 1) := by decide +kernel
theorem dX10_chance_12 : decode cX10_chance 12 = .ok (.ifCond .lt 8, 3) := by decide +kernel
theorem dX10_chance_15 : decode cX10_chance 15 = .ok (.iload_n 3, 1) := by decide +kernel
theorem dX10_chance_16 : decode cX10_chance 16 = .ok (.iconst 1, 1) := by decide +kernel
theorem dX10_chance_17 : decode cX10_chance 17 = .ok (.if_icmp .le 7, 3) := by decide +kernel
theorem dX10_chance_20 : decode cX10_chance 20 = .ok (.ldc2_w 243, 3) := by decide +kernel
theorem dX10_chance_23 : decode cX10_chance 23 = .ok (.lreturn, 1) := by decide +kernel
theorem dX10_chance_24 : decode cX10_chance 24 = .ok (.iconst 0, 1) := by decide +kernel
theorem dX10_chance_25 : decode cX10_chance 25 = .ok (.istore 4, 2) := by decide +kernel
theorem dX10_chance_27 : decode cX10_chance 27 = .ok (.aload_n 0, 1) := by decide +kernel
theorem dX10_chance_28 : decode cX10_chance 28 = .ok (.iconst 0, 1) := by decide +kernel
theorem dX10_chance_29 : decode cX10_chance 29 = .ok (.invokevirtual 245, 3) := by decide +kernel
theorem dX10_chance_32 : decode cX10_chance 32 = .ok (.invokestatic 248, 3) := by decide +kernel
theorem dX10_chance_35 : decode cX10_chance 35 = .ok (.istore 5, 2) := by decide +kernel
theorem dX10_chance_37 : decode cX10_chance 37 = .ok (.iconst 0, 1) := by decide +kernel
theorem dX10_chance_38 : decode cX10_chance 38 = .ok (.istore 6, 2) := by decide +kernel
theorem dX10_chance_40 : decode cX10_chance 40 = .ok (.iload 6, 2) := by decide +kernel
theorem dX10_chance_42 : decode cX10_chance 42 = .ok (.iload_n 2, 1) := by decide +kernel
theorem dX10_chance_43 : decode cX10_chance 43 = .ok (.if_icmp .ge 25, 3) := by decide +kernel
theorem dX10_chance_46 : decode cX10_chance 46 = .ok (.aload_n 0, 1) := by decide +kernel
theorem dX10_chance_47 : decode cX10_chance 47 = .ok (.iload_n 1, 1) := by decide +kernel
theorem dX10_chance_48 : decode cX10_chance 48 = .ok (.iload 6, 2) := by decide +kernel
theorem dX10_chance_50 : decode cX10_chance 50 = .ok (.iadd, 1) := by decide +kernel
theorem dX10_chance_51 : decode cX10_chance 51 = .ok (.invokevirtual 253, 3) := by decide +kernel
theorem dX10_chance_54 : decode cX10_chance 54 = .ok (.iload 5, 2) := by decide +kernel
theorem dX10_chance_56 : decode cX10_chance 56 = .ok (.if_icmp .ne 6, 3) := by decide +kernel
theorem dX10_chance_59 : decode cX10_chance 59 = .ok (.iinc 4 1, 3) := by decide +kernel
theorem dX10_chance_62 : decode cX10_chance 62 = .ok (.iinc 6 1, 3) := by decide +kernel
theorem dX10_chance_65 : decode cX10_chance 65 = .ok (.goto (-25), 3) := by decide +kernel
theorem dX10_chance_68 : decode cX10_chance 68 = .ok (.iload 4, 2) := by decide +kernel
theorem dX10_chance_70 : decode cX10_chance 70 = .ok (.iload_n 2, 1) := by decide +kernel
theorem dX10_chance_71 : decode cX10_chance 71 = .ok (.invokestatic 256, 3) := by decide +kernel
theorem dX10_chance_74 : decode cX10_chance 74 = .ok (.istore 6, 2) := by decide +kernel
theorem dX10_chance_76 : decode cX10_chance 76 = .ok (.iload_n 3, 1) := by decide +kernel
theorem dX10_chance_77 : decode cX10_chance 77 = .ok (.ifCond .ne 12, 3) := by decide +kernel
theorem dX10_chance_80 : decode cX10_chance 80 = .ok (.iload 4, 2) := by decide +kernel
theorem dX10_chance_82 : decode cX10_chance 82 = .ok (.iload 6, 2) := by decide +kernel
theorem dX10_chance_84 : decode cX10_chance 84 = .ok (.idiv, 1) := by decide +kernel
theorem dX10_chance_85 : decode cX10_chance 85 = .ok (.i2l, 1) := by decide +kernel
theorem dX10_chance_86 : decode cX10_chance 86 = .ok (.goto 8, 3) := by decide +kernel
theorem dX10_chance_89 : decode cX10_chance 89 = .ok (.iload_n 2, 1) := by decide +kernel
theorem dX10_chance_90 : decode cX10_chance 90 = .ok (.iload 6, 2) := by decide +kernel
theorem dX10_chance_92 : decode cX10_chance 92 = .ok (.idiv, 1) := by decide +kernel
theorem dX10_chance_93 : decode cX10_chance 93 = .ok (.i2l, 1) := by decide +kernel
theorem dX10_chance_94 : decode cX10_chance 94 = .ok (.lreturn, 1) := by decide +kernel
theorem dX10_image_0 : decode cX10_image 0 = .ok (.aload_n 0, 1) := by decide +kernel
theorem dX10_image_1 : decode cX10_image 1 = .ok (.getfield 15, 3) := by decide +kernel
theorem dX10_image_4 : decode cX10_image 4 = .ok (.iconst 0, 1) := by decide +kernel
theorem dX10_image_5 : decode cX10_image 5 = .ok (.aload_n 0, 1) := by decide +kernel
theorem dX10_image_6 : decode cX10_image 6 = .ok (.getfield 19, 3) := by decide +kernel
theorem dX10_image_9 : decode cX10_image 9 = .ok (.iconst 0, 1) := by decide +kernel
theorem dX10_image_10 : decode cX10_image 10 = .ok (.bipush 12, 2) := by decide +kernel
theorem dX10_image_12 : decode cX10_image 12 = .ok (.invokestatic 259, 3) := by decide +kernel
theorem dX10_image_15 : decode cX10_image 15 = .ok (.iconst 0, 1) := by decide +kernel
theorem dX10_image_16 : decode cX10_image 16 = .ok (.istore_n 1, 1) := by decide +kernel
theorem dX10_image_17 : decode cX10_image 17 = .ok (.iload_n 1, 1) := by decide +kernel
theorem dX10_image_18 : decode cX10_image 18 = .ok (.aload_n 0, 1) := by decide +kernel
theorem dX10_image_19 : decode cX10_image 19 = .ok (.getfield 92, 3) := by decide +kernel
theorem dX10_image_22 : decode cX10_image 22 = .ok (.if_icmp .ge 18, 3) := by decide +kernel
theorem dX10_image_25 : decode cX10_image 25 = .ok (.aload_n 0, 1) := by decide +kernel
theorem dX10_image_26 : decode cX10_image 26 = .ok (.getfield 11, 3) := by decide +kernel
theorem dX10_image_29 : decode cX10_image 29 = .ok (.iload_n 1, 1) := by decide +kernel
theorem dX10_image_30 : decode cX10_image 30 = .ok (.aaload, 1) := by decide +kernel
theorem dX10_image_31 : decode cX10_image 31 = .ok (.invokevirtual 265, 3) := by decide +kernel
theorem dX10_image_34 : decode cX10_image 34 = .ok (.iinc 1 1, 3) := by decide +kernel
theorem dX10_image_37 : decode cX10_image 37 = .ok (.goto (-20), 3) := by decide +kernel
theorem dX10_image_40 : decode cX10_image 40 = .ok (.aload_n 0, 1) := by decide +kernel
theorem dX10_image_41 : decode cX10_image 41 = .ok (.aload_n 0, 1) := by decide +kernel
theorem dX10_image_42 : decode cX10_image 42 = .ok (.getfield 92, 3) := by decide +kernel
theorem dX10_image_45 : decode cX10_image 45 = .ok (.putfield 22, 3) := by decide +kernel
theorem dX10_image_48 : decode cX10_image 48 = .ok (.aload_n 0, 1) := by decide +kernel
theorem dX10_image_49 : decode cX10_image 49 = .ok (.getfield 92, 3) := by decide +kernel
theorem dX10_image_52 : decode cX10_image 52 = .ok (.ireturn, 1) := by decide +kernel
theorem dX10_back_0 : decode cX10_back 0 = .ok (.aload_n 0, 1) := by decide +kernel
theorem dX10_back_1 : decode cX10_back 1 = .ok (.getfield 22, 3) := by decide +kernel
theorem dX10_back_4 : decode cX10_back 4 = .ok (.iconst (-1), 1) := by decide +kernel
theorem dX10_back_5 : decode cX10_back 5 = .ok (.if_icmp .ne 6, 3) := by decide +kernel
theorem dX10_back_8 : decode cX10_back 8 = .ok (.bipush (-3), 2) := by decide +kernel
theorem dX10_back_10 : decode cX10_back 10 = .ok (.ireturn, 1) := by decide +kernel
theorem dX10_back_11 : decode cX10_back 11 = .ok (.aload_n 0, 1) := by decide +kernel
theorem dX10_back_12 : decode cX10_back 12 = .ok (.getfield 19, 3) := by decide +kernel
theorem dX10_back_15 : decode cX10_back 15 = .ok (.iconst 0, 1) := by decide +kernel
theorem dX10_back_16 : decode cX10_back 16 = .ok (.aload_n 0, 1) := by decide +kernel
theorem dX10_back_17 : decode cX10_back 17 = .ok (.getfield 15, 3) := by decide +kernel
theorem dX10_back_20 : decode cX10_back 20 = .ok (.iconst 0, 1) := by decide +kernel
theorem dX10_back_21 : decode cX10_back 21 = .ok (.bipush 12, 2) := by decide +kernel
theorem dX10_back_23 : decode cX10_back 23 = .ok (.invokestatic 259, 3) := by decide +kernel
theorem dX10_back_26 : decode cX10_back 26 = .ok (.aload_n 0, 1) := by decide +kernel
theorem dX10_back_27 : decode cX10_back 27 = .ok (.aload_n 0, 1) := by decide +kernel
theorem dX10_back_28 : decode cX10_back 28 = .ok (.getfield 22, 3) := by decide +kernel
theorem dX10_back_31 : decode cX10_back 31 = .ok (.putfield 92, 3) := by decide +kernel
theorem dX10_back_34 : decode cX10_back 34 = .ok (.iconst 0, 1) := by decide +kernel
theorem dX10_back_35 : decode cX10_back 35 = .ok (.istore_n 1, 1) := by decide +kernel
theorem dX10_back_36 : decode cX10_back 36 = .ok (.iload_n 1, 1) := by decide +kernel
theorem dX10_back_37 : decode cX10_back 37 = .ok (.aload_n 0, 1) := by decide +kernel
theorem dX10_back_38 : decode cX10_back 38 = .ok (.getfield 92, 3) := by decide +kernel
theorem dX10_back_41 : decode cX10_back 41 = .ok (.if_icmp .ge 18, 3) := by decide +kernel
theorem dX10_back_44 : decode cX10_back 44 = .ok (.aload_n 0, 1) := by decide +kernel
theorem dX10_back_45 : decode cX10_back 45 = .ok (.getfield 11, 3) := by decide +kernel
theorem dX10_back_48 : decode cX10_back 48 = .ok (.iload_n 1, 1) := by decide +kernel
theorem dX10_back_49 : decode cX10_back 49 = .ok (.aaload, 1) := by decide +kernel
theorem dX10_back_50 : decode cX10_back 50 = .ok (.invokevirtual 268, 3) := by decide +kernel
theorem dX10_back_53 : decode cX10_back 53 = .ok (.iinc 1 1, 3) := by decide +kernel
theorem dX10_back_56 : decode cX10_back 56 = .ok (.goto (-20), 3) := by decide +kernel
theorem dX10_back_59 : decode cX10_back 59 = .ok (.aload_n 0, 1) := by decide +kernel
theorem dX10_back_60 : decode cX10_back 60 = .ok (.getfield 92, 3) := by decide +kernel
theorem dX10_back_63 : decode cX10_back 63 = .ok (.ireturn, 1) := by decide +kernel
theorem dX10_count_0 : decode cX10_count 0 = .ok (.iload_n 1, 1) := by decide +kernel
theorem dX10_count_1 : decode cX10_count 1 = .ok (.tableswitch 132 0 9 #[55, 60, 69, 78, 87, 95, 103, 111, 116, 124], 55) := by decide +kernel
theorem dX10_count_56 : decode cX10_count 56 = .ok (.aload_n 0, 1) := by decide +kernel
theorem dX10_count_57 : decode cX10_count 57 = .ok (.getfield 92, 3) := by decide +kernel
theorem dX10_count_60 : decode cX10_count 60 = .ok (.ireturn, 1) := by decide +kernel
theorem dX10_count_61 : decode cX10_count 61 = .ok (.aload_n 0, 1) := by decide +kernel
theorem dX10_count_62 : decode cX10_count 62 = .ok (.iconst 0, 1) := by decide +kernel
theorem dX10_count_63 : decode cX10_count 63 = .ok (.invokevirtual 245, 3) := by decide +kernel
theorem dX10_count_66 : decode cX10_count 66 = .ok (.invokestatic 248, 3) := by decide +kernel
theorem dX10_count_69 : decode cX10_count 69 = .ok (.ireturn, 1) := by decide +kernel
theorem dX10_count_70 : decode cX10_count 70 = .ok (.aload_n 0, 1) := by decide +kernel
theorem dX10_count_71 : decode cX10_count 71 = .ok (.iconst 1, 1) := by decide +kernel
theorem dX10_count_72 : decode cX10_count 72 = .ok (.invokevirtual 245, 3) := by decide +kernel
theorem dX10_count_75 : decode cX10_count 75 = .ok (.invokestatic 248, 3) := by decide +kernel
theorem dX10_count_78 : decode cX10_count 78 = .ok (.ireturn, 1) := by decide +kernel
theorem dX10_count_79 : decode cX10_count 79 = .ok (.aload_n 0, 1) := by decide +kernel
theorem dX10_count_80 : decode cX10_count 80 = .ok (.iconst 2, 1) := by decide +kernel
theorem dX10_count_81 : decode cX10_count 81 = .ok (.invokevirtual 245, 3) := by decide +kernel
theorem dX10_count_84 : decode cX10_count 84 = .ok (.invokestatic 248, 3) := by decide +kernel
theorem dX10_count_87 : decode cX10_count 87 = .ok (.ireturn, 1) := by decide +kernel
theorem dX10_count_88 : decode cX10_count 88 = .ok (.aload_n 0, 1) := by decide +kernel
theorem dX10_count_89 : decode cX10_count 89 = .ok (.getfield 15, 3) := by decide +kernel
theorem dX10_count_92 : decode cX10_count 92 = .ok (.bipush 9, 2) := by decide +kernel
theorem dX10_count_94 : decode cX10_count 94 = .ok (.iaload, 1) := by decide +kernel
theorem dX10_count_95 : decode cX10_count 95 = .ok (.ireturn, 1) := by decide +kernel
theorem dX10_count_96 : decode cX10_count 96 = .ok (.aload_n 0, 1) := by decide +kernel
theorem dX10_count_97 : decode cX10_count 97 = .ok (.getfield 15, 3) := by decide +kernel
theorem dX10_count_100 : decode cX10_count 100 = .ok (.bipush 10, 2) := by decide +kernel
theorem dX10_count_102 : decode cX10_count 102 = .ok (.iaload, 1) := by decide +kernel
theorem dX10_count_103 : decode cX10_count 103 = .ok (.ireturn, 1) := by decide +kernel
theorem dX10_count_104 : decode cX10_count 104 = .ok (.aload_n 0, 1) := by decide +kernel
theorem dX10_count_105 : decode cX10_count 105 = .ok (.getfield 15, 3) := by decide +kernel
theorem dX10_count_108 : decode cX10_count 108 = .ok (.bipush 8, 2) := by decide +kernel
theorem dX10_count_110 : decode cX10_count 110 = .ok (.iaload, 1) := by decide +kernel
theorem dX10_count_111 : decode cX10_count 111 = .ok (.ireturn, 1) := by decide +kernel
theorem dX10_count_112 : decode cX10_count 112 = .ok (.aload_n 0, 1) := by decide +kernel
theorem dX10_count_113 : decode cX10_count 113 = .ok (.getfield 82, 3) := by decide +kernel
theorem dX10_count_116 : decode cX10_count 116 = .ok (.ireturn, 1) := by decide +kernel
theorem dX10_count_117 : decode cX10_count 117 = .ok (.aload_n 0, 1) := by decide +kernel
theorem dX10_count_118 : decode cX10_count 118 = .ok (.getfield 29, 3) := by decide +kernel
theorem dX10_count_121 : decode cX10_count 121 = .ok (.getfield 146, 3) := by decide +kernel
theorem dX10_count_124 : decode cX10_count 124 = .ok (.ireturn, 1) := by decide +kernel
theorem dX10_count_125 : decode cX10_count 125 = .ok (.aload_n 0, 1) := by decide +kernel
theorem dX10_count_126 : decode cX10_count 126 = .ok (.getfield 15, 3) := by decide +kernel
theorem dX10_count_129 : decode cX10_count 129 = .ok (.bipush 11, 2) := by decide +kernel
theorem dX10_count_131 : decode cX10_count 131 = .ok (.iaload, 1) := by decide +kernel
theorem dX10_count_132 : decode cX10_count 132 = .ok (.ireturn, 1) := by decide +kernel
theorem dX10_count_133 : decode cX10_count 133 = .ok (.bipush (-2), 2) := by decide +kernel
theorem dX10_count_135 : decode cX10_count 135 = .ok (.ireturn, 1) := by decide +kernel
theorem dX10_those_0 : decode cX10_those 0 = .ok (.iconst 0, 1) := by decide +kernel
theorem dX10_those_1 : decode cX10_those 1 = .ok (.istore_n 2, 1) := by decide +kernel
theorem dX10_those_2 : decode cX10_those 2 = .ok (.iconst 0, 1) := by decide +kernel
theorem dX10_those_3 : decode cX10_those 3 = .ok (.istore_n 3, 1) := by decide +kernel
theorem dX10_those_4 : decode cX10_those 4 = .ok (.iload_n 3, 1) := by decide +kernel
theorem dX10_those_5 : decode cX10_those 5 = .ok (.aload_n 0, 1) := by decide +kernel
theorem dX10_those_6 : decode cX10_those 6 = .ok (.getfield 92, 3) := by decide +kernel
theorem dX10_those_9 : decode cX10_those 9 = .ok (.if_icmp .ge 30, 3) := by decide +kernel
theorem dX10_those_12 : decode cX10_those 12 = .ok (.aload_n 0, 1) := by decide +kernel
theorem dX10_those_13 : decode cX10_those 13 = .ok (.getfield 11, 3) := by decide +kernel
theorem dX10_those_16 : decode cX10_those 16 = .ok (.iload_n 3, 1) := by decide +kernel
theorem dX10_those_17 : decode cX10_those 17 = .ok (.aaload, 1) := by decide +kernel
theorem dX10_those_18 : decode cX10_those 18 = .ok (.getfield 102, 3) := by decide +kernel
theorem dX10_those_21 : decode cX10_those 21 = .ok (.iconst 4, 1) := by decide +kernel
theorem dX10_those_22 : decode cX10_those 22 = .ok (.iaload, 1) := by decide +kernel
theorem dX10_those_23 : decode cX10_those 23 = .ok (.iload_n 1, 1) := by decide +kernel
theorem dX10_those_24 : decode cX10_those 24 = .ok (.if_icmp .ne 9, 3) := by decide +kernel
theorem dX10_those_27 : decode cX10_those 27 = .ok (.iload_n 2, 1) := by decide +kernel
theorem dX10_those_28 : decode cX10_those 28 = .ok (.iconst 1, 1) := by decide +kernel
theorem dX10_those_29 : decode cX10_those 29 = .ok (.iload_n 3, 1) := by decide +kernel
theorem dX10_those_30 : decode cX10_those 30 = .ok (.ishl, 1) := by decide +kernel
theorem dX10_those_31 : decode cX10_those 31 = .ok (.ior, 1) := by decide +kernel
theorem dX10_those_32 : decode cX10_those 32 = .ok (.istore_n 2, 1) := by decide +kernel
theorem dX10_those_33 : decode cX10_those 33 = .ok (.iinc 3 1, 3) := by decide +kernel
theorem dX10_those_36 : decode cX10_those 36 = .ok (.goto (-32), 3) := by decide +kernel
theorem dX10_those_39 : decode cX10_those 39 = .ok (.iload_n 2, 1) := by decide +kernel
theorem dX10_those_40 : decode cX10_those 40 = .ok (.ireturn, 1) := by decide +kernel
theorem dX10_areOnTheLake_0 : decode cX10_areOnTheLake 0 = .ok (.iload_n 1, 1) := by decide +kernel
theorem dX10_areOnTheLake_1 : decode cX10_areOnTheLake 1 = .ok (.aload_n 0, 1) := by decide +kernel
theorem dX10_areOnTheLake_2 : decode cX10_areOnTheLake 2 = .ok (.iconst 0, 1) := by decide +kernel
theorem dX10_areOnTheLake_3 : decode cX10_areOnTheLake 3 = .ok (.invokevirtual 245, 3) := by decide +kernel
theorem dX10_areOnTheLake_6 : decode cX10_areOnTheLake 6 = .ok (.iconst (-1), 1) := by decide +kernel
theorem dX10_areOnTheLake_7 : decode cX10_areOnTheLake 7 = .ok (.ixor, 1) := by decide +kernel
theorem dX10_areOnTheLake_8 : decode cX10_areOnTheLake 8 = .ok (.iand, 1) := by decide +kernel
theorem dX10_areOnTheLake_9 : decode cX10_areOnTheLake 9 = .ok (.ifCond .ne 7, 3) := by decide +kernel
theorem dX10_areOnTheLake_12 : decode cX10_areOnTheLake 12 = .ok (.iconst 1, 1) := by decide +kernel
theorem dX10_areOnTheLake_13 : decode cX10_areOnTheLake 13 = .ok (.goto 4, 3) := by decide +kernel
theorem dX10_areOnTheLake_16 : decode cX10_areOnTheLake 16 = .ok (.iconst 0, 1) := by decide +kernel
theorem dX10_areOnTheLake_17 : decode cX10_areOnTheLake 17 = .ok (.ireturn, 1) := by decide +kernel
theorem dX10_readyTug_0 : decode cX10_readyTug 0 = .ok (.iconst 0, 1) := by decide +kernel
theorem dX10_readyTug_1 : decode cX10_readyTug 1 = .ok (.istore_n 1, 1) := by decide +kernel
theorem dX10_readyTug_2 : decode cX10_readyTug 2 = .ok (.iload_n 1, 1) := by decide +kernel
theorem dX10_readyTug_3 : decode cX10_readyTug 3 = .ok (.aload_n 0, 1) := by decide +kernel
theorem dX10_readyTug_4 : decode cX10_readyTug 4 = .ok (.getfield 92, 3) := by decide +kernel
theorem dX10_readyTug_7 : decode cX10_readyTug 7 = .ok (.if_icmp .ge 29, 3) := by decide +kernel
theorem dX10_readyTug_10 : decode cX10_readyTug 10 = .ok (.aload_n 0, 1) := by decide +kernel
theorem dX10_readyTug_11 : decode cX10_readyTug 11 = .ok (.getfield 45, 3) := by decide +kernel
theorem dX10_readyTug_14 : decode cX10_readyTug 14 = .ok (.getfield 271, 3) := by decide +kernel
theorem dX10_readyTug_17 : decode cX10_readyTug 17 = .ok (.iload_n 1, 1) := by decide +kernel
theorem dX10_readyTug_18 : decode cX10_readyTug 18 = .ok (.aload_n 0, 1) := by decide +kernel
theorem dX10_readyTug_19 : decode cX10_readyTug 19 = .ok (.getfield 11, 3) := by decide +kernel
theorem dX10_readyTug_22 : decode cX10_readyTug 22 = .ok (.iload_n 1, 1) := by decide +kernel
theorem dX10_readyTug_23 : decode cX10_readyTug 23 = .ok (.aaload, 1) := by decide +kernel
theorem dX10_readyTug_24 : decode cX10_readyTug 24 = .ok (.getfield 102, 3) := by decide +kernel
theorem dX10_readyTug_27 : decode cX10_readyTug 27 = .ok (.iconst 0, 1) := by decide +kernel
theorem dX10_readyTug_28 : decode cX10_readyTug 28 = .ok (.iaload, 1) := by decide +kernel
theorem dX10_readyTug_29 : decode cX10_readyTug 29 = .ok (.iastore, 1) := by decide +kernel
theorem dX10_readyTug_30 : decode cX10_readyTug 30 = .ok (.iinc 1 1, 3) := by decide +kernel
theorem dX10_readyTug_33 : decode cX10_readyTug 33 = .ok (.goto (-31), 3) := by decide +kernel
theorem dX10_readyTug_36 : decode cX10_readyTug 36 = .ok (.aload_n 0, 1) := by decide +kernel
theorem dX10_readyTug_37 : decode cX10_readyTug 37 = .ok (.getfield 45, 3) := by decide +kernel
theorem dX10_readyTug_40 : decode cX10_readyTug 40 = .ok (.aload_n 0, 1) := by decide +kernel
theorem dX10_readyTug_41 : decode cX10_readyTug 41 = .ok (.getfield 15, 3) := by decide +kernel
theorem dX10_readyTug_44 : decode cX10_readyTug 44 = .ok (.bipush 6, 2) := by decide +kernel
theorem dX10_readyTug_46 : decode cX10_readyTug 46 = .ok (.iaload, 1) := by decide +kernel
theorem dX10_readyTug_47 : decode cX10_readyTug 47 = .ok (.putfield 274, 3) := by decide +kernel
theorem dX10_readyTug_50 : decode cX10_readyTug 50 = .ok (.aload_n 0, 1) := by decide +kernel
theorem dX10_readyTug_51 : decode cX10_readyTug 51 = .ok (.getfield 45, 3) := by decide +kernel
theorem dX10_readyTug_54 : decode cX10_readyTug 54 = .ok (.aload_n 0, 1) := by decide +kernel
theorem dX10_readyTug_55 : decode cX10_readyTug 55 = .ok (.getfield 15, 3) := by decide +kernel
theorem dX10_readyTug_58 : decode cX10_readyTug 58 = .ok (.bipush 7, 2) := by decide +kernel
theorem dX10_readyTug_60 : decode cX10_readyTug 60 = .ok (.iaload, 1) := by decide +kernel
theorem dX10_readyTug_61 : decode cX10_readyTug 61 = .ok (.putfield 277, 3) := by decide +kernel
theorem dX10_readyTug_64 : decode cX10_readyTug 64 = .ok (.return_, 1) := by decide +kernel
theorem dX10_inBy_0 : decode cX10_inBy 0 = .ok (.aload_n 0, 1) := by decide +kernel
theorem dX10_inBy_1 : decode cX10_inBy 1 = .ok (.iconst 2, 1) := by decide +kernel
theorem dX10_inBy_2 : decode cX10_inBy 2 = .ok (.invokevirtual 245, 3) := by decide +kernel
theorem dX10_inBy_5 : decode cX10_inBy 5 = .ok (.istore_n 2, 1) := by decide +kernel
theorem dX10_inBy_6 : decode cX10_inBy 6 = .ok (.iconst 0, 1) := by decide +kernel
theorem dX10_inBy_7 : decode cX10_inBy 7 = .ok (.istore_n 3, 1) := by decide +kernel
theorem dX10_inBy_8 : decode cX10_inBy 8 = .ok (.iload_n 3, 1) := by decide +kernel
theorem dX10_inBy_9 : decode cX10_inBy 9 = .ok (.aload_n 0, 1) := by decide +kernel
theorem dX10_inBy_10 : decode cX10_inBy 10 = .ok (.getfield 92, 3) := by decide +kernel
theorem dX10_inBy_13 : decode cX10_inBy 13 = .ok (.if_icmp .ge 34, 3) := by decide +kernel
theorem dX10_inBy_16 : decode cX10_inBy 16 = .ok (.aload_n 0, 1) := by decide +kernel
theorem dX10_inBy_17 : decode cX10_inBy 17 = .ok (.iload_n 3, 1) := by decide +kernel
theorem dX10_inBy_18 : decode cX10_inBy 18 = .ok (.invokevirtual 176, 3) := by decide +kernel
theorem dX10_inBy_21 : decode cX10_inBy 21 = .ok (.istore 4, 2) := by decide +kernel
theorem dX10_inBy_23 : decode cX10_inBy 23 = .ok (.iload 4, 2) := by decide +kernel
theorem dX10_inBy_25 : decode cX10_inBy 25 = .ok (.iconst (-1), 1) := by decide +kernel
theorem dX10_inBy_26 : decode cX10_inBy 26 = .ok (.if_icmp .eq 15, 3) := by decide +kernel
theorem dX10_inBy_29 : decode cX10_inBy 29 = .ok (.iload 4, 2) := by decide +kernel
theorem dX10_inBy_31 : decode cX10_inBy 31 = .ok (.iload_n 1, 1) := by decide +kernel
theorem dX10_inBy_32 : decode cX10_inBy 32 = .ok (.if_icmp .gt 9, 3) := by decide +kernel
theorem dX10_inBy_35 : decode cX10_inBy 35 = .ok (.iload_n 2, 1) := by decide +kernel
theorem dX10_inBy_36 : decode cX10_inBy 36 = .ok (.iconst 1, 1) := by decide +kernel
theorem dX10_inBy_37 : decode cX10_inBy 37 = .ok (.iload_n 3, 1) := by decide +kernel
theorem dX10_inBy_38 : decode cX10_inBy 38 = .ok (.ishl, 1) := by decide +kernel
theorem dX10_inBy_39 : decode cX10_inBy 39 = .ok (.ior, 1) := by decide +kernel
theorem dX10_inBy_40 : decode cX10_inBy 40 = .ok (.istore_n 2, 1) := by decide +kernel
theorem dX10_inBy_41 : decode cX10_inBy 41 = .ok (.iinc 3 1, 3) := by decide +kernel
theorem dX10_inBy_44 : decode cX10_inBy 44 = .ok (.goto (-36), 3) := by decide +kernel
theorem dX10_inBy_47 : decode cX10_inBy 47 = .ok (.iload_n 2, 1) := by decide +kernel
theorem dX10_inBy_48 : decode cX10_inBy 48 = .ok (.ireturn, 1) := by decide +kernel
theorem dX10_mostFetched_0 : decode cX10_mostFetched 0 = .ok (.aload_n 0, 1) := by decide +kernel
theorem dX10_mostFetched_1 : decode cX10_mostFetched 1 = .ok (.invokevirtual 205, 3) := by decide +kernel
theorem dX10_mostFetched_4 : decode cX10_mostFetched 4 = .ok (.iconst 0, 1) := by decide +kernel
theorem dX10_mostFetched_5 : decode cX10_mostFetched 5 = .ok (.istore_n 3, 1) := by decide +kernel
theorem dX10_mostFetched_6 : decode cX10_mostFetched 6 = .ok (.iload_n 1, 1) := by decide +kernel
theorem dX10_mostFetched_7 : decode cX10_mostFetched 7 = .ok (.istore 4, 2) := by decide +kernel
theorem dX10_mostFetched_9 : decode cX10_mostFetched 9 = .ok (.iload 4, 2) := by decide +kernel
theorem dX10_mostFetched_11 : decode cX10_mostFetched 11 = .ok (.ifCond .le 47, 3) := by decide +kernel
theorem dX10_mostFetched_14 : decode cX10_mostFetched 14 = .ok (.iload 4, 2) := by decide +kernel
theorem dX10_mostFetched_16 : decode cX10_mostFetched 16 = .ok (.invokestatic 248, 3) := by decide +kernel
theorem dX10_mostFetched_19 : decode cX10_mostFetched 19 = .ok (.istore 5, 2) := by decide +kernel
theorem dX10_mostFetched_21 : decode cX10_mostFetched 21 = .ok (.iload 4, 2) := by decide +kernel
theorem dX10_mostFetched_23 : decode cX10_mostFetched 23 = .ok (.iload_n 1, 1) := by decide +kernel
theorem dX10_mostFetched_24 : decode cX10_mostFetched 24 = .ok (.iconst (-1), 1) := by decide +kernel
theorem dX10_mostFetched_25 : decode cX10_mostFetched 25 = .ok (.ixor, 1) := by decide +kernel
theorem dX10_mostFetched_26 : decode cX10_mostFetched 26 = .ok (.iand, 1) := by decide +kernel
theorem dX10_mostFetched_27 : decode cX10_mostFetched 27 = .ok (.ifCond .ne 25, 3) := by decide +kernel
theorem dX10_mostFetched_30 : decode cX10_mostFetched 30 = .ok (.iload 5, 2) := by decide +kernel
theorem dX10_mostFetched_32 : decode cX10_mostFetched 32 = .ok (.iload_n 3, 1) := by decide +kernel
theorem dX10_mostFetched_33 : decode cX10_mostFetched 33 = .ok (.if_icmp .le 19, 3) := by decide +kernel
theorem dX10_mostFetched_36 : decode cX10_mostFetched 36 = .ok (.aload_n 0, 1) := by decide +kernel
theorem dX10_mostFetched_37 : decode cX10_mostFetched 37 = .ok (.getfield 45, 3) := by decide +kernel
theorem dX10_mostFetched_40 : decode cX10_mostFetched 40 = .ok (.iload 4, 2) := by decide +kernel
theorem dX10_mostFetched_42 : decode cX10_mostFetched 42 = .ok (.invokevirtual 208, 3) := by decide +kernel
theorem dX10_mostFetched_45 : decode cX10_mostFetched 45 = .ok (.iload_n 2, 1) := by decide +kernel
theorem dX10_mostFetched_46 : decode cX10_mostFetched 46 = .ok (.if_icmp .gt 6, 3) := by decide +kernel
theorem dX10_mostFetched_49 : decode cX10_mostFetched 49 = .ok (.iload 5, 2) := by decide +kernel
theorem dX10_mostFetched_51 : decode cX10_mostFetched 51 = .ok (.istore_n 3, 1) := by decide +kernel
theorem dX10_mostFetched_52 : decode cX10_mostFetched 52 = .ok (.iinc 4 (-1), 3) := by decide +kernel
theorem dX10_mostFetched_55 : decode cX10_mostFetched 55 = .ok (.goto (-46), 3) := by decide +kernel
theorem dX10_mostFetched_58 : decode cX10_mostFetched 58 = .ok (.iload_n 3, 1) := by decide +kernel
theorem dX10_mostFetched_59 : decode cX10_mostFetched 59 = .ok (.ireturn, 1) := by decide +kernel
theorem dX10_orderComing_0 : decode cX10_orderComing 0 = .ok (.iconst 0, 1) := by decide +kernel
theorem dX10_orderComing_1 : decode cX10_orderComing 1 = .ok (.istore_n 1, 1) := by decide +kernel
theorem dX10_orderComing_2 : decode cX10_orderComing 2 = .ok (.iconst 0, 1) := by decide +kernel
theorem dX10_orderComing_3 : decode cX10_orderComing 3 = .ok (.istore_n 2, 1) := by decide +kernel
theorem dX10_orderComing_4 : decode cX10_orderComing 4 = .ok (.iload_n 2, 1) := by decide +kernel
theorem dX10_orderComing_5 : decode cX10_orderComing 5 = .ok (.aload_n 0, 1) := by decide +kernel
theorem dX10_orderComing_6 : decode cX10_orderComing 6 = .ok (.getfield 92, 3) := by decide +kernel
theorem dX10_orderComing_9 : decode cX10_orderComing 9 = .ok (.if_icmp .ge 29, 3) := by decide +kernel
theorem dX10_orderComing_12 : decode cX10_orderComing 12 = .ok (.aload_n 0, 1) := by decide +kernel
theorem dX10_orderComing_13 : decode cX10_orderComing 13 = .ok (.iload_n 2, 1) := by decide +kernel
theorem dX10_orderComing_14 : decode cX10_orderComing 14 = .ok (.invokevirtual 176, 3) := by decide +kernel
theorem dX10_orderComing_17 : decode cX10_orderComing 17 = .ok (.istore_n 3, 1) := by decide +kernel
theorem dX10_orderComing_18 : decode cX10_orderComing 18 = .ok (.iload_n 3, 1) := by decide +kernel
theorem dX10_orderComing_19 : decode cX10_orderComing 19 = .ok (.iconst (-1), 1) := by decide +kernel
theorem dX10_orderComing_20 : decode cX10_orderComing 20 = .ok (.if_icmp .eq 12, 3) := by decide +kernel
theorem dX10_orderComing_23 : decode cX10_orderComing 23 = .ok (.aload_n 0, 1) := by decide +kernel
theorem dX10_orderComing_24 : decode cX10_orderComing 24 = .ok (.iload_n 3, 1) := by decide +kernel
theorem dX10_orderComing_25 : decode cX10_orderComing 25 = .ok (.iload_n 1, 1) := by decide +kernel
theorem dX10_orderComing_26 : decode cX10_orderComing 26 = .ok (.invokevirtual 280, 3) := by decide +kernel
theorem dX10_orderComing_29 : decode cX10_orderComing 29 = .ok (.iinc 1 1, 3) := by decide +kernel
theorem dX10_orderComing_32 : decode cX10_orderComing 32 = .ok (.iinc 2 1, 3) := by decide +kernel
theorem dX10_orderComing_35 : decode cX10_orderComing 35 = .ok (.goto (-31), 3) := by decide +kernel
theorem dX10_orderComing_38 : decode cX10_orderComing 38 = .ok (.iload_n 1, 1) := by decide +kernel
theorem dX10_orderComing_39 : decode cX10_orderComing 39 = .ok (.ireturn, 1) := by decide +kernel
theorem dX10_putInOrder_0 : decode cX10_putInOrder 0 = .ok (.iload_n 2, 1) := by decide +kernel
theorem dX10_putInOrder_1 : decode cX10_putInOrder 1 = .ok (.istore_n 3, 1) := by decide +kernel
theorem dX10_putInOrder_2 : decode cX10_putInOrder 2 = .ok (.iload_n 3, 1) := by decide +kernel
theorem dX10_putInOrder_3 : decode cX10_putInOrder 3 = .ok (.ifCond .le 35, 3) := by decide +kernel
theorem dX10_putInOrder_6 : decode cX10_putInOrder 6 = .ok (.aload_n 0, 1) := by decide +kernel
theorem dX10_putInOrder_7 : decode cX10_putInOrder 7 = .ok (.getfield 49, 3) := by decide +kernel
theorem dX10_putInOrder_10 : decode cX10_putInOrder 10 = .ok (.iload_n 3, 1) := by decide +kernel
theorem dX10_putInOrder_11 : decode cX10_putInOrder 11 = .ok (.iconst 1, 1) := by decide +kernel
theorem dX10_putInOrder_12 : decode cX10_putInOrder 12 = .ok (.isub, 1) := by decide +kernel
theorem dX10_putInOrder_13 : decode cX10_putInOrder 13 = .ok (.iaload, 1) := by decide +kernel
theorem dX10_putInOrder_14 : decode cX10_putInOrder 14 = .ok (.iload_n 1, 1) := by decide +kernel
theorem dX10_putInOrder_15 : decode cX10_putInOrder 15 = .ok (.if_icmp .le 23, 3) := by decide +kernel
theorem dX10_putInOrder_18 : decode cX10_putInOrder 18 = .ok (.aload_n 0, 1) := by decide +kernel
theorem dX10_putInOrder_19 : decode cX10_putInOrder 19 = .ok (.getfield 49, 3) := by decide +kernel
theorem dX10_putInOrder_22 : decode cX10_putInOrder 22 = .ok (.iload_n 3, 1) := by decide +kernel
theorem dX10_putInOrder_23 : decode cX10_putInOrder 23 = .ok (.aload_n 0, 1) := by decide +kernel
theorem dX10_putInOrder_24 : decode cX10_putInOrder 24 = .ok (.getfield 49, 3) := by decide +kernel
theorem dX10_putInOrder_27 : decode cX10_putInOrder 27 = .ok (.iload_n 3, 1) := by decide +kernel
theorem dX10_putInOrder_28 : decode cX10_putInOrder 28 = .ok (.iconst 1, 1) := by decide +kernel
theorem dX10_putInOrder_29 : decode cX10_putInOrder 29 = .ok (.isub, 1) := by decide +kernel
theorem dX10_putInOrder_30 : decode cX10_putInOrder 30 = .ok (.iaload, 1) := by decide +kernel
theorem dX10_putInOrder_31 : decode cX10_putInOrder 31 = .ok (.iastore, 1) := by decide +kernel
theorem dX10_putInOrder_32 : decode cX10_putInOrder 32 = .ok (.iinc 3 (-1), 3) := by decide +kernel
theorem dX10_putInOrder_35 : decode cX10_putInOrder 35 = .ok (.goto (-33), 3) := by decide +kernel
theorem dX10_putInOrder_38 : decode cX10_putInOrder 38 = .ok (.aload_n 0, 1) := by decide +kernel
theorem dX10_putInOrder_39 : decode cX10_putInOrder 39 = .ok (.getfield 49, 3) := by decide +kernel
theorem dX10_putInOrder_42 : decode cX10_putInOrder 42 = .ok (.iload_n 3, 1) := by decide +kernel
theorem dX10_putInOrder_43 : decode cX10_putInOrder 43 = .ok (.iload_n 1, 1) := by decide +kernel
theorem dX10_putInOrder_44 : decode cX10_putInOrder 44 = .ok (.iastore, 1) := by decide +kernel
theorem dX10_putInOrder_45 : decode cX10_putInOrder 45 = .ok (.return_, 1) := by decide +kernel
theorem dX10_isTrue_0 : decode cX10_isTrue 0 = .ok (.aload_n 0, 1) := by decide +kernel
theorem dX10_isTrue_1 : decode cX10_isTrue 1 = .ok (.iload_n 1, 1) := by decide +kernel
theorem dX10_isTrue_2 : decode cX10_isTrue 2 = .ok (.invokevirtual 99, 3) := by decide +kernel
theorem dX10_isTrue_5 : decode cX10_isTrue 5 = .ok (.ifCond .eq 20, 3) := by decide +kernel
theorem dX10_isTrue_8 : decode cX10_isTrue 8 = .ok (.iload_n 2, 1) := by decide +kernel
theorem dX10_isTrue_9 : decode cX10_isTrue 9 = .ok (.ifCond .lt 16, 3) := by decide +kernel
theorem dX10_isTrue_12 : decode cX10_isTrue 12 = .ok (.iload_n 2, 1) := by decide +kernel
theorem dX10_isTrue_13 : decode cX10_isTrue 13 = .ok (.iconst 1, 1) := by decide +kernel
theorem dX10_isTrue_14 : decode cX10_isTrue 14 = .ok (.if_icmp .gt 11, 3) := by decide +kernel
theorem dX10_isTrue_17 : decode cX10_isTrue 17 = .ok (.aload_n 0, 1) := by decide +kernel
theorem dX10_isTrue_18 : decode cX10_isTrue 18 = .ok (.iload_n 1, 1) := by decide +kernel
theorem dX10_isTrue_19 : decode cX10_isTrue 19 = .ok (.invokevirtual 163, 3) := by decide +kernel
theorem dX10_isTrue_22 : decode cX10_isTrue 22 = .ok (.ifCond .ne 5, 3) := by decide +kernel
theorem dX10_isTrue_25 : decode cX10_isTrue 25 = .ok (.iconst 0, 1) := by decide +kernel
theorem dX10_isTrue_26 : decode cX10_isTrue 26 = .ok (.ireturn, 1) := by decide +kernel
theorem dX10_isTrue_27 : decode cX10_isTrue 27 = .ok (.aload_n 0, 1) := by decide +kernel
theorem dX10_isTrue_28 : decode cX10_isTrue 28 = .ok (.iload_n 1, 1) := by decide +kernel
theorem dX10_isTrue_29 : decode cX10_isTrue 29 = .ok (.invokevirtual 115, 3) := by decide +kernel
theorem dX10_isTrue_32 : decode cX10_isTrue 32 = .ok (.iload_n 2, 1) := by decide +kernel
theorem dX10_isTrue_33 : decode cX10_isTrue 33 = .ok (.iconst 1, 1) := by decide +kernel
theorem dX10_isTrue_34 : decode cX10_isTrue 34 = .ok (.if_icmp .ne 7, 3) := by decide +kernel
theorem dX10_isTrue_37 : decode cX10_isTrue 37 = .ok (.iconst 1, 1) := by decide +kernel
theorem dX10_isTrue_38 : decode cX10_isTrue 38 = .ok (.goto 4, 3) := by decide +kernel
theorem dX10_isTrue_41 : decode cX10_isTrue 41 = .ok (.iconst 0, 1) := by decide +kernel
theorem dX10_isTrue_42 : decode cX10_isTrue 42 = .ok (.if_icmp .ne 7, 3) := by decide +kernel
theorem dX10_isTrue_45 : decode cX10_isTrue 45 = .ok (.iconst 1, 1) := by decide +kernel
theorem dX10_isTrue_46 : decode cX10_isTrue 46 = .ok (.goto 4, 3) := by decide +kernel
theorem dX10_isTrue_49 : decode cX10_isTrue 49 = .ok (.iconst 0, 1) := by decide +kernel
theorem dX10_isTrue_50 : decode cX10_isTrue 50 = .ok (.ireturn, 1) := by decide +kernel
theorem dX10_drawnWind_0 : decode cX10_drawnWind 0 = .ok (.iload_n 0, 1) := by decide +kernel
theorem dX10_drawnWind_1 : decode cX10_drawnWind 1 = .ok (.ldc_w 283, 3) := by decide +kernel
theorem dX10_drawnWind_4 : decode cX10_drawnWind 4 = .ok (.imul, 1) := by decide +kernel
theorem dX10_drawnWind_5 : decode cX10_drawnWind 5 = .ok (.sipush 12345, 3) := by decide +kernel
theorem dX10_drawnWind_8 : decode cX10_drawnWind 8 = .ok (.iadd, 1) := by decide +kernel
theorem dX10_drawnWind_9 : decode cX10_drawnWind 9 = .ok (.istore_n 1, 1) := by decide +kernel
theorem dX10_drawnWind_10 : decode cX10_drawnWind 10 = .ok (.iload_n 1, 1) := by decide +kernel
theorem dX10_drawnWind_11 : decode cX10_drawnWind 11 = .ok (.bipush 10, 2) := by decide +kernel
theorem dX10_drawnWind_13 : decode cX10_drawnWind 13 = .ok (.iushr, 1) := by decide +kernel
theorem dX10_drawnWind_14 : decode cX10_drawnWind 14 = .ok (.bipush 10, 2) := by decide +kernel
theorem dX10_drawnWind_16 : decode cX10_drawnWind 16 = .ok (.irem, 1) := by decide +kernel
theorem dX10_drawnWind_17 : decode cX10_drawnWind 17 = .ok (.ireturn, 1) := by decide +kernel
theorem dX10_commonDivisor_0 : decode cX10_commonDivisor 0 = .ok (.iload_n 1, 1) := by decide +kernel
theorem dX10_commonDivisor_1 : decode cX10_commonDivisor 1 = .ok (.istore_n 2, 1) := by decide +kernel
theorem dX10_commonDivisor_2 : decode cX10_commonDivisor 2 = .ok (.iload_n 2, 1) := by decide +kernel
theorem dX10_commonDivisor_3 : decode cX10_commonDivisor 3 = .ok (.iconst 1, 1) := by decide +kernel
theorem dX10_commonDivisor_4 : decode cX10_commonDivisor 4 = .ok (.if_icmp .le 23, 3) := by decide +kernel
theorem dX10_commonDivisor_7 : decode cX10_commonDivisor 7 = .ok (.iload_n 0, 1) := by decide +kernel
theorem dX10_commonDivisor_8 : decode cX10_commonDivisor 8 = .ok (.iload_n 2, 1) := by decide +kernel
theorem dX10_commonDivisor_9 : decode cX10_commonDivisor 9 = .ok (.irem, 1) := by decide +kernel
theorem dX10_commonDivisor_10 : decode cX10_commonDivisor 10 = .ok (.ifCond .ne 11, 3) := by decide +kernel
theorem dX10_commonDivisor_13 : decode cX10_commonDivisor 13 = .ok (.iload_n 1, 1) := by decide +kernel
theorem dX10_commonDivisor_14 : decode cX10_commonDivisor 14 = .ok (.iload_n 2, 1) := by decide +kernel
theorem dX10_commonDivisor_15 : decode cX10_commonDivisor 15 = .ok (.irem, 1) := by decide +kernel
theorem dX10_commonDivisor_16 : decode cX10_commonDivisor 16 = .ok (.ifCond .ne 5, 3) := by decide +kernel
theorem dX10_commonDivisor_19 : decode cX10_commonDivisor 19 = .ok (.iload_n 2, 1) := by decide +kernel
theorem dX10_commonDivisor_20 : decode cX10_commonDivisor 20 = .ok (.ireturn, 1) := by decide +kernel
theorem dX10_commonDivisor_21 : decode cX10_commonDivisor 21 = .ok (.iinc 2 (-1), 3) := by decide +kernel
theorem dX10_commonDivisor_24 : decode cX10_commonDivisor 24 = .ok (.goto (-22), 3) := by decide +kernel
theorem dX10_commonDivisor_27 : decode cX10_commonDivisor 27 = .ok (.iconst 1, 1) := by decide +kernel
theorem dX10_commonDivisor_28 : decode cX10_commonDivisor 28 = .ok (.ireturn, 1) := by decide +kernel
theorem dX10_sheet_0 : decode cX10_sheet 0 = .ok (.iload_n 1, 1) := by decide +kernel
theorem dX10_sheet_1 : decode cX10_sheet 1 = .ok (.invokestatic 226, 3) := by decide +kernel
theorem dX10_sheet_4 : decode cX10_sheet 4 = .ok (.ifCond .eq 13, 3) := by decide +kernel
theorem dX10_sheet_7 : decode cX10_sheet 7 = .ok (.iload_n 2, 1) := by decide +kernel
theorem dX10_sheet_8 : decode cX10_sheet 8 = .ok (.iconst (-1), 1) := by decide +kernel
theorem dX10_sheet_9 : decode cX10_sheet 9 = .ok (.if_icmp .lt 8, 3) := by decide +kernel
theorem dX10_sheet_12 : decode cX10_sheet 12 = .ok (.iload_n 2, 1) := by decide +kernel
theorem dX10_sheet_13 : decode cX10_sheet 13 = .ok (.iconst 2, 1) := by decide +kernel
theorem dX10_sheet_14 : decode cX10_sheet 14 = .ok (.if_icmp .le 6, 3) := by decide +kernel
theorem dX10_sheet_17 : decode cX10_sheet 17 = .ok (.bipush (-2), 2) := by decide +kernel
theorem dX10_sheet_19 : decode cX10_sheet 19 = .ok (.ireturn, 1) := by decide +kernel
theorem dX10_sheet_20 : decode cX10_sheet 20 = .ok (.iload_n 2, 1) := by decide +kernel
theorem dX10_sheet_21 : decode cX10_sheet 21 = .ok (.iconst (-1), 1) := by decide +kernel
theorem dX10_sheet_22 : decode cX10_sheet 22 = .ok (.if_icmp .ne 16, 3) := by decide +kernel
theorem dX10_sheet_25 : decode cX10_sheet 25 = .ok (.aload_n 0, 1) := by decide +kernel
theorem dX10_sheet_26 : decode cX10_sheet 26 = .ok (.getfield 54, 3) := by decide +kernel
theorem dX10_sheet_29 : decode cX10_sheet 29 = .ok (.iload_n 1, 1) := by decide +kernel
theorem dX10_sheet_30 : decode cX10_sheet 30 = .ok (.aaload, 1) := by decide +kernel
theorem dX10_sheet_31 : decode cX10_sheet 31 = .ok (.iload_n 2, 1) := by decide +kernel
theorem dX10_sheet_32 : decode cX10_sheet 32 = .ok (.iconst 0, 1) := by decide +kernel
theorem dX10_sheet_33 : decode cX10_sheet 33 = .ok (.invokevirtual 284, 3) := by decide +kernel
theorem dX10_sheet_36 : decode cX10_sheet 36 = .ok (.iconst 1, 1) := by decide +kernel
theorem dX10_sheet_37 : decode cX10_sheet 37 = .ok (.ireturn, 1) := by decide +kernel
theorem dX10_sheet_38 : decode cX10_sheet 38 = .ok (.iload_n 3, 1) := by decide +kernel
theorem dX10_sheet_39 : decode cX10_sheet 39 = .ok (.bipush 40, 2) := by decide +kernel
theorem dX10_sheet_41 : decode cX10_sheet 41 = .ok (.if_icmp .le 6, 3) := by decide +kernel
theorem dX10_sheet_44 : decode cX10_sheet 44 = .ok (.bipush (-2), 2) := by decide +kernel
theorem dX10_sheet_46 : decode cX10_sheet 46 = .ok (.ireturn, 1) := by decide +kernel
theorem dX10_sheet_47 : decode cX10_sheet 47 = .ok (.iload_n 3, 1) := by decide +kernel
theorem dX10_sheet_48 : decode cX10_sheet 48 = .ok (.ifCond .ge 6, 3) := by decide +kernel
theorem dX10_sheet_51 : decode cX10_sheet 51 = .ok (.bipush (-14), 2) := by decide +kernel
theorem dX10_sheet_53 : decode cX10_sheet 53 = .ok (.ireturn, 1) := by decide +kernel
theorem dX10_sheet_54 : decode cX10_sheet 54 = .ok (.aload_n 0, 1) := by decide +kernel
theorem dX10_sheet_55 : decode cX10_sheet 55 = .ok (.getfield 54, 3) := by decide +kernel
theorem dX10_sheet_58 : decode cX10_sheet 58 = .ok (.iload_n 1, 1) := by decide +kernel
theorem dX10_sheet_59 : decode cX10_sheet 59 = .ok (.aaload, 1) := by decide +kernel
theorem dX10_sheet_60 : decode cX10_sheet 60 = .ok (.iload_n 2, 1) := by decide +kernel
theorem dX10_sheet_61 : decode cX10_sheet 61 = .ok (.iload_n 3, 1) := by decide +kernel
theorem dX10_sheet_62 : decode cX10_sheet 62 = .ok (.invokevirtual 284, 3) := by decide +kernel
theorem dX10_sheet_65 : decode cX10_sheet 65 = .ok (.iconst 1, 1) := by decide +kernel
theorem dX10_sheet_66 : decode cX10_sheet 66 = .ok (.ireturn, 1) := by decide +kernel
theorem dX10_cell_0 : decode cX10_cell 0 = .ok (.iload_n 1, 1) := by decide +kernel
theorem dX10_cell_1 : decode cX10_cell 1 = .ok (.invokestatic 226, 3) := by decide +kernel
theorem dX10_cell_4 : decode cX10_cell 4 = .ok (.ifCond .ne 6, 3) := by decide +kernel
theorem dX10_cell_7 : decode cX10_cell 7 = .ok (.bipush (-2), 2) := by decide +kernel
theorem dX10_cell_9 : decode cX10_cell 9 = .ok (.ireturn, 1) := by decide +kernel
theorem dX10_cell_10 : decode cX10_cell 10 = .ok (.aload_n 0, 1) := by decide +kernel
theorem dX10_cell_11 : decode cX10_cell 11 = .ok (.getfield 54, 3) := by decide +kernel
theorem dX10_cell_14 : decode cX10_cell 14 = .ok (.iload_n 1, 1) := by decide +kernel
theorem dX10_cell_15 : decode cX10_cell 15 = .ok (.aaload, 1) := by decide +kernel
theorem dX10_cell_16 : decode cX10_cell 16 = .ok (.invokevirtual 229, 3) := by decide +kernel
theorem dX10_cell_19 : decode cX10_cell 19 = .ok (.ifCond .eq 6, 3) := by decide +kernel
theorem dX10_cell_22 : decode cX10_cell 22 = .ok (.bipush (-11), 2) := by decide +kernel
theorem dX10_cell_24 : decode cX10_cell 24 = .ok (.ireturn, 1) := by decide +kernel
theorem dX10_cell_25 : decode cX10_cell 25 = .ok (.aload_n 0, 1) := by decide +kernel
theorem dX10_cell_26 : decode cX10_cell 26 = .ok (.getfield 54, 3) := by decide +kernel
theorem dX10_cell_29 : decode cX10_cell 29 = .ok (.iload_n 1, 1) := by decide +kernel
theorem dX10_cell_30 : decode cX10_cell 30 = .ok (.aaload, 1) := by decide +kernel
theorem dX10_cell_31 : decode cX10_cell 31 = .ok (.iload_n 2, 1) := by decide +kernel
theorem dX10_cell_32 : decode cX10_cell 32 = .ok (.i2l, 1) := by decide +kernel
theorem dX10_cell_33 : decode cX10_cell 33 = .ok (.iconst 1, 1) := by decide +kernel
theorem dX10_cell_34 : decode cX10_cell 34 = .ok (.invokevirtual 287, 3) := by decide +kernel
theorem dX10_cell_37 : decode cX10_cell 37 = .ok (.ifCond .ne 6, 3) := by decide +kernel
theorem dX10_cell_40 : decode cX10_cell 40 = .ok (.bipush (-12), 2) := by decide +kernel
theorem dX10_cell_42 : decode cX10_cell 42 = .ok (.ireturn, 1) := by decide +kernel
theorem dX10_cell_43 : decode cX10_cell 43 = .ok (.aload_n 0, 1) := by decide +kernel
theorem dX10_cell_44 : decode cX10_cell 44 = .ok (.getfield 54, 3) := by decide +kernel
theorem dX10_cell_47 : decode cX10_cell 47 = .ok (.iload_n 1, 1) := by decide +kernel
theorem dX10_cell_48 : decode cX10_cell 48 = .ok (.aaload, 1) := by decide +kernel
theorem dX10_cell_49 : decode cX10_cell 49 = .ok (.iload_n 2, 1) := by decide +kernel
theorem dX10_cell_50 : decode cX10_cell 50 = .ok (.iload_n 3, 1) := by decide +kernel
theorem dX10_cell_51 : decode cX10_cell 51 = .ok (.invokevirtual 291, 3) := by decide +kernel
theorem dX10_cell_54 : decode cX10_cell 54 = .ok (.iconst 1, 1) := by decide +kernel
theorem dX10_cell_55 : decode cX10_cell 55 = .ok (.ireturn, 1) := by decide +kernel
theorem dX10_copy_0 : decode cX10_copy 0 = .ok (.iload_n 1, 1) := by decide +kernel
theorem dX10_copy_1 : decode cX10_copy 1 = .ok (.invokestatic 226, 3) := by decide +kernel
theorem dX10_copy_4 : decode cX10_copy 4 = .ok (.ifCond .eq 10, 3) := by decide +kernel
theorem dX10_copy_7 : decode cX10_copy 7 = .ok (.iload_n 3, 1) := by decide +kernel
theorem dX10_copy_8 : decode cX10_copy 8 = .ok (.invokestatic 226, 3) := by decide +kernel
theorem dX10_copy_11 : decode cX10_copy 11 = .ok (.ifCond .ne 6, 3) := by decide +kernel
theorem dX10_copy_14 : decode cX10_copy 14 = .ok (.bipush (-2), 2) := by decide +kernel
theorem dX10_copy_16 : decode cX10_copy 16 = .ok (.ireturn, 1) := by decide +kernel
theorem dX10_copy_17 : decode cX10_copy 17 = .ok (.aload_n 0, 1) := by decide +kernel
theorem dX10_copy_18 : decode cX10_copy 18 = .ok (.getfield 54, 3) := by decide +kernel
theorem dX10_copy_21 : decode cX10_copy 21 = .ok (.iload_n 1, 1) := by decide +kernel
theorem dX10_copy_22 : decode cX10_copy 22 = .ok (.aaload, 1) := by decide +kernel
theorem dX10_copy_23 : decode cX10_copy 23 = .ok (.astore 6, 2) := by decide +kernel
theorem dX10_copy_25 : decode cX10_copy 25 = .ok (.aload_n 0, 1) := by decide +kernel
theorem dX10_copy_26 : decode cX10_copy 26 = .ok (.getfield 54, 3) := by decide +kernel
theorem dX10_copy_29 : decode cX10_copy 29 = .ok (.iload_n 3, 1) := by decide +kernel
theorem dX10_copy_30 : decode cX10_copy 30 = .ok (.aaload, 1) := by decide +kernel
theorem dX10_copy_31 : decode cX10_copy 31 = .ok (.astore 7, 2) := by decide +kernel
theorem dX10_copy_33 : decode cX10_copy 33 = .ok (.aload 6, 2) := by decide +kernel
theorem dX10_copy_35 : decode cX10_copy 35 = .ok (.invokevirtual 229, 3) := by decide +kernel
theorem dX10_copy_38 : decode cX10_copy 38 = .ok (.ifCond .ne 11, 3) := by decide +kernel
theorem dX10_copy_41 : decode cX10_copy 41 = .ok (.aload 7, 2) := by decide +kernel
theorem dX10_copy_43 : decode cX10_copy 43 = .ok (.invokevirtual 229, 3) := by decide +kernel
theorem dX10_copy_46 : decode cX10_copy 46 = .ok (.ifCond .eq 6, 3) := by decide +kernel
theorem dX10_copy_49 : decode cX10_copy 49 = .ok (.bipush (-11), 2) := by decide +kernel
theorem dX10_copy_51 : decode cX10_copy 51 = .ok (.ireturn, 1) := by decide +kernel
theorem dX10_copy_52 : decode cX10_copy 52 = .ok (.aload 6, 2) := by decide +kernel
theorem dX10_copy_54 : decode cX10_copy 54 = .ok (.getfield 294, 3) := by decide +kernel
theorem dX10_copy_57 : decode cX10_copy 57 = .ok (.aload 7, 2) := by decide +kernel
theorem dX10_copy_59 : decode cX10_copy 59 = .ok (.getfield 294, 3) := by decide +kernel
theorem dX10_copy_62 : decode cX10_copy 62 = .ok (.if_icmp .eq 6, 3) := by decide +kernel
theorem dX10_copy_65 : decode cX10_copy 65 = .ok (.bipush (-13), 2) := by decide +kernel
theorem dX10_copy_67 : decode cX10_copy 67 = .ok (.ireturn, 1) := by decide +kernel
theorem dX10_copy_68 : decode cX10_copy 68 = .ok (.aload 6, 2) := by decide +kernel
theorem dX10_copy_70 : decode cX10_copy 70 = .ok (.iload_n 2, 1) := by decide +kernel
theorem dX10_copy_71 : decode cX10_copy 71 = .ok (.i2l, 1) := by decide +kernel
theorem dX10_copy_72 : decode cX10_copy 72 = .ok (.iload 5, 2) := by decide +kernel
theorem dX10_copy_74 : decode cX10_copy 74 = .ok (.invokevirtual 287, 3) := by decide +kernel
theorem dX10_copy_77 : decode cX10_copy 77 = .ok (.ifCond .eq 16, 3) := by decide +kernel
theorem dX10_copy_80 : decode cX10_copy 80 = .ok (.aload 7, 2) := by decide +kernel
theorem dX10_copy_82 : decode cX10_copy 82 = .ok (.iload 4, 2) := by decide +kernel
theorem dX10_copy_84 : decode cX10_copy 84 = .ok (.i2l, 1) := by decide +kernel
theorem dX10_copy_85 : decode cX10_copy 85 = .ok (.iload 5, 2) := by decide +kernel
theorem dX10_copy_87 : decode cX10_copy 87 = .ok (.invokevirtual 287, 3) := by decide +kernel
theorem dX10_copy_90 : decode cX10_copy 90 = .ok (.ifCond .ne 6, 3) := by decide +kernel
theorem dX10_copy_93 : decode cX10_copy 93 = .ok (.bipush (-12), 2) := by decide +kernel
theorem dX10_copy_95 : decode cX10_copy 95 = .ok (.ireturn, 1) := by decide +kernel
theorem dX10_copy_96 : decode cX10_copy 96 = .ok (.aload 6, 2) := by decide +kernel
theorem dX10_copy_98 : decode cX10_copy 98 = .ok (.getfield 297, 3) := by decide +kernel
theorem dX10_copy_101 : decode cX10_copy 101 = .ok (.iload_n 2, 1) := by decide +kernel
theorem dX10_copy_102 : decode cX10_copy 102 = .ok (.aload 7, 2) := by decide +kernel
theorem dX10_copy_104 : decode cX10_copy 104 = .ok (.getfield 297, 3) := by decide +kernel
theorem dX10_copy_107 : decode cX10_copy 107 = .ok (.iload 4, 2) := by decide +kernel
theorem dX10_copy_109 : decode cX10_copy 109 = .ok (.iload 5, 2) := by decide +kernel
theorem dX10_copy_111 : decode cX10_copy 111 = .ok (.invokestatic 259, 3) := by decide +kernel
theorem dX10_copy_114 : decode cX10_copy 114 = .ok (.iload 5, 2) := by decide +kernel
theorem dX10_copy_116 : decode cX10_copy 116 = .ok (.ireturn, 1) := by decide +kernel
theorem dX10_boats_0 : decode cX10_boats 0 = .ok (.iload_n 1, 1) := by decide +kernel
theorem dX10_boats_1 : decode cX10_boats 1 = .ok (.invokestatic 226, 3) := by decide +kernel
theorem dX10_boats_4 : decode cX10_boats 4 = .ok (.ifCond .eq 24, 3) := by decide +kernel
theorem dX10_boats_7 : decode cX10_boats 7 = .ok (.iload_n 2, 1) := by decide +kernel
theorem dX10_boats_8 : decode cX10_boats 8 = .ok (.ifCond .lt 20, 3) := by decide +kernel
theorem dX10_boats_11 : decode cX10_boats 11 = .ok (.iload_n 2, 1) := by decide +kernel
theorem dX10_boats_12 : decode cX10_boats 12 = .ok (.iconst 2, 1) := by decide +kernel
theorem dX10_boats_13 : decode cX10_boats 13 = .ok (.if_icmp .gt 15, 3) := by decide +kernel
theorem dX10_boats_16 : decode cX10_boats 16 = .ok (.iload 4, 2) := by decide +kernel
theorem dX10_boats_18 : decode cX10_boats 18 = .ok (.ifCond .lt 10, 3) := by decide +kernel
theorem dX10_boats_21 : decode cX10_boats 21 = .ok (.iload 4, 2) := by decide +kernel
theorem dX10_boats_23 : decode cX10_boats 23 = .ok (.bipush 7, 2) := by decide +kernel
theorem dX10_boats_25 : decode cX10_boats 25 = .ok (.if_icmp .le 6, 3) := by decide +kernel
theorem dX10_boats_28 : decode cX10_boats 28 = .ok (.bipush (-2), 2) := by decide +kernel
theorem dX10_boats_30 : decode cX10_boats 30 = .ok (.ireturn, 1) := by decide +kernel
theorem dX10_boats_31 : decode cX10_boats 31 = .ok (.aload_n 0, 1) := by decide +kernel
theorem dX10_boats_32 : decode cX10_boats 32 = .ok (.getfield 54, 3) := by decide +kernel
theorem dX10_boats_35 : decode cX10_boats 35 = .ok (.iload_n 1, 1) := by decide +kernel
theorem dX10_boats_36 : decode cX10_boats 36 = .ok (.aaload, 1) := by decide +kernel
theorem dX10_boats_37 : decode cX10_boats 37 = .ok (.astore 5, 2) := by decide +kernel
theorem dX10_boats_39 : decode cX10_boats 39 = .ok (.aload 5, 2) := by decide +kernel
theorem dX10_boats_41 : decode cX10_boats 41 = .ok (.invokevirtual 229, 3) := by decide +kernel
theorem dX10_boats_44 : decode cX10_boats 44 = .ok (.ifCond .ne 15, 3) := by decide +kernel
theorem dX10_boats_47 : decode cX10_boats 47 = .ok (.aload 5, 2) := by decide +kernel
theorem dX10_boats_49 : decode cX10_boats 49 = .ok (.getfield 294, 3) := by decide +kernel
theorem dX10_boats_52 : decode cX10_boats 52 = .ok (.iload_n 2, 1) := by decide +kernel
theorem dX10_boats_53 : decode cX10_boats 53 = .ok (.if_icmp .eq 6, 3) := by decide +kernel
theorem dX10_boats_56 : decode cX10_boats 56 = .ok (.bipush (-13), 2) := by decide +kernel
theorem dX10_boats_58 : decode cX10_boats 58 = .ok (.ireturn, 1) := by decide +kernel
theorem dX10_boats_59 : decode cX10_boats 59 = .ok (.aload 5, 2) := by decide +kernel
theorem dX10_boats_61 : decode cX10_boats 61 = .ok (.invokevirtual 229, 3) := by decide +kernel
theorem dX10_boats_64 : decode cX10_boats 64 = .ok (.ifCond .eq 6, 3) := by decide +kernel
theorem dX10_boats_67 : decode cX10_boats 67 = .ok (.bipush (-11), 2) := by decide +kernel
theorem dX10_boats_69 : decode cX10_boats 69 = .ok (.ireturn, 1) := by decide +kernel
theorem dX10_boats_70 : decode cX10_boats 70 = .ok (.iconst 0, 1) := by decide +kernel
theorem dX10_boats_71 : decode cX10_boats 71 = .ok (.istore 6, 2) := by decide +kernel
theorem dX10_boats_73 : decode cX10_boats 73 = .ok (.iconst 0, 1) := by decide +kernel
theorem dX10_boats_74 : decode cX10_boats 74 = .ok (.istore 7, 2) := by decide +kernel
theorem dX10_boats_76 : decode cX10_boats 76 = .ok (.iload 7, 2) := by decide +kernel
theorem dX10_boats_78 : decode cX10_boats 78 = .ok (.iload 4, 2) := by decide +kernel
theorem dX10_boats_80 : decode cX10_boats 80 = .ok (.if_icmp .ge 74, 3) := by decide +kernel
theorem dX10_boats_83 : decode cX10_boats 83 = .ok (.aload 5, 2) := by decide +kernel
theorem dX10_boats_85 : decode cX10_boats 85 = .ok (.iload_n 3, 1) := by decide +kernel
theorem dX10_boats_86 : decode cX10_boats 86 = .ok (.i2l, 1) := by decide +kernel
theorem dX10_boats_87 : decode cX10_boats 87 = .ok (.ldc2_w 300, 3) := by decide +kernel
theorem dX10_boats_90 : decode cX10_boats 90 = .ok (.iload 7, 2) := by decide +kernel
theorem dX10_boats_92 : decode cX10_boats 92 = .ok (.i2l, 1) := by decide +kernel
theorem dX10_boats_93 : decode cX10_boats 93 = .ok (.lmul, 1) := by decide +kernel
theorem dX10_boats_94 : decode cX10_boats 94 = .ok (.ladd, 1) := by decide +kernel
theorem dX10_boats_95 : decode cX10_boats 95 = .ok (.iconst 3, 1) := by decide +kernel
theorem dX10_boats_96 : decode cX10_boats 96 = .ok (.invokevirtual 287, 3) := by decide +kernel
theorem dX10_boats_99 : decode cX10_boats 99 = .ok (.ifCond .ne 6, 3) := by decide +kernel
theorem dX10_boats_102 : decode cX10_boats 102 = .ok (.bipush (-12), 2) := by decide +kernel
theorem dX10_boats_104 : decode cX10_boats 104 = .ok (.ireturn, 1) := by decide +kernel
theorem dX10_boats_105 : decode cX10_boats 105 = .ok (.iload_n 3, 1) := by decide +kernel
theorem dX10_boats_106 : decode cX10_boats 106 = .ok (.iconst 3, 1) := by decide +kernel
theorem dX10_boats_107 : decode cX10_boats 107 = .ok (.iload 7, 2) := by decide +kernel
theorem dX10_boats_109 : decode cX10_boats 109 = .ok (.imul, 1) := by decide +kernel
theorem dX10_boats_110 : decode cX10_boats 110 = .ok (.iadd, 1) := by decide +kernel
theorem dX10_boats_111 : decode cX10_boats 111 = .ok (.istore 8, 2) := by decide +kernel
theorem dX10_boats_113 : decode cX10_boats 113 = .ok (.aload_n 0, 1) := by decide +kernel
theorem dX10_boats_114 : decode cX10_boats 114 = .ok (.aload 5, 2) := by decide +kernel
theorem dX10_boats_116 : decode cX10_boats 116 = .ok (.iload 8, 2) := by decide +kernel
theorem dX10_boats_118 : decode cX10_boats 118 = .ok (.invokevirtual 234, 3) := by decide +kernel
theorem dX10_boats_121 : decode cX10_boats 121 = .ok (.aload 5, 2) := by decide +kernel
theorem dX10_boats_123 : decode cX10_boats 123 = .ok (.iload 8, 2) := by decide +kernel
theorem dX10_boats_125 : decode cX10_boats 125 = .ok (.iconst 1, 1) := by decide +kernel
theorem dX10_boats_126 : decode cX10_boats 126 = .ok (.iadd, 1) := by decide +kernel
theorem dX10_boats_127 : decode cX10_boats 127 = .ok (.invokevirtual 234, 3) := by decide +kernel
theorem dX10_boats_130 : decode cX10_boats 130 = .ok (.aload 5, 2) := by decide +kernel
theorem dX10_boats_132 : decode cX10_boats 132 = .ok (.iload 8, 2) := by decide +kernel
theorem dX10_boats_134 : decode cX10_boats 134 = .ok (.iconst 2, 1) := by decide +kernel
theorem dX10_boats_135 : decode cX10_boats 135 = .ok (.iadd, 1) := by decide +kernel
theorem dX10_boats_136 : decode cX10_boats 136 = .ok (.invokevirtual 234, 3) := by decide +kernel
theorem dX10_boats_139 : decode cX10_boats 139 = .ok (.invokevirtual 302, 3) := by decide +kernel
theorem dX10_boats_142 : decode cX10_boats 142 = .ok (.ifCond .lt 6, 3) := by decide +kernel
theorem dX10_boats_145 : decode cX10_boats 145 = .ok (.iinc 6 1, 3) := by decide +kernel
theorem dX10_boats_148 : decode cX10_boats 148 = .ok (.iinc 7 1, 3) := by decide +kernel
theorem dX10_boats_151 : decode cX10_boats 151 = .ok (.goto (-75), 3) := by decide +kernel
theorem dX10_boats_154 : decode cX10_boats 154 = .ok (.iload 6, 2) := by decide +kernel
theorem dX10_boats_156 : decode cX10_boats 156 = .ok (.ireturn, 1) := by decide +kernel
theorem dX10_taken_0 : decode cX10_taken 0 = .ok (.iload_n 2, 1) := by decide +kernel
theorem dX10_taken_1 : decode cX10_taken 1 = .ok (.ifCond .lt 8, 3) := by decide +kernel
theorem dX10_taken_4 : decode cX10_taken 4 = .ok (.iload_n 2, 1) := by decide +kernel
theorem dX10_taken_5 : decode cX10_taken 5 = .ok (.iconst 5, 1) := by decide +kernel
theorem dX10_taken_6 : decode cX10_taken 6 = .ok (.if_icmp .le 6, 3) := by decide +kernel
theorem dX10_taken_9 : decode cX10_taken 9 = .ok (.bipush (-2), 2) := by decide +kernel
theorem dX10_taken_11 : decode cX10_taken 11 = .ok (.ireturn, 1) := by decide +kernel
theorem dX10_taken_12 : decode cX10_taken 12 = .ok (.aload_n 0, 1) := by decide +kernel
theorem dX10_taken_13 : decode cX10_taken 13 = .ok (.iload_n 1, 1) := by decide +kernel
theorem dX10_taken_14 : decode cX10_taken 14 = .ok (.invokevirtual 99, 3) := by decide +kernel
theorem dX10_taken_17 : decode cX10_taken 17 = .ok (.ifCond .ne 6, 3) := by decide +kernel
theorem dX10_taken_20 : decode cX10_taken 20 = .ok (.bipush (-11), 2) := by decide +kernel
theorem dX10_taken_22 : decode cX10_taken 22 = .ok (.ireturn, 1) := by decide +kernel
theorem dX10_taken_23 : decode cX10_taken 23 = .ok (.aload_n 0, 1) := by decide +kernel
theorem dX10_taken_24 : decode cX10_taken 24 = .ok (.getfield 11, 3) := by decide +kernel
theorem dX10_taken_27 : decode cX10_taken 27 = .ok (.iload_n 1, 1) := by decide +kernel
theorem dX10_taken_28 : decode cX10_taken 28 = .ok (.aaload, 1) := by decide +kernel
theorem dX10_taken_29 : decode cX10_taken 29 = .ok (.iload_n 2, 1) := by decide +kernel
theorem dX10_taken_30 : decode cX10_taken 30 = .ok (.invokestatic 306, 3) := by decide +kernel
theorem dX10_taken_33 : decode cX10_taken 33 = .ok (.ifCond .eq 17, 3) := by decide +kernel
theorem dX10_taken_36 : decode cX10_taken 36 = .ok (.aload_n 0, 1) := by decide +kernel
theorem dX10_taken_37 : decode cX10_taken 37 = .ok (.getfield 11, 3) := by decide +kernel
theorem dX10_taken_40 : decode cX10_taken 40 = .ok (.iload_n 1, 1) := by decide +kernel
theorem dX10_taken_41 : decode cX10_taken 41 = .ok (.aaload, 1) := by decide +kernel
theorem dX10_taken_42 : decode cX10_taken 42 = .ok (.getfield 102, 3) := by decide +kernel
theorem dX10_taken_45 : decode cX10_taken 45 = .ok (.iconst 3, 1) := by decide +kernel
theorem dX10_taken_46 : decode cX10_taken 46 = .ok (.iaload, 1) := by decide +kernel
theorem dX10_taken_47 : decode cX10_taken 47 = .ok (.goto 5, 3) := by decide +kernel
theorem dX10_taken_50 : decode cX10_taken 50 = .ok (.bipush (-13), 2) := by decide +kernel
theorem dX10_taken_52 : decode cX10_taken 52 = .ok (.ireturn, 1) := by decide +kernel
theorem dX10_isSheet_0 : decode cX10_isSheet 0 = .ok (.iload_n 0, 1) := by decide +kernel
theorem dX10_isSheet_1 : decode cX10_isSheet 1 = .ok (.ifCond .lt 12, 3) := by decide +kernel
theorem dX10_isSheet_4 : decode cX10_isSheet 4 = .ok (.iload_n 0, 1) := by decide +kernel
theorem dX10_isSheet_5 : decode cX10_isSheet 5 = .ok (.iconst 4, 1) := by decide +kernel
theorem dX10_isSheet_6 : decode cX10_isSheet 6 = .ok (.if_icmp .ge 7, 3) := by decide +kernel
theorem dX10_isSheet_9 : decode cX10_isSheet 9 = .ok (.iconst 1, 1) := by decide +kernel
theorem dX10_isSheet_10 : decode cX10_isSheet 10 = .ok (.goto 4, 3) := by decide +kernel
theorem dX10_isSheet_13 : decode cX10_isSheet 13 = .ok (.iconst 0, 1) := by decide +kernel
theorem dX10_isSheet_14 : decode cX10_isSheet 14 = .ok (.ireturn, 1) := by decide +kernel
theorem dX10_isOf_0 : decode cX10_isOf 0 = .ok (.iload_n 1, 1) := by decide +kernel
theorem dX10_isOf_1 : decode cX10_isOf 1 = .ok (.tableswitch 60 1 5 #[35, 40, 45, 50, 55], 35) := by decide +kernel
theorem dX10_isOf_36 : decode cX10_isOf 36 = .ok (.aload_n 0, 1) := by decide +kernel
theorem dX10_isOf_37 : decode cX10_isOf 37 = .ok (.instanceof 128, 3) := by decide +kernel
theorem dX10_isOf_40 : decode cX10_isOf 40 = .ok (.ireturn, 1) := by decide +kernel
theorem dX10_isOf_41 : decode cX10_isOf 41 = .ok (.aload_n 0, 1) := by decide +kernel
theorem dX10_isOf_42 : decode cX10_isOf 42 = .ok (.instanceof 133, 3) := by decide +kernel
theorem dX10_isOf_45 : decode cX10_isOf 45 = .ok (.ireturn, 1) := by decide +kernel
theorem dX10_isOf_46 : decode cX10_isOf 46 = .ok (.aload_n 0, 1) := by decide +kernel
theorem dX10_isOf_47 : decode cX10_isOf 47 = .ok (.instanceof 136, 3) := by decide +kernel
theorem dX10_isOf_50 : decode cX10_isOf 50 = .ok (.ireturn, 1) := by decide +kernel
theorem dX10_isOf_51 : decode cX10_isOf 51 = .ok (.aload_n 0, 1) := by decide +kernel
theorem dX10_isOf_52 : decode cX10_isOf 52 = .ok (.instanceof 139, 3) := by decide +kernel
theorem dX10_isOf_55 : decode cX10_isOf 55 = .ok (.ireturn, 1) := by decide +kernel
theorem dX10_isOf_56 : decode cX10_isOf 56 = .ok (.aload_n 0, 1) := by decide +kernel
theorem dX10_isOf_57 : decode cX10_isOf 57 = .ok (.instanceof 142, 3) := by decide +kernel
theorem dX10_isOf_60 : decode cX10_isOf 60 = .ok (.ireturn, 1) := by decide +kernel
theorem dX10_isOf_61 : decode cX10_isOf 61 = .ok (.iconst 1, 1) := by decide +kernel
theorem dX10_isOf_62 : decode cX10_isOf 62 = .ok (.ireturn, 1) := by decide +kernel
theorem dX11_init_0 : decode cX11_init 0 = .ok (.aload_n 0, 1) := by decide +kernel
theorem dX11_init_1 : decode cX11_init 1 = .ok (.invokespecial 1, 3) := by decide +kernel
theorem dX11_init_4 : decode cX11_init 4 = .ok (.aload_n 0, 1) := by decide +kernel
theorem dX11_init_5 : decode cX11_init 5 = .ok (.bipush 7, 2) := by decide +kernel
theorem dX11_init_7 : decode cX11_init 7 = .ok (.newarray .int, 2) := by decide +kernel
theorem dX11_init_9 : decode cX11_init 9 = .ok (.putfield 7, 3) := by decide +kernel
theorem dX11_init_12 : decode cX11_init 12 = .ok (.aload_n 0, 1) := by decide +kernel
theorem dX11_init_13 : decode cX11_init 13 = .ok (.bipush 7, 2) := by decide +kernel
theorem dX11_init_15 : decode cX11_init 15 = .ok (.newarray .int, 2) := by decide +kernel
theorem dX11_init_17 : decode cX11_init 17 = .ok (.putfield 13, 3) := by decide +kernel
theorem dX11_init_20 : decode cX11_init 20 = .ok (.aload_n 0, 1) := by decide +kernel
theorem dX11_init_21 : decode cX11_init 21 = .ok (.bipush 7, 2) := by decide +kernel
theorem dX11_init_23 : decode cX11_init 23 = .ok (.newarray .int, 2) := by decide +kernel
theorem dX11_init_25 : decode cX11_init 25 = .ok (.putfield 16, 3) := by decide +kernel
theorem dX11_init_28 : decode cX11_init 28 = .ok (.aload_n 0, 1) := by decide +kernel
theorem dX11_init_29 : decode cX11_init 29 = .ok (.bipush 7, 2) := by decide +kernel
theorem dX11_init_31 : decode cX11_init 31 = .ok (.newarray .int, 2) := by decide +kernel
theorem dX11_init_33 : decode cX11_init 33 = .ok (.putfield 19, 3) := by decide +kernel
theorem dX11_init_36 : decode cX11_init 36 = .ok (.aload_n 0, 1) := by decide +kernel
theorem dX11_init_37 : decode cX11_init 37 = .ok (.bipush 7, 2) := by decide +kernel
theorem dX11_init_39 : decode cX11_init 39 = .ok (.newarray .int, 2) := by decide +kernel
theorem dX11_init_41 : decode cX11_init 41 = .ok (.putfield 22, 3) := by decide +kernel
theorem dX11_init_44 : decode cX11_init 44 = .ok (.aload_n 0, 1) := by decide +kernel
theorem dX11_init_45 : decode cX11_init 45 = .ok (.bipush 7, 2) := by decide +kernel
theorem dX11_init_47 : decode cX11_init 47 = .ok (.newarray .int, 2) := by decide +kernel
theorem dX11_init_49 : decode cX11_init 49 = .ok (.putfield 25, 3) := by decide +kernel
theorem dX11_init_52 : decode cX11_init 52 = .ok (.aload_n 0, 1) := by decide +kernel
theorem dX11_init_53 : decode cX11_init 53 = .ok (.bipush 7, 2) := by decide +kernel
theorem dX11_init_55 : decode cX11_init 55 = .ok (.newarray .int, 2) := by decide +kernel
theorem dX11_init_57 : decode cX11_init 57 = .ok (.putfield 28, 3) := by decide +kernel
theorem dX11_init_60 : decode cX11_init 60 = .ok (.aload_n 0, 1) := by decide +kernel
theorem dX11_init_61 : decode cX11_init 61 = .ok (.sipush 160, 3) := by decide +kernel
theorem dX11_init_64 : decode cX11_init 64 = .ok (.newarray .int, 2) := by decide +kernel
theorem dX11_init_66 : decode cX11_init 66 = .ok (.putfield 31, 3) := by decide +kernel
theorem dX11_init_69 : decode cX11_init 69 = .ok (.aload_n 0, 1) := by decide +kernel
theorem dX11_init_70 : decode cX11_init 70 = .ok (.sipush 1020, 3) := by decide +kernel
theorem dX11_init_73 : decode cX11_init 73 = .ok (.newarray .int, 2) := by decide +kernel
theorem dX11_init_75 : decode cX11_init 75 = .ok (.putfield 34, 3) := by decide +kernel
theorem dX11_init_78 : decode cX11_init 78 = .ok (.aload_n 0, 1) := by decide +kernel
theorem dX11_init_79 : decode cX11_init 79 = .ok (.bipush 24, 2) := by decide +kernel
theorem dX11_init_81 : decode cX11_init 81 = .ok (.newarray .int, 2) := by decide +kernel
theorem dX11_init_83 : decode cX11_init 83 = .ok (.putfield 37, 3) := by decide +kernel
theorem dX11_init_86 : decode cX11_init 86 = .ok (.aload_n 0, 1) := by decide +kernel
theorem dX11_init_87 : decode cX11_init 87 = .ok (.sipush 170, 3) := by decide +kernel
theorem dX11_init_90 : decode cX11_init 90 = .ok (.newarray .int, 2) := by decide +kernel
theorem dX11_init_92 : decode cX11_init 92 = .ok (.putfield 40, 3) := by decide +kernel
theorem dX11_init_95 : decode cX11_init 95 = .ok (.aload_n 0, 1) := by decide +kernel
theorem dX11_init_96 : decode cX11_init 96 = .ok (.bipush 6, 2) := by decide +kernel
theorem dX11_init_98 : decode cX11_init 98 = .ok (.newarray .int, 2) := by decide +kernel
theorem dX11_init_100 : decode cX11_init 100 = .ok (.putfield 43, 3) := by decide +kernel
theorem dX11_init_103 : decode cX11_init 103 = .ok (.aload_n 0, 1) := by decide +kernel
theorem dX11_init_104 : decode cX11_init 104 = .ok (.bipush 7, 2) := by decide +kernel
theorem dX11_init_106 : decode cX11_init 106 = .ok (.newarray .int, 2) := by decide +kernel
theorem dX11_init_108 : decode cX11_init 108 = .ok (.putfield 46, 3) := by decide +kernel
theorem dX11_init_111 : decode cX11_init 111 = .ok (.aload_n 0, 1) := by decide +kernel
theorem dX11_init_112 : decode cX11_init 112 = .ok (.bipush 7, 2) := by decide +kernel
theorem dX11_init_114 : decode cX11_init 114 = .ok (.newarray .int, 2) := by decide +kernel
theorem dX11_init_116 : decode cX11_init 116 = .ok (.putfield 49, 3) := by decide +kernel
theorem dX11_init_119 : decode cX11_init 119 = .ok (.aload_n 0, 1) := by decide +kernel
theorem dX11_init_120 : decode cX11_init 120 = .ok (.bipush 7, 2) := by decide +kernel
theorem dX11_init_122 : decode cX11_init 122 = .ok (.newarray .int, 2) := by decide +kernel
theorem dX11_init_124 : decode cX11_init 124 = .ok (.putfield 52, 3) := by decide +kernel
theorem dX11_init_127 : decode cX11_init 127 = .ok (.aload_n 0, 1) := by decide +kernel
theorem dX11_init_128 : decode cX11_init 128 = .ok (.bipush 50, 2) := by decide +kernel
theorem dX11_init_130 : decode cX11_init 130 = .ok (.newarray .int, 2) := by decide +kernel
theorem dX11_init_132 : decode cX11_init 132 = .ok (.putfield 55, 3) := by decide +kernel
theorem dX11_init_135 : decode cX11_init 135 = .ok (.aload_n 0, 1) := by decide +kernel
theorem dX11_init_136 : decode cX11_init 136 = .ok (.iconst 4, 1) := by decide +kernel
theorem dX11_init_137 : decode cX11_init 137 = .ok (.newarray .int, 2) := by decide +kernel
theorem dX11_init_139 : decode cX11_init 139 = .ok (.putfield 58, 3) := by decide +kernel
theorem dX11_init_142 : decode cX11_init 142 = .ok (.aload_n 0, 1) := by decide +kernel
theorem dX11_init_143 : decode cX11_init 143 = .ok (.iconst 4, 1) := by decide +kernel
theorem dX11_init_144 : decode cX11_init 144 = .ok (.newarray .int, 2) := by decide +kernel
theorem dX11_init_146 : decode cX11_init 146 = .ok (.putfield 61, 3) := by decide +kernel
theorem dX11_init_149 : decode cX11_init 149 = .ok (.aload_n 0, 1) := by decide +kernel
theorem dX11_init_150 : decode cX11_init 150 = .ok (.sipush 160, 3) := by decide +kernel
theorem dX11_init_153 : decode cX11_init 153 = .ok (.newarray .int, 2) := by decide +kernel
theorem dX11_init_155 : decode cX11_init 155 = .ok (.putfield 64, 3) := by decide +kernel
theorem dX11_init_158 : decode cX11_init 158 = .ok (.aload_n 0, 1) := by decide +kernel
theorem dX11_init_159 : decode cX11_init 159 = .ok (.bipush 40, 2) := by decide +kernel
theorem dX11_init_161 : decode cX11_init 161 = .ok (.newarray .int, 2) := by decide +kernel
theorem dX11_init_163 : decode cX11_init 163 = .ok (.putfield 67, 3) := by decide +kernel
theorem dX11_init_166 : decode cX11_init 166 = .ok (.iconst 0, 1) := by decide +kernel
theorem dX11_init_167 : decode cX11_init 167 = .ok (.istore_n 1, 1) := by decide +kernel
theorem dX11_init_168 : decode cX11_init 168 = .ok (.iload_n 1, 1) := by decide +kernel
theorem dX11_init_169 : decode cX11_init 169 = .ok (.iconst 4, 1) := by decide +kernel
theorem dX11_init_170 : decode cX11_init 170 = .ok (.if_icmp .ge 16, 3) := by decide +kernel
theorem dX11_init_173 : decode cX11_init 173 = .ok (.aload_n 0, 1) := by decide +kernel
theorem dX11_init_174 : decode cX11_init 174 = .ok (.getfield 58, 3) := by decide +kernel
theorem dX11_init_177 : decode cX11_init 177 = .ok (.iload_n 1, 1) := by decide +kernel
theorem dX11_init_178 : decode cX11_init 178 = .ok (.iconst (-1), 1) := by decide +kernel
theorem dX11_init_179 : decode cX11_init 179 = .ok (.iastore, 1) := by decide +kernel
theorem dX11_init_180 : decode cX11_init 180 = .ok (.iinc 1 1, 3) := by decide +kernel
theorem dX11_init_183 : decode cX11_init 183 = .ok (.goto (-15), 3) := by decide +kernel
theorem dX11_init_186 : decode cX11_init 186 = .ok (.aload_n 0, 1) := by decide +kernel
theorem dX11_init_187 : decode cX11_init 187 = .ok (.bipush 27, 2) := by decide +kernel
theorem dX11_init_189 : decode cX11_init 189 = .ok (.putfield 70, 3) := by decide +kernel
theorem dX11_init_192 : decode cX11_init 192 = .ok (.aload_n 0, 1) := by decide +kernel
theorem dX11_init_193 : decode cX11_init 193 = .ok (.iconst 2, 1) := by decide +kernel
theorem dX11_init_194 : decode cX11_init 194 = .ok (.putfield 74, 3) := by decide +kernel
theorem dX11_init_197 : decode cX11_init 197 = .ok (.aload_n 0, 1) := by decide +kernel
theorem dX11_init_198 : decode cX11_init 198 = .ok (.iconst 1, 1) := by decide +kernel
theorem dX11_init_199 : decode cX11_init 199 = .ok (.putfield 77, 3) := by decide +kernel
theorem dX11_init_202 : decode cX11_init 202 = .ok (.ldc 80, 2) := by decide +kernel
theorem dX11_init_204 : decode cX11_init 204 = .ok (.astore_n 1, 1) := by decide +kernel
theorem dX11_init_205 : decode cX11_init 205 = .ok (.iconst 0, 1) := by decide +kernel
theorem dX11_init_206 : decode cX11_init 206 = .ok (.istore_n 2, 1) := by decide +kernel
theorem dX11_init_207 : decode cX11_init 207 = .ok (.iload_n 2, 1) := by decide +kernel
theorem dX11_init_208 : decode cX11_init 208 = .ok (.aload_n 1, 1) := by decide +kernel
theorem dX11_init_209 : decode cX11_init 209 = .ok (.invokevirtual 82, 3) := by decide +kernel
theorem dX11_init_212 : decode cX11_init 212 = .ok (.if_icmp .ge 19, 3) := by decide +kernel
theorem dX11_init_215 : decode cX11_init 215 = .ok (.aload_n 0, 1) := by decide +kernel
theorem dX11_init_216 : decode cX11_init 216 = .ok (.aload_n 1, 1) := by decide +kernel
theorem dX11_init_217 : decode cX11_init 217 = .ok (.iload_n 2, 1) := by decide +kernel
theorem dX11_init_218 : decode cX11_init 218 = .ok (.invokevirtual 88, 3) := by decide +kernel
theorem dX11_init_221 : decode cX11_init 221 = .ok (.invokevirtual 92, 3) := by decide +kernel
theorem dX11_init_224 : decode cX11_init 224 = .ok (.pop, 1) := by decide +kernel
theorem dX11_init_225 : decode cX11_init 225 = .ok (.iinc 2 1, 3) := by decide +kernel
theorem dX11_init_228 : decode cX11_init 228 = .ok (.goto (-21), 3) := by decide +kernel
theorem dX11_init_231 : decode cX11_init 231 = .ok (.aload_n 0, 1) := by decide +kernel
theorem dX11_init_232 : decode cX11_init 232 = .ok (.invokevirtual 96, 3) := by decide +kernel
theorem dX11_init_235 : decode cX11_init 235 = .ok (.pop, 1) := by decide +kernel
theorem dX11_init_236 : decode cX11_init 236 = .ok (.return_, 1) := by decide +kernel
theorem dX11_within_0 : decode cX11_within 0 = .ok (.iload_n 0, 1) := by decide +kernel
theorem dX11_within_1 : decode cX11_within 1 = .ok (.iload_n 1, 1) := by decide +kernel
theorem dX11_within_2 : decode cX11_within 2 = .ok (.if_icmp .lt 12, 3) := by decide +kernel
theorem dX11_within_5 : decode cX11_within 5 = .ok (.iload_n 0, 1) := by decide +kernel
theorem dX11_within_6 : decode cX11_within 6 = .ok (.iload_n 2, 1) := by decide +kernel
theorem dX11_within_7 : decode cX11_within 7 = .ok (.if_icmp .gt 7, 3) := by decide +kernel
theorem dX11_within_10 : decode cX11_within 10 = .ok (.iconst 1, 1) := by decide +kernel
theorem dX11_within_11 : decode cX11_within 11 = .ok (.goto 4, 3) := by decide +kernel
theorem dX11_within_14 : decode cX11_within 14 = .ok (.iconst 0, 1) := by decide +kernel
theorem dX11_within_15 : decode cX11_within 15 = .ok (.ireturn, 1) := by decide +kernel
theorem dX11_isBoat_0 : decode cX11_isBoat 0 = .ok (.iload_n 1, 1) := by decide +kernel
theorem dX11_isBoat_1 : decode cX11_isBoat 1 = .ok (.iconst 0, 1) := by decide +kernel
theorem dX11_isBoat_2 : decode cX11_isBoat 2 = .ok (.aload_n 0, 1) := by decide +kernel
theorem dX11_isBoat_3 : decode cX11_isBoat 3 = .ok (.getfield 99, 3) := by decide +kernel
theorem dX11_isBoat_6 : decode cX11_isBoat 6 = .ok (.iconst 1, 1) := by decide +kernel
theorem dX11_isBoat_7 : decode cX11_isBoat 7 = .ok (.isub, 1) := by decide +kernel
theorem dX11_isBoat_8 : decode cX11_isBoat 8 = .ok (.invokestatic 102, 3) := by decide +kernel
theorem dX11_isBoat_11 : decode cX11_isBoat 11 = .ok (.ireturn, 1) := by decide +kernel
theorem dX11_far_0 : decode cX11_far 0 = .ok (.iload_n 0, 1) := by decide +kernel
theorem dX11_far_1 : decode cX11_far 1 = .ok (.bipush 8, 2) := by decide +kernel
theorem dX11_far_3 : decode cX11_far 3 = .ok (.idiv, 1) := by decide +kernel
theorem dX11_far_4 : decode cX11_far 4 = .ok (.iload_n 1, 1) := by decide +kernel
theorem dX11_far_5 : decode cX11_far 5 = .ok (.bipush 8, 2) := by decide +kernel
theorem dX11_far_7 : decode cX11_far 7 = .ok (.idiv, 1) := by decide +kernel
theorem dX11_far_8 : decode cX11_far 8 = .ok (.isub, 1) := by decide +kernel
theorem dX11_far_9 : decode cX11_far 9 = .ok (.invokestatic 106, 3) := by decide +kernel
theorem dX11_far_12 : decode cX11_far 12 = .ok (.iload_n 0, 1) := by decide +kernel
theorem dX11_far_13 : decode cX11_far 13 = .ok (.bipush 8, 2) := by decide +kernel
theorem dX11_far_15 : decode cX11_far 15 = .ok (.irem, 1) := by decide +kernel
theorem dX11_far_16 : decode cX11_far 16 = .ok (.iload_n 1, 1) := by decide +kernel
theorem dX11_far_17 : decode cX11_far 17 = .ok (.bipush 8, 2) := by decide +kernel
theorem dX11_far_19 : decode cX11_far 19 = .ok (.irem, 1) := by decide +kernel
theorem dX11_far_20 : decode cX11_far 20 = .ok (.isub, 1) := by decide +kernel
theorem dX11_far_21 : decode cX11_far 21 = .ok (.invokestatic 106, 3) := by decide +kernel
theorem dX11_far_24 : decode cX11_far 24 = .ok (.iadd, 1) := by decide +kernel
theorem dX11_far_25 : decode cX11_far 25 = .ok (.ireturn, 1) := by decide +kernel
theorem dX11_boat_0 : decode cX11_boat 0 = .ok (.iload_n 1, 1) := by decide +kernel
theorem dX11_boat_1 : decode cX11_boat 1 = .ok (.iconst 0, 1) := by decide +kernel
theorem dX11_boat_2 : decode cX11_boat 2 = .ok (.iconst 5, 1) := by decide +kernel
theorem dX11_boat_3 : decode cX11_boat 3 = .ok (.invokestatic 102, 3) := by decide +kernel
theorem dX11_boat_6 : decode cX11_boat 6 = .ok (.ifCond .eq 35, 3) := by decide +kernel
theorem dX11_boat_9 : decode cX11_boat 9 = .ok (.iload_n 2, 1) := by decide +kernel
theorem dX11_boat_10 : decode cX11_boat 10 = .ok (.iconst 0, 1) := by decide +kernel
theorem dX11_boat_11 : decode cX11_boat 11 = .ok (.sipush 4709, 3) := by decide +kernel
theorem dX11_boat_14 : decode cX11_boat 14 = .ok (.invokestatic 102, 3) := by decide +kernel
theorem dX11_boat_17 : decode cX11_boat 17 = .ok (.ifCond .eq 24, 3) := by decide +kernel
theorem dX11_boat_20 : decode cX11_boat 20 = .ok (.iload_n 2, 1) := by decide +kernel
theorem dX11_boat_21 : decode cX11_boat 21 = .ok (.bipush 100, 2) := by decide +kernel
theorem dX11_boat_23 : decode cX11_boat 23 = .ok (.irem, 1) := by decide +kernel
theorem dX11_boat_24 : decode cX11_boat 24 = .ok (.bipush 9, 2) := by decide +kernel
theorem dX11_boat_26 : decode cX11_boat 26 = .ok (.if_icmp .gt 15, 3) := by decide +kernel
theorem dX11_boat_29 : decode cX11_boat 29 = .ok (.iload_n 3, 1) := by decide +kernel
theorem dX11_boat_30 : decode cX11_boat 30 = .ok (.sipush 5000, 3) := by decide +kernel
theorem dX11_boat_33 : decode cX11_boat 33 = .ok (.ldc 111, 2) := by decide +kernel
theorem dX11_boat_35 : decode cX11_boat 35 = .ok (.invokestatic 102, 3) := by decide +kernel
theorem dX11_boat_38 : decode cX11_boat 38 = .ok (.ifCond .ne 6, 3) := by decide +kernel
theorem dX11_boat_41 : decode cX11_boat 41 = .ok (.bipush (-2), 2) := by decide +kernel
theorem dX11_boat_43 : decode cX11_boat 43 = .ok (.ireturn, 1) := by decide +kernel
theorem dX11_boat_44 : decode cX11_boat 44 = .ok (.aload_n 0, 1) := by decide +kernel
theorem dX11_boat_45 : decode cX11_boat 45 = .ok (.getfield 99, 3) := by decide +kernel
theorem dX11_boat_48 : decode cX11_boat 48 = .ok (.bipush 7, 2) := by decide +kernel
theorem dX11_boat_50 : decode cX11_boat 50 = .ok (.if_icmp .ne 6, 3) := by decide +kernel
theorem dX11_boat_53 : decode cX11_boat 53 = .ok (.bipush (-4), 2) := by decide +kernel
theorem dX11_boat_55 : decode cX11_boat 55 = .ok (.ireturn, 1) := by decide +kernel
theorem dX11_boat_56 : decode cX11_boat 56 = .ok (.aload_n 0, 1) := by decide +kernel
theorem dX11_boat_57 : decode cX11_boat 57 = .ok (.getfield 7, 3) := by decide +kernel
theorem dX11_boat_60 : decode cX11_boat 60 = .ok (.aload_n 0, 1) := by decide +kernel
theorem dX11_boat_61 : decode cX11_boat 61 = .ok (.getfield 99, 3) := by decide +kernel
theorem dX11_boat_64 : decode cX11_boat 64 = .ok (.iload_n 1, 1) := by decide +kernel
theorem dX11_boat_65 : decode cX11_boat 65 = .ok (.iastore, 1) := by decide +kernel
theorem dX11_boat_66 : decode cX11_boat 66 = .ok (.aload_n 0, 1) := by decide +kernel
theorem dX11_boat_67 : decode cX11_boat 67 = .ok (.getfield 16, 3) := by decide +kernel
theorem dX11_boat_70 : decode cX11_boat 70 = .ok (.aload_n 0, 1) := by decide +kernel
theorem dX11_boat_71 : decode cX11_boat 71 = .ok (.getfield 99, 3) := by decide +kernel
theorem dX11_boat_74 : decode cX11_boat 74 = .ok (.iload_n 2, 1) := by decide +kernel
theorem dX11_boat_75 : decode cX11_boat 75 = .ok (.bipush 100, 2) := by decide +kernel
theorem dX11_boat_77 : decode cX11_boat 77 = .ok (.idiv, 1) := by decide +kernel
theorem dX11_boat_78 : decode cX11_boat 78 = .ok (.iastore, 1) := by decide +kernel
theorem dX11_boat_79 : decode cX11_boat 79 = .ok (.aload_n 0, 1) := by decide +kernel
theorem dX11_boat_80 : decode cX11_boat 80 = .ok (.getfield 13, 3) := by decide +kernel
theorem dX11_boat_83 : decode cX11_boat 83 = .ok (.aload_n 0, 1) := by decide +kernel
theorem dX11_boat_84 : decode cX11_boat 84 = .ok (.getfield 99, 3) := by decide +kernel
theorem dX11_boat_87 : decode cX11_boat 87 = .ok (.iload_n 2, 1) := by decide +kernel
theorem dX11_boat_88 : decode cX11_boat 88 = .ok (.bipush 100, 2) := by decide +kernel
theorem dX11_boat_90 : decode cX11_boat 90 = .ok (.irem, 1) := by decide +kernel
theorem dX11_boat_91 : decode cX11_boat 91 = .ok (.iastore, 1) := by decide +kernel
theorem dX11_boat_92 : decode cX11_boat 92 = .ok (.aload_n 0, 1) := by decide +kernel
theorem dX11_boat_93 : decode cX11_boat 93 = .ok (.getfield 22, 3) := by decide +kernel
theorem dX11_boat_96 : decode cX11_boat 96 = .ok (.aload_n 0, 1) := by decide +kernel
theorem dX11_boat_97 : decode cX11_boat 97 = .ok (.getfield 99, 3) := by decide +kernel
theorem dX11_boat_100 : decode cX11_boat 100 = .ok (.iload_n 3, 1) := by decide +kernel
theorem dX11_boat_101 : decode cX11_boat 101 = .ok (.sipush 1000, 3) := by decide +kernel
theorem dX11_boat_104 : decode cX11_boat 104 = .ok (.idiv, 1) := by decide +kernel
theorem dX11_boat_105 : decode cX11_boat 105 = .ok (.iastore, 1) := by decide +kernel
theorem dX11_boat_106 : decode cX11_boat 106 = .ok (.aload_n 0, 1) := by decide +kernel
theorem dX11_boat_107 : decode cX11_boat 107 = .ok (.getfield 19, 3) := by decide +kernel
theorem dX11_boat_110 : decode cX11_boat 110 = .ok (.aload_n 0, 1) := by decide +kernel
theorem dX11_boat_111 : decode cX11_boat 111 = .ok (.getfield 99, 3) := by decide +kernel
theorem dX11_boat_114 : decode cX11_boat 114 = .ok (.iload_n 3, 1) := by decide +kernel
theorem dX11_boat_115 : decode cX11_boat 115 = .ok (.sipush 1000, 3) := by decide +kernel
theorem dX11_boat_118 : decode cX11_boat 118 = .ok (.irem, 1) := by decide +kernel
theorem dX11_boat_119 : decode cX11_boat 119 = .ok (.iastore, 1) := by decide +kernel
theorem dX11_boat_120 : decode cX11_boat 120 = .ok (.aload_n 0, 1) := by decide +kernel
theorem dX11_boat_121 : decode cX11_boat 121 = .ok (.getfield 25, 3) := by decide +kernel
theorem dX11_boat_124 : decode cX11_boat 124 = .ok (.aload_n 0, 1) := by decide +kernel
theorem dX11_boat_125 : decode cX11_boat 125 = .ok (.getfield 99, 3) := by decide +kernel
theorem dX11_boat_128 : decode cX11_boat 128 = .ok (.iconst 0, 1) := by decide +kernel
theorem dX11_boat_129 : decode cX11_boat 129 = .ok (.iastore, 1) := by decide +kernel
theorem dX11_boat_130 : decode cX11_boat 130 = .ok (.aload_n 0, 1) := by decide +kernel
theorem dX11_boat_131 : decode cX11_boat 131 = .ok (.getfield 28, 3) := by decide +kernel
theorem dX11_boat_134 : decode cX11_boat 134 = .ok (.aload_n 0, 1) := by decide +kernel
theorem dX11_boat_135 : decode cX11_boat 135 = .ok (.getfield 99, 3) := by decide +kernel
theorem dX11_boat_138 : decode cX11_boat 138 = .ok (.iconst (-1), 1) := by decide +kernel
theorem dX11_boat_139 : decode cX11_boat 139 = .ok (.iastore, 1) := by decide +kernel
theorem dX11_boat_140 : decode cX11_boat 140 = .ok (.aload_n 0, 1) := by decide +kernel
theorem dX11_boat_141 : decode cX11_boat 141 = .ok (.dup, 1) := by decide +kernel
theorem dX11_boat_142 : decode cX11_boat 142 = .ok (.getfield 99, 3) := by decide +kernel
theorem dX11_boat_145 : decode cX11_boat 145 = .ok (.dup_x1, 1) := by decide +kernel
theorem dX11_boat_146 : decode cX11_boat 146 = .ok (.iconst 1, 1) := by decide +kernel
theorem dX11_boat_147 : decode cX11_boat 147 = .ok (.iadd, 1) := by decide +kernel
theorem dX11_boat_148 : decode cX11_boat 148 = .ok (.putfield 99, 3) := by decide +kernel
theorem dX11_boat_151 : decode cX11_boat 151 = .ok (.ireturn, 1) := by decide +kernel
theorem dX11_set_0 : decode cX11_set 0 = .ok (.iload_n 1, 1) := by decide +kernel
theorem dX11_set_1 : decode cX11_set 1 = .ok (.iconst 2, 1) := by decide +kernel
theorem dX11_set_2 : decode cX11_set 2 = .ok (.if_icmp .ne 7, 3) := by decide +kernel
theorem dX11_set_5 : decode cX11_set 5 = .ok (.iconst 5, 1) := by decide +kernel
theorem dX11_set_6 : decode cX11_set 6 = .ok (.goto 20, 3) := by decide +kernel
theorem dX11_set_9 : decode cX11_set 9 = .ok (.iload_n 1, 1) := by decide +kernel
theorem dX11_set_10 : decode cX11_set 10 = .ok (.bipush 6, 2) := by decide +kernel
theorem dX11_set_12 : decode cX11_set 12 = .ok (.if_icmp .eq 9, 3) := by decide +kernel
theorem dX11_set_15 : decode cX11_set 15 = .ok (.iload_n 1, 1) := by decide +kernel
theorem dX11_set_16 : decode cX11_set 16 = .ok (.bipush 7, 2) := by decide +kernel
theorem dX11_set_18 : decode cX11_set 18 = .ok (.if_icmp .ne 7, 3) := by decide +kernel
theorem dX11_set_21 : decode cX11_set 21 = .ok (.iconst 1, 1) := by decide +kernel
theorem dX11_set_22 : decode cX11_set 22 = .ok (.goto 4, 3) := by decide +kernel
theorem dX11_set_25 : decode cX11_set 25 = .ok (.iconst 0, 1) := by decide +kernel
theorem dX11_set_26 : decode cX11_set 26 = .ok (.istore 4, 2) := by decide +kernel
theorem dX11_set_28 : decode cX11_set 28 = .ok (.iload_n 1, 1) := by decide +kernel
theorem dX11_set_29 : decode cX11_set 29 = .ok (.ifCond .eq 8, 3) := by decide +kernel
theorem dX11_set_32 : decode cX11_set 32 = .ok (.iload_n 1, 1) := by decide +kernel
theorem dX11_set_33 : decode cX11_set 33 = .ok (.iconst 4, 1) := by decide +kernel
theorem dX11_set_34 : decode cX11_set 34 = .ok (.if_icmp .ne 8, 3) := by decide +kernel
theorem dX11_set_37 : decode cX11_set 37 = .ok (.bipush 47, 2) := by decide +kernel
theorem dX11_set_39 : decode cX11_set 39 = .ok (.goto 49, 3) := by decide +kernel
theorem dX11_set_42 : decode cX11_set 42 = .ok (.iload_n 1, 1) := by decide +kernel
theorem dX11_set_43 : decode cX11_set 43 = .ok (.iconst 1, 1) := by decide +kernel
theorem dX11_set_44 : decode cX11_set 44 = .ok (.if_icmp .ne 9, 3) := by decide +kernel
theorem dX11_set_47 : decode cX11_set 47 = .ok (.sipush 999, 3) := by decide +kernel
theorem dX11_set_50 : decode cX11_set 50 = .ok (.goto 38, 3) := by decide +kernel
theorem dX11_set_53 : decode cX11_set 53 = .ok (.iload_n 1, 1) := by decide +kernel
theorem dX11_set_54 : decode cX11_set 54 = .ok (.iconst 2, 1) := by decide +kernel
theorem dX11_set_55 : decode cX11_set 55 = .ok (.if_icmp .ne 9, 3) := by decide +kernel
theorem dX11_set_58 : decode cX11_set 58 = .ok (.sipush 240, 3) := by decide +kernel
theorem dX11_set_61 : decode cX11_set 61 = .ok (.goto 27, 3) := by decide +kernel
theorem dX11_set_64 : decode cX11_set 64 = .ok (.iload_n 1, 1) := by decide +kernel
theorem dX11_set_65 : decode cX11_set 65 = .ok (.bipush 6, 2) := by decide +kernel
theorem dX11_set_67 : decode cX11_set 67 = .ok (.if_icmp .ne 8, 3) := by decide +kernel
theorem dX11_set_70 : decode cX11_set 70 = .ok (.bipush 6, 2) := by decide +kernel
theorem dX11_set_72 : decode cX11_set 72 = .ok (.goto 16, 3) := by decide +kernel
theorem dX11_set_75 : decode cX11_set 75 = .ok (.iload_n 1, 1) := by decide +kernel
theorem dX11_set_76 : decode cX11_set 76 = .ok (.bipush 8, 2) := by decide +kernel
theorem dX11_set_78 : decode cX11_set 78 = .ok (.if_icmp .ne 8, 3) := by decide +kernel
theorem dX11_set_81 : decode cX11_set 81 = .ok (.bipush 20, 2) := by decide +kernel
theorem dX11_set_83 : decode cX11_set 83 = .ok (.goto 5, 3) := by decide +kernel
theorem dX11_set_86 : decode cX11_set 86 = .ok (.bipush 9, 2) := by decide +kernel
theorem dX11_set_88 : decode cX11_set 88 = .ok (.istore 5, 2) := by decide +kernel
theorem dX11_set_90 : decode cX11_set 90 = .ok (.iload_n 1, 1) := by decide +kernel
theorem dX11_set_91 : decode cX11_set 91 = .ok (.iconst 0, 1) := by decide +kernel
theorem dX11_set_92 : decode cX11_set 92 = .ok (.bipush 8, 2) := by decide +kernel
theorem dX11_set_94 : decode cX11_set 94 = .ok (.invokestatic 102, 3) := by decide +kernel
theorem dX11_set_97 : decode cX11_set 97 = .ok (.ifCond .eq 27, 3) := by decide +kernel
theorem dX11_set_100 : decode cX11_set 100 = .ok (.iload_n 1, 1) := by decide +kernel
theorem dX11_set_101 : decode cX11_set 101 = .ok (.iconst 4, 1) := by decide +kernel
theorem dX11_set_102 : decode cX11_set 102 = .ok (.if_icmp .ge 11, 3) := by decide +kernel
theorem dX11_set_105 : decode cX11_set 105 = .ok (.aload_n 0, 1) := by decide +kernel
theorem dX11_set_106 : decode cX11_set 106 = .ok (.iload_n 2, 1) := by decide +kernel
theorem dX11_set_107 : decode cX11_set 107 = .ok (.invokevirtual 112, 3) := by decide +kernel
theorem dX11_set_110 : decode cX11_set 110 = .ok (.ifCond .eq 14, 3) := by decide +kernel
theorem dX11_set_113 : decode cX11_set 113 = .ok (.iload_n 3, 1) := by decide +kernel
theorem dX11_set_114 : decode cX11_set 114 = .ok (.iload 4, 2) := by decide +kernel
theorem dX11_set_116 : decode cX11_set 116 = .ok (.iload 5, 2) := by decide +kernel
theorem dX11_set_118 : decode cX11_set 118 = .ok (.invokestatic 102, 3) := by decide +kernel
theorem dX11_set_121 : decode cX11_set 121 = .ok (.ifCond .ne 6, 3) := by decide +kernel
theorem dX11_set_124 : decode cX11_set 124 = .ok (.bipush (-2), 2) := by decide +kernel
theorem dX11_set_126 : decode cX11_set 126 = .ok (.ireturn, 1) := by decide +kernel
theorem dX11_set_127 : decode cX11_set 127 = .ok (.iload_n 1, 1) := by decide +kernel
theorem dX11_set_128 : decode cX11_set 128 = .ok (.tableswitch 176 0 7 #[48, 66, 84, 102, 120, 134, 148, 162], 48) := by decide +kernel
theorem dX11_set_176 : decode cX11_set 176 = .ok (.aload_n 0, 1) := by decide +kernel
theorem dX11_set_177 : decode cX11_set 177 = .ok (.getfield 16, 3) := by decide +kernel
theorem dX11_set_180 : decode cX11_set 180 = .ok (.iload_n 2, 1) := by decide +kernel
theorem dX11_set_181 : decode cX11_set 181 = .ok (.iaload, 1) := by decide +kernel
theorem dX11_set_182 : decode cX11_set 182 = .ok (.istore 6, 2) := by decide +kernel
theorem dX11_set_184 : decode cX11_set 184 = .ok (.aload_n 0, 1) := by decide +kernel
theorem dX11_set_185 : decode cX11_set 185 = .ok (.getfield 16, 3) := by decide +kernel
theorem dX11_set_188 : decode cX11_set 188 = .ok (.iload_n 2, 1) := by decide +kernel
theorem dX11_set_189 : decode cX11_set 189 = .ok (.iload_n 3, 1) := by decide +kernel
theorem dX11_set_190 : decode cX11_set 190 = .ok (.iastore, 1) := by decide +kernel
theorem dX11_set_191 : decode cX11_set 191 = .ok (.iload 6, 2) := by decide +kernel
theorem dX11_set_193 : decode cX11_set 193 = .ok (.ireturn, 1) := by decide +kernel
theorem dX11_set_194 : decode cX11_set 194 = .ok (.aload_n 0, 1) := by decide +kernel
theorem dX11_set_195 : decode cX11_set 195 = .ok (.getfield 19, 3) := by decide +kernel
theorem dX11_set_198 : decode cX11_set 198 = .ok (.iload_n 2, 1) := by decide +kernel
theorem dX11_set_199 : decode cX11_set 199 = .ok (.iaload, 1) := by decide +kernel
theorem dX11_set_200 : decode cX11_set 200 = .ok (.istore 6, 2) := by decide +kernel
theorem dX11_set_202 : decode cX11_set 202 = .ok (.aload_n 0, 1) := by decide +kernel
theorem dX11_set_203 : decode cX11_set 203 = .ok (.getfield 19, 3) := by decide +kernel
theorem dX11_set_206 : decode cX11_set 206 = .ok (.iload_n 2, 1) := by decide +kernel
theorem dX11_set_207 : decode cX11_set 207 = .ok (.iload_n 3, 1) := by decide +kernel
theorem dX11_set_208 : decode cX11_set 208 = .ok (.iastore, 1) := by decide +kernel
theorem dX11_set_209 : decode cX11_set 209 = .ok (.iload 6, 2) := by decide +kernel
theorem dX11_set_211 : decode cX11_set 211 = .ok (.ireturn, 1) := by decide +kernel
theorem dX11_set_212 : decode cX11_set 212 = .ok (.aload_n 0, 1) := by decide +kernel
theorem dX11_set_213 : decode cX11_set 213 = .ok (.getfield 22, 3) := by decide +kernel
theorem dX11_set_216 : decode cX11_set 216 = .ok (.iload_n 2, 1) := by decide +kernel
theorem dX11_set_217 : decode cX11_set 217 = .ok (.iaload, 1) := by decide +kernel
theorem dX11_set_218 : decode cX11_set 218 = .ok (.istore 6, 2) := by decide +kernel
theorem dX11_set_220 : decode cX11_set 220 = .ok (.aload_n 0, 1) := by decide +kernel
theorem dX11_set_221 : decode cX11_set 221 = .ok (.getfield 22, 3) := by decide +kernel
theorem dX11_set_224 : decode cX11_set 224 = .ok (.iload_n 2, 1) := by decide +kernel
theorem dX11_set_225 : decode cX11_set 225 = .ok (.iload_n 3, 1) := by decide +kernel
theorem dX11_set_226 : decode cX11_set 226 = .ok (.iastore, 1) := by decide +kernel
theorem dX11_set_227 : decode cX11_set 227 = .ok (.iload 6, 2) := by decide +kernel
theorem dX11_set_229 : decode cX11_set 229 = .ok (.ireturn, 1) := by decide +kernel
theorem dX11_set_230 : decode cX11_set 230 = .ok (.aload_n 0, 1) := by decide +kernel
theorem dX11_set_231 : decode cX11_set 231 = .ok (.getfield 13, 3) := by decide +kernel
theorem dX11_set_234 : decode cX11_set 234 = .ok (.iload_n 2, 1) := by decide +kernel
theorem dX11_set_235 : decode cX11_set 235 = .ok (.iaload, 1) := by decide +kernel
theorem dX11_set_236 : decode cX11_set 236 = .ok (.istore 6, 2) := by decide +kernel
theorem dX11_set_238 : decode cX11_set 238 = .ok (.aload_n 0, 1) := by decide +kernel
theorem dX11_set_239 : decode cX11_set 239 = .ok (.getfield 13, 3) := by decide +kernel
theorem dX11_set_242 : decode cX11_set 242 = .ok (.iload_n 2, 1) := by decide +kernel
theorem dX11_set_243 : decode cX11_set 243 = .ok (.iload_n 3, 1) := by decide +kernel
theorem dX11_set_244 : decode cX11_set 244 = .ok (.iastore, 1) := by decide +kernel
theorem dX11_set_245 : decode cX11_set 245 = .ok (.iload 6, 2) := by decide +kernel
theorem dX11_set_247 : decode cX11_set 247 = .ok (.ireturn, 1) := by decide +kernel
theorem dX11_set_248 : decode cX11_set 248 = .ok (.aload_n 0, 1) := by decide +kernel
theorem dX11_set_249 : decode cX11_set 249 = .ok (.getfield 70, 3) := by decide +kernel
theorem dX11_set_252 : decode cX11_set 252 = .ok (.istore 6, 2) := by decide +kernel
theorem dX11_set_254 : decode cX11_set 254 = .ok (.aload_n 0, 1) := by decide +kernel
theorem dX11_set_255 : decode cX11_set 255 = .ok (.iload_n 3, 1) := by decide +kernel
theorem dX11_set_256 : decode cX11_set 256 = .ok (.putfield 70, 3) := by decide +kernel
theorem dX11_set_259 : decode cX11_set 259 = .ok (.iload 6, 2) := by decide +kernel
theorem dX11_set_261 : decode cX11_set 261 = .ok (.ireturn, 1) := by decide +kernel
theorem dX11_set_262 : decode cX11_set 262 = .ok (.aload_n 0, 1) := by decide +kernel
theorem dX11_set_263 : decode cX11_set 263 = .ok (.getfield 116, 3) := by decide +kernel
theorem dX11_set_266 : decode cX11_set 266 = .ok (.istore 6, 2) := by decide +kernel
theorem dX11_set_268 : decode cX11_set 268 = .ok (.aload_n 0, 1) := by decide +kernel
theorem dX11_set_269 : decode cX11_set 269 = .ok (.iload_n 3, 1) := by decide +kernel
theorem dX11_set_270 : decode cX11_set 270 = .ok (.putfield 116, 3) := by decide +kernel
theorem dX11_set_273 : decode cX11_set 273 = .ok (.iload 6, 2) := by decide +kernel
theorem dX11_set_275 : decode cX11_set 275 = .ok (.ireturn, 1) := by decide +kernel
theorem dX11_set_276 : decode cX11_set 276 = .ok (.aload_n 0, 1) := by decide +kernel
theorem dX11_set_277 : decode cX11_set 277 = .ok (.getfield 74, 3) := by decide +kernel
theorem dX11_set_280 : decode cX11_set 280 = .ok (.istore 6, 2) := by decide +kernel
theorem dX11_set_282 : decode cX11_set 282 = .ok (.aload_n 0, 1) := by decide +kernel
theorem dX11_set_283 : decode cX11_set 283 = .ok (.iload_n 3, 1) := by decide +kernel
theorem dX11_set_284 : decode cX11_set 284 = .ok (.putfield 74, 3) := by decide +kernel
theorem dX11_set_287 : decode cX11_set 287 = .ok (.iload 6, 2) := by decide +kernel
theorem dX11_set_289 : decode cX11_set 289 = .ok (.ireturn, 1) := by decide +kernel
theorem dX11_set_290 : decode cX11_set 290 = .ok (.aload_n 0, 1) := by decide +kernel
theorem dX11_set_291 : decode cX11_set 291 = .ok (.getfield 77, 3) := by decide +kernel
theorem dX11_set_294 : decode cX11_set 294 = .ok (.istore 6, 2) := by decide +kernel
theorem dX11_set_296 : decode cX11_set 296 = .ok (.aload_n 0, 1) := by decide +kernel
theorem dX11_set_297 : decode cX11_set 297 = .ok (.iload_n 3, 1) := by decide +kernel
theorem dX11_set_298 : decode cX11_set 298 = .ok (.putfield 77, 3) := by decide +kernel
theorem dX11_set_301 : decode cX11_set 301 = .ok (.iload 6, 2) := by decide +kernel
theorem dX11_set_303 : decode cX11_set 303 = .ok (.ireturn, 1) := by decide +kernel
theorem dX11_set_304 : decode cX11_set 304 = .ok (.aload_n 0, 1) := by decide +kernel
theorem dX11_set_305 : decode cX11_set 305 = .ok (.getfield 119, 3) := by decide +kernel
theorem dX11_set_308 : decode cX11_set 308 = .ok (.istore 6, 2) := by decide +kernel
theorem dX11_set_310 : decode cX11_set 310 = .ok (.aload_n 0, 1) := by decide +kernel
theorem dX11_set_311 : decode cX11_set 311 = .ok (.iload_n 3, 1) := by decide +kernel
theorem dX11_set_312 : decode cX11_set 312 = .ok (.putfield 119, 3) := by decide +kernel
theorem dX11_set_315 : decode cX11_set 315 = .ok (.iload 6, 2) := by decide +kernel
theorem dX11_set_317 : decode cX11_set 317 = .ok (.ireturn, 1) := by decide +kernel
theorem dX11_rows_0 : decode cX11_rows 0 = .ok (.iconst 2, 1) := by decide +kernel
theorem dX11_rows_1 : decode cX11_rows 1 = .ok (.aload_n 0, 1) := by decide +kernel
theorem dX11_rows_2 : decode cX11_rows 2 = .ok (.getfield 116, 3) := by decide +kernel
theorem dX11_rows_5 : decode cX11_rows 5 = .ok (.iconst 2, 1) := by decide +kernel
theorem dX11_rows_6 : decode cX11_rows 6 = .ok (.idiv, 1) := by decide +kernel
theorem dX11_rows_7 : decode cX11_rows 7 = .ok (.iadd, 1) := by decide +kernel
theorem dX11_rows_8 : decode cX11_rows 8 = .ok (.istore_n 2, 1) := by decide +kernel
theorem dX11_rows_9 : decode cX11_rows 9 = .ok (.aload_n 0, 1) := by decide +kernel
theorem dX11_rows_10 : decode cX11_rows 10 = .ok (.getfield 7, 3) := by decide +kernel
theorem dX11_rows_13 : decode cX11_rows 13 = .ok (.iload_n 1, 1) := by decide +kernel
theorem dX11_rows_14 : decode cX11_rows 14 = .ok (.iaload, 1) := by decide +kernel
theorem dX11_rows_15 : decode cX11_rows 15 = .ok (.tableswitch 66 1 5 #[33, 37, 44, 55, 62], 33) := by decide +kernel
theorem dX11_rows_48 : decode cX11_rows 48 = .ok (.iload_n 2, 1) := by decide +kernel
theorem dX11_rows_49 : decode cX11_rows 49 = .ok (.iconst 1, 1) := by decide +kernel
theorem dX11_rows_50 : decode cX11_rows 50 = .ok (.isub, 1) := by decide +kernel
theorem dX11_rows_51 : decode cX11_rows 51 = .ok (.ireturn, 1) := by decide +kernel
theorem dX11_rows_52 : decode cX11_rows 52 = .ok (.iload_n 2, 1) := by decide +kernel
theorem dX11_rows_53 : decode cX11_rows 53 = .ok (.aload_n 0, 1) := by decide +kernel
theorem dX11_rows_54 : decode cX11_rows 54 = .ok (.getfield 116, 3) := by decide +kernel
theorem dX11_rows_57 : decode cX11_rows 57 = .ok (.iadd, 1) := by decide +kernel
theorem dX11_rows_58 : decode cX11_rows 58 = .ok (.ireturn, 1) := by decide +kernel
theorem dX11_rows_59 : decode cX11_rows 59 = .ok (.iload_n 2, 1) := by decide +kernel
theorem dX11_rows_60 : decode cX11_rows 60 = .ok (.iconst 1, 1) := by decide +kernel
theorem dX11_rows_61 : decode cX11_rows 61 = .ok (.isub, 1) := by decide +kernel
theorem dX11_rows_62 : decode cX11_rows 62 = .ok (.aload_n 0, 1) := by decide +kernel
theorem dX11_rows_63 : decode cX11_rows 63 = .ok (.getfield 13, 3) := by decide +kernel
theorem dX11_rows_66 : decode cX11_rows 66 = .ok (.iload_n 1, 1) := by decide +kernel
theorem dX11_rows_67 : decode cX11_rows 67 = .ok (.iaload, 1) := by decide +kernel
theorem dX11_rows_68 : decode cX11_rows 68 = .ok (.iadd, 1) := by decide +kernel
theorem dX11_rows_69 : decode cX11_rows 69 = .ok (.ireturn, 1) := by decide +kernel
theorem dX11_rows_70 : decode cX11_rows 70 = .ok (.iload_n 2, 1) := by decide +kernel
theorem dX11_rows_71 : decode cX11_rows 71 = .ok (.aload_n 0, 1) := by decide +kernel
theorem dX11_rows_72 : decode cX11_rows 72 = .ok (.getfield 116, 3) := by decide +kernel
theorem dX11_rows_75 : decode cX11_rows 75 = .ok (.iadd, 1) := by decide +kernel
theorem dX11_rows_76 : decode cX11_rows 76 = .ok (.ireturn, 1) := by decide +kernel
theorem dX11_rows_77 : decode cX11_rows 77 = .ok (.iconst 2, 1) := by decide +kernel
theorem dX11_rows_78 : decode cX11_rows 78 = .ok (.iload_n 2, 1) := by decide +kernel
theorem dX11_rows_79 : decode cX11_rows 79 = .ok (.imul, 1) := by decide +kernel
theorem dX11_rows_80 : decode cX11_rows 80 = .ok (.ireturn, 1) := by decide +kernel
theorem dX11_rows_81 : decode cX11_rows 81 = .ok (.iload_n 2, 1) := by decide +kernel
theorem dX11_rows_82 : decode cX11_rows 82 = .ok (.ireturn, 1) := by decide +kernel
theorem dX11_hearing_0 : decode cX11_hearing 0 = .ok (.bipush 12, 2) := by decide +kernel
theorem dX11_hearing_2 : decode cX11_hearing 2 = .ok (.aload_n 0, 1) := by decide +kernel
theorem dX11_hearing_3 : decode cX11_hearing 3 = .ok (.getfield 116, 3) := by decide +kernel
theorem dX11_hearing_6 : decode cX11_hearing 6 = .ok (.isub, 1) := by decide +kernel
theorem dX11_hearing_7 : decode cX11_hearing 7 = .ok (.istore_n 2, 1) := by decide +kernel
theorem dX11_hearing_8 : decode cX11_hearing 8 = .ok (.aload_n 0, 1) := by decide +kernel
theorem dX11_hearing_9 : decode cX11_hearing 9 = .ok (.getfield 7, 3) := by decide +kernel
theorem dX11_hearing_12 : decode cX11_hearing 12 = .ok (.iload_n 1, 1) := by decide +kernel
theorem dX11_hearing_13 : decode cX11_hearing 13 = .ok (.iaload, 1) := by decide +kernel
theorem dX11_hearing_14 : decode cX11_hearing 14 = .ok (.tableswitch 88 1 5 #[34, 43, 51, 60, 70], 34) := by decide +kernel
theorem dX11_hearing_48 : decode cX11_hearing 48 = .ok (.iload_n 2, 1) := by decide +kernel
theorem dX11_hearing_49 : decode cX11_hearing 49 = .ok (.aload_n 0, 1) := by decide +kernel
theorem dX11_hearing_50 : decode cX11_hearing 50 = .ok (.getfield 13, 3) := by decide +kernel
theorem dX11_hearing_53 : decode cX11_hearing 53 = .ok (.iload_n 1, 1) := by decide +kernel
theorem dX11_hearing_54 : decode cX11_hearing 54 = .ok (.iaload, 1) := by decide +kernel
theorem dX11_hearing_55 : decode cX11_hearing 55 = .ok (.iadd, 1) := by decide +kernel
theorem dX11_hearing_56 : decode cX11_hearing 56 = .ok (.ireturn, 1) := by decide +kernel
theorem dX11_hearing_57 : decode cX11_hearing 57 = .ok (.iconst 0, 1) := by decide +kernel
theorem dX11_hearing_58 : decode cX11_hearing 58 = .ok (.iload_n 2, 1) := by decide +kernel
theorem dX11_hearing_59 : decode cX11_hearing 59 = .ok (.iconst 3, 1) := by decide +kernel
theorem dX11_hearing_60 : decode cX11_hearing 60 = .ok (.isub, 1) := by decide +kernel
theorem dX11_hearing_61 : decode cX11_hearing 61 = .ok (.invokestatic 122, 3) := by decide +kernel
theorem dX11_hearing_64 : decode cX11_hearing 64 = .ok (.ireturn, 1) := by decide +kernel
theorem dX11_hearing_65 : decode cX11_hearing 65 = .ok (.iload_n 2, 1) := by decide +kernel
theorem dX11_hearing_66 : decode cX11_hearing 66 = .ok (.aload_n 0, 1) := by decide +kernel
theorem dX11_hearing_67 : decode cX11_hearing 67 = .ok (.getfield 13, 3) := by decide +kernel
theorem dX11_hearing_70 : decode cX11_hearing 70 = .ok (.iload_n 1, 1) := by decide +kernel
theorem dX11_hearing_71 : decode cX11_hearing 71 = .ok (.iaload, 1) := by decide +kernel
theorem dX11_hearing_72 : decode cX11_hearing 72 = .ok (.iadd, 1) := by decide +kernel
theorem dX11_hearing_73 : decode cX11_hearing 73 = .ok (.ireturn, 1) := by decide +kernel
theorem dX11_hearing_74 : decode cX11_hearing 74 = .ok (.iconst 0, 1) := by decide +kernel
theorem dX11_hearing_75 : decode cX11_hearing 75 = .ok (.iload_n 2, 1) := by decide +kernel
theorem dX11_hearing_76 : decode cX11_hearing 76 = .ok (.iconst 3, 1) := by decide +kernel
theorem dX11_hearing_77 : decode cX11_hearing 77 = .ok (.isub, 1) := by decide +kernel
theorem dX11_hearing_78 : decode cX11_hearing 78 = .ok (.iconst 2, 1) := by decide +kernel
theorem dX11_hearing_79 : decode cX11_hearing 79 = .ok (.idiv, 1) := by decide +kernel
theorem dX11_hearing_80 : decode cX11_hearing 80 = .ok (.invokestatic 122, 3) := by decide +kernel
theorem dX11_hearing_83 : decode cX11_hearing 83 = .ok (.ireturn, 1) := by decide +kernel
theorem dX11_hearing_84 : decode cX11_hearing 84 = .ok (.aload_n 0, 1) := by decide +kernel
theorem dX11_hearing_85 : decode cX11_hearing 85 = .ok (.getfield 13, 3) := by decide +kernel
theorem dX11_hearing_88 : decode cX11_hearing 88 = .ok (.iload_n 1, 1) := by decide +kernel
theorem dX11_hearing_89 : decode cX11_hearing 89 = .ok (.iaload, 1) := by decide +kernel
theorem dX11_hearing_90 : decode cX11_hearing 90 = .ok (.iconst 2, 1) := by decide +kernel
theorem dX11_hearing_91 : decode cX11_hearing 91 = .ok (.irem, 1) := by decide +kernel
theorem dX11_hearing_92 : decode cX11_hearing 92 = .ok (.iconst 1, 1) := by decide +kernel
theorem dX11_hearing_93 : decode cX11_hearing 93 = .ok (.if_icmp .ne 7, 3) := by decide +kernel
theorem dX11_hearing_96 : decode cX11_hearing 96 = .ok (.iconst 0, 1) := by decide +kernel
theorem dX11_hearing_97 : decode cX11_hearing 97 = .ok (.goto 4, 3) := by decide +kernel
theorem dX11_hearing_100 : decode cX11_hearing 100 = .ok (.iload_n 2, 1) := by decide +kernel
theorem dX11_hearing_101 : decode cX11_hearing 101 = .ok (.ireturn, 1) := by decide +kernel
theorem dX11_hearing_102 : decode cX11_hearing 102 = .ok (.iload_n 2, 1) := by decide +kernel
theorem dX11_hearing_103 : decode cX11_hearing 103 = .ok (.ireturn, 1) := by decide +kernel
theorem dX11_rules_0 : decode cX11_rules 0 = .ok (.aload_n 0, 1) := by decide +kernel
theorem dX11_rules_1 : decode cX11_rules 1 = .ok (.getfield 43, 3) := by decide +kernel
theorem dX11_rules_4 : decode cX11_rules 4 = .ok (.iconst 0, 1) := by decide +kernel
theorem dX11_rules_5 : decode cX11_rules 5 = .ok (.iload_n 3, 1) := by decide +kernel
theorem dX11_rules_6 : decode cX11_rules 6 = .ok (.iconst 0, 1) := by decide +kernel
theorem dX11_rules_7 : decode cX11_rules 7 = .ok (.invokestatic 126, 3) := by decide +kernel
theorem dX11_rules_10 : decode cX11_rules 10 = .ok (.iastore, 1) := by decide +kernel
theorem dX11_rules_11 : decode cX11_rules 11 = .ok (.aload_n 0, 1) := by decide +kernel
theorem dX11_rules_12 : decode cX11_rules 12 = .ok (.getfield 43, 3) := by decide +kernel
theorem dX11_rules_15 : decode cX11_rules 15 = .ok (.iconst 1, 1) := by decide +kernel
theorem dX11_rules_16 : decode cX11_rules 16 = .ok (.aload_n 0, 1) := by decide +kernel
theorem dX11_rules_17 : decode cX11_rules 17 = .ok (.getfield 116, 3) := by decide +kernel
theorem dX11_rules_20 : decode cX11_rules 20 = .ok (.iastore, 1) := by decide +kernel
theorem dX11_rules_21 : decode cX11_rules 21 = .ok (.aload_n 0, 1) := by decide +kernel
theorem dX11_rules_22 : decode cX11_rules 22 = .ok (.getfield 43, 3) := by decide +kernel
theorem dX11_rules_25 : decode cX11_rules 25 = .ok (.iconst 2, 1) := by decide +kernel
theorem dX11_rules_26 : decode cX11_rules 26 = .ok (.iload 4, 2) := by decide +kernel
theorem dX11_rules_28 : decode cX11_rules 28 = .ok (.aload_n 0, 1) := by decide +kernel
theorem dX11_rules_29 : decode cX11_rules 29 = .ok (.getfield 19, 3) := by decide +kernel
theorem dX11_rules_32 : decode cX11_rules 32 = .ok (.iload_n 2, 1) := by decide +kernel
theorem dX11_rules_33 : decode cX11_rules 33 = .ok (.iaload, 1) := by decide +kernel
theorem dX11_rules_34 : decode cX11_rules 34 = .ok (.isub, 1) := by decide +kernel
theorem dX11_rules_35 : decode cX11_rules 35 = .ok (.aload_n 0, 1) := by decide +kernel
theorem dX11_rules_36 : decode cX11_rules 36 = .ok (.getfield 22, 3) := by decide +kernel
theorem dX11_rules_39 : decode cX11_rules 39 = .ok (.iload_n 2, 1) := by decide +kernel
theorem dX11_rules_40 : decode cX11_rules 40 = .ok (.iaload, 1) := by decide +kernel
theorem dX11_rules_41 : decode cX11_rules 41 = .ok (.isub, 1) := by decide +kernel
theorem dX11_rules_42 : decode cX11_rules 42 = .ok (.iastore, 1) := by decide +kernel
theorem dX11_rules_43 : decode cX11_rules 43 = .ok (.aload_n 0, 1) := by decide +kernel
theorem dX11_rules_44 : decode cX11_rules 44 = .ok (.getfield 43, 3) := by decide +kernel
theorem dX11_rules_47 : decode cX11_rules 47 = .ok (.iconst 3, 1) := by decide +kernel
theorem dX11_rules_48 : decode cX11_rules 48 = .ok (.iload_n 3, 1) := by decide +kernel
theorem dX11_rules_49 : decode cX11_rules 49 = .ok (.bipush 8, 2) := by decide +kernel
theorem dX11_rules_51 : decode cX11_rules 51 = .ok (.idiv, 1) := by decide +kernel
theorem dX11_rules_52 : decode cX11_rules 52 = .ok (.aload_n 0, 1) := by decide +kernel
theorem dX11_rules_53 : decode cX11_rules 53 = .ok (.getfield 70, 3) := by decide +kernel
theorem dX11_rules_56 : decode cX11_rules 56 = .ok (.bipush 8, 2) := by decide +kernel
theorem dX11_rules_58 : decode cX11_rules 58 = .ok (.idiv, 1) := by decide +kernel
theorem dX11_rules_59 : decode cX11_rules 59 = .ok (.if_icmp .ne 21, 3) := by decide +kernel
theorem dX11_rules_62 : decode cX11_rules 62 = .ok (.iload_n 3, 1) := by decide +kernel
theorem dX11_rules_63 : decode cX11_rules 63 = .ok (.bipush 8, 2) := by decide +kernel
theorem dX11_rules_65 : decode cX11_rules 65 = .ok (.irem, 1) := by decide +kernel
theorem dX11_rules_66 : decode cX11_rules 66 = .ok (.aload_n 0, 1) := by decide +kernel
theorem dX11_rules_67 : decode cX11_rules 67 = .ok (.getfield 70, 3) := by decide +kernel
theorem dX11_rules_70 : decode cX11_rules 70 = .ok (.bipush 8, 2) := by decide +kernel
theorem dX11_rules_72 : decode cX11_rules 72 = .ok (.irem, 1) := by decide +kernel
theorem dX11_rules_73 : decode cX11_rules 73 = .ok (.if_icmp .le 7, 3) := by decide +kernel
theorem dX11_rules_76 : decode cX11_rules 76 = .ok (.iconst 1, 1) := by decide +kernel
theorem dX11_rules_77 : decode cX11_rules 77 = .ok (.goto 4, 3) := by decide +kernel
theorem dX11_rules_80 : decode cX11_rules 80 = .ok (.iconst 0, 1) := by decide +kernel
theorem dX11_rules_81 : decode cX11_rules 81 = .ok (.iastore, 1) := by decide +kernel
theorem dX11_rules_82 : decode cX11_rules 82 = .ok (.aload_n 0, 1) := by decide +kernel
theorem dX11_rules_83 : decode cX11_rules 83 = .ok (.getfield 43, 3) := by decide +kernel
theorem dX11_rules_86 : decode cX11_rules 86 = .ok (.iconst 4, 1) := by decide +kernel
theorem dX11_rules_87 : decode cX11_rules 87 = .ok (.iload_n 2, 1) := by decide +kernel
theorem dX11_rules_88 : decode cX11_rules 88 = .ok (.iastore, 1) := by decide +kernel
theorem dX11_rules_89 : decode cX11_rules 89 = .ok (.aload_n 0, 1) := by decide +kernel
theorem dX11_rules_90 : decode cX11_rules 90 = .ok (.getfield 43, 3) := by decide +kernel
theorem dX11_rules_93 : decode cX11_rules 93 = .ok (.iconst 5, 1) := by decide +kernel
theorem dX11_rules_94 : decode cX11_rules 94 = .ok (.iload 4, 2) := by decide +kernel
theorem dX11_rules_96 : decode cX11_rules 96 = .ok (.iastore, 1) := by decide +kernel
theorem dX11_rules_97 : decode cX11_rules 97 = .ok (.aload_n 0, 1) := by decide +kernel
theorem dX11_rules_98 : decode cX11_rules 98 = .ok (.getfield 37, 3) := by decide +kernel
theorem dX11_rules_101 : decode cX11_rules 101 = .ok (.iconst 4, 1) := by decide +kernel
theorem dX11_rules_102 : decode cX11_rules 102 = .ok (.aload_n 0, 1) := by decide +kernel
theorem dX11_rules_103 : decode cX11_rules 103 = .ok (.getfield 129, 3) := by decide +kernel
theorem dX11_rules_106 : decode cX11_rules 106 = .ok (.imul, 1) := by decide +kernel
theorem dX11_rules_107 : decode cX11_rules 107 = .ok (.iload_n 1, 1) := by decide +kernel
theorem dX11_rules_108 : decode cX11_rules 108 = .ok (.iadd, 1) := by decide +kernel
theorem dX11_rules_109 : decode cX11_rules 109 = .ok (.iconst 1, 1) := by decide +kernel
end
section
theorem dX11_rules_110 : decode cX11_rules 110 = .ok (.iadd, 1) := by decide +kernel
theorem dX11_rules_111 : decode cX11_rules 111 = .ok (.iaload, 1) := by decide +kernel
theorem dX11_rules_112 : decode cX11_rules 112 = .ok (.istore 5, 2) := by decide +kernel
theorem dX11_rules_114 : decode cX11_rules 114 = .ok (.iconst 0, 1) := by decide +kernel
theorem dX11_rules_115 : decode cX11_rules 115 = .ok (.istore 6, 2) := by decide +kernel
theorem dX11_rules_117 : decode cX11_rules 117 = .ok (.aload_n 0, 1) := by decide +kernel
theorem dX11_rules_118 : decode cX11_rules 118 = .ok (.getfield 37, 3) := by decide +kernel
theorem dX11_rules_121 : decode cX11_rules 121 = .ok (.iconst 4, 1) := by decide +kernel
theorem dX11_rules_122 : decode cX11_rules 122 = .ok (.aload_n 0, 1) := by decide +kernel
theorem dX11_rules_123 : decode cX11_rules 123 = .ok (.getfield 129, 3) := by decide +kernel
theorem dX11_rules_126 : decode cX11_rules 126 = .ok (.imul, 1) := by decide +kernel
theorem dX11_rules_127 : decode cX11_rules 127 = .ok (.iload_n 1, 1) := by decide +kernel
theorem dX11_rules_128 : decode cX11_rules 128 = .ok (.iadd, 1) := by decide +kernel
theorem dX11_rules_129 : decode cX11_rules 129 = .ok (.iaload, 1) := by decide +kernel
theorem dX11_rules_130 : decode cX11_rules 130 = .ok (.istore 7, 2) := by decide +kernel
theorem dX11_rules_132 : decode cX11_rules 132 = .ok (.iload 7, 2) := by decide +kernel
theorem dX11_rules_134 : decode cX11_rules 134 = .ok (.iload 5, 2) := by decide +kernel
theorem dX11_rules_136 : decode cX11_rules 136 = .ok (.if_icmp .ge 310, 3) := by decide +kernel
theorem dX11_rules_139 : decode cX11_rules 139 = .ok (.aload_n 0, 1) := by decide +kernel
theorem dX11_rules_140 : decode cX11_rules 140 = .ok (.getfield 34, 3) := by decide +kernel
theorem dX11_rules_143 : decode cX11_rules 143 = .ok (.sipush 170, 3) := by decide +kernel
theorem dX11_rules_146 : decode cX11_rules 146 = .ok (.aload_n 0, 1) := by decide +kernel
theorem dX11_rules_147 : decode cX11_rules 147 = .ok (.getfield 129, 3) := by decide +kernel
theorem dX11_rules_150 : decode cX11_rules 150 = .ok (.imul, 1) := by decide +kernel
theorem dX11_rules_151 : decode cX11_rules 151 = .ok (.iload 7, 2) := by decide +kernel
theorem dX11_rules_153 : decode cX11_rules 153 = .ok (.iadd, 1) := by decide +kernel
theorem dX11_rules_154 : decode cX11_rules 154 = .ok (.iaload, 1) := by decide +kernel
theorem dX11_rules_155 : decode cX11_rules 155 = .ok (.istore 8, 2) := by decide +kernel
theorem dX11_rules_157 : decode cX11_rules 157 = .ok (.iload 8, 2) := by decide +kernel
theorem dX11_rules_159 : decode cX11_rules 159 = .ok (.ifCond .lt 18, 3) := by decide +kernel
theorem dX11_rules_162 : decode cX11_rules 162 = .ok (.aload_n 0, 1) := by decide +kernel
theorem dX11_rules_163 : decode cX11_rules 163 = .ok (.getfield 40, 3) := by decide +kernel
theorem dX11_rules_166 : decode cX11_rules 166 = .ok (.iload 6, 2) := by decide +kernel
theorem dX11_rules_168 : decode cX11_rules 168 = .ok (.iinc 6 1, 3) := by decide +kernel
theorem dX11_rules_171 : decode cX11_rules 171 = .ok (.iload 8, 2) := by decide +kernel
theorem dX11_rules_173 : decode cX11_rules 173 = .ok (.iastore, 1) := by decide +kernel
theorem dX11_rules_174 : decode cX11_rules 174 = .ok (.goto 266, 3) := by decide +kernel
theorem dX11_rules_177 : decode cX11_rules 177 = .ok (.iload 8, 2) := by decide +kernel
theorem dX11_rules_179 : decode cX11_rules 179 = .ok (.bipush (-7), 2) := by decide +kernel
theorem dX11_rules_181 : decode cX11_rules 181 = .ok (.if_icmp .le 26, 3) := by decide +kernel
theorem dX11_rules_184 : decode cX11_rules 184 = .ok (.aload_n 0, 1) := by decide +kernel
theorem dX11_rules_185 : decode cX11_rules 185 = .ok (.getfield 40, 3) := by decide +kernel
theorem dX11_rules_188 : decode cX11_rules 188 = .ok (.iload 6, 2) := by decide +kernel
theorem dX11_rules_190 : decode cX11_rules 190 = .ok (.iinc 6 1, 3) := by decide +kernel
theorem dX11_rules_193 : decode cX11_rules 193 = .ok (.aload_n 0, 1) := by decide +kernel
theorem dX11_rules_194 : decode cX11_rules 194 = .ok (.getfield 43, 3) := by decide +kernel
theorem dX11_rules_197 : decode cX11_rules 197 = .ok (.iload 8, 2) := by decide +kernel
theorem dX11_rules_199 : decode cX11_rules 199 = .ok (.ineg, 1) := by decide +kernel
theorem dX11_rules_200 : decode cX11_rules 200 = .ok (.iconst 1, 1) := by decide +kernel
theorem dX11_rules_201 : decode cX11_rules 201 = .ok (.isub, 1) := by decide +kernel
theorem dX11_rules_202 : decode cX11_rules 202 = .ok (.iaload, 1) := by decide +kernel
theorem dX11_rules_203 : decode cX11_rules 203 = .ok (.iastore, 1) := by decide +kernel
theorem dX11_rules_204 : decode cX11_rules 204 = .ok (.goto 236, 3) := by decide +kernel
theorem dX11_rules_207 : decode cX11_rules 207 = .ok (.aload_n 0, 1) := by decide +kernel
theorem dX11_rules_208 : decode cX11_rules 208 = .ok (.getfield 40, 3) := by decide +kernel
theorem dX11_rules_211 : decode cX11_rules 211 = .ok (.iload 6, 2) := by decide +kernel
theorem dX11_rules_213 : decode cX11_rules 213 = .ok (.iconst 1, 1) := by decide +kernel
theorem dX11_rules_214 : decode cX11_rules 214 = .ok (.isub, 1) := by decide +kernel
theorem dX11_rules_215 : decode cX11_rules 215 = .ok (.iaload, 1) := by decide +kernel
theorem dX11_rules_216 : decode cX11_rules 216 = .ok (.istore 9, 2) := by decide +kernel
theorem dX11_rules_218 : decode cX11_rules 218 = .ok (.iload 8, 2) := by decide +kernel
theorem dX11_rules_220 : decode cX11_rules 220 = .ok (.bipush (-13), 2) := by decide +kernel
theorem dX11_rules_222 : decode cX11_rules 222 = .ok (.if_icmp .ne 25, 3) := by decide +kernel
theorem dX11_rules_225 : decode cX11_rules 225 = .ok (.aload_n 0, 1) := by decide +kernel
theorem dX11_rules_226 : decode cX11_rules 226 = .ok (.getfield 40, 3) := by decide +kernel
theorem dX11_rules_229 : decode cX11_rules 229 = .ok (.iload 6, 2) := by decide +kernel
theorem dX11_rules_231 : decode cX11_rules 231 = .ok (.iconst 1, 1) := by decide +kernel
theorem dX11_rules_232 : decode cX11_rules 232 = .ok (.isub, 1) := by decide +kernel
theorem dX11_rules_233 : decode cX11_rules 233 = .ok (.iload 9, 2) := by decide +kernel
theorem dX11_rules_235 : decode cX11_rules 235 = .ok (.ifCond .ne 7, 3) := by decide +kernel
theorem dX11_rules_238 : decode cX11_rules 238 = .ok (.iconst 1, 1) := by decide +kernel
theorem dX11_rules_239 : decode cX11_rules 239 = .ok (.goto 4, 3) := by decide +kernel
theorem dX11_rules_242 : decode cX11_rules 242 = .ok (.iconst 0, 1) := by decide +kernel
theorem dX11_rules_243 : decode cX11_rules 243 = .ok (.iastore, 1) := by decide +kernel
theorem dX11_rules_244 : decode cX11_rules 244 = .ok (.goto 196, 3) := by decide +kernel
theorem dX11_rules_247 : decode cX11_rules 247 = .ok (.iload 8, 2) := by decide +kernel
theorem dX11_rules_249 : decode cX11_rules 249 = .ok (.bipush (-19), 2) := by decide +kernel
theorem dX11_rules_251 : decode cX11_rules 251 = .ok (.if_icmp .ne 18, 3) := by decide +kernel
theorem dX11_rules_254 : decode cX11_rules 254 = .ok (.aload_n 0, 1) := by decide +kernel
theorem dX11_rules_255 : decode cX11_rules 255 = .ok (.getfield 40, 3) := by decide +kernel
theorem dX11_rules_258 : decode cX11_rules 258 = .ok (.iload 6, 2) := by decide +kernel
theorem dX11_rules_260 : decode cX11_rules 260 = .ok (.iconst 1, 1) := by decide +kernel
theorem dX11_rules_261 : decode cX11_rules 261 = .ok (.isub, 1) := by decide +kernel
theorem dX11_rules_262 : decode cX11_rules 262 = .ok (.iload 9, 2) := by decide +kernel
theorem dX11_rules_264 : decode cX11_rules 264 = .ok (.ineg, 1) := by decide +kernel
theorem dX11_rules_265 : decode cX11_rules 265 = .ok (.iastore, 1) := by decide +kernel
theorem dX11_rules_266 : decode cX11_rules 266 = .ok (.goto 174, 3) := by decide +kernel
theorem dX11_rules_269 : decode cX11_rules 269 = .ok (.aload_n 0, 1) := by decide +kernel
theorem dX11_rules_270 : decode cX11_rules 270 = .ok (.getfield 40, 3) := by decide +kernel
theorem dX11_rules_273 : decode cX11_rules 273 = .ok (.iload 6, 2) := by decide +kernel
theorem dX11_rules_275 : decode cX11_rules 275 = .ok (.iconst 2, 1) := by decide +kernel
theorem dX11_rules_276 : decode cX11_rules 276 = .ok (.isub, 1) := by decide +kernel
theorem dX11_rules_277 : decode cX11_rules 277 = .ok (.iaload, 1) := by decide +kernel
theorem dX11_rules_278 : decode cX11_rules 278 = .ok (.istore 10, 2) := by decide +kernel
theorem dX11_rules_280 : decode cX11_rules 280 = .ok (.iinc 6 (-1), 3) := by decide +kernel
theorem dX11_rules_283 : decode cX11_rules 283 = .ok (.iload 8, 2) := by decide +kernel
theorem dX11_rules_285 : decode cX11_rules 285 = .ok (.tableswitch 137 (-17) (-11) #[127, 117, 100, 83, 137, 63, 43], 43) := by decide +kernel
theorem dX11_rules_328 : decode cX11_rules 328 = .ok (.iload 10, 2) := by decide +kernel
theorem dX11_rules_330 : decode cX11_rules 330 = .ok (.ifCond .ne 8, 3) := by decide +kernel
theorem dX11_rules_333 : decode cX11_rules 333 = .ok (.iload 9, 2) := by decide +kernel
theorem dX11_rules_335 : decode cX11_rules 335 = .ok (.ifCond .eq 7, 3) := by decide +kernel
theorem dX11_rules_338 : decode cX11_rules 338 = .ok (.iconst 1, 1) := by decide +kernel
theorem dX11_rules_339 : decode cX11_rules 339 = .ok (.goto 4, 3) := by decide +kernel
theorem dX11_rules_342 : decode cX11_rules 342 = .ok (.iconst 0, 1) := by decide +kernel
theorem dX11_rules_343 : decode cX11_rules 343 = .ok (.istore 11, 2) := by decide +kernel
theorem dX11_rules_345 : decode cX11_rules 345 = .ok (.goto 84, 3) := by decide +kernel
theorem dX11_rules_348 : decode cX11_rules 348 = .ok (.iload 10, 2) := by decide +kernel
theorem dX11_rules_350 : decode cX11_rules 350 = .ok (.ifCond .eq 12, 3) := by decide +kernel
theorem dX11_rules_353 : decode cX11_rules 353 = .ok (.iload 9, 2) := by decide +kernel
theorem dX11_rules_355 : decode cX11_rules 355 = .ok (.ifCond .eq 7, 3) := by decide +kernel
theorem dX11_rules_358 : decode cX11_rules 358 = .ok (.iconst 1, 1) := by decide +kernel
theorem dX11_rules_359 : decode cX11_rules 359 = .ok (.goto 4, 3) := by decide +kernel
theorem dX11_rules_362 : decode cX11_rules 362 = .ok (.iconst 0, 1) := by decide +kernel
theorem dX11_rules_363 : decode cX11_rules 363 = .ok (.istore 11, 2) := by decide +kernel
theorem dX11_rules_365 : decode cX11_rules 365 = .ok (.goto 64, 3) := by decide +kernel
theorem dX11_rules_368 : decode cX11_rules 368 = .ok (.iload 10, 2) := by decide +kernel
theorem dX11_rules_370 : decode cX11_rules 370 = .ok (.iload 9, 2) := by decide +kernel
theorem dX11_rules_372 : decode cX11_rules 372 = .ok (.if_icmp .ge 7, 3) := by decide +kernel
theorem dX11_rules_375 : decode cX11_rules 375 = .ok (.iconst 1, 1) := by decide +kernel
theorem dX11_rules_376 : decode cX11_rules 376 = .ok (.goto 4, 3) := by decide +kernel
theorem dX11_rules_379 : decode cX11_rules 379 = .ok (.iconst 0, 1) := by decide +kernel
theorem dX11_rules_380 : decode cX11_rules 380 = .ok (.istore 11, 2) := by decide +kernel
theorem dX11_rules_382 : decode cX11_rules 382 = .ok (.goto 47, 3) := by decide +kernel
theorem dX11_rules_385 : decode cX11_rules 385 = .ok (.iload 10, 2) := by decide +kernel
theorem dX11_rules_387 : decode cX11_rules 387 = .ok (.iload 9, 2) := by decide +kernel
theorem dX11_rules_389 : decode cX11_rules 389 = .ok (.if_icmp .ne 7, 3) := by decide +kernel
theorem dX11_rules_392 : decode cX11_rules 392 = .ok (.iconst 1, 1) := by decide +kernel
theorem dX11_rules_393 : decode cX11_rules 393 = .ok (.goto 4, 3) := by decide +kernel
theorem dX11_rules_396 : decode cX11_rules 396 = .ok (.iconst 0, 1) := by decide +kernel
theorem dX11_rules_397 : decode cX11_rules 397 = .ok (.istore 11, 2) := by decide +kernel
theorem dX11_rules_399 : decode cX11_rules 399 = .ok (.goto 30, 3) := by decide +kernel
theorem dX11_rules_402 : decode cX11_rules 402 = .ok (.iload 10, 2) := by decide +kernel
theorem dX11_rules_404 : decode cX11_rules 404 = .ok (.iload 9, 2) := by decide +kernel
theorem dX11_rules_406 : decode cX11_rules 406 = .ok (.iadd, 1) := by decide +kernel
theorem dX11_rules_407 : decode cX11_rules 407 = .ok (.istore 11, 2) := by decide +kernel
theorem dX11_rules_409 : decode cX11_rules 409 = .ok (.goto 20, 3) := by decide +kernel
theorem dX11_rules_412 : decode cX11_rules 412 = .ok (.iload 10, 2) := by decide +kernel
theorem dX11_rules_414 : decode cX11_rules 414 = .ok (.iload 9, 2) := by decide +kernel
theorem dX11_rules_416 : decode cX11_rules 416 = .ok (.isub, 1) := by decide +kernel
theorem dX11_rules_417 : decode cX11_rules 417 = .ok (.istore 11, 2) := by decide +kernel
theorem dX11_rules_419 : decode cX11_rules 419 = .ok (.goto 10, 3) := by decide +kernel
theorem dX11_rules_422 : decode cX11_rules 422 = .ok (.iload 10, 2) := by decide +kernel
theorem dX11_rules_424 : decode cX11_rules 424 = .ok (.iload 9, 2) := by decide +kernel
theorem dX11_rules_426 : decode cX11_rules 426 = .ok (.imul, 1) := by decide +kernel
theorem dX11_rules_427 : decode cX11_rules 427 = .ok (.istore 11, 2) := by decide +kernel
theorem dX11_rules_429 : decode cX11_rules 429 = .ok (.aload_n 0, 1) := by decide +kernel
theorem dX11_rules_430 : decode cX11_rules 430 = .ok (.getfield 40, 3) := by decide +kernel
theorem dX11_rules_433 : decode cX11_rules 433 = .ok (.iload 6, 2) := by decide +kernel
theorem dX11_rules_435 : decode cX11_rules 435 = .ok (.iconst 1, 1) := by decide +kernel
theorem dX11_rules_436 : decode cX11_rules 436 = .ok (.isub, 1) := by decide +kernel
theorem dX11_rules_437 : decode cX11_rules 437 = .ok (.iload 11, 2) := by decide +kernel
theorem dX11_rules_439 : decode cX11_rules 439 = .ok (.iastore, 1) := by decide +kernel
theorem dX11_rules_440 : decode cX11_rules 440 = .ok (.iinc 7 1, 3) := by decide +kernel
theorem dX11_rules_443 : decode cX11_rules 443 = .ok (.goto (-311), 3) := by decide +kernel
theorem dX11_rules_446 : decode cX11_rules 446 = .ok (.aload_n 0, 1) := by decide +kernel
theorem dX11_rules_447 : decode cX11_rules 447 = .ok (.getfield 40, 3) := by decide +kernel
theorem dX11_rules_450 : decode cX11_rules 450 = .ok (.iconst 0, 1) := by decide +kernel
theorem dX11_rules_451 : decode cX11_rules 451 = .ok (.iaload, 1) := by decide +kernel
theorem dX11_rules_452 : decode cX11_rules 452 = .ok (.ireturn, 1) := by decide +kernel
theorem dX11_owes_0 : decode cX11_owes 0 = .ok (.iconst 0, 1) := by decide +kernel
theorem dX11_owes_1 : decode cX11_owes 1 = .ok (.bipush 99, 2) := by decide +kernel
theorem dX11_owes_3 : decode cX11_owes 3 = .ok (.aload_n 0, 1) := by decide +kernel
theorem dX11_owes_4 : decode cX11_owes 4 = .ok (.iconst 0, 1) := by decide +kernel
theorem dX11_owes_5 : decode cX11_owes 5 = .ok (.iload_n 1, 1) := by decide +kernel
theorem dX11_owes_6 : decode cX11_owes 6 = .ok (.aload_n 0, 1) := by decide +kernel
theorem dX11_owes_7 : decode cX11_owes 7 = .ok (.getfield 16, 3) := by decide +kernel
theorem dX11_owes_10 : decode cX11_owes 10 = .ok (.iload_n 1, 1) := by decide +kernel
theorem dX11_owes_11 : decode cX11_owes 11 = .ok (.iaload, 1) := by decide +kernel
theorem dX11_owes_12 : decode cX11_owes 12 = .ok (.iload_n 2, 1) := by decide +kernel
theorem dX11_owes_13 : decode cX11_owes 13 = .ok (.invokevirtual 132, 3) := by decide +kernel
theorem dX11_owes_16 : decode cX11_owes 16 = .ok (.invokestatic 136, 3) := by decide +kernel
theorem dX11_owes_19 : decode cX11_owes 19 = .ok (.invokestatic 122, 3) := by decide +kernel
theorem dX11_owes_22 : decode cX11_owes 22 = .ok (.istore_n 3, 1) := by decide +kernel
theorem dX11_owes_23 : decode cX11_owes 23 = .ok (.iconst 0, 1) := by decide +kernel
theorem dX11_owes_24 : decode cX11_owes 24 = .ok (.iload_n 2, 1) := by decide +kernel
theorem dX11_owes_25 : decode cX11_owes 25 = .ok (.aload_n 0, 1) := by decide +kernel
theorem dX11_owes_26 : decode cX11_owes 26 = .ok (.getfield 19, 3) := by decide +kernel
theorem dX11_owes_29 : decode cX11_owes 29 = .ok (.iload_n 1, 1) := by decide +kernel
theorem dX11_owes_30 : decode cX11_owes 30 = .ok (.iaload, 1) := by decide +kernel
theorem dX11_owes_31 : decode cX11_owes 31 = .ok (.isub, 1) := by decide +kernel
theorem dX11_owes_32 : decode cX11_owes 32 = .ok (.aload_n 0, 1) := by decide +kernel
theorem dX11_owes_33 : decode cX11_owes 33 = .ok (.getfield 22, 3) := by decide +kernel
theorem dX11_owes_36 : decode cX11_owes 36 = .ok (.iload_n 1, 1) := by decide +kernel
theorem dX11_owes_37 : decode cX11_owes 37 = .ok (.iaload, 1) := by decide +kernel
theorem dX11_owes_38 : decode cX11_owes 38 = .ok (.isub, 1) := by decide +kernel
theorem dX11_owes_39 : decode cX11_owes 39 = .ok (.invokestatic 122, 3) := by decide +kernel
theorem dX11_owes_42 : decode cX11_owes 42 = .ok (.istore 4, 2) := by decide +kernel
theorem dX11_owes_44 : decode cX11_owes 44 = .ok (.iload 4, 2) := by decide +kernel
theorem dX11_owes_46 : decode cX11_owes 46 = .ok (.bipush 14, 2) := by decide +kernel
theorem dX11_owes_48 : decode cX11_owes 48 = .ok (.iadd, 1) := by decide +kernel
theorem dX11_owes_49 : decode cX11_owes 49 = .ok (.bipush 15, 2) := by decide +kernel
theorem dX11_owes_51 : decode cX11_owes 51 = .ok (.idiv, 1) := by decide +kernel
theorem dX11_owes_52 : decode cX11_owes 52 = .ok (.iload_n 3, 1) := by decide +kernel
theorem dX11_owes_53 : decode cX11_owes 53 = .ok (.imul, 1) := by decide +kernel
theorem dX11_owes_54 : decode cX11_owes 54 = .ok (.istore 5, 2) := by decide +kernel
theorem dX11_owes_56 : decode cX11_owes 56 = .ok (.aload_n 0, 1) := by decide +kernel
theorem dX11_owes_57 : decode cX11_owes 57 = .ok (.getfield 7, 3) := by decide +kernel
theorem dX11_owes_60 : decode cX11_owes 60 = .ok (.iload_n 1, 1) := by decide +kernel
theorem dX11_owes_61 : decode cX11_owes 61 = .ok (.iaload, 1) := by decide +kernel
theorem dX11_owes_62 : decode cX11_owes 62 = .ok (.tableswitch 63 2 5 #[30, 35, 37, 44], 30) := by decide +kernel
theorem dX11_owes_92 : decode cX11_owes 92 = .ok (.iload 5, 2) := by decide +kernel
theorem dX11_owes_94 : decode cX11_owes 94 = .ok (.iconst 2, 1) := by decide +kernel
theorem dX11_owes_95 : decode cX11_owes 95 = .ok (.idiv, 1) := by decide +kernel
theorem dX11_owes_96 : decode cX11_owes 96 = .ok (.ireturn, 1) := by decide +kernel
theorem dX11_owes_97 : decode cX11_owes 97 = .ok (.iconst 0, 1) := by decide +kernel
theorem dX11_owes_98 : decode cX11_owes 98 = .ok (.ireturn, 1) := by decide +kernel
theorem dX11_owes_99 : decode cX11_owes 99 = .ok (.iload 5, 2) := by decide +kernel
theorem dX11_owes_101 : decode cX11_owes 101 = .ok (.iconst 2, 1) := by decide +kernel
theorem dX11_owes_102 : decode cX11_owes 102 = .ok (.idiv, 1) := by decide +kernel
theorem dX11_owes_103 : decode cX11_owes 103 = .ok (.iconst 2, 1) := by decide +kernel
theorem dX11_owes_104 : decode cX11_owes 104 = .ok (.iadd, 1) := by decide +kernel
theorem dX11_owes_105 : decode cX11_owes 105 = .ok (.ireturn, 1) := by decide +kernel
theorem dX11_owes_106 : decode cX11_owes 106 = .ok (.iload 5, 2) := by decide +kernel
theorem dX11_owes_108 : decode cX11_owes 108 = .ok (.ifCond .le 15, 3) := by decide +kernel
theorem dX11_owes_111 : decode cX11_owes 111 = .ok (.iload 5, 2) := by decide +kernel
theorem dX11_owes_113 : decode cX11_owes 113 = .ok (.aload_n 0, 1) := by decide +kernel
theorem dX11_owes_114 : decode cX11_owes 114 = .ok (.getfield 13, 3) := by decide +kernel
theorem dX11_owes_117 : decode cX11_owes 117 = .ok (.iload_n 1, 1) := by decide +kernel
theorem dX11_owes_118 : decode cX11_owes 118 = .ok (.iaload, 1) := by decide +kernel
theorem dX11_owes_119 : decode cX11_owes 119 = .ok (.iadd, 1) := by decide +kernel
theorem dX11_owes_120 : decode cX11_owes 120 = .ok (.goto 4, 3) := by decide +kernel
theorem dX11_owes_123 : decode cX11_owes 123 = .ok (.iconst 0, 1) := by decide +kernel
theorem dX11_owes_124 : decode cX11_owes 124 = .ok (.ireturn, 1) := by decide +kernel
theorem dX11_owes_125 : decode cX11_owes 125 = .ok (.iload 5, 2) := by decide +kernel
theorem dX11_owes_127 : decode cX11_owes 127 = .ok (.ireturn, 1) := by decide +kernel
theorem dX11_would_0 : decode cX11_would 0 = .ok (.iload_n 2, 1) := by decide +kernel
theorem dX11_would_1 : decode cX11_would 1 = .ok (.iconst 0, 1) := by decide +kernel
theorem dX11_would_2 : decode cX11_would 2 = .ok (.invokestatic 126, 3) := by decide +kernel
theorem dX11_would_5 : decode cX11_would 5 = .ok (.aload_n 0, 1) := by decide +kernel
theorem dX11_would_6 : decode cX11_would 6 = .ok (.iload_n 1, 1) := by decide +kernel
theorem dX11_would_7 : decode cX11_would 7 = .ok (.invokevirtual 139, 3) := by decide +kernel
theorem dX11_would_10 : decode cX11_would 10 = .ok (.if_icmp .gt 29, 3) := by decide +kernel
theorem dX11_would_13 : decode cX11_would 13 = .ok (.aload_n 0, 1) := by decide +kernel
theorem dX11_would_14 : decode cX11_would 14 = .ok (.iconst 1, 1) := by decide +kernel
theorem dX11_would_15 : decode cX11_would 15 = .ok (.iload_n 1, 1) := by decide +kernel
theorem dX11_would_16 : decode cX11_would 16 = .ok (.iload_n 2, 1) := by decide +kernel
theorem dX11_would_17 : decode cX11_would 17 = .ok (.iload_n 3, 1) := by decide +kernel
theorem dX11_would_18 : decode cX11_would 18 = .ok (.invokevirtual 132, 3) := by decide +kernel
theorem dX11_would_21 : decode cX11_would 21 = .ok (.ifCond .eq 18, 3) := by decide +kernel
theorem dX11_would_24 : decode cX11_would 24 = .ok (.aload_n 0, 1) := by decide +kernel
theorem dX11_would_25 : decode cX11_would 25 = .ok (.iconst 2, 1) := by decide +kernel
theorem dX11_would_26 : decode cX11_would 26 = .ok (.iload_n 1, 1) := by decide +kernel
theorem dX11_would_27 : decode cX11_would 27 = .ok (.iload_n 2, 1) := by decide +kernel
theorem dX11_would_28 : decode cX11_would 28 = .ok (.iload_n 3, 1) := by decide +kernel
theorem dX11_would_29 : decode cX11_would 29 = .ok (.invokevirtual 132, 3) := by decide +kernel
theorem dX11_would_32 : decode cX11_would 32 = .ok (.ifCond .eq 7, 3) := by decide +kernel
theorem dX11_would_35 : decode cX11_would 35 = .ok (.iconst 1, 1) := by decide +kernel
theorem dX11_would_36 : decode cX11_would 36 = .ok (.goto 4, 3) := by decide +kernel
theorem dX11_would_39 : decode cX11_would 39 = .ok (.iconst 0, 1) := by decide +kernel
theorem dX11_would_40 : decode cX11_would 40 = .ok (.ireturn, 1) := by decide +kernel
theorem dX11_would__0 : decode cX11_would_ 0 = .ok (.aload_n 0, 1) := by decide +kernel
theorem dX11_would__1 : decode cX11_would_ 1 = .ok (.iload_n 1, 1) := by decide +kernel
theorem dX11_would__2 : decode cX11_would_ 2 = .ok (.aload_n 0, 1) := by decide +kernel
theorem dX11_would__3 : decode cX11_would_ 3 = .ok (.getfield 16, 3) := by decide +kernel
theorem dX11_would__6 : decode cX11_would_ 6 = .ok (.iload_n 1, 1) := by decide +kernel
theorem dX11_would__7 : decode cX11_would_ 7 = .ok (.iaload, 1) := by decide +kernel
theorem dX11_would__8 : decode cX11_would_ 8 = .ok (.aload_n 0, 1) := by decide +kernel
theorem dX11_would__9 : decode cX11_would_ 9 = .ok (.getfield 142, 3) := by decide +kernel
theorem dX11_would__12 : decode cX11_would_ 12 = .ok (.invokevirtual 145, 3) := by decide +kernel
theorem dX11_would__15 : decode cX11_would_ 15 = .ok (.ireturn, 1) := by decide +kernel
theorem dX11_needs_0 : decode cX11_needs 0 = .ok (.aload_n 0, 1) := by decide +kernel
theorem dX11_needs_1 : decode cX11_needs 1 = .ok (.getfield 16, 3) := by decide +kernel
theorem dX11_needs_4 : decode cX11_needs 4 = .ok (.iload_n 1, 1) := by decide +kernel
theorem dX11_needs_5 : decode cX11_needs 5 = .ok (.iaload, 1) := by decide +kernel
theorem dX11_needs_6 : decode cX11_needs 6 = .ok (.iconst 0, 1) := by decide +kernel
theorem dX11_needs_7 : decode cX11_needs 7 = .ok (.invokestatic 126, 3) := by decide +kernel
theorem dX11_needs_10 : decode cX11_needs 10 = .ok (.aload_n 0, 1) := by decide +kernel
theorem dX11_needs_11 : decode cX11_needs 11 = .ok (.iload_n 1, 1) := by decide +kernel
theorem dX11_needs_12 : decode cX11_needs 12 = .ok (.invokevirtual 148, 3) := by decide +kernel
theorem dX11_needs_15 : decode cX11_needs 15 = .ok (.imul, 1) := by decide +kernel
theorem dX11_needs_16 : decode cX11_needs 16 = .ok (.ireturn, 1) := by decide +kernel
theorem dX11_told_0 : decode cX11_told 0 = .ok (.aload_n 0, 1) := by decide +kernel
theorem dX11_told_1 : decode cX11_told 1 = .ok (.iload_n 1, 1) := by decide +kernel
theorem dX11_told_2 : decode cX11_told 2 = .ok (.invokevirtual 112, 3) := by decide +kernel
theorem dX11_told_5 : decode cX11_told 5 = .ok (.ifCond .eq 13, 3) := by decide +kernel
theorem dX11_told_8 : decode cX11_told 8 = .ok (.iload_n 2, 1) := by decide +kernel
theorem dX11_told_9 : decode cX11_told 9 = .ok (.iconst 0, 1) := by decide +kernel
theorem dX11_told_10 : decode cX11_told 10 = .ok (.bipush 10, 2) := by decide +kernel
theorem dX11_told_12 : decode cX11_told 12 = .ok (.invokestatic 102, 3) := by decide +kernel
theorem dX11_told_15 : decode cX11_told 15 = .ok (.ifCond .ne 6, 3) := by decide +kernel
theorem dX11_told_18 : decode cX11_told 18 = .ok (.bipush (-2), 2) := by decide +kernel
theorem dX11_told_20 : decode cX11_told 20 = .ok (.ireturn, 1) := by decide +kernel
theorem dX11_told_21 : decode cX11_told 21 = .ok (.iload_n 2, 1) := by decide +kernel
theorem dX11_told_22 : decode cX11_told 22 = .ok (.tableswitch 129 0 9 #[54, 61, 68, 75, 82, 89, 96, 103, 109, 115], 54) := by decide +kernel
theorem dX11_told_76 : decode cX11_told 76 = .ok (.aload_n 0, 1) := by decide +kernel
theorem dX11_told_77 : decode cX11_told 77 = .ok (.getfield 16, 3) := by decide +kernel
theorem dX11_told_80 : decode cX11_told 80 = .ok (.iload_n 1, 1) := by decide +kernel
theorem dX11_told_81 : decode cX11_told 81 = .ok (.iaload, 1) := by decide +kernel
theorem dX11_told_82 : decode cX11_told 82 = .ok (.ireturn, 1) := by decide +kernel
theorem dX11_told_83 : decode cX11_told 83 = .ok (.aload_n 0, 1) := by decide +kernel
theorem dX11_told_84 : decode cX11_told 84 = .ok (.getfield 19, 3) := by decide +kernel
theorem dX11_told_87 : decode cX11_told 87 = .ok (.iload_n 1, 1) := by decide +kernel
theorem dX11_told_88 : decode cX11_told 88 = .ok (.iaload, 1) := by decide +kernel
theorem dX11_told_89 : decode cX11_told 89 = .ok (.ireturn, 1) := by decide +kernel
theorem dX11_told_90 : decode cX11_told 90 = .ok (.aload_n 0, 1) := by decide +kernel
theorem dX11_told_91 : decode cX11_told 91 = .ok (.getfield 22, 3) := by decide +kernel
theorem dX11_told_94 : decode cX11_told 94 = .ok (.iload_n 1, 1) := by decide +kernel
theorem dX11_told_95 : decode cX11_told 95 = .ok (.iaload, 1) := by decide +kernel
theorem dX11_told_96 : decode cX11_told 96 = .ok (.ireturn, 1) := by decide +kernel
theorem dX11_told_97 : decode cX11_told 97 = .ok (.aload_n 0, 1) := by decide +kernel
theorem dX11_told_98 : decode cX11_told 98 = .ok (.getfield 13, 3) := by decide +kernel
theorem dX11_told_101 : decode cX11_told 101 = .ok (.iload_n 1, 1) := by decide +kernel
theorem dX11_told_102 : decode cX11_told 102 = .ok (.iaload, 1) := by decide +kernel
theorem dX11_told_103 : decode cX11_told 103 = .ok (.ireturn, 1) := by decide +kernel
theorem dX11_told_104 : decode cX11_told 104 = .ok (.aload_n 0, 1) := by decide +kernel
theorem dX11_told_105 : decode cX11_told 105 = .ok (.getfield 7, 3) := by decide +kernel
theorem dX11_told_108 : decode cX11_told 108 = .ok (.iload_n 1, 1) := by decide +kernel
theorem dX11_told_109 : decode cX11_told 109 = .ok (.iaload, 1) := by decide +kernel
theorem dX11_told_110 : decode cX11_told 110 = .ok (.ireturn, 1) := by decide +kernel
theorem dX11_told_111 : decode cX11_told 111 = .ok (.aload_n 0, 1) := by decide +kernel
theorem dX11_told_112 : decode cX11_told 112 = .ok (.getfield 25, 3) := by decide +kernel
theorem dX11_told_115 : decode cX11_told 115 = .ok (.iload_n 1, 1) := by decide +kernel
theorem dX11_told_116 : decode cX11_told 116 = .ok (.iaload, 1) := by decide +kernel
theorem dX11_told_117 : decode cX11_told 117 = .ok (.ireturn, 1) := by decide +kernel
theorem dX11_told_118 : decode cX11_told 118 = .ok (.aload_n 0, 1) := by decide +kernel
theorem dX11_told_119 : decode cX11_told 119 = .ok (.getfield 28, 3) := by decide +kernel
theorem dX11_told_122 : decode cX11_told 122 = .ok (.iload_n 1, 1) := by decide +kernel
theorem dX11_told_123 : decode cX11_told 123 = .ok (.iaload, 1) := by decide +kernel
theorem dX11_told_124 : decode cX11_told 124 = .ok (.ireturn, 1) := by decide +kernel
theorem dX11_told_125 : decode cX11_told 125 = .ok (.aload_n 0, 1) := by decide +kernel
theorem dX11_told_126 : decode cX11_told 126 = .ok (.iload_n 1, 1) := by decide +kernel
theorem dX11_told_127 : decode cX11_told 127 = .ok (.invokevirtual 148, 3) := by decide +kernel
theorem dX11_told_130 : decode cX11_told 130 = .ok (.ireturn, 1) := by decide +kernel
theorem dX11_told_131 : decode cX11_told 131 = .ok (.aload_n 0, 1) := by decide +kernel
theorem dX11_told_132 : decode cX11_told 132 = .ok (.iload_n 1, 1) := by decide +kernel
theorem dX11_told_133 : decode cX11_told 133 = .ok (.invokevirtual 139, 3) := by decide +kernel
theorem dX11_told_136 : decode cX11_told 136 = .ok (.ireturn, 1) := by decide +kernel
theorem dX11_told_137 : decode cX11_told 137 = .ok (.aload_n 0, 1) := by decide +kernel
theorem dX11_told_138 : decode cX11_told 138 = .ok (.iload_n 1, 1) := by decide +kernel
theorem dX11_told_139 : decode cX11_told 139 = .ok (.invokevirtual 151, 3) := by decide +kernel
theorem dX11_told_142 : decode cX11_told 142 = .ok (.ifCond .eq 7, 3) := by decide +kernel
theorem dX11_told_145 : decode cX11_told 145 = .ok (.iconst 1, 1) := by decide +kernel
theorem dX11_told_146 : decode cX11_told 146 = .ok (.goto 4, 3) := by decide +kernel
theorem dX11_told_149 : decode cX11_told 149 = .ok (.iconst 0, 1) := by decide +kernel
theorem dX11_told_150 : decode cX11_told 150 = .ok (.ireturn, 1) := by decide +kernel
theorem dX11_told_151 : decode cX11_told 151 = .ok (.aload_n 0, 1) := by decide +kernel
theorem dX11_told_152 : decode cX11_told 152 = .ok (.iload_n 1, 1) := by decide +kernel
theorem dX11_told_153 : decode cX11_told 153 = .ok (.aload_n 0, 1) := by decide +kernel
theorem dX11_told_154 : decode cX11_told 154 = .ok (.getfield 142, 3) := by decide +kernel
theorem dX11_told_157 : decode cX11_told 157 = .ok (.invokevirtual 153, 3) := by decide +kernel
theorem dX11_told_160 : decode cX11_told 160 = .ok (.ireturn, 1) := by decide +kernel
theorem dX11_feed_0 : decode cX11_feed 0 = .ok (.iload_n 1, 1) := by decide +kernel
theorem dX11_feed_1 : decode cX11_feed 1 = .ok (.iconst 0, 1) := by decide +kernel
theorem dX11_feed_2 : decode cX11_feed 2 = .ok (.sipush 255, 3) := by decide +kernel
theorem dX11_feed_5 : decode cX11_feed 5 = .ok (.invokestatic 102, 3) := by decide +kernel
theorem dX11_feed_8 : decode cX11_feed 8 = .ok (.ifCond .ne 6, 3) := by decide +kernel
theorem dX11_feed_11 : decode cX11_feed 11 = .ok (.bipush (-2), 2) := by decide +kernel
theorem dX11_feed_13 : decode cX11_feed 13 = .ok (.ireturn, 1) := by decide +kernel
theorem dX11_feed_14 : decode cX11_feed 14 = .ok (.aload_n 0, 1) := by decide +kernel
theorem dX11_feed_15 : decode cX11_feed 15 = .ok (.getfield 156, 3) := by decide +kernel
theorem dX11_feed_18 : decode cX11_feed 18 = .ok (.sipush 160, 3) := by decide +kernel
theorem dX11_feed_21 : decode cX11_feed 21 = .ok (.if_icmp .ne 6, 3) := by decide +kernel
theorem dX11_feed_24 : decode cX11_feed 24 = .ok (.bipush (-4), 2) := by decide +kernel
theorem dX11_feed_26 : decode cX11_feed 26 = .ok (.ireturn, 1) := by decide +kernel
theorem dX11_feed_27 : decode cX11_feed 27 = .ok (.aload_n 0, 1) := by decide +kernel
theorem dX11_feed_28 : decode cX11_feed 28 = .ok (.getfield 31, 3) := by decide +kernel
theorem dX11_feed_31 : decode cX11_feed 31 = .ok (.aload_n 0, 1) := by decide +kernel
theorem dX11_feed_32 : decode cX11_feed 32 = .ok (.dup, 1) := by decide +kernel
theorem dX11_feed_33 : decode cX11_feed 33 = .ok (.getfield 156, 3) := by decide +kernel
theorem dX11_feed_36 : decode cX11_feed 36 = .ok (.dup_x1, 1) := by decide +kernel
theorem dX11_feed_37 : decode cX11_feed 37 = .ok (.iconst 1, 1) := by decide +kernel
theorem dX11_feed_38 : decode cX11_feed 38 = .ok (.iadd, 1) := by decide +kernel
theorem dX11_feed_39 : decode cX11_feed 39 = .ok (.putfield 156, 3) := by decide +kernel
theorem dX11_feed_42 : decode cX11_feed 42 = .ok (.iload_n 1, 1) := by decide +kernel
theorem dX11_feed_43 : decode cX11_feed 43 = .ok (.iastore, 1) := by decide +kernel
theorem dX11_feed_44 : decode cX11_feed 44 = .ok (.aload_n 0, 1) := by decide +kernel
theorem dX11_feed_45 : decode cX11_feed 45 = .ok (.getfield 156, 3) := by decide +kernel
theorem dX11_feed_48 : decode cX11_feed 48 = .ok (.ireturn, 1) := by decide +kernel
theorem dX11_next_0 : decode cX11_next 0 = .ok (.aload_n 0, 1) := by decide +kernel
theorem dX11_next_1 : decode cX11_next 1 = .ok (.getfield 159, 3) := by decide +kernel
theorem dX11_next_4 : decode cX11_next 4 = .ok (.aload_n 0, 1) := by decide +kernel
theorem dX11_next_5 : decode cX11_next 5 = .ok (.getfield 156, 3) := by decide +kernel
theorem dX11_next_8 : decode cX11_next 8 = .ok (.if_icmp .ge 44, 3) := by decide +kernel
theorem dX11_next_11 : decode cX11_next 11 = .ok (.aload_n 0, 1) := by decide +kernel
theorem dX11_next_12 : decode cX11_next 12 = .ok (.getfield 31, 3) := by decide +kernel
theorem dX11_next_15 : decode cX11_next 15 = .ok (.aload_n 0, 1) := by decide +kernel
theorem dX11_next_16 : decode cX11_next 16 = .ok (.getfield 159, 3) := by decide +kernel
theorem dX11_next_19 : decode cX11_next 19 = .ok (.iaload, 1) := by decide +kernel
theorem dX11_next_20 : decode cX11_next 20 = .ok (.bipush 32, 2) := by decide +kernel
theorem dX11_next_22 : decode cX11_next 22 = .ok (.if_icmp .eq 17, 3) := by decide +kernel
theorem dX11_next_25 : decode cX11_next 25 = .ok (.aload_n 0, 1) := by decide +kernel
theorem dX11_next_26 : decode cX11_next 26 = .ok (.getfield 31, 3) := by decide +kernel
theorem dX11_next_29 : decode cX11_next 29 = .ok (.aload_n 0, 1) := by decide +kernel
theorem dX11_next_30 : decode cX11_next 30 = .ok (.getfield 159, 3) := by decide +kernel
theorem dX11_next_33 : decode cX11_next 33 = .ok (.iaload, 1) := by decide +kernel
theorem dX11_next_34 : decode cX11_next 34 = .ok (.bipush 10, 2) := by decide +kernel
theorem dX11_next_36 : decode cX11_next 36 = .ok (.if_icmp .ne 16, 3) := by decide +kernel
theorem dX11_next_39 : decode cX11_next 39 = .ok (.aload_n 0, 1) := by decide +kernel
theorem dX11_next_40 : decode cX11_next 40 = .ok (.dup, 1) := by decide +kernel
theorem dX11_next_41 : decode cX11_next 41 = .ok (.getfield 159, 3) := by decide +kernel
theorem dX11_next_44 : decode cX11_next 44 = .ok (.iconst 1, 1) := by decide +kernel
theorem dX11_next_45 : decode cX11_next 45 = .ok (.iadd, 1) := by decide +kernel
theorem dX11_next_46 : decode cX11_next 46 = .ok (.putfield 159, 3) := by decide +kernel
theorem dX11_next_49 : decode cX11_next 49 = .ok (.goto (-49), 3) := by decide +kernel
theorem dX11_next_52 : decode cX11_next 52 = .ok (.aload_n 0, 1) := by decide +kernel
theorem dX11_next_53 : decode cX11_next 53 = .ok (.aload_n 0, 1) := by decide +kernel
theorem dX11_next_54 : decode cX11_next 54 = .ok (.getfield 159, 3) := by decide +kernel
theorem dX11_next_57 : decode cX11_next 57 = .ok (.putfield 162, 3) := by decide +kernel
theorem dX11_next_60 : decode cX11_next 60 = .ok (.aload_n 0, 1) := by decide +kernel
theorem dX11_next_61 : decode cX11_next 61 = .ok (.getfield 159, 3) := by decide +kernel
theorem dX11_next_64 : decode cX11_next 64 = .ok (.aload_n 0, 1) := by decide +kernel
theorem dX11_next_65 : decode cX11_next 65 = .ok (.getfield 156, 3) := by decide +kernel
theorem dX11_next_68 : decode cX11_next 68 = .ok (.if_icmp .ne 9, 3) := by decide +kernel
theorem dX11_next_71 : decode cX11_next 71 = .ok (.aload_n 0, 1) := by decide +kernel
theorem dX11_next_72 : decode cX11_next 72 = .ok (.iconst 0, 1) := by decide +kernel
theorem dX11_next_73 : decode cX11_next 73 = .ok (.putfield 165, 3) := by decide +kernel
theorem dX11_next_76 : decode cX11_next 76 = .ok (.return_, 1) := by decide +kernel
theorem dX11_next_77 : decode cX11_next 77 = .ok (.aload_n 0, 1) := by decide +kernel
theorem dX11_next_78 : decode cX11_next 78 = .ok (.getfield 31, 3) := by decide +kernel
theorem dX11_next_81 : decode cX11_next 81 = .ok (.aload_n 0, 1) := by decide +kernel
theorem dX11_next_82 : decode cX11_next 82 = .ok (.getfield 159, 3) := by decide +kernel
theorem dX11_next_85 : decode cX11_next 85 = .ok (.iaload, 1) := by decide +kernel
theorem dX11_next_86 : decode cX11_next 86 = .ok (.istore_n 1, 1) := by decide +kernel
theorem dX11_next_87 : decode cX11_next 87 = .ok (.iload_n 1, 1) := by decide +kernel
theorem dX11_next_88 : decode cX11_next 88 = .ok (.invokestatic 168, 3) := by decide +kernel
theorem dX11_next_91 : decode cX11_next 91 = .ok (.ifCond .eq 107, 3) := by decide +kernel
theorem dX11_next_94 : decode cX11_next 94 = .ok (.aload_n 0, 1) := by decide +kernel
theorem dX11_next_95 : decode cX11_next 95 = .ok (.iconst 0, 1) := by decide +kernel
theorem dX11_next_96 : decode cX11_next 96 = .ok (.putfield 171, 3) := by decide +kernel
theorem dX11_next_99 : decode cX11_next 99 = .ok (.aload_n 0, 1) := by decide +kernel
theorem dX11_next_100 : decode cX11_next 100 = .ok (.getfield 159, 3) := by decide +kernel
theorem dX11_next_103 : decode cX11_next 103 = .ok (.aload_n 0, 1) := by decide +kernel
theorem dX11_next_104 : decode cX11_next 104 = .ok (.getfield 156, 3) := by decide +kernel
theorem dX11_next_107 : decode cX11_next 107 = .ok (.if_icmp .ge 68, 3) := by decide +kernel
theorem dX11_next_110 : decode cX11_next 110 = .ok (.aload_n 0, 1) := by decide +kernel
theorem dX11_next_111 : decode cX11_next 111 = .ok (.getfield 31, 3) := by decide +kernel
theorem dX11_next_114 : decode cX11_next 114 = .ok (.aload_n 0, 1) := by decide +kernel
theorem dX11_next_115 : decode cX11_next 115 = .ok (.getfield 159, 3) := by decide +kernel
theorem dX11_next_118 : decode cX11_next 118 = .ok (.iaload, 1) := by decide +kernel
theorem dX11_next_119 : decode cX11_next 119 = .ok (.invokestatic 168, 3) := by decide +kernel
theorem dX11_next_122 : decode cX11_next 122 = .ok (.ifCond .eq 53, 3) := by decide +kernel
theorem dX11_next_125 : decode cX11_next 125 = .ok (.aload_n 0, 1) := by decide +kernel
theorem dX11_next_126 : decode cX11_next 126 = .ok (.getfield 159, 3) := by decide +kernel
theorem dX11_next_129 : decode cX11_next 129 = .ok (.aload_n 0, 1) := by decide +kernel
theorem dX11_next_130 : decode cX11_next 130 = .ok (.getfield 162, 3) := by decide +kernel
theorem dX11_next_133 : decode cX11_next 133 = .ok (.isub, 1) := by decide +kernel
theorem dX11_next_134 : decode cX11_next 134 = .ok (.iconst 4, 1) := by decide +kernel
theorem dX11_next_135 : decode cX11_next 135 = .ok (.if_icmp .ge 27, 3) := by decide +kernel
theorem dX11_next_138 : decode cX11_next 138 = .ok (.aload_n 0, 1) := by decide +kernel
theorem dX11_next_139 : decode cX11_next 139 = .ok (.bipush 10, 2) := by decide +kernel
theorem dX11_next_141 : decode cX11_next 141 = .ok (.aload_n 0, 1) := by decide +kernel
theorem dX11_next_142 : decode cX11_next 142 = .ok (.getfield 171, 3) := by decide +kernel
theorem dX11_next_145 : decode cX11_next 145 = .ok (.imul, 1) := by decide +kernel
theorem dX11_next_146 : decode cX11_next 146 = .ok (.aload_n 0, 1) := by decide +kernel
theorem dX11_next_147 : decode cX11_next 147 = .ok (.getfield 31, 3) := by decide +kernel
theorem dX11_next_150 : decode cX11_next 150 = .ok (.aload_n 0, 1) := by decide +kernel
theorem dX11_next_151 : decode cX11_next 151 = .ok (.getfield 159, 3) := by decide +kernel
theorem dX11_next_154 : decode cX11_next 154 = .ok (.iaload, 1) := by decide +kernel
theorem dX11_next_155 : decode cX11_next 155 = .ok (.iadd, 1) := by decide +kernel
theorem dX11_next_156 : decode cX11_next 156 = .ok (.bipush 48, 2) := by decide +kernel
theorem dX11_next_158 : decode cX11_next 158 = .ok (.isub, 1) := by decide +kernel
theorem dX11_next_159 : decode cX11_next 159 = .ok (.putfield 171, 3) := by decide +kernel
theorem dX11_next_162 : decode cX11_next 162 = .ok (.aload_n 0, 1) := by decide +kernel
theorem dX11_next_163 : decode cX11_next 163 = .ok (.dup, 1) := by decide +kernel
theorem dX11_next_164 : decode cX11_next 164 = .ok (.getfield 159, 3) := by decide +kernel
theorem dX11_next_167 : decode cX11_next 167 = .ok (.iconst 1, 1) := by decide +kernel
theorem dX11_next_168 : decode cX11_next 168 = .ok (.iadd, 1) := by decide +kernel
theorem dX11_next_169 : decode cX11_next 169 = .ok (.putfield 159, 3) := by decide +kernel
theorem dX11_next_172 : decode cX11_next 172 = .ok (.goto (-73), 3) := by decide +kernel
theorem dX11_next_175 : decode cX11_next 175 = .ok (.aload_n 0, 1) := by decide +kernel
theorem dX11_next_176 : decode cX11_next 176 = .ok (.aload_n 0, 1) := by decide +kernel
theorem dX11_next_177 : decode cX11_next 177 = .ok (.getfield 159, 3) := by decide +kernel
theorem dX11_next_180 : decode cX11_next 180 = .ok (.aload_n 0, 1) := by decide +kernel
theorem dX11_next_181 : decode cX11_next 181 = .ok (.getfield 162, 3) := by decide +kernel
theorem dX11_next_184 : decode cX11_next 184 = .ok (.isub, 1) := by decide +kernel
theorem dX11_next_185 : decode cX11_next 185 = .ok (.iconst 4, 1) := by decide +kernel
theorem dX11_next_186 : decode cX11_next 186 = .ok (.if_icmp .le 7, 3) := by decide +kernel
theorem dX11_next_189 : decode cX11_next 189 = .ok (.iconst 4, 1) := by decide +kernel
theorem dX11_next_190 : decode cX11_next 190 = .ok (.goto 4, 3) := by decide +kernel
theorem dX11_next_193 : decode cX11_next 193 = .ok (.iconst 1, 1) := by decide +kernel
theorem dX11_next_194 : decode cX11_next 194 = .ok (.putfield 165, 3) := by decide +kernel
theorem dX11_next_197 : decode cX11_next 197 = .ok (.return_, 1) := by decide +kernel
theorem dX11_next_198 : decode cX11_next 198 = .ok (.iload_n 1, 1) := by decide +kernel
theorem dX11_next_199 : decode cX11_next 199 = .ok (.invokestatic 174, 3) := by decide +kernel
theorem dX11_next_202 : decode cX11_next 202 = .ok (.ifCond .eq 48, 3) := by decide +kernel
theorem dX11_next_205 : decode cX11_next 205 = .ok (.aload_n 0, 1) := by decide +kernel
theorem dX11_next_206 : decode cX11_next 206 = .ok (.getfield 159, 3) := by decide +kernel
theorem dX11_next_209 : decode cX11_next 209 = .ok (.aload_n 0, 1) := by decide +kernel
theorem dX11_next_210 : decode cX11_next 210 = .ok (.getfield 156, 3) := by decide +kernel
theorem dX11_next_213 : decode cX11_next 213 = .ok (.if_icmp .ge 31, 3) := by decide +kernel
theorem dX11_next_216 : decode cX11_next 216 = .ok (.aload_n 0, 1) := by decide +kernel
theorem dX11_next_217 : decode cX11_next 217 = .ok (.getfield 31, 3) := by decide +kernel
theorem dX11_next_220 : decode cX11_next 220 = .ok (.aload_n 0, 1) := by decide +kernel
theorem dX11_next_221 : decode cX11_next 221 = .ok (.getfield 159, 3) := by decide +kernel
theorem dX11_next_224 : decode cX11_next 224 = .ok (.iaload, 1) := by decide +kernel
theorem dX11_next_225 : decode cX11_next 225 = .ok (.invokestatic 174, 3) := by decide +kernel
theorem dX11_next_228 : decode cX11_next 228 = .ok (.ifCond .eq 16, 3) := by decide +kernel
theorem dX11_next_231 : decode cX11_next 231 = .ok (.aload_n 0, 1) := by decide +kernel
theorem dX11_next_232 : decode cX11_next 232 = .ok (.dup, 1) := by decide +kernel
theorem dX11_next_233 : decode cX11_next 233 = .ok (.getfield 159, 3) := by decide +kernel
theorem dX11_next_236 : decode cX11_next 236 = .ok (.iconst 1, 1) := by decide +kernel
theorem dX11_next_237 : decode cX11_next 237 = .ok (.iadd, 1) := by decide +kernel
theorem dX11_next_238 : decode cX11_next 238 = .ok (.putfield 159, 3) := by decide +kernel
theorem dX11_next_241 : decode cX11_next 241 = .ok (.goto (-36), 3) := by decide +kernel
theorem dX11_next_244 : decode cX11_next 244 = .ok (.aload_n 0, 1) := by decide +kernel
theorem dX11_next_245 : decode cX11_next 245 = .ok (.iconst 2, 1) := by decide +kernel
theorem dX11_next_246 : decode cX11_next 246 = .ok (.putfield 165, 3) := by decide +kernel
theorem dX11_next_249 : decode cX11_next 249 = .ok (.return_, 1) := by decide +kernel
theorem dX11_next_250 : decode cX11_next 250 = .ok (.aload_n 0, 1) := by decide +kernel
theorem dX11_next_251 : decode cX11_next 251 = .ok (.dup, 1) := by decide +kernel
theorem dX11_next_252 : decode cX11_next 252 = .ok (.getfield 159, 3) := by decide +kernel
theorem dX11_next_255 : decode cX11_next 255 = .ok (.iconst 1, 1) := by decide +kernel
theorem dX11_next_256 : decode cX11_next 256 = .ok (.iadd, 1) := by decide +kernel
theorem dX11_next_257 : decode cX11_next 257 = .ok (.putfield 159, 3) := by decide +kernel
theorem dX11_next_260 : decode cX11_next 260 = .ok (.aload_n 0, 1) := by decide +kernel
theorem dX11_next_261 : decode cX11_next 261 = .ok (.iload_n 1, 1) := by decide +kernel
theorem dX11_next_262 : decode cX11_next 262 = .ok (.putfield 171, 3) := by decide +kernel
theorem dX11_next_265 : decode cX11_next 265 = .ok (.aload_n 0, 1) := by decide +kernel
theorem dX11_next_266 : decode cX11_next 266 = .ok (.iload_n 1, 1) := by decide +kernel
theorem dX11_next_267 : decode cX11_next 267 = .ok (.bipush 40, 2) := by decide +kernel
theorem dX11_next_269 : decode cX11_next 269 = .ok (.if_icmp .eq 45, 3) := by decide +kernel
theorem dX11_next_272 : decode cX11_next 272 = .ok (.iload_n 1, 1) := by decide +kernel
theorem dX11_next_273 : decode cX11_next 273 = .ok (.bipush 41, 2) := by decide +kernel
theorem dX11_next_275 : decode cX11_next 275 = .ok (.if_icmp .eq 39, 3) := by decide +kernel
theorem dX11_next_278 : decode cX11_next 278 = .ok (.iload_n 1, 1) := by decide +kernel
theorem dX11_next_279 : decode cX11_next 279 = .ok (.bipush 59, 2) := by decide +kernel
theorem dX11_next_281 : decode cX11_next 281 = .ok (.if_icmp .eq 33, 3) := by decide +kernel
theorem dX11_next_284 : decode cX11_next 284 = .ok (.iload_n 1, 1) := by decide +kernel
theorem dX11_next_285 : decode cX11_next 285 = .ok (.bipush 43, 2) := by decide +kernel
theorem dX11_next_287 : decode cX11_next 287 = .ok (.if_icmp .eq 27, 3) := by decide +kernel
theorem dX11_next_290 : decode cX11_next 290 = .ok (.iload_n 1, 1) := by decide +kernel
theorem dX11_next_291 : decode cX11_next 291 = .ok (.bipush 45, 2) := by decide +kernel
theorem dX11_next_293 : decode cX11_next 293 = .ok (.if_icmp .eq 21, 3) := by decide +kernel
theorem dX11_next_296 : decode cX11_next 296 = .ok (.iload_n 1, 1) := by decide +kernel
theorem dX11_next_297 : decode cX11_next 297 = .ok (.bipush 42, 2) := by decide +kernel
theorem dX11_next_299 : decode cX11_next 299 = .ok (.if_icmp .eq 15, 3) := by decide +kernel
theorem dX11_next_302 : decode cX11_next 302 = .ok (.iload_n 1, 1) := by decide +kernel
theorem dX11_next_303 : decode cX11_next 303 = .ok (.bipush 60, 2) := by decide +kernel
theorem dX11_next_305 : decode cX11_next 305 = .ok (.if_icmp .eq 9, 3) := by decide +kernel
theorem dX11_next_308 : decode cX11_next 308 = .ok (.iload_n 1, 1) := by decide +kernel
theorem dX11_next_309 : decode cX11_next 309 = .ok (.bipush 61, 2) := by decide +kernel
theorem dX11_next_311 : decode cX11_next 311 = .ok (.if_icmp .ne 7, 3) := by decide +kernel
theorem dX11_next_314 : decode cX11_next 314 = .ok (.iconst 3, 1) := by decide +kernel
theorem dX11_next_315 : decode cX11_next 315 = .ok (.goto 4, 3) := by decide +kernel
theorem dX11_next_318 : decode cX11_next 318 = .ok (.iconst 4, 1) := by decide +kernel
theorem dX11_next_319 : decode cX11_next 319 = .ok (.putfield 165, 3) := by decide +kernel
theorem dX11_next_322 : decode cX11_next 322 = .ok (.return_, 1) := by decide +kernel
theorem dX11_isDigit_0 : decode cX11_isDigit 0 = .ok (.iload_n 0, 1) := by decide +kernel
theorem dX11_isDigit_1 : decode cX11_isDigit 1 = .ok (.bipush 48, 2) := by decide +kernel
theorem dX11_isDigit_3 : decode cX11_isDigit 3 = .ok (.if_icmp .lt 13, 3) := by decide +kernel
theorem dX11_isDigit_6 : decode cX11_isDigit 6 = .ok (.iload_n 0, 1) := by decide +kernel
theorem dX11_isDigit_7 : decode cX11_isDigit 7 = .ok (.bipush 57, 2) := by decide +kernel
theorem dX11_isDigit_9 : decode cX11_isDigit 9 = .ok (.if_icmp .gt 7, 3) := by decide +kernel
theorem dX11_isDigit_12 : decode cX11_isDigit 12 = .ok (.iconst 1, 1) := by decide +kernel
theorem dX11_isDigit_13 : decode cX11_isDigit 13 = .ok (.goto 4, 3) := by decide +kernel
theorem dX11_isDigit_16 : decode cX11_isDigit 16 = .ok (.iconst 0, 1) := by decide +kernel
theorem dX11_isDigit_17 : decode cX11_isDigit 17 = .ok (.ireturn, 1) := by decide +kernel
theorem dX11_isLetter_0 : decode cX11_isLetter 0 = .ok (.iload_n 0, 1) := by decide +kernel
theorem dX11_isLetter_1 : decode cX11_isLetter 1 = .ok (.bipush 97, 2) := by decide +kernel
theorem dX11_isLetter_3 : decode cX11_isLetter 3 = .ok (.if_icmp .lt 13, 3) := by decide +kernel
theorem dX11_isLetter_6 : decode cX11_isLetter 6 = .ok (.iload_n 0, 1) := by decide +kernel
theorem dX11_isLetter_7 : decode cX11_isLetter 7 = .ok (.bipush 122, 2) := by decide +kernel
theorem dX11_isLetter_9 : decode cX11_isLetter 9 = .ok (.if_icmp .gt 7, 3) := by decide +kernel
theorem dX11_isLetter_12 : decode cX11_isLetter 12 = .ok (.iconst 1, 1) := by decide +kernel
theorem dX11_isLetter_13 : decode cX11_isLetter 13 = .ok (.goto 4, 3) := by decide +kernel
theorem dX11_isLetter_16 : decode cX11_isLetter 16 = .ok (.iconst 0, 1) := by decide +kernel
theorem dX11_isLetter_17 : decode cX11_isLetter 17 = .ok (.ireturn, 1) := by decide +kernel
theorem dX11_is_0 : decode cX11_is 0 = .ok (.aload_n 0, 1) := by decide +kernel
theorem dX11_is_1 : decode cX11_is 1 = .ok (.getfield 165, 3) := by decide +kernel
theorem dX11_is_4 : decode cX11_is 4 = .ok (.iconst 2, 1) := by decide +kernel
theorem dX11_is_5 : decode cX11_is 5 = .ok (.if_icmp .ne 19, 3) := by decide +kernel
theorem dX11_is_8 : decode cX11_is 8 = .ok (.aload_n 0, 1) := by decide +kernel
theorem dX11_is_9 : decode cX11_is 9 = .ok (.getfield 159, 3) := by decide +kernel
theorem dX11_is_12 : decode cX11_is 12 = .ok (.aload_n 0, 1) := by decide +kernel
theorem dX11_is_13 : decode cX11_is 13 = .ok (.getfield 162, 3) := by decide +kernel
theorem dX11_is_16 : decode cX11_is 16 = .ok (.isub, 1) := by decide +kernel
theorem dX11_is_17 : decode cX11_is 17 = .ok (.aload_n 1, 1) := by decide +kernel
theorem dX11_is_18 : decode cX11_is 18 = .ok (.invokevirtual 82, 3) := by decide +kernel
theorem dX11_is_21 : decode cX11_is 21 = .ok (.if_icmp .eq 5, 3) := by decide +kernel
theorem dX11_is_24 : decode cX11_is 24 = .ok (.iconst 0, 1) := by decide +kernel
theorem dX11_is_25 : decode cX11_is 25 = .ok (.ireturn, 1) := by decide +kernel
theorem dX11_is_26 : decode cX11_is 26 = .ok (.iconst 0, 1) := by decide +kernel
theorem dX11_is_27 : decode cX11_is 27 = .ok (.istore_n 2, 1) := by decide +kernel
theorem dX11_is_28 : decode cX11_is 28 = .ok (.iload_n 2, 1) := by decide +kernel
theorem dX11_is_29 : decode cX11_is 29 = .ok (.aload_n 1, 1) := by decide +kernel
theorem dX11_is_30 : decode cX11_is 30 = .ok (.invokevirtual 82, 3) := by decide +kernel
theorem dX11_is_33 : decode cX11_is 33 = .ok (.if_icmp .ge 30, 3) := by decide +kernel
theorem dX11_is_36 : decode cX11_is 36 = .ok (.aload_n 0, 1) := by decide +kernel
theorem dX11_is_37 : decode cX11_is 37 = .ok (.getfield 31, 3) := by decide +kernel
theorem dX11_is_40 : decode cX11_is 40 = .ok (.aload_n 0, 1) := by decide +kernel
theorem dX11_is_41 : decode cX11_is 41 = .ok (.getfield 162, 3) := by decide +kernel
theorem dX11_is_44 : decode cX11_is 44 = .ok (.iload_n 2, 1) := by decide +kernel
theorem dX11_is_45 : decode cX11_is 45 = .ok (.iadd, 1) := by decide +kernel
theorem dX11_is_46 : decode cX11_is 46 = .ok (.iaload, 1) := by decide +kernel
theorem dX11_is_47 : decode cX11_is 47 = .ok (.aload_n 1, 1) := by decide +kernel
theorem dX11_is_48 : decode cX11_is 48 = .ok (.iload_n 2, 1) := by decide +kernel
theorem dX11_is_49 : decode cX11_is 49 = .ok (.invokevirtual 88, 3) := by decide +kernel
theorem dX11_is_52 : decode cX11_is 52 = .ok (.if_icmp .eq 5, 3) := by decide +kernel
theorem dX11_is_55 : decode cX11_is 55 = .ok (.iconst 0, 1) := by decide +kernel
theorem dX11_is_56 : decode cX11_is 56 = .ok (.ireturn, 1) := by decide +kernel
theorem dX11_is_57 : decode cX11_is 57 = .ok (.iinc 2 1, 3) := by decide +kernel
theorem dX11_is_60 : decode cX11_is 60 = .ok (.goto (-32), 3) := by decide +kernel
theorem dX11_is_63 : decode cX11_is 63 = .ok (.iconst 1, 1) := by decide +kernel
theorem dX11_is_64 : decode cX11_is 64 = .ok (.ireturn, 1) := by decide +kernel
theorem dX11_is__0 : decode cX11_is_ 0 = .ok (.aload_n 0, 1) := by decide +kernel
theorem dX11_is__1 : decode cX11_is_ 1 = .ok (.getfield 165, 3) := by decide +kernel
theorem dX11_is__4 : decode cX11_is_ 4 = .ok (.iconst 3, 1) := by decide +kernel
theorem dX11_is__5 : decode cX11_is_ 5 = .ok (.if_icmp .ne 15, 3) := by decide +kernel
theorem dX11_is__8 : decode cX11_is_ 8 = .ok (.aload_n 0, 1) := by decide +kernel
theorem dX11_is__9 : decode cX11_is_ 9 = .ok (.getfield 171, 3) := by decide +kernel
theorem dX11_is__12 : decode cX11_is_ 12 = .ok (.iload_n 1, 1) := by decide +kernel
theorem dX11_is__13 : decode cX11_is_ 13 = .ok (.if_icmp .ne 7, 3) := by decide +kernel
theorem dX11_is__16 : decode cX11_is_ 16 = .ok (.iconst 1, 1) := by decide +kernel
theorem dX11_is__17 : decode cX11_is_ 17 = .ok (.goto 4, 3) := by decide +kernel
theorem dX11_is__20 : decode cX11_is_ 20 = .ok (.iconst 0, 1) := by decide +kernel
theorem dX11_is__21 : decode cX11_is_ 21 = .ok (.ireturn, 1) := by decide +kernel
theorem dX11_name_0 : decode cX11_name 0 = .ok (.aload_n 0, 1) := by decide +kernel
theorem dX11_name_1 : decode cX11_name 1 = .ok (.ldc 177, 2) := by decide +kernel
theorem dX11_name_3 : decode cX11_name 3 = .ok (.invokevirtual 178, 3) := by decide +kernel
theorem dX11_name_6 : decode cX11_name 6 = .ok (.ifCond .eq 5, 3) := by decide +kernel
theorem dX11_name_9 : decode cX11_name 9 = .ok (.iconst 1, 1) := by decide +kernel
theorem dX11_name_10 : decode cX11_name 10 = .ok (.ireturn, 1) := by decide +kernel
theorem dX11_name_11 : decode cX11_name 11 = .ok (.aload_n 0, 1) := by decide +kernel
theorem dX11_name_12 : decode cX11_name 12 = .ok (.ldc 182, 2) := by decide +kernel
theorem dX11_name_14 : decode cX11_name 14 = .ok (.invokevirtual 178, 3) := by decide +kernel
theorem dX11_name_17 : decode cX11_name 17 = .ok (.ifCond .eq 5, 3) := by decide +kernel
theorem dX11_name_20 : decode cX11_name 20 = .ok (.iconst 2, 1) := by decide +kernel
theorem dX11_name_21 : decode cX11_name 21 = .ok (.ireturn, 1) := by decide +kernel
theorem dX11_name_22 : decode cX11_name 22 = .ok (.aload_n 0, 1) := by decide +kernel
theorem dX11_name_23 : decode cX11_name 23 = .ok (.ldc 183, 2) := by decide +kernel
theorem dX11_name_25 : decode cX11_name 25 = .ok (.invokevirtual 178, 3) := by decide +kernel
theorem dX11_name_28 : decode cX11_name 28 = .ok (.ifCond .eq 5, 3) := by decide +kernel
theorem dX11_name_31 : decode cX11_name 31 = .ok (.iconst 3, 1) := by decide +kernel
theorem dX11_name_32 : decode cX11_name 32 = .ok (.ireturn, 1) := by decide +kernel
theorem dX11_name_33 : decode cX11_name 33 = .ok (.aload_n 0, 1) := by decide +kernel
theorem dX11_name_34 : decode cX11_name 34 = .ok (.ldc 185, 2) := by decide +kernel
theorem dX11_name_36 : decode cX11_name 36 = .ok (.invokevirtual 178, 3) := by decide +kernel
theorem dX11_name_39 : decode cX11_name 39 = .ok (.ifCond .eq 5, 3) := by decide +kernel
theorem dX11_name_42 : decode cX11_name 42 = .ok (.iconst 4, 1) := by decide +kernel
theorem dX11_name_43 : decode cX11_name 43 = .ok (.ireturn, 1) := by decide +kernel
theorem dX11_name_44 : decode cX11_name 44 = .ok (.aload_n 0, 1) := by decide +kernel
theorem dX11_name_45 : decode cX11_name 45 = .ok (.ldc 187, 2) := by decide +kernel
theorem dX11_name_47 : decode cX11_name 47 = .ok (.invokevirtual 178, 3) := by decide +kernel
theorem dX11_name_50 : decode cX11_name 50 = .ok (.ifCond .eq 5, 3) := by decide +kernel
theorem dX11_name_53 : decode cX11_name 53 = .ok (.iconst 5, 1) := by decide +kernel
theorem dX11_name_54 : decode cX11_name 54 = .ok (.ireturn, 1) := by decide +kernel
theorem dX11_name_55 : decode cX11_name 55 = .ok (.aload_n 0, 1) := by decide +kernel
theorem dX11_name_56 : decode cX11_name 56 = .ok (.ldc 189, 2) := by decide +kernel
theorem dX11_name_58 : decode cX11_name 58 = .ok (.invokevirtual 178, 3) := by decide +kernel
theorem dX11_name_61 : decode cX11_name 61 = .ok (.ifCond .eq 6, 3) := by decide +kernel
theorem dX11_name_64 : decode cX11_name 64 = .ok (.bipush 6, 2) := by decide +kernel
theorem dX11_name_66 : decode cX11_name 66 = .ok (.ireturn, 1) := by decide +kernel
theorem dX11_name_67 : decode cX11_name 67 = .ok (.iconst 0, 1) := by decide +kernel
theorem dX11_name_68 : decode cX11_name 68 = .ok (.ireturn, 1) := by decide +kernel
theorem dX11_put_0 : decode cX11_put 0 = .ok (.aload_n 0, 1) := by decide +kernel
theorem dX11_put_1 : decode cX11_put 1 = .ok (.getfield 34, 3) := by decide +kernel
theorem dX11_put_4 : decode cX11_put 4 = .ok (.sipush 170, 3) := by decide +kernel
theorem dX11_put_7 : decode cX11_put 7 = .ok (.aload_n 0, 1) := by decide +kernel
theorem dX11_put_8 : decode cX11_put 8 = .ok (.getfield 190, 3) := by decide +kernel
theorem dX11_put_11 : decode cX11_put 11 = .ok (.imul, 1) := by decide +kernel
theorem dX11_put_12 : decode cX11_put 12 = .ok (.aload_n 0, 1) := by decide +kernel
theorem dX11_put_13 : decode cX11_put 13 = .ok (.dup, 1) := by decide +kernel
theorem dX11_put_14 : decode cX11_put 14 = .ok (.getfield 193, 3) := by decide +kernel
theorem dX11_put_17 : decode cX11_put 17 = .ok (.dup_x1, 1) := by decide +kernel
theorem dX11_put_18 : decode cX11_put 18 = .ok (.iconst 1, 1) := by decide +kernel
theorem dX11_put_19 : decode cX11_put 19 = .ok (.iadd, 1) := by decide +kernel
theorem dX11_put_20 : decode cX11_put 20 = .ok (.putfield 193, 3) := by decide +kernel
theorem dX11_put_23 : decode cX11_put 23 = .ok (.iadd, 1) := by decide +kernel
theorem dX11_put_24 : decode cX11_put 24 = .ok (.iload_n 1, 1) := by decide +kernel
theorem dX11_put_25 : decode cX11_put 25 = .ok (.iastore, 1) := by decide +kernel
theorem dX11_put_26 : decode cX11_put 26 = .ok (.return_, 1) := by decide +kernel
theorem dX11_any_0 : decode cX11_any 0 = .ok (.aload_n 0, 1) := by decide +kernel
theorem dX11_any_1 : decode cX11_any 1 = .ok (.invokevirtual 196, 3) := by decide +kernel
theorem dX11_any_4 : decode cX11_any 4 = .ok (.ifCond .ne 5, 3) := by decide +kernel
theorem dX11_any_7 : decode cX11_any 7 = .ok (.iconst 0, 1) := by decide +kernel
theorem dX11_any_8 : decode cX11_any 8 = .ok (.ireturn, 1) := by decide +kernel
theorem dX11_any_9 : decode cX11_any 9 = .ok (.aload_n 0, 1) := by decide +kernel
theorem dX11_any_10 : decode cX11_any 10 = .ok (.ldc 200, 2) := by decide +kernel
theorem dX11_any_12 : decode cX11_any 12 = .ok (.invokevirtual 178, 3) := by decide +kernel
theorem dX11_any_15 : decode cX11_any 15 = .ok (.ifCond .eq 25, 3) := by decide +kernel
theorem dX11_any_18 : decode cX11_any 18 = .ok (.aload_n 0, 1) := by decide +kernel
theorem dX11_any_19 : decode cX11_any 19 = .ok (.invokevirtual 202, 3) := by decide +kernel
theorem dX11_any_22 : decode cX11_any 22 = .ok (.aload_n 0, 1) := by decide +kernel
theorem dX11_any_23 : decode cX11_any 23 = .ok (.invokevirtual 196, 3) := by decide +kernel
theorem dX11_any_26 : decode cX11_any 26 = .ok (.ifCond .ne 5, 3) := by decide +kernel
theorem dX11_any_29 : decode cX11_any 29 = .ok (.iconst 0, 1) := by decide +kernel
theorem dX11_any_30 : decode cX11_any 30 = .ok (.ireturn, 1) := by decide +kernel
theorem dX11_any_31 : decode cX11_any 31 = .ok (.aload_n 0, 1) := by decide +kernel
theorem dX11_any_32 : decode cX11_any 32 = .ok (.bipush (-11), 2) := by decide +kernel
theorem dX11_any_34 : decode cX11_any 34 = .ok (.invokevirtual 205, 3) := by decide +kernel
theorem dX11_any_37 : decode cX11_any 37 = .ok (.goto (-28), 3) := by decide +kernel
theorem dX11_any_40 : decode cX11_any 40 = .ok (.iconst 1, 1) := by decide +kernel
theorem dX11_any_41 : decode cX11_any 41 = .ok (.ireturn, 1) := by decide +kernel
theorem dX11_both_0 : decode cX11_both 0 = .ok (.aload_n 0, 1) := by decide +kernel
theorem dX11_both_1 : decode cX11_both 1 = .ok (.invokevirtual 209, 3) := by decide +kernel
theorem dX11_both_4 : decode cX11_both 4 = .ok (.ifCond .ne 5, 3) := by decide +kernel
theorem dX11_both_7 : decode cX11_both 7 = .ok (.iconst 0, 1) := by decide +kernel
theorem dX11_both_8 : decode cX11_both 8 = .ok (.ireturn, 1) := by decide +kernel
theorem dX11_both_9 : decode cX11_both 9 = .ok (.aload_n 0, 1) := by decide +kernel
theorem dX11_both_10 : decode cX11_both 10 = .ok (.ldc 212, 2) := by decide +kernel
theorem dX11_both_12 : decode cX11_both 12 = .ok (.invokevirtual 178, 3) := by decide +kernel
theorem dX11_both_15 : decode cX11_both 15 = .ok (.ifCond .eq 25, 3) := by decide +kernel
theorem dX11_both_18 : decode cX11_both 18 = .ok (.aload_n 0, 1) := by decide +kernel
theorem dX11_both_19 : decode cX11_both 19 = .ok (.invokevirtual 202, 3) := by decide +kernel
theorem dX11_both_22 : decode cX11_both 22 = .ok (.aload_n 0, 1) := by decide +kernel
theorem dX11_both_23 : decode cX11_both 23 = .ok (.invokevirtual 209, 3) := by decide +kernel
theorem dX11_both_26 : decode cX11_both 26 = .ok (.ifCond .ne 5, 3) := by decide +kernel
theorem dX11_both_29 : decode cX11_both 29 = .ok (.iconst 0, 1) := by decide +kernel
theorem dX11_both_30 : decode cX11_both 30 = .ok (.ireturn, 1) := by decide +kernel
theorem dX11_both_31 : decode cX11_both 31 = .ok (.aload_n 0, 1) := by decide +kernel
theorem dX11_both_32 : decode cX11_both 32 = .ok (.bipush (-12), 2) := by decide +kernel
theorem dX11_both_34 : decode cX11_both 34 = .ok (.invokevirtual 205, 3) := by decide +kernel
theorem dX11_both_37 : decode cX11_both 37 = .ok (.goto (-28), 3) := by decide +kernel
theorem dX11_both_40 : decode cX11_both 40 = .ok (.iconst 1, 1) := by decide +kernel
theorem dX11_both_41 : decode cX11_both 41 = .ok (.ireturn, 1) := by decide +kernel
theorem dX11_not_0 : decode cX11_not 0 = .ok (.aload_n 0, 1) := by decide +kernel
theorem dX11_not_1 : decode cX11_not 1 = .ok (.ldc 214, 2) := by decide +kernel
theorem dX11_not_3 : decode cX11_not 3 = .ok (.invokevirtual 178, 3) := by decide +kernel
theorem dX11_not_6 : decode cX11_not 6 = .ok (.ifCond .eq 54, 3) := by decide +kernel
theorem dX11_not_9 : decode cX11_not 9 = .ok (.aload_n 0, 1) := by decide +kernel
theorem dX11_not_10 : decode cX11_not 10 = .ok (.getfield 215, 3) := by decide +kernel
theorem dX11_not_13 : decode cX11_not 13 = .ok (.iconst 5, 1) := by decide +kernel
theorem dX11_not_14 : decode cX11_not 14 = .ok (.if_icmp .ne 5, 3) := by decide +kernel
theorem dX11_not_17 : decode cX11_not 17 = .ok (.iconst 0, 1) := by decide +kernel
theorem dX11_not_18 : decode cX11_not 18 = .ok (.ireturn, 1) := by decide +kernel
theorem dX11_not_19 : decode cX11_not 19 = .ok (.aload_n 0, 1) := by decide +kernel
theorem dX11_not_20 : decode cX11_not 20 = .ok (.dup, 1) := by decide +kernel
theorem dX11_not_21 : decode cX11_not 21 = .ok (.getfield 215, 3) := by decide +kernel
theorem dX11_not_24 : decode cX11_not 24 = .ok (.iconst 1, 1) := by decide +kernel
theorem dX11_not_25 : decode cX11_not 25 = .ok (.iadd, 1) := by decide +kernel
theorem dX11_not_26 : decode cX11_not 26 = .ok (.putfield 215, 3) := by decide +kernel
theorem dX11_not_29 : decode cX11_not 29 = .ok (.aload_n 0, 1) := by decide +kernel
theorem dX11_not_30 : decode cX11_not 30 = .ok (.invokevirtual 202, 3) := by decide +kernel
theorem dX11_not_33 : decode cX11_not 33 = .ok (.aload_n 0, 1) := by decide +kernel
theorem dX11_not_34 : decode cX11_not 34 = .ok (.invokevirtual 209, 3) := by decide +kernel
theorem dX11_not_37 : decode cX11_not 37 = .ok (.ifCond .ne 5, 3) := by decide +kernel
theorem dX11_not_40 : decode cX11_not 40 = .ok (.iconst 0, 1) := by decide +kernel
theorem dX11_not_41 : decode cX11_not 41 = .ok (.ireturn, 1) := by decide +kernel
theorem dX11_not_42 : decode cX11_not 42 = .ok (.aload_n 0, 1) := by decide +kernel
theorem dX11_not_43 : decode cX11_not 43 = .ok (.dup, 1) := by decide +kernel
theorem dX11_not_44 : decode cX11_not 44 = .ok (.getfield 215, 3) := by decide +kernel
theorem dX11_not_47 : decode cX11_not 47 = .ok (.iconst 1, 1) := by decide +kernel
theorem dX11_not_48 : decode cX11_not 48 = .ok (.isub, 1) := by decide +kernel
theorem dX11_not_49 : decode cX11_not 49 = .ok (.putfield 215, 3) := by decide +kernel
theorem dX11_not_52 : decode cX11_not 52 = .ok (.aload_n 0, 1) := by decide +kernel
theorem dX11_not_53 : decode cX11_not 53 = .ok (.bipush (-13), 2) := by decide +kernel
theorem dX11_not_55 : decode cX11_not 55 = .ok (.invokevirtual 205, 3) := by decide +kernel
theorem dX11_not_58 : decode cX11_not 58 = .ok (.iconst 1, 1) := by decide +kernel
theorem dX11_not_59 : decode cX11_not 59 = .ok (.ireturn, 1) := by decide +kernel
theorem dX11_not_60 : decode cX11_not 60 = .ok (.aload_n 0, 1) := by decide +kernel
theorem dX11_not_61 : decode cX11_not 61 = .ok (.invokevirtual 218, 3) := by decide +kernel
theorem dX11_not_64 : decode cX11_not 64 = .ok (.ifCond .ne 5, 3) := by decide +kernel
theorem dX11_not_67 : decode cX11_not 67 = .ok (.iconst 0, 1) := by decide +kernel
theorem dX11_not_68 : decode cX11_not 68 = .ok (.ireturn, 1) := by decide +kernel
theorem dX11_not_69 : decode cX11_not 69 = .ok (.aload_n 0, 1) := by decide +kernel
theorem dX11_not_70 : decode cX11_not 70 = .ok (.bipush 60, 2) := by decide +kernel
theorem dX11_not_72 : decode cX11_not 72 = .ok (.invokevirtual 221, 3) := by decide +kernel
theorem dX11_not_75 : decode cX11_not 75 = .ok (.ifCond .ne 12, 3) := by decide +kernel
theorem dX11_not_78 : decode cX11_not 78 = .ok (.aload_n 0, 1) := by decide +kernel
theorem dX11_not_79 : decode cX11_not 79 = .ok (.bipush 61, 2) := by decide +kernel
theorem dX11_not_81 : decode cX11_not 81 = .ok (.invokevirtual 221, 3) := by decide +kernel
theorem dX11_not_84 : decode cX11_not 84 = .ok (.ifCond .eq 38, 3) := by decide +kernel
theorem dX11_not_87 : decode cX11_not 87 = .ok (.aload_n 0, 1) := by decide +kernel
theorem dX11_not_88 : decode cX11_not 88 = .ok (.bipush 60, 2) := by decide +kernel
theorem dX11_not_90 : decode cX11_not 90 = .ok (.invokevirtual 221, 3) := by decide +kernel
theorem dX11_not_93 : decode cX11_not 93 = .ok (.ifCond .eq 8, 3) := by decide +kernel
theorem dX11_not_96 : decode cX11_not 96 = .ok (.bipush (-14), 2) := by decide +kernel
theorem dX11_not_98 : decode cX11_not 98 = .ok (.goto 5, 3) := by decide +kernel
theorem dX11_not_101 : decode cX11_not 101 = .ok (.bipush (-15), 2) := by decide +kernel
theorem dX11_not_103 : decode cX11_not 103 = .ok (.istore_n 1, 1) := by decide +kernel
theorem dX11_not_104 : decode cX11_not 104 = .ok (.aload_n 0, 1) := by decide +kernel
theorem dX11_not_105 : decode cX11_not 105 = .ok (.invokevirtual 202, 3) := by decide +kernel
theorem dX11_not_108 : decode cX11_not 108 = .ok (.aload_n 0, 1) := by decide +kernel
theorem dX11_not_109 : decode cX11_not 109 = .ok (.invokevirtual 218, 3) := by decide +kernel
theorem dX11_not_112 : decode cX11_not 112 = .ok (.ifCond .ne 5, 3) := by decide +kernel
theorem dX11_not_115 : decode cX11_not 115 = .ok (.iconst 0, 1) := by decide +kernel
theorem dX11_not_116 : decode cX11_not 116 = .ok (.ireturn, 1) := by decide +kernel
theorem dX11_not_117 : decode cX11_not 117 = .ok (.aload_n 0, 1) := by decide +kernel
theorem dX11_not_118 : decode cX11_not 118 = .ok (.iload_n 1, 1) := by decide +kernel
theorem dX11_not_119 : decode cX11_not 119 = .ok (.invokevirtual 205, 3) := by decide +kernel
theorem dX11_not_122 : decode cX11_not 122 = .ok (.iconst 1, 1) := by decide +kernel
theorem dX11_not_123 : decode cX11_not 123 = .ok (.ireturn, 1) := by decide +kernel
theorem dX11_sum_0 : decode cX11_sum 0 = .ok (.aload_n 0, 1) := by decide +kernel
theorem dX11_sum_1 : decode cX11_sum 1 = .ok (.invokevirtual 224, 3) := by decide +kernel
theorem dX11_sum_4 : decode cX11_sum 4 = .ok (.ifCond .ne 5, 3) := by decide +kernel
theorem dX11_sum_7 : decode cX11_sum 7 = .ok (.iconst 0, 1) := by decide +kernel
theorem dX11_sum_8 : decode cX11_sum 8 = .ok (.ireturn, 1) := by decide +kernel
theorem dX11_sum_9 : decode cX11_sum 9 = .ok (.aload_n 0, 1) := by decide +kernel
theorem dX11_sum_10 : decode cX11_sum 10 = .ok (.bipush 43, 2) := by decide +kernel
theorem dX11_sum_12 : decode cX11_sum 12 = .ok (.invokevirtual 221, 3) := by decide +kernel
theorem dX11_sum_15 : decode cX11_sum 15 = .ok (.ifCond .ne 12, 3) := by decide +kernel
theorem dX11_sum_18 : decode cX11_sum 18 = .ok (.aload_n 0, 1) := by decide +kernel
theorem dX11_sum_19 : decode cX11_sum 19 = .ok (.bipush 45, 2) := by decide +kernel
theorem dX11_sum_21 : decode cX11_sum 21 = .ok (.invokevirtual 221, 3) := by decide +kernel
theorem dX11_sum_24 : decode cX11_sum 24 = .ok (.ifCond .eq 41, 3) := by decide +kernel
theorem dX11_sum_27 : decode cX11_sum 27 = .ok (.aload_n 0, 1) := by decide +kernel
theorem dX11_sum_28 : decode cX11_sum 28 = .ok (.bipush 43, 2) := by decide +kernel
theorem dX11_sum_30 : decode cX11_sum 30 = .ok (.invokevirtual 221, 3) := by decide +kernel
theorem dX11_sum_33 : decode cX11_sum 33 = .ok (.ifCond .eq 8, 3) := by decide +kernel
theorem dX11_sum_36 : decode cX11_sum 36 = .ok (.bipush (-16), 2) := by decide +kernel
theorem dX11_sum_38 : decode cX11_sum 38 = .ok (.goto 5, 3) := by decide +kernel
theorem dX11_sum_41 : decode cX11_sum 41 = .ok (.bipush (-17), 2) := by decide +kernel
theorem dX11_sum_43 : decode cX11_sum 43 = .ok (.istore_n 1, 1) := by decide +kernel
theorem dX11_sum_44 : decode cX11_sum 44 = .ok (.aload_n 0, 1) := by decide +kernel
theorem dX11_sum_45 : decode cX11_sum 45 = .ok (.invokevirtual 202, 3) := by decide +kernel
theorem dX11_sum_48 : decode cX11_sum 48 = .ok (.aload_n 0, 1) := by decide +kernel
theorem dX11_sum_49 : decode cX11_sum 49 = .ok (.invokevirtual 224, 3) := by decide +kernel
theorem dX11_sum_52 : decode cX11_sum 52 = .ok (.ifCond .ne 5, 3) := by decide +kernel
theorem dX11_sum_55 : decode cX11_sum 55 = .ok (.iconst 0, 1) := by decide +kernel
theorem dX11_sum_56 : decode cX11_sum 56 = .ok (.ireturn, 1) := by decide +kernel
theorem dX11_sum_57 : decode cX11_sum 57 = .ok (.aload_n 0, 1) := by decide +kernel
theorem dX11_sum_58 : decode cX11_sum 58 = .ok (.iload_n 1, 1) := by decide +kernel
theorem dX11_sum_59 : decode cX11_sum 59 = .ok (.invokevirtual 205, 3) := by decide +kernel
theorem dX11_sum_62 : decode cX11_sum 62 = .ok (.goto (-53), 3) := by decide +kernel
theorem dX11_sum_65 : decode cX11_sum 65 = .ok (.iconst 1, 1) := by decide +kernel
theorem dX11_sum_66 : decode cX11_sum 66 = .ok (.ireturn, 1) := by decide +kernel
theorem dX11_term_0 : decode cX11_term 0 = .ok (.aload_n 0, 1) := by decide +kernel
theorem dX11_term_1 : decode cX11_term 1 = .ok (.invokevirtual 227, 3) := by decide +kernel
theorem dX11_term_4 : decode cX11_term 4 = .ok (.ifCond .ne 5, 3) := by decide +kernel
theorem dX11_term_7 : decode cX11_term 7 = .ok (.iconst 0, 1) := by decide +kernel
theorem dX11_term_8 : decode cX11_term 8 = .ok (.ireturn, 1) := by decide +kernel
theorem dX11_term_9 : decode cX11_term 9 = .ok (.aload_n 0, 1) := by decide +kernel
theorem dX11_term_10 : decode cX11_term 10 = .ok (.bipush 42, 2) := by decide +kernel
theorem dX11_term_12 : decode cX11_term 12 = .ok (.invokevirtual 221, 3) := by decide +kernel
theorem dX11_term_15 : decode cX11_term 15 = .ok (.ifCond .eq 25, 3) := by decide +kernel
theorem dX11_term_18 : decode cX11_term 18 = .ok (.aload_n 0, 1) := by decide +kernel
theorem dX11_term_19 : decode cX11_term 19 = .ok (.invokevirtual 202, 3) := by decide +kernel
theorem dX11_term_22 : decode cX11_term 22 = .ok (.aload_n 0, 1) := by decide +kernel
theorem dX11_term_23 : decode cX11_term 23 = .ok (.invokevirtual 227, 3) := by decide +kernel
theorem dX11_term_26 : decode cX11_term 26 = .ok (.ifCond .ne 5, 3) := by decide +kernel
theorem dX11_term_29 : decode cX11_term 29 = .ok (.iconst 0, 1) := by decide +kernel
theorem dX11_term_30 : decode cX11_term 30 = .ok (.ireturn, 1) := by decide +kernel
theorem dX11_term_31 : decode cX11_term 31 = .ok (.aload_n 0, 1) := by decide +kernel
theorem dX11_term_32 : decode cX11_term 32 = .ok (.bipush (-18), 2) := by decide +kernel
theorem dX11_term_34 : decode cX11_term 34 = .ok (.invokevirtual 205, 3) := by decide +kernel
theorem dX11_term_37 : decode cX11_term 37 = .ok (.goto (-28), 3) := by decide +kernel
theorem dX11_term_40 : decode cX11_term 40 = .ok (.iconst 1, 1) := by decide +kernel
theorem dX11_term_41 : decode cX11_term 41 = .ok (.ireturn, 1) := by decide +kernel
theorem dX11_one_0 : decode cX11_one 0 = .ok (.aload_n 0, 1) := by decide +kernel
theorem dX11_one_1 : decode cX11_one 1 = .ok (.getfield 165, 3) := by decide +kernel
theorem dX11_one_4 : decode cX11_one 4 = .ok (.iconst 1, 1) := by decide +kernel
theorem dX11_one_5 : decode cX11_one 5 = .ok (.if_icmp .ne 17, 3) := by decide +kernel
theorem dX11_one_8 : decode cX11_one 8 = .ok (.aload_n 0, 1) := by decide +kernel
theorem dX11_one_9 : decode cX11_one 9 = .ok (.aload_n 0, 1) := by decide +kernel
theorem dX11_one_10 : decode cX11_one 10 = .ok (.getfield 171, 3) := by decide +kernel
theorem dX11_one_13 : decode cX11_one 13 = .ok (.invokevirtual 205, 3) := by decide +kernel
theorem dX11_one_16 : decode cX11_one 16 = .ok (.aload_n 0, 1) := by decide +kernel
theorem dX11_one_17 : decode cX11_one 17 = .ok (.invokevirtual 202, 3) := by decide +kernel
theorem dX11_one_20 : decode cX11_one 20 = .ok (.iconst 1, 1) := by decide +kernel
theorem dX11_one_21 : decode cX11_one 21 = .ok (.ireturn, 1) := by decide +kernel
theorem dX11_one_22 : decode cX11_one 22 = .ok (.aload_n 0, 1) := by decide +kernel
theorem dX11_one_23 : decode cX11_one 23 = .ok (.invokevirtual 230, 3) := by decide +kernel
theorem dX11_one_26 : decode cX11_one 26 = .ok (.istore_n 1, 1) := by decide +kernel
theorem dX11_one_27 : decode cX11_one 27 = .ok (.iload_n 1, 1) := by decide +kernel
theorem dX11_one_28 : decode cX11_one 28 = .ok (.ifCond .le 15, 3) := by decide +kernel
theorem dX11_one_31 : decode cX11_one 31 = .ok (.aload_n 0, 1) := by decide +kernel
theorem dX11_one_32 : decode cX11_one 32 = .ok (.iload_n 1, 1) := by decide +kernel
theorem dX11_one_33 : decode cX11_one 33 = .ok (.ineg, 1) := by decide +kernel
theorem dX11_one_34 : decode cX11_one 34 = .ok (.invokevirtual 205, 3) := by decide +kernel
theorem dX11_one_37 : decode cX11_one 37 = .ok (.aload_n 0, 1) := by decide +kernel
theorem dX11_one_38 : decode cX11_one 38 = .ok (.invokevirtual 202, 3) := by decide +kernel
theorem dX11_one_41 : decode cX11_one 41 = .ok (.iconst 1, 1) := by decide +kernel
theorem dX11_one_42 : decode cX11_one 42 = .ok (.ireturn, 1) := by decide +kernel
theorem dX11_one_43 : decode cX11_one 43 = .ok (.aload_n 0, 1) := by decide +kernel
theorem dX11_one_44 : decode cX11_one 44 = .ok (.bipush 45, 2) := by decide +kernel
theorem dX11_one_46 : decode cX11_one 46 = .ok (.invokevirtual 221, 3) := by decide +kernel
theorem dX11_one_49 : decode cX11_one 49 = .ok (.ifCond .eq 54, 3) := by decide +kernel
theorem dX11_one_52 : decode cX11_one 52 = .ok (.aload_n 0, 1) := by decide +kernel
theorem dX11_one_53 : decode cX11_one 53 = .ok (.getfield 215, 3) := by decide +kernel
theorem dX11_one_56 : decode cX11_one 56 = .ok (.iconst 5, 1) := by decide +kernel
theorem dX11_one_57 : decode cX11_one 57 = .ok (.if_icmp .ne 5, 3) := by decide +kernel
theorem dX11_one_60 : decode cX11_one 60 = .ok (.iconst 0, 1) := by decide +kernel
theorem dX11_one_61 : decode cX11_one 61 = .ok (.ireturn, 1) := by decide +kernel
theorem dX11_one_62 : decode cX11_one 62 = .ok (.aload_n 0, 1) := by decide +kernel
theorem dX11_one_63 : decode cX11_one 63 = .ok (.dup, 1) := by decide +kernel
theorem dX11_one_64 : decode cX11_one 64 = .ok (.getfield 215, 3) := by decide +kernel
theorem dX11_one_67 : decode cX11_one 67 = .ok (.iconst 1, 1) := by decide +kernel
theorem dX11_one_68 : decode cX11_one 68 = .ok (.iadd, 1) := by decide +kernel
theorem dX11_one_69 : decode cX11_one 69 = .ok (.putfield 215, 3) := by decide +kernel
theorem dX11_one_72 : decode cX11_one 72 = .ok (.aload_n 0, 1) := by decide +kernel
theorem dX11_one_73 : decode cX11_one 73 = .ok (.invokevirtual 202, 3) := by decide +kernel
theorem dX11_one_76 : decode cX11_one 76 = .ok (.aload_n 0, 1) := by decide +kernel
theorem dX11_one_77 : decode cX11_one 77 = .ok (.invokevirtual 227, 3) := by decide +kernel
theorem dX11_one_80 : decode cX11_one 80 = .ok (.ifCond .ne 5, 3) := by decide +kernel
theorem dX11_one_83 : decode cX11_one 83 = .ok (.iconst 0, 1) := by decide +kernel
theorem dX11_one_84 : decode cX11_one 84 = .ok (.ireturn, 1) := by decide +kernel
theorem dX11_one_85 : decode cX11_one 85 = .ok (.aload_n 0, 1) := by decide +kernel
theorem dX11_one_86 : decode cX11_one 86 = .ok (.dup, 1) := by decide +kernel
theorem dX11_one_87 : decode cX11_one 87 = .ok (.getfield 215, 3) := by decide +kernel
theorem dX11_one_90 : decode cX11_one 90 = .ok (.iconst 1, 1) := by decide +kernel
theorem dX11_one_91 : decode cX11_one 91 = .ok (.isub, 1) := by decide +kernel
theorem dX11_one_92 : decode cX11_one 92 = .ok (.putfield 215, 3) := by decide +kernel
theorem dX11_one_95 : decode cX11_one 95 = .ok (.aload_n 0, 1) := by decide +kernel
theorem dX11_one_96 : decode cX11_one 96 = .ok (.bipush (-19), 2) := by decide +kernel
theorem dX11_one_98 : decode cX11_one 98 = .ok (.invokevirtual 205, 3) := by decide +kernel
theorem dX11_one_101 : decode cX11_one 101 = .ok (.iconst 1, 1) := by decide +kernel
theorem dX11_one_102 : decode cX11_one 102 = .ok (.ireturn, 1) := by decide +kernel
theorem dX11_one_103 : decode cX11_one 103 = .ok (.aload_n 0, 1) := by decide +kernel
theorem dX11_one_104 : decode cX11_one 104 = .ok (.bipush 40, 2) := by decide +kernel
theorem dX11_one_106 : decode cX11_one 106 = .ok (.invokevirtual 221, 3) := by decide +kernel
theorem dX11_one_109 : decode cX11_one 109 = .ok (.ifCond .eq 11, 3) := by decide +kernel
theorem dX11_one_112 : decode cX11_one 112 = .ok (.aload_n 0, 1) := by decide +kernel
theorem dX11_one_113 : decode cX11_one 113 = .ok (.getfield 215, 3) := by decide +kernel
theorem dX11_one_116 : decode cX11_one 116 = .ok (.iconst 5, 1) := by decide +kernel
theorem dX11_one_117 : decode cX11_one 117 = .ok (.if_icmp .ne 5, 3) := by decide +kernel
theorem dX11_one_120 : decode cX11_one 120 = .ok (.iconst 0, 1) := by decide +kernel
theorem dX11_one_121 : decode cX11_one 121 = .ok (.ireturn, 1) := by decide +kernel
theorem dX11_one_122 : decode cX11_one 122 = .ok (.aload_n 0, 1) := by decide +kernel
theorem dX11_one_123 : decode cX11_one 123 = .ok (.dup, 1) := by decide +kernel
theorem dX11_one_124 : decode cX11_one 124 = .ok (.getfield 215, 3) := by decide +kernel
theorem dX11_one_127 : decode cX11_one 127 = .ok (.iconst 1, 1) := by decide +kernel
theorem dX11_one_128 : decode cX11_one 128 = .ok (.iadd, 1) := by decide +kernel
theorem dX11_one_129 : decode cX11_one 129 = .ok (.putfield 215, 3) := by decide +kernel
theorem dX11_one_132 : decode cX11_one 132 = .ok (.aload_n 0, 1) := by decide +kernel
theorem dX11_one_133 : decode cX11_one 133 = .ok (.invokevirtual 202, 3) := by decide +kernel
theorem dX11_one_136 : decode cX11_one 136 = .ok (.aload_n 0, 1) := by decide +kernel
theorem dX11_one_137 : decode cX11_one 137 = .ok (.invokevirtual 233, 3) := by decide +kernel
theorem dX11_one_140 : decode cX11_one 140 = .ok (.ifCond .eq 12, 3) := by decide +kernel
theorem dX11_one_143 : decode cX11_one 143 = .ok (.aload_n 0, 1) := by decide +kernel
theorem dX11_one_144 : decode cX11_one 144 = .ok (.bipush 41, 2) := by decide +kernel
theorem dX11_one_146 : decode cX11_one 146 = .ok (.invokevirtual 221, 3) := by decide +kernel
theorem dX11_one_149 : decode cX11_one 149 = .ok (.ifCond .ne 5, 3) := by decide +kernel
theorem dX11_one_152 : decode cX11_one 152 = .ok (.iconst 0, 1) := by decide +kernel
theorem dX11_one_153 : decode cX11_one 153 = .ok (.ireturn, 1) := by decide +kernel
theorem dX11_one_154 : decode cX11_one 154 = .ok (.aload_n 0, 1) := by decide +kernel
theorem dX11_one_155 : decode cX11_one 155 = .ok (.dup, 1) := by decide +kernel
theorem dX11_one_156 : decode cX11_one 156 = .ok (.getfield 215, 3) := by decide +kernel
theorem dX11_one_159 : decode cX11_one 159 = .ok (.iconst 1, 1) := by decide +kernel
theorem dX11_one_160 : decode cX11_one 160 = .ok (.isub, 1) := by decide +kernel
theorem dX11_one_161 : decode cX11_one 161 = .ok (.putfield 215, 3) := by decide +kernel
theorem dX11_one_164 : decode cX11_one 164 = .ok (.aload_n 0, 1) := by decide +kernel
theorem dX11_one_165 : decode cX11_one 165 = .ok (.invokevirtual 202, 3) := by decide +kernel
theorem dX11_one_168 : decode cX11_one 168 = .ok (.iconst 1, 1) := by decide +kernel
theorem dX11_one_169 : decode cX11_one 169 = .ok (.ireturn, 1) := by decide +kernel
theorem dX11_part_0 : decode cX11_part 0 = .ok (.aload_n 0, 1) := by decide +kernel
theorem dX11_part_1 : decode cX11_part 1 = .ok (.aload_n 1, 1) := by decide +kernel
theorem dX11_part_2 : decode cX11_part 2 = .ok (.invokevirtual 178, 3) := by decide +kernel
theorem dX11_part_5 : decode cX11_part 5 = .ok (.ifCond .ne 5, 3) := by decide +kernel
theorem dX11_part_8 : decode cX11_part 8 = .ok (.iconst 0, 1) := by decide +kernel
theorem dX11_part_9 : decode cX11_part 9 = .ok (.ireturn, 1) := by decide +kernel
theorem dX11_part_10 : decode cX11_part 10 = .ok (.aload_n 0, 1) := by decide +kernel
theorem dX11_part_11 : decode cX11_part 11 = .ok (.invokevirtual 202, 3) := by decide +kernel
theorem dX11_part_14 : decode cX11_part 14 = .ok (.aload_n 0, 1) := by decide +kernel
theorem dX11_part_15 : decode cX11_part 15 = .ok (.getfield 37, 3) := by decide +kernel
theorem dX11_part_18 : decode cX11_part 18 = .ok (.iconst 4, 1) := by decide +kernel
theorem dX11_part_19 : decode cX11_part 19 = .ok (.aload_n 0, 1) := by decide +kernel
theorem dX11_part_20 : decode cX11_part 20 = .ok (.getfield 190, 3) := by decide +kernel
theorem dX11_part_23 : decode cX11_part 23 = .ok (.imul, 1) := by decide +kernel
theorem dX11_part_24 : decode cX11_part 24 = .ok (.iload_n 2, 1) := by decide +kernel
theorem dX11_part_25 : decode cX11_part 25 = .ok (.iadd, 1) := by decide +kernel
theorem dX11_part_26 : decode cX11_part 26 = .ok (.aload_n 0, 1) := by decide +kernel
theorem dX11_part_27 : decode cX11_part 27 = .ok (.getfield 193, 3) := by decide +kernel
theorem dX11_part_30 : decode cX11_part 30 = .ok (.iastore, 1) := by decide +kernel
theorem dX11_part_31 : decode cX11_part 31 = .ok (.aload_n 0, 1) := by decide +kernel
theorem dX11_part_32 : decode cX11_part 32 = .ok (.invokevirtual 233, 3) := by decide +kernel
theorem dX11_part_35 : decode cX11_part 35 = .ok (.ifCond .eq 12, 3) := by decide +kernel
theorem dX11_part_38 : decode cX11_part 38 = .ok (.aload_n 0, 1) := by decide +kernel
theorem dX11_part_39 : decode cX11_part 39 = .ok (.bipush 59, 2) := by decide +kernel
theorem dX11_part_41 : decode cX11_part 41 = .ok (.invokevirtual 221, 3) := by decide +kernel
theorem dX11_part_44 : decode cX11_part 44 = .ok (.ifCond .ne 5, 3) := by decide +kernel
theorem dX11_part_47 : decode cX11_part 47 = .ok (.iconst 0, 1) := by decide +kernel
theorem dX11_part_48 : decode cX11_part 48 = .ok (.ireturn, 1) := by decide +kernel
theorem dX11_part_49 : decode cX11_part 49 = .ok (.aload_n 0, 1) := by decide +kernel
theorem dX11_part_50 : decode cX11_part 50 = .ok (.invokevirtual 202, 3) := by decide +kernel
theorem dX11_part_53 : decode cX11_part 53 = .ok (.iconst 1, 1) := by decide +kernel
theorem dX11_part_54 : decode cX11_part 54 = .ok (.ireturn, 1) := by decide +kernel
theorem dX11_text_0 : decode cX11_text 0 = .ok (.aload_n 0, 1) := by decide +kernel
theorem dX11_text_1 : decode cX11_text 1 = .ok (.getfield 190, 3) := by decide +kernel
theorem dX11_text_4 : decode cX11_text 4 = .ok (.bipush 6, 2) := by decide +kernel
theorem dX11_text_6 : decode cX11_text 6 = .ok (.if_icmp .ne 6, 3) := by decide +kernel
theorem dX11_text_9 : decode cX11_text 9 = .ok (.bipush (-4), 2) := by decide +kernel
theorem dX11_text_11 : decode cX11_text 11 = .ok (.ireturn, 1) := by decide +kernel
theorem dX11_text_12 : decode cX11_text 12 = .ok (.aload_n 0, 1) := by decide +kernel
theorem dX11_text_13 : decode cX11_text 13 = .ok (.iconst 0, 1) := by decide +kernel
theorem dX11_text_14 : decode cX11_text 14 = .ok (.putfield 159, 3) := by decide +kernel
theorem dX11_text_17 : decode cX11_text 17 = .ok (.aload_n 0, 1) := by decide +kernel
theorem dX11_text_18 : decode cX11_text 18 = .ok (.iconst 0, 1) := by decide +kernel
theorem dX11_text_19 : decode cX11_text 19 = .ok (.putfield 215, 3) := by decide +kernel
theorem dX11_text_22 : decode cX11_text 22 = .ok (.aload_n 0, 1) := by decide +kernel
theorem dX11_text_23 : decode cX11_text 23 = .ok (.iconst 0, 1) := by decide +kernel
theorem dX11_text_24 : decode cX11_text 24 = .ok (.putfield 193, 3) := by decide +kernel
theorem dX11_text_27 : decode cX11_text 27 = .ok (.aload_n 0, 1) := by decide +kernel
theorem dX11_text_28 : decode cX11_text 28 = .ok (.invokevirtual 202, 3) := by decide +kernel
theorem dX11_text_31 : decode cX11_text 31 = .ok (.aload_n 0, 1) := by decide +kernel
theorem dX11_text_32 : decode cX11_text 32 = .ok (.ldc 236, 2) := by decide +kernel
theorem dX11_text_34 : decode cX11_text 34 = .ok (.iconst 0, 1) := by decide +kernel
theorem dX11_text_35 : decode cX11_text 35 = .ok (.invokevirtual 238, 3) := by decide +kernel
theorem dX11_text_38 : decode cX11_text 38 = .ok (.ifCond .eq 34, 3) := by decide +kernel
theorem dX11_text_41 : decode cX11_text 41 = .ok (.aload_n 0, 1) := by decide +kernel
theorem dX11_text_42 : decode cX11_text 42 = .ok (.ldc 242, 2) := by decide +kernel
theorem dX11_text_44 : decode cX11_text 44 = .ok (.iconst 1, 1) := by decide +kernel
theorem dX11_text_45 : decode cX11_text 45 = .ok (.invokevirtual 238, 3) := by decide +kernel
theorem dX11_text_48 : decode cX11_text 48 = .ok (.ifCond .eq 24, 3) := by decide +kernel
theorem dX11_text_51 : decode cX11_text 51 = .ok (.aload_n 0, 1) := by decide +kernel
theorem dX11_text_52 : decode cX11_text 52 = .ok (.ldc 244, 2) := by decide +kernel
theorem dX11_text_54 : decode cX11_text 54 = .ok (.iconst 2, 1) := by decide +kernel
theorem dX11_text_55 : decode cX11_text 55 = .ok (.invokevirtual 238, 3) := by decide +kernel
theorem dX11_text_58 : decode cX11_text 58 = .ok (.ifCond .eq 14, 3) := by decide +kernel
theorem dX11_text_61 : decode cX11_text 61 = .ok (.aload_n 0, 1) := by decide +kernel
theorem dX11_text_62 : decode cX11_text 62 = .ok (.getfield 165, 3) := by decide +kernel
theorem dX11_text_65 : decode cX11_text 65 = .ok (.ifCond .ne 7, 3) := by decide +kernel
theorem dX11_text_68 : decode cX11_text 68 = .ok (.iconst 1, 1) := by decide +kernel
theorem dX11_text_69 : decode cX11_text 69 = .ok (.goto 4, 3) := by decide +kernel
theorem dX11_text_72 : decode cX11_text 72 = .ok (.iconst 0, 1) := by decide +kernel
theorem dX11_text_73 : decode cX11_text 73 = .ok (.istore_n 1, 1) := by decide +kernel
theorem dX11_text_74 : decode cX11_text 74 = .ok (.aload_n 0, 1) := by decide +kernel
theorem dX11_text_75 : decode cX11_text 75 = .ok (.iconst 0, 1) := by decide +kernel
theorem dX11_text_76 : decode cX11_text 76 = .ok (.putfield 156, 3) := by decide +kernel
theorem dX11_text_79 : decode cX11_text 79 = .ok (.iload_n 1, 1) := by decide +kernel
theorem dX11_text_80 : decode cX11_text 80 = .ok (.ifCond .ne 11, 3) := by decide +kernel
theorem dX11_text_83 : decode cX11_text 83 = .ok (.bipush (-100), 2) := by decide +kernel
theorem dX11_text_85 : decode cX11_text 85 = .ok (.aload_n 0, 1) := by decide +kernel
theorem dX11_text_86 : decode cX11_text 86 = .ok (.getfield 162, 3) := by decide +kernel
theorem dX11_text_89 : decode cX11_text 89 = .ok (.isub, 1) := by decide +kernel
theorem dX11_text_90 : decode cX11_text 90 = .ok (.ireturn, 1) := by decide +kernel
theorem dX11_text_91 : decode cX11_text 91 = .ok (.aload_n 0, 1) := by decide +kernel
theorem dX11_text_92 : decode cX11_text 92 = .ok (.getfield 37, 3) := by decide +kernel
theorem dX11_text_95 : decode cX11_text 95 = .ok (.iconst 4, 1) := by decide +kernel
theorem dX11_text_96 : decode cX11_text 96 = .ok (.aload_n 0, 1) := by decide +kernel
theorem dX11_text_97 : decode cX11_text 97 = .ok (.getfield 190, 3) := by decide +kernel
theorem dX11_text_100 : decode cX11_text 100 = .ok (.imul, 1) := by decide +kernel
theorem dX11_text_101 : decode cX11_text 101 = .ok (.iconst 3, 1) := by decide +kernel
theorem dX11_text_102 : decode cX11_text 102 = .ok (.iadd, 1) := by decide +kernel
theorem dX11_text_103 : decode cX11_text 103 = .ok (.aload_n 0, 1) := by decide +kernel
theorem dX11_text_104 : decode cX11_text 104 = .ok (.getfield 193, 3) := by decide +kernel
theorem dX11_text_107 : decode cX11_text 107 = .ok (.iastore, 1) := by decide +kernel
theorem dX11_text_108 : decode cX11_text 108 = .ok (.aload_n 0, 1) := by decide +kernel
theorem dX11_text_109 : decode cX11_text 109 = .ok (.dup, 1) := by decide +kernel
theorem dX11_text_110 : decode cX11_text 110 = .ok (.getfield 190, 3) := by decide +kernel
theorem dX11_text_113 : decode cX11_text 113 = .ok (.dup_x1, 1) := by decide +kernel
theorem dX11_text_114 : decode cX11_text 114 = .ok (.iconst 1, 1) := by decide +kernel
theorem dX11_text_115 : decode cX11_text 115 = .ok (.iadd, 1) := by decide +kernel
theorem dX11_text_116 : decode cX11_text 116 = .ok (.putfield 190, 3) := by decide +kernel
theorem dX11_text_119 : decode cX11_text 119 = .ok (.ireturn, 1) := by decide +kernel
theorem dX11_force_0 : decode cX11_force 0 = .ok (.iload_n 1, 1) := by decide +kernel
theorem dX11_force_1 : decode cX11_force 1 = .ok (.iconst 0, 1) := by decide +kernel
theorem dX11_force_2 : decode cX11_force 2 = .ok (.aload_n 0, 1) := by decide +kernel
theorem dX11_force_3 : decode cX11_force 3 = .ok (.getfield 190, 3) := by decide +kernel
theorem dX11_force_6 : decode cX11_force 6 = .ok (.iconst 1, 1) := by decide +kernel
theorem dX11_force_7 : decode cX11_force 7 = .ok (.isub, 1) := by decide +kernel
theorem dX11_force_8 : decode cX11_force 8 = .ok (.invokestatic 102, 3) := by decide +kernel
theorem dX11_force_11 : decode cX11_force 11 = .ok (.ifCond .ne 6, 3) := by decide +kernel
theorem dX11_force_14 : decode cX11_force 14 = .ok (.bipush (-2), 2) := by decide +kernel
theorem dX11_force_16 : decode cX11_force 16 = .ok (.ireturn, 1) := by decide +kernel
theorem dX11_force_17 : decode cX11_force 17 = .ok (.aload_n 0, 1) := by decide +kernel
theorem dX11_force_18 : decode cX11_force 18 = .ok (.getfield 129, 3) := by decide +kernel
theorem dX11_force_21 : decode cX11_force 21 = .ok (.istore_n 2, 1) := by decide +kernel
theorem dX11_force_22 : decode cX11_force 22 = .ok (.aload_n 0, 1) := by decide +kernel
theorem dX11_force_23 : decode cX11_force 23 = .ok (.iload_n 1, 1) := by decide +kernel
theorem dX11_force_24 : decode cX11_force 24 = .ok (.putfield 129, 3) := by decide +kernel
theorem dX11_force_27 : decode cX11_force 27 = .ok (.iload_n 2, 1) := by decide +kernel
theorem dX11_force_28 : decode cX11_force 28 = .ok (.ireturn, 1) := by decide +kernel
theorem dX11_call_0 : decode cX11_call 0 = .ok (.aload_n 0, 1) := by decide +kernel
theorem dX11_call_1 : decode cX11_call 1 = .ok (.iload_n 1, 1) := by decide +kernel
theorem dX11_call_2 : decode cX11_call 2 = .ok (.invokevirtual 112, 3) := by decide +kernel
theorem dX11_call_5 : decode cX11_call 5 = .ok (.ifCond .ne 6, 3) := by decide +kernel
theorem dX11_call_8 : decode cX11_call 8 = .ok (.bipush (-2), 2) := by decide +kernel
theorem dX11_call_10 : decode cX11_call 10 = .ok (.ireturn, 1) := by decide +kernel
theorem dX11_call_11 : decode cX11_call 11 = .ok (.aload_n 0, 1) := by decide +kernel
theorem dX11_call_12 : decode cX11_call 12 = .ok (.getfield 25, 3) := by decide +kernel
theorem dX11_call_15 : decode cX11_call 15 = .ok (.iload_n 1, 1) := by decide +kernel
theorem dX11_call_16 : decode cX11_call 16 = .ok (.iaload, 1) := by decide +kernel
theorem dX11_call_17 : decode cX11_call 17 = .ok (.ifCond .eq 6, 3) := by decide +kernel
theorem dX11_call_20 : decode cX11_call 20 = .ok (.bipush (-3), 2) := by decide +kernel
theorem dX11_call_22 : decode cX11_call 22 = .ok (.ireturn, 1) := by decide +kernel
theorem dX11_call_23 : decode cX11_call 23 = .ok (.aload_n 0, 1) := by decide +kernel
theorem dX11_call_24 : decode cX11_call 24 = .ok (.iload_n 1, 1) := by decide +kernel
theorem dX11_call_25 : decode cX11_call 25 = .ok (.invokevirtual 151, 3) := by decide +kernel
theorem dX11_call_28 : decode cX11_call 28 = .ok (.ifCond .ne 5, 3) := by decide +kernel
theorem dX11_call_31 : decode cX11_call 31 = .ok (.iconst 0, 1) := by decide +kernel
theorem dX11_call_32 : decode cX11_call 32 = .ok (.ireturn, 1) := by decide +kernel
theorem dX11_call_33 : decode cX11_call 33 = .ok (.aload_n 0, 1) := by decide +kernel
theorem dX11_call_34 : decode cX11_call 34 = .ok (.getfield 25, 3) := by decide +kernel
theorem dX11_call_37 : decode cX11_call 37 = .ok (.iload_n 1, 1) := by decide +kernel
theorem dX11_call_38 : decode cX11_call 38 = .ok (.iconst 1, 1) := by decide +kernel
theorem dX11_call_39 : decode cX11_call 39 = .ok (.iastore, 1) := by decide +kernel
theorem dX11_call_40 : decode cX11_call 40 = .ok (.aload_n 0, 1) := by decide +kernel
theorem dX11_call_41 : decode cX11_call 41 = .ok (.getfield 28, 3) := by decide +kernel
theorem dX11_call_44 : decode cX11_call 44 = .ok (.iload_n 1, 1) := by decide +kernel
theorem dX11_call_45 : decode cX11_call 45 = .ok (.aload_n 0, 1) := by decide +kernel
theorem dX11_call_46 : decode cX11_call 46 = .ok (.getfield 142, 3) := by decide +kernel
theorem dX11_call_49 : decode cX11_call 49 = .ok (.aload_n 0, 1) := by decide +kernel
theorem dX11_call_50 : decode cX11_call 50 = .ok (.iload_n 1, 1) := by decide +kernel
theorem dX11_call_51 : decode cX11_call 51 = .ok (.invokevirtual 246, 3) := by decide +kernel
theorem dX11_call_54 : decode cX11_call 54 = .ok (.iadd, 1) := by decide +kernel
theorem dX11_call_55 : decode cX11_call 55 = .ok (.iastore, 1) := by decide +kernel
theorem dX11_call_56 : decode cX11_call 56 = .ok (.iconst 1, 1) := by decide +kernel
theorem dX11_call_57 : decode cX11_call 57 = .ok (.ireturn, 1) := by decide +kernel
theorem dX11_comesIn_0 : decode cX11_comesIn 0 = .ok (.aload_n 0, 1) := by decide +kernel
theorem dX11_comesIn_1 : decode cX11_comesIn 1 = .ok (.getfield 25, 3) := by decide +kernel
theorem dX11_comesIn_4 : decode cX11_comesIn 4 = .ok (.iload_n 1, 1) := by decide +kernel
theorem dX11_comesIn_5 : decode cX11_comesIn 5 = .ok (.iconst 2, 1) := by decide +kernel
theorem dX11_comesIn_6 : decode cX11_comesIn 6 = .ok (.iastore, 1) := by decide +kernel
theorem dX11_comesIn_7 : decode cX11_comesIn 7 = .ok (.aload_n 0, 1) := by decide +kernel
theorem dX11_comesIn_8 : decode cX11_comesIn 8 = .ok (.getfield 28, 3) := by decide +kernel
theorem dX11_comesIn_11 : decode cX11_comesIn 11 = .ok (.iload_n 1, 1) := by decide +kernel
theorem dX11_comesIn_12 : decode cX11_comesIn 12 = .ok (.iload_n 2, 1) := by decide +kernel
theorem dX11_comesIn_13 : decode cX11_comesIn 13 = .ok (.iastore, 1) := by decide +kernel
theorem dX11_comesIn_14 : decode cX11_comesIn 14 = .ok (.aload_n 0, 1) := by decide +kernel
theorem dX11_comesIn_15 : decode cX11_comesIn 15 = .ok (.dup, 1) := by decide +kernel
theorem dX11_comesIn_16 : decode cX11_comesIn 16 = .ok (.getfield 249, 3) := by decide +kernel
theorem dX11_comesIn_19 : decode cX11_comesIn 19 = .ok (.aload_n 0, 1) := by decide +kernel
theorem dX11_comesIn_20 : decode cX11_comesIn 20 = .ok (.iload_n 1, 1) := by decide +kernel
theorem dX11_comesIn_21 : decode cX11_comesIn 21 = .ok (.iload_n 2, 1) := by decide +kernel
theorem dX11_comesIn_22 : decode cX11_comesIn 22 = .ok (.invokevirtual 153, 3) := by decide +kernel
theorem dX11_comesIn_25 : decode cX11_comesIn 25 = .ok (.iadd, 1) := by decide +kernel
theorem dX11_comesIn_26 : decode cX11_comesIn 26 = .ok (.putfield 249, 3) := by decide +kernel
theorem dX11_comesIn_29 : decode cX11_comesIn 29 = .ok (.aload_n 0, 1) := by decide +kernel
theorem dX11_comesIn_30 : decode cX11_comesIn 30 = .ok (.iconst 0, 1) := by decide +kernel
theorem dX11_comesIn_31 : decode cX11_comesIn 31 = .ok (.aload_n 0, 1) := by decide +kernel
theorem dX11_comesIn_32 : decode cX11_comesIn 32 = .ok (.getfield 119, 3) := by decide +kernel
theorem dX11_comesIn_35 : decode cX11_comesIn 35 = .ok (.iconst 1, 1) := by decide +kernel
theorem dX11_comesIn_36 : decode cX11_comesIn 36 = .ok (.isub, 1) := by decide +kernel
theorem dX11_comesIn_37 : decode cX11_comesIn 37 = .ok (.invokestatic 122, 3) := by decide +kernel
theorem dX11_comesIn_40 : decode cX11_comesIn 40 = .ok (.putfield 119, 3) := by decide +kernel
theorem dX11_comesIn_43 : decode cX11_comesIn 43 = .ok (.return_, 1) := by decide +kernel
theorem dX11_passes_0 : decode cX11_passes 0 = .ok (.aload_n 0, 1) := by decide +kernel
theorem dX11_passes_1 : decode cX11_passes 1 = .ok (.sipush 9999, 3) := by decide +kernel
theorem dX11_passes_4 : decode cX11_passes 4 = .ok (.aload_n 0, 1) := by decide +kernel
theorem dX11_passes_5 : decode cX11_passes 5 = .ok (.getfield 142, 3) := by decide +kernel
theorem dX11_passes_8 : decode cX11_passes 8 = .ok (.iload_n 1, 1) := by decide +kernel
theorem dX11_passes_9 : decode cX11_passes 9 = .ok (.iadd, 1) := by decide +kernel
theorem dX11_passes_10 : decode cX11_passes 10 = .ok (.invokestatic 136, 3) := by decide +kernel
theorem dX11_passes_13 : decode cX11_passes 13 = .ok (.putfield 142, 3) := by decide +kernel
theorem dX11_passes_16 : decode cX11_passes 16 = .ok (.iconst 0, 1) := by decide +kernel
theorem dX11_passes_17 : decode cX11_passes 17 = .ok (.istore_n 2, 1) := by decide +kernel
theorem dX11_passes_18 : decode cX11_passes 18 = .ok (.iconst 0, 1) := by decide +kernel
theorem dX11_passes_19 : decode cX11_passes 19 = .ok (.istore_n 3, 1) := by decide +kernel
theorem dX11_passes_20 : decode cX11_passes 20 = .ok (.iload_n 3, 1) := by decide +kernel
theorem dX11_passes_21 : decode cX11_passes 21 = .ok (.aload_n 0, 1) := by decide +kernel
theorem dX11_passes_22 : decode cX11_passes 22 = .ok (.getfield 99, 3) := by decide +kernel
theorem dX11_passes_25 : decode cX11_passes 25 = .ok (.if_icmp .ge 49, 3) := by decide +kernel
theorem dX11_passes_28 : decode cX11_passes 28 = .ok (.aload_n 0, 1) := by decide +kernel
theorem dX11_passes_29 : decode cX11_passes 29 = .ok (.getfield 25, 3) := by decide +kernel
theorem dX11_passes_32 : decode cX11_passes 32 = .ok (.iload_n 3, 1) := by decide +kernel
theorem dX11_passes_33 : decode cX11_passes 33 = .ok (.iaload, 1) := by decide +kernel
theorem dX11_passes_34 : decode cX11_passes 34 = .ok (.iconst 1, 1) := by decide +kernel
theorem dX11_passes_35 : decode cX11_passes 35 = .ok (.if_icmp .ne 33, 3) := by decide +kernel
theorem dX11_passes_38 : decode cX11_passes 38 = .ok (.aload_n 0, 1) := by decide +kernel
theorem dX11_passes_39 : decode cX11_passes 39 = .ok (.getfield 28, 3) := by decide +kernel
theorem dX11_passes_42 : decode cX11_passes 42 = .ok (.iload_n 3, 1) := by decide +kernel
theorem dX11_passes_43 : decode cX11_passes 43 = .ok (.iaload, 1) := by decide +kernel
theorem dX11_passes_44 : decode cX11_passes 44 = .ok (.aload_n 0, 1) := by decide +kernel
theorem dX11_passes_45 : decode cX11_passes 45 = .ok (.getfield 142, 3) := by decide +kernel
theorem dX11_passes_48 : decode cX11_passes 48 = .ok (.if_icmp .le 6, 3) := by decide +kernel
theorem dX11_passes_51 : decode cX11_passes 51 = .ok (.goto 17, 3) := by decide +kernel
theorem dX11_passes_54 : decode cX11_passes 54 = .ok (.aload_n 0, 1) := by decide +kernel
theorem dX11_passes_55 : decode cX11_passes 55 = .ok (.iload_n 3, 1) := by decide +kernel
theorem dX11_passes_56 : decode cX11_passes 56 = .ok (.aload_n 0, 1) := by decide +kernel
theorem dX11_passes_57 : decode cX11_passes 57 = .ok (.getfield 28, 3) := by decide +kernel
theorem dX11_passes_60 : decode cX11_passes 60 = .ok (.iload_n 3, 1) := by decide +kernel
theorem dX11_passes_61 : decode cX11_passes 61 = .ok (.iaload, 1) := by decide +kernel
theorem dX11_passes_62 : decode cX11_passes 62 = .ok (.invokevirtual 252, 3) := by decide +kernel
theorem dX11_passes_65 : decode cX11_passes 65 = .ok (.iinc 2 1, 3) := by decide +kernel
theorem dX11_passes_68 : decode cX11_passes 68 = .ok (.iinc 3 1, 3) := by decide +kernel
theorem dX11_passes_71 : decode cX11_passes 71 = .ok (.goto (-51), 3) := by decide +kernel
theorem dX11_passes_74 : decode cX11_passes 74 = .ok (.iload_n 2, 1) := by decide +kernel
theorem dX11_passes_75 : decode cX11_passes 75 = .ok (.ireturn, 1) := by decide +kernel
theorem dX11_time_0 : decode cX11_time 0 = .ok (.iload_n 1, 1) := by decide +kernel
theorem dX11_time_1 : decode cX11_time 1 = .ok (.iconst 0, 1) := by decide +kernel
theorem dX11_time_2 : decode cX11_time 2 = .ok (.sipush 240, 3) := by decide +kernel
theorem dX11_time_5 : decode cX11_time 5 = .ok (.invokestatic 102, 3) := by decide +kernel
theorem dX11_time_8 : decode cX11_time 8 = .ok (.ifCond .eq 11, 3) := by decide +kernel
theorem dX11_time_11 : decode cX11_time 11 = .ok (.aload_n 0, 1) := by decide +kernel
theorem dX11_time_12 : decode cX11_time 12 = .ok (.iload_n 1, 1) := by decide +kernel
theorem dX11_time_13 : decode cX11_time 13 = .ok (.invokevirtual 256, 3) := by decide +kernel
theorem dX11_time_16 : decode cX11_time 16 = .ok (.goto 5, 3) := by decide +kernel
theorem dX11_time_19 : decode cX11_time 19 = .ok (.bipush (-2), 2) := by decide +kernel
theorem dX11_time_21 : decode cX11_time 21 = .ok (.ireturn, 1) := by decide +kernel
theorem dX11_nobody_0 : decode cX11_nobody 0 = .ok (.iconst 0, 1) := by decide +kernel
theorem dX11_nobody_1 : decode cX11_nobody 1 = .ok (.istore_n 1, 1) := by decide +kernel
theorem dX11_nobody_2 : decode cX11_nobody 2 = .ok (.iconst 0, 1) := by decide +kernel
theorem dX11_nobody_3 : decode cX11_nobody 3 = .ok (.istore_n 2, 1) := by decide +kernel
theorem dX11_nobody_4 : decode cX11_nobody 4 = .ok (.iload_n 2, 1) := by decide +kernel
theorem dX11_nobody_5 : decode cX11_nobody 5 = .ok (.aload_n 0, 1) := by decide +kernel
theorem dX11_nobody_6 : decode cX11_nobody 6 = .ok (.getfield 99, 3) := by decide +kernel
theorem dX11_nobody_9 : decode cX11_nobody 9 = .ok (.if_icmp .ge 32, 3) := by decide +kernel
theorem dX11_nobody_12 : decode cX11_nobody 12 = .ok (.aload_n 0, 1) := by decide +kernel
theorem dX11_nobody_13 : decode cX11_nobody 13 = .ok (.getfield 25, 3) := by decide +kernel
theorem dX11_nobody_16 : decode cX11_nobody 16 = .ok (.iload_n 2, 1) := by decide +kernel
theorem dX11_nobody_17 : decode cX11_nobody 17 = .ok (.iaload, 1) := by decide +kernel
theorem dX11_nobody_18 : decode cX11_nobody 18 = .ok (.ifCond .ne 17, 3) := by decide +kernel
theorem dX11_nobody_21 : decode cX11_nobody 21 = .ok (.aload_n 0, 1) := by decide +kernel
theorem dX11_nobody_22 : decode cX11_nobody 22 = .ok (.iload_n 2, 1) := by decide +kernel
theorem dX11_nobody_23 : decode cX11_nobody 23 = .ok (.invokevirtual 151, 3) := by decide +kernel
theorem dX11_nobody_26 : decode cX11_nobody 26 = .ok (.ifCond .ne 9, 3) := by decide +kernel
theorem dX11_nobody_29 : decode cX11_nobody 29 = .ok (.iload_n 1, 1) := by decide +kernel
theorem dX11_nobody_30 : decode cX11_nobody 30 = .ok (.iconst 1, 1) := by decide +kernel
theorem dX11_nobody_31 : decode cX11_nobody 31 = .ok (.iload_n 2, 1) := by decide +kernel
theorem dX11_nobody_32 : decode cX11_nobody 32 = .ok (.ishl, 1) := by decide +kernel
theorem dX11_nobody_33 : decode cX11_nobody 33 = .ok (.ior, 1) := by decide +kernel
theorem dX11_nobody_34 : decode cX11_nobody 34 = .ok (.istore_n 1, 1) := by decide +kernel
theorem dX11_nobody_35 : decode cX11_nobody 35 = .ok (.iinc 2 1, 3) := by decide +kernel
theorem dX11_nobody_38 : decode cX11_nobody 38 = .ok (.goto (-34), 3) := by decide +kernel
theorem dX11_nobody_41 : decode cX11_nobody 41 = .ok (.iload_n 1, 1) := by decide +kernel
theorem dX11_nobody_42 : decode cX11_nobody 42 = .ok (.ireturn, 1) := by decide +kernel
theorem dX11_callAt_0 : decode cX11_callAt 0 = .ok (.aload_n 0, 1) := by decide +kernel
theorem dX11_callAt_1 : decode cX11_callAt 1 = .ok (.iload_n 1, 1) := by decide +kernel
theorem dX11_callAt_2 : decode cX11_callAt 2 = .ok (.invokevirtual 112, 3) := by decide +kernel
theorem dX11_callAt_5 : decode cX11_callAt 5 = .ok (.ifCond .ne 6, 3) := by decide +kernel
theorem dX11_callAt_8 : decode cX11_callAt 8 = .ok (.bipush (-2), 2) := by decide +kernel
theorem dX11_callAt_10 : decode cX11_callAt 10 = .ok (.ireturn, 1) := by decide +kernel
theorem dX11_callAt_11 : decode cX11_callAt 11 = .ok (.aload_n 0, 1) := by decide +kernel
theorem dX11_callAt_12 : decode cX11_callAt 12 = .ok (.getfield 25, 3) := by decide +kernel
theorem dX11_callAt_15 : decode cX11_callAt 15 = .ok (.iload_n 1, 1) := by decide +kernel
theorem dX11_callAt_16 : decode cX11_callAt 16 = .ok (.iaload, 1) := by decide +kernel
theorem dX11_callAt_17 : decode cX11_callAt 17 = .ok (.ifCond .eq 6, 3) := by decide +kernel
theorem dX11_callAt_20 : decode cX11_callAt 20 = .ok (.bipush (-3), 2) := by decide +kernel
theorem dX11_callAt_22 : decode cX11_callAt 22 = .ok (.ireturn, 1) := by decide +kernel
theorem dX11_callAt_23 : decode cX11_callAt 23 = .ok (.iconst 0, 1) := by decide +kernel
theorem dX11_callAt_24 : decode cX11_callAt 24 = .ok (.istore_n 2, 1) := by decide +kernel
theorem dX11_callAt_25 : decode cX11_callAt 25 = .ok (.iload_n 2, 1) := by decide +kernel
theorem dX11_callAt_26 : decode cX11_callAt 26 = .ok (.sipush 241, 3) := by decide +kernel
theorem dX11_callAt_29 : decode cX11_callAt 29 = .ok (.if_icmp .ge 59, 3) := by decide +kernel
theorem dX11_callAt_32 : decode cX11_callAt 32 = .ok (.aload_n 0, 1) := by decide +kernel
theorem dX11_callAt_33 : decode cX11_callAt 33 = .ok (.getfield 142, 3) := by decide +kernel
theorem dX11_callAt_36 : decode cX11_callAt 36 = .ok (.iload_n 2, 1) := by decide +kernel
theorem dX11_callAt_37 : decode cX11_callAt 37 = .ok (.iadd, 1) := by decide +kernel
theorem dX11_callAt_38 : decode cX11_callAt 38 = .ok (.aload_n 0, 1) := by decide +kernel
theorem dX11_callAt_39 : decode cX11_callAt 39 = .ok (.iload_n 1, 1) := by decide +kernel
theorem dX11_callAt_40 : decode cX11_callAt 40 = .ok (.invokevirtual 246, 3) := by decide +kernel
theorem dX11_callAt_43 : decode cX11_callAt 43 = .ok (.iadd, 1) := by decide +kernel
theorem dX11_callAt_44 : decode cX11_callAt 44 = .ok (.aload_n 0, 1) := by decide +kernel
theorem dX11_callAt_45 : decode cX11_callAt 45 = .ok (.getfield 19, 3) := by decide +kernel
theorem dX11_callAt_48 : decode cX11_callAt 48 = .ok (.iload_n 1, 1) := by decide +kernel
theorem dX11_callAt_49 : decode cX11_callAt 49 = .ok (.iaload, 1) := by decide +kernel
theorem dX11_callAt_50 : decode cX11_callAt 50 = .ok (.aload_n 0, 1) := by decide +kernel
theorem dX11_callAt_51 : decode cX11_callAt 51 = .ok (.getfield 22, 3) := by decide +kernel
theorem dX11_callAt_54 : decode cX11_callAt 54 = .ok (.iload_n 1, 1) := by decide +kernel
theorem dX11_callAt_55 : decode cX11_callAt 55 = .ok (.iaload, 1) := by decide +kernel
theorem dX11_callAt_56 : decode cX11_callAt 56 = .ok (.iadd, 1) := by decide +kernel
theorem dX11_callAt_57 : decode cX11_callAt 57 = .ok (.if_icmp .lt 25, 3) := by decide +kernel
theorem dX11_callAt_60 : decode cX11_callAt 60 = .ok (.aload_n 0, 1) := by decide +kernel
theorem dX11_callAt_61 : decode cX11_callAt 61 = .ok (.iload_n 1, 1) := by decide +kernel
theorem dX11_callAt_62 : decode cX11_callAt 62 = .ok (.aload_n 0, 1) := by decide +kernel
theorem dX11_callAt_63 : decode cX11_callAt 63 = .ok (.getfield 16, 3) := by decide +kernel
theorem dX11_callAt_66 : decode cX11_callAt 66 = .ok (.iload_n 1, 1) := by decide +kernel
theorem dX11_callAt_67 : decode cX11_callAt 67 = .ok (.iaload, 1) := by decide +kernel
theorem dX11_callAt_68 : decode cX11_callAt 68 = .ok (.aload_n 0, 1) := by decide +kernel
theorem dX11_callAt_69 : decode cX11_callAt 69 = .ok (.getfield 142, 3) := by decide +kernel
theorem dX11_callAt_72 : decode cX11_callAt 72 = .ok (.iload_n 2, 1) := by decide +kernel
theorem dX11_callAt_73 : decode cX11_callAt 73 = .ok (.iadd, 1) := by decide +kernel
theorem dX11_callAt_74 : decode cX11_callAt 74 = .ok (.invokevirtual 145, 3) := by decide +kernel
theorem dX11_callAt_77 : decode cX11_callAt 77 = .ok (.ifCond .eq 5, 3) := by decide +kernel
theorem dX11_callAt_80 : decode cX11_callAt 80 = .ok (.iload_n 2, 1) := by decide +kernel
theorem dX11_callAt_81 : decode cX11_callAt 81 = .ok (.ireturn, 1) := by decide +kernel
theorem dX11_callAt_82 : decode cX11_callAt 82 = .ok (.iinc 2 1, 3) := by decide +kernel
theorem dX11_callAt_85 : decode cX11_callAt 85 = .ok (.goto (-60), 3) := by decide +kernel
theorem dX11_callAt_88 : decode cX11_callAt 88 = .ok (.iconst (-1), 1) := by decide +kernel
theorem dX11_callAt_89 : decode cX11_callAt 89 = .ok (.ireturn, 1) := by decide +kernel
theorem dX11_wouldBeIn_0 : decode cX11_wouldBeIn 0 = .ok (.aload_n 0, 1) := by decide +kernel
theorem dX11_wouldBeIn_1 : decode cX11_wouldBeIn 1 = .ok (.getfield 25, 3) := by decide +kernel
theorem dX11_wouldBeIn_4 : decode cX11_wouldBeIn 4 = .ok (.iload_n 1, 1) := by decide +kernel
theorem dX11_wouldBeIn_5 : decode cX11_wouldBeIn 5 = .ok (.iaload, 1) := by decide +kernel
theorem dX11_wouldBeIn_6 : decode cX11_wouldBeIn 6 = .ok (.iconst 1, 1) := by decide +kernel
theorem dX11_wouldBeIn_7 : decode cX11_wouldBeIn 7 = .ok (.if_icmp .ne 10, 3) := by decide +kernel
theorem dX11_wouldBeIn_10 : decode cX11_wouldBeIn 10 = .ok (.aload_n 0, 1) := by decide +kernel
theorem dX11_wouldBeIn_11 : decode cX11_wouldBeIn 11 = .ok (.getfield 28, 3) := by decide +kernel
theorem dX11_wouldBeIn_14 : decode cX11_wouldBeIn 14 = .ok (.iload_n 1, 1) := by decide +kernel
theorem dX11_wouldBeIn_15 : decode cX11_wouldBeIn 15 = .ok (.iaload, 1) := by decide +kernel
theorem dX11_wouldBeIn_16 : decode cX11_wouldBeIn 16 = .ok (.ireturn, 1) := by decide +kernel
theorem dX11_wouldBeIn_17 : decode cX11_wouldBeIn 17 = .ok (.aload_n 0, 1) := by decide +kernel
theorem dX11_wouldBeIn_18 : decode cX11_wouldBeIn 18 = .ok (.getfield 25, 3) := by decide +kernel
theorem dX11_wouldBeIn_21 : decode cX11_wouldBeIn 21 = .ok (.iload_n 1, 1) := by decide +kernel
theorem dX11_wouldBeIn_22 : decode cX11_wouldBeIn 22 = .ok (.iaload, 1) := by decide +kernel
theorem dX11_wouldBeIn_23 : decode cX11_wouldBeIn 23 = .ok (.ifCond .ne 24, 3) := by decide +kernel
theorem dX11_wouldBeIn_26 : decode cX11_wouldBeIn 26 = .ok (.aload_n 0, 1) := by decide +kernel
theorem dX11_wouldBeIn_27 : decode cX11_wouldBeIn 27 = .ok (.iload_n 1, 1) := by decide +kernel
theorem dX11_wouldBeIn_28 : decode cX11_wouldBeIn 28 = .ok (.invokevirtual 151, 3) := by decide +kernel
theorem dX11_wouldBeIn_31 : decode cX11_wouldBeIn 31 = .ok (.ifCond .eq 16, 3) := by decide +kernel
theorem dX11_wouldBeIn_34 : decode cX11_wouldBeIn 34 = .ok (.aload_n 0, 1) := by decide +kernel
theorem dX11_wouldBeIn_35 : decode cX11_wouldBeIn 35 = .ok (.getfield 142, 3) := by decide +kernel
theorem dX11_wouldBeIn_38 : decode cX11_wouldBeIn 38 = .ok (.aload_n 0, 1) := by decide +kernel
theorem dX11_wouldBeIn_39 : decode cX11_wouldBeIn 39 = .ok (.iload_n 1, 1) := by decide +kernel
theorem dX11_wouldBeIn_40 : decode cX11_wouldBeIn 40 = .ok (.invokevirtual 246, 3) := by decide +kernel
theorem dX11_wouldBeIn_43 : decode cX11_wouldBeIn 43 = .ok (.iadd, 1) := by decide +kernel
theorem dX11_wouldBeIn_44 : decode cX11_wouldBeIn 44 = .ok (.goto 4, 3) := by decide +kernel
theorem dX11_wouldBeIn_47 : decode cX11_wouldBeIn 47 = .ok (.iconst (-1), 1) := by decide +kernel
theorem dX11_wouldBeIn_48 : decode cX11_wouldBeIn 48 = .ok (.ireturn, 1) := by decide +kernel
theorem dX11_allIn_0 : decode cX11_allIn 0 = .ok (.aload_n 0, 1) := by decide +kernel
theorem dX11_allIn_1 : decode cX11_allIn 1 = .ok (.getfield 142, 3) := by decide +kernel
theorem dX11_allIn_4 : decode cX11_allIn 4 = .ok (.istore_n 1, 1) := by decide +kernel
theorem dX11_allIn_5 : decode cX11_allIn 5 = .ok (.iconst 0, 1) := by decide +kernel
theorem dX11_allIn_6 : decode cX11_allIn 6 = .ok (.istore_n 2, 1) := by decide +kernel
theorem dX11_allIn_7 : decode cX11_allIn 7 = .ok (.iload_n 2, 1) := by decide +kernel
theorem dX11_allIn_8 : decode cX11_allIn 8 = .ok (.aload_n 0, 1) := by decide +kernel
theorem dX11_allIn_9 : decode cX11_allIn 9 = .ok (.getfield 99, 3) := by decide +kernel
theorem dX11_allIn_12 : decode cX11_allIn 12 = .ok (.if_icmp .ge 19, 3) := by decide +kernel
theorem dX11_allIn_15 : decode cX11_allIn 15 = .ok (.iload_n 1, 1) := by decide +kernel
theorem dX11_allIn_16 : decode cX11_allIn 16 = .ok (.aload_n 0, 1) := by decide +kernel
theorem dX11_allIn_17 : decode cX11_allIn 17 = .ok (.iload_n 2, 1) := by decide +kernel
theorem dX11_allIn_18 : decode cX11_allIn 18 = .ok (.invokevirtual 259, 3) := by decide +kernel
theorem dX11_allIn_21 : decode cX11_allIn 21 = .ok (.invokestatic 122, 3) := by decide +kernel
theorem dX11_allIn_24 : decode cX11_allIn 24 = .ok (.istore_n 1, 1) := by decide +kernel
theorem dX11_allIn_25 : decode cX11_allIn 25 = .ok (.iinc 2 1, 3) := by decide +kernel
theorem dX11_allIn_28 : decode cX11_allIn 28 = .ok (.goto (-21), 3) := by decide +kernel
theorem dX11_allIn_31 : decode cX11_allIn 31 = .ok (.iload_n 1, 1) := by decide +kernel
theorem dX11_allIn_32 : decode cX11_allIn 32 = .ok (.ireturn, 1) := by decide +kernel
theorem dX11_onTheLake_0 : decode cX11_onTheLake 0 = .ok (.iload_n 1, 1) := by decide +kernel
theorem dX11_onTheLake_1 : decode cX11_onTheLake 1 = .ok (.ifCond .lt 13, 3) := by decide +kernel
theorem dX11_onTheLake_4 : decode cX11_onTheLake 4 = .ok (.iload_n 1, 1) := by decide +kernel
theorem dX11_onTheLake_5 : decode cX11_onTheLake 5 = .ok (.iconst 1, 1) := by decide +kernel
theorem dX11_onTheLake_6 : decode cX11_onTheLake 6 = .ok (.aload_n 0, 1) := by decide +kernel
theorem dX11_onTheLake_7 : decode cX11_onTheLake 7 = .ok (.getfield 99, 3) := by decide +kernel
theorem dX11_onTheLake_10 : decode cX11_onTheLake 10 = .ok (.ishl, 1) := by decide +kernel
theorem dX11_onTheLake_11 : decode cX11_onTheLake 11 = .ok (.if_icmp .lt 5, 3) := by decide +kernel
theorem dX11_onTheLake_14 : decode cX11_onTheLake 14 = .ok (.iconst 0, 1) := by decide +kernel
theorem dX11_onTheLake_15 : decode cX11_onTheLake 15 = .ok (.ireturn, 1) := by decide +kernel
theorem dX11_onTheLake_16 : decode cX11_onTheLake 16 = .ok (.iconst 0, 1) := by decide +kernel
theorem dX11_onTheLake_17 : decode cX11_onTheLake 17 = .ok (.istore_n 2, 1) := by decide +kernel
end
section
theorem dX11_onTheLake_18 : decode cX11_onTheLake 18 = .ok (.iload_n 2, 1) := by decide +kernel
theorem dX11_onTheLake_19 : decode cX11_onTheLake 19 = .ok (.aload_n 0, 1) := by decide +kernel
theorem dX11_onTheLake_20 : decode cX11_onTheLake 20 = .ok (.getfield 99, 3) := by decide +kernel
theorem dX11_onTheLake_23 : decode cX11_onTheLake 23 = .ok (.if_icmp .ge 29, 3) := by decide +kernel
theorem dX11_onTheLake_26 : decode cX11_onTheLake 26 = .ok (.iload_n 1, 1) := by decide +kernel
theorem dX11_onTheLake_27 : decode cX11_onTheLake 27 = .ok (.iload_n 2, 1) := by decide +kernel
theorem dX11_onTheLake_28 : decode cX11_onTheLake 28 = .ok (.ishr, 1) := by decide +kernel
theorem dX11_onTheLake_29 : decode cX11_onTheLake 29 = .ok (.iconst 1, 1) := by decide +kernel
theorem dX11_onTheLake_30 : decode cX11_onTheLake 30 = .ok (.iand, 1) := by decide +kernel
theorem dX11_onTheLake_31 : decode cX11_onTheLake 31 = .ok (.iconst 1, 1) := by decide +kernel
theorem dX11_onTheLake_32 : decode cX11_onTheLake 32 = .ok (.if_icmp .ne 14, 3) := by decide +kernel
theorem dX11_onTheLake_35 : decode cX11_onTheLake 35 = .ok (.aload_n 0, 1) := by decide +kernel
theorem dX11_onTheLake_36 : decode cX11_onTheLake 36 = .ok (.getfield 25, 3) := by decide +kernel
theorem dX11_onTheLake_39 : decode cX11_onTheLake 39 = .ok (.iload_n 2, 1) := by decide +kernel
theorem dX11_onTheLake_40 : decode cX11_onTheLake 40 = .ok (.iaload, 1) := by decide +kernel
theorem dX11_onTheLake_41 : decode cX11_onTheLake 41 = .ok (.ifCond .eq 5, 3) := by decide +kernel
theorem dX11_onTheLake_44 : decode cX11_onTheLake 44 = .ok (.iconst 0, 1) := by decide +kernel
theorem dX11_onTheLake_45 : decode cX11_onTheLake 45 = .ok (.ireturn, 1) := by decide +kernel
theorem dX11_onTheLake_46 : decode cX11_onTheLake 46 = .ok (.iinc 2 1, 3) := by decide +kernel
theorem dX11_onTheLake_49 : decode cX11_onTheLake 49 = .ok (.goto (-31), 3) := by decide +kernel
theorem dX11_onTheLake_52 : decode cX11_onTheLake 52 = .ok (.iconst 1, 1) := by decide +kernel
theorem dX11_onTheLake_53 : decode cX11_onTheLake 53 = .ok (.ireturn, 1) := by decide +kernel
theorem dX11_goes_0 : decode cX11_goes 0 = .ok (.iload_n 1, 1) := by decide +kernel
theorem dX11_goes_1 : decode cX11_goes 1 = .ok (.ifCond .ne 74, 3) := by decide +kernel
theorem dX11_goes_4 : decode cX11_goes 4 = .ok (.iload 5, 2) := by decide +kernel
theorem dX11_goes_6 : decode cX11_goes 6 = .ok (.iload_n 3, 1) := by decide +kernel
theorem dX11_goes_7 : decode cX11_goes 7 = .ok (.iconst 0, 1) := by decide +kernel
theorem dX11_goes_8 : decode cX11_goes 8 = .ok (.invokestatic 126, 3) := by decide +kernel
theorem dX11_goes_11 : decode cX11_goes 11 = .ok (.aload_n 0, 1) := by decide +kernel
theorem dX11_goes_12 : decode cX11_goes 12 = .ok (.getfield 77, 3) := by decide +kernel
theorem dX11_goes_15 : decode cX11_goes 15 = .ok (.iload 4, 2) := by decide +kernel
theorem dX11_goes_17 : decode cX11_goes 17 = .ok (.iadd, 1) := by decide +kernel
theorem dX11_goes_18 : decode cX11_goes 18 = .ok (.imul, 1) := by decide +kernel
theorem dX11_goes_19 : decode cX11_goes 19 = .ok (.iadd, 1) := by decide +kernel
theorem dX11_goes_20 : decode cX11_goes 20 = .ok (.istore 6, 2) := by decide +kernel
theorem dX11_goes_22 : decode cX11_goes 22 = .ok (.aload_n 0, 1) := by decide +kernel
theorem dX11_goes_23 : decode cX11_goes 23 = .ok (.getfield 262, 3) := by decide +kernel
theorem dX11_goes_26 : decode cX11_goes 26 = .ok (.ifCond .lt 13, 3) := by decide +kernel
theorem dX11_goes_29 : decode cX11_goes 29 = .ok (.iload 6, 2) := by decide +kernel
theorem dX11_goes_31 : decode cX11_goes 31 = .ok (.aload_n 0, 1) := by decide +kernel
theorem dX11_goes_32 : decode cX11_goes 32 = .ok (.getfield 262, 3) := by decide +kernel
theorem dX11_goes_35 : decode cX11_goes 35 = .ok (.if_icmp .lt 4, 3) := by decide +kernel
theorem dX11_goes_38 : decode cX11_goes 38 = .ok (.return_, 1) := by decide +kernel
theorem dX11_goes_39 : decode cX11_goes 39 = .ok (.aload_n 0, 1) := by decide +kernel
theorem dX11_goes_40 : decode cX11_goes 40 = .ok (.iload 6, 2) := by decide +kernel
theorem dX11_goes_42 : decode cX11_goes 42 = .ok (.putfield 262, 3) := by decide +kernel
theorem dX11_goes_45 : decode cX11_goes 45 = .ok (.iconst 0, 1) := by decide +kernel
theorem dX11_goes_46 : decode cX11_goes 46 = .ok (.istore 7, 2) := by decide +kernel
theorem dX11_goes_48 : decode cX11_goes 48 = .ok (.iload 7, 2) := by decide +kernel
theorem dX11_goes_50 : decode cX11_goes 50 = .ok (.iload_n 2, 1) := by decide +kernel
theorem dX11_goes_51 : decode cX11_goes 51 = .ok (.if_icmp .ge 23, 3) := by decide +kernel
theorem dX11_goes_54 : decode cX11_goes 54 = .ok (.aload_n 0, 1) := by decide +kernel
theorem dX11_goes_55 : decode cX11_goes 55 = .ok (.getfield 49, 3) := by decide +kernel
theorem dX11_goes_58 : decode cX11_goes 58 = .ok (.iload 7, 2) := by decide +kernel
theorem dX11_goes_60 : decode cX11_goes 60 = .ok (.aload_n 0, 1) := by decide +kernel
theorem dX11_goes_61 : decode cX11_goes 61 = .ok (.getfield 46, 3) := by decide +kernel
theorem dX11_goes_64 : decode cX11_goes 64 = .ok (.iload 7, 2) := by decide +kernel
theorem dX11_goes_66 : decode cX11_goes 66 = .ok (.iaload, 1) := by decide +kernel
theorem dX11_goes_67 : decode cX11_goes 67 = .ok (.iastore, 1) := by decide +kernel
theorem dX11_goes_68 : decode cX11_goes 68 = .ok (.iinc 7 1, 3) := by decide +kernel
theorem dX11_goes_71 : decode cX11_goes 71 = .ok (.goto (-23), 3) := by decide +kernel
theorem dX11_goes_74 : decode cX11_goes 74 = .ok (.return_, 1) := by decide +kernel
theorem dX11_goes_75 : decode cX11_goes 75 = .ok (.iload 4, 2) := by decide +kernel
theorem dX11_goes_77 : decode cX11_goes 77 = .ok (.aload_n 0, 1) := by decide +kernel
theorem dX11_goes_78 : decode cX11_goes 78 = .ok (.getfield 74, 3) := by decide +kernel
theorem dX11_goes_81 : decode cX11_goes 81 = .ok (.if_icmp .ne 28, 3) := by decide +kernel
theorem dX11_goes_84 : decode cX11_goes 84 = .ok (.aload_n 0, 1) := by decide +kernel
theorem dX11_goes_85 : decode cX11_goes 85 = .ok (.iload_n 1, 1) := by decide +kernel
theorem dX11_goes_86 : decode cX11_goes 86 = .ok (.iload_n 2, 1) := by decide +kernel
theorem dX11_goes_87 : decode cX11_goes 87 = .ok (.iconst 0, 1) := by decide +kernel
theorem dX11_goes_88 : decode cX11_goes 88 = .ok (.iconst 0, 1) := by decide +kernel
theorem dX11_goes_89 : decode cX11_goes 89 = .ok (.iload 5, 2) := by decide +kernel
theorem dX11_goes_91 : decode cX11_goes 91 = .ok (.iload_n 3, 1) := by decide +kernel
theorem dX11_goes_92 : decode cX11_goes 92 = .ok (.iconst 0, 1) := by decide +kernel
theorem dX11_goes_93 : decode cX11_goes 93 = .ok (.invokestatic 126, 3) := by decide +kernel
theorem dX11_goes_96 : decode cX11_goes 96 = .ok (.aload_n 0, 1) := by decide +kernel
theorem dX11_goes_97 : decode cX11_goes 97 = .ok (.getfield 77, 3) := by decide +kernel
theorem dX11_goes_100 : decode cX11_goes 100 = .ok (.iload 4, 2) := by decide +kernel
theorem dX11_goes_102 : decode cX11_goes 102 = .ok (.iadd, 1) := by decide +kernel
theorem dX11_goes_103 : decode cX11_goes 103 = .ok (.imul, 1) := by decide +kernel
theorem dX11_goes_104 : decode cX11_goes 104 = .ok (.iadd, 1) := by decide +kernel
theorem dX11_goes_105 : decode cX11_goes 105 = .ok (.invokevirtual 265, 3) := by decide +kernel
theorem dX11_goes_108 : decode cX11_goes 108 = .ok (.return_, 1) := by decide +kernel
theorem dX11_goes_109 : decode cX11_goes 109 = .ok (.iconst 0, 1) := by decide +kernel
theorem dX11_goes_110 : decode cX11_goes 110 = .ok (.istore 6, 2) := by decide +kernel
theorem dX11_goes_112 : decode cX11_goes 112 = .ok (.iload 6, 2) := by decide +kernel
theorem dX11_goes_114 : decode cX11_goes 114 = .ok (.aload_n 0, 1) := by decide +kernel
theorem dX11_goes_115 : decode cX11_goes 115 = .ok (.getfield 99, 3) := by decide +kernel
theorem dX11_goes_118 : decode cX11_goes 118 = .ok (.if_icmp .ge 77, 3) := by decide +kernel
theorem dX11_goes_121 : decode cX11_goes 121 = .ok (.iload_n 1, 1) := by decide +kernel
theorem dX11_goes_122 : decode cX11_goes 122 = .ok (.iload 6, 2) := by decide +kernel
theorem dX11_goes_124 : decode cX11_goes 124 = .ok (.ishr, 1) := by decide +kernel
theorem dX11_goes_125 : decode cX11_goes 125 = .ok (.iconst 1, 1) := by decide +kernel
theorem dX11_goes_126 : decode cX11_goes 126 = .ok (.iand, 1) := by decide +kernel
theorem dX11_goes_127 : decode cX11_goes 127 = .ok (.ifCond .ne 6, 3) := by decide +kernel
theorem dX11_goes_130 : decode cX11_goes 130 = .ok (.goto 59, 3) := by decide +kernel
theorem dX11_goes_133 : decode cX11_goes 133 = .ok (.aload_n 0, 1) := by decide +kernel
theorem dX11_goes_134 : decode cX11_goes 134 = .ok (.getfield 46, 3) := by decide +kernel
theorem dX11_goes_137 : decode cX11_goes 137 = .ok (.iload_n 2, 1) := by decide +kernel
theorem dX11_goes_138 : decode cX11_goes 138 = .ok (.iload 6, 2) := by decide +kernel
theorem dX11_goes_140 : decode cX11_goes 140 = .ok (.iastore, 1) := by decide +kernel
theorem dX11_goes_141 : decode cX11_goes 141 = .ok (.aload_n 0, 1) := by decide +kernel
theorem dX11_goes_142 : decode cX11_goes 142 = .ok (.iload_n 1, 1) := by decide +kernel
theorem dX11_goes_143 : decode cX11_goes 143 = .ok (.iconst 1, 1) := by decide +kernel
theorem dX11_goes_144 : decode cX11_goes 144 = .ok (.iload 6, 2) := by decide +kernel
theorem dX11_goes_146 : decode cX11_goes 146 = .ok (.ishl, 1) := by decide +kernel
theorem dX11_goes_147 : decode cX11_goes 147 = .ok (.iconst (-1), 1) := by decide +kernel
theorem dX11_goes_148 : decode cX11_goes 148 = .ok (.ixor, 1) := by decide +kernel
theorem dX11_goes_149 : decode cX11_goes 149 = .ok (.iand, 1) := by decide +kernel
theorem dX11_goes_150 : decode cX11_goes 150 = .ok (.iload_n 2, 1) := by decide +kernel
theorem dX11_goes_151 : decode cX11_goes 151 = .ok (.iconst 1, 1) := by decide +kernel
theorem dX11_goes_152 : decode cX11_goes 152 = .ok (.iadd, 1) := by decide +kernel
theorem dX11_goes_153 : decode cX11_goes 153 = .ok (.aload_n 0, 1) := by decide +kernel
theorem dX11_goes_154 : decode cX11_goes 154 = .ok (.getfield 16, 3) := by decide +kernel
theorem dX11_goes_157 : decode cX11_goes 157 = .ok (.iload 6, 2) := by decide +kernel
theorem dX11_goes_159 : decode cX11_goes 159 = .ok (.iaload, 1) := by decide +kernel
theorem dX11_goes_160 : decode cX11_goes 160 = .ok (.iload 4, 2) := by decide +kernel
theorem dX11_goes_162 : decode cX11_goes 162 = .ok (.iconst 1, 1) := by decide +kernel
theorem dX11_goes_163 : decode cX11_goes 163 = .ok (.iadd, 1) := by decide +kernel
theorem dX11_goes_164 : decode cX11_goes 164 = .ok (.iload 5, 2) := by decide +kernel
theorem dX11_goes_166 : decode cX11_goes 166 = .ok (.iload_n 3, 1) := by decide +kernel
theorem dX11_goes_167 : decode cX11_goes 167 = .ok (.aload_n 0, 1) := by decide +kernel
theorem dX11_goes_168 : decode cX11_goes 168 = .ok (.getfield 16, 3) := by decide +kernel
theorem dX11_goes_171 : decode cX11_goes 171 = .ok (.iload 6, 2) := by decide +kernel
theorem dX11_goes_173 : decode cX11_goes 173 = .ok (.iaload, 1) := by decide +kernel
theorem dX11_goes_174 : decode cX11_goes 174 = .ok (.invokestatic 126, 3) := by decide +kernel
theorem dX11_goes_177 : decode cX11_goes 177 = .ok (.aload_n 0, 1) := by decide +kernel
theorem dX11_goes_178 : decode cX11_goes 178 = .ok (.getfield 77, 3) := by decide +kernel
theorem dX11_goes_181 : decode cX11_goes 181 = .ok (.iload 4, 2) := by decide +kernel
theorem dX11_goes_183 : decode cX11_goes 183 = .ok (.iadd, 1) := by decide +kernel
theorem dX11_goes_184 : decode cX11_goes 184 = .ok (.imul, 1) := by decide +kernel
theorem dX11_goes_185 : decode cX11_goes 185 = .ok (.iadd, 1) := by decide +kernel
theorem dX11_goes_186 : decode cX11_goes 186 = .ok (.invokevirtual 265, 3) := by decide +kernel
theorem dX11_goes_189 : decode cX11_goes 189 = .ok (.iinc 6 1, 3) := by decide +kernel
theorem dX11_goes_192 : decode cX11_goes 192 = .ok (.goto (-80), 3) := by decide +kernel
theorem dX11_goes_195 : decode cX11_goes 195 = .ok (.return_, 1) := by decide +kernel
theorem dX11_fetches_0 : decode cX11_fetches 0 = .ok (.aload_n 0, 1) := by decide +kernel
theorem dX11_fetches_1 : decode cX11_fetches 1 = .ok (.iconst (-1), 1) := by decide +kernel
theorem dX11_fetches_2 : decode cX11_fetches 2 = .ok (.putfield 262, 3) := by decide +kernel
theorem dX11_fetches_5 : decode cX11_fetches 5 = .ok (.aload_n 0, 1) := by decide +kernel
theorem dX11_fetches_6 : decode cX11_fetches 6 = .ok (.iload_n 1, 1) := by decide +kernel
theorem dX11_fetches_7 : decode cX11_fetches 7 = .ok (.iconst 0, 1) := by decide +kernel
theorem dX11_fetches_8 : decode cX11_fetches 8 = .ok (.iconst 0, 1) := by decide +kernel
theorem dX11_fetches_9 : decode cX11_fetches 9 = .ok (.iconst 0, 1) := by decide +kernel
theorem dX11_fetches_10 : decode cX11_fetches 10 = .ok (.iconst 0, 1) := by decide +kernel
theorem dX11_fetches_11 : decode cX11_fetches 11 = .ok (.invokevirtual 265, 3) := by decide +kernel
theorem dX11_fetches_14 : decode cX11_fetches 14 = .ok (.aload_n 0, 1) := by decide +kernel
theorem dX11_fetches_15 : decode cX11_fetches 15 = .ok (.getfield 262, 3) := by decide +kernel
theorem dX11_fetches_18 : decode cX11_fetches 18 = .ok (.ireturn, 1) := by decide +kernel
theorem dX11_fetch_0 : decode cX11_fetch 0 = .ok (.aload_n 0, 1) := by decide +kernel
theorem dX11_fetch_1 : decode cX11_fetch 1 = .ok (.iload_n 1, 1) := by decide +kernel
theorem dX11_fetch_2 : decode cX11_fetch 2 = .ok (.invokevirtual 269, 3) := by decide +kernel
theorem dX11_fetch_5 : decode cX11_fetch 5 = .ok (.ifCond .eq 13, 3) := by decide +kernel
theorem dX11_fetch_8 : decode cX11_fetch 8 = .ok (.iload_n 2, 1) := by decide +kernel
theorem dX11_fetch_9 : decode cX11_fetch 9 = .ok (.iconst 0, 1) := by decide +kernel
theorem dX11_fetch_10 : decode cX11_fetch 10 = .ok (.bipush 7, 2) := by decide +kernel
theorem dX11_fetch_12 : decode cX11_fetch 12 = .ok (.invokestatic 102, 3) := by decide +kernel
theorem dX11_fetch_15 : decode cX11_fetch 15 = .ok (.ifCond .ne 6, 3) := by decide +kernel
theorem dX11_fetch_18 : decode cX11_fetch 18 = .ok (.bipush (-2), 2) := by decide +kernel
theorem dX11_fetch_20 : decode cX11_fetch 20 = .ok (.ireturn, 1) := by decide +kernel
theorem dX11_fetch_21 : decode cX11_fetch 21 = .ok (.aload_n 0, 1) := by decide +kernel
theorem dX11_fetch_22 : decode cX11_fetch 22 = .ok (.iload_n 1, 1) := by decide +kernel
theorem dX11_fetch_23 : decode cX11_fetch 23 = .ok (.invokevirtual 272, 3) := by decide +kernel
theorem dX11_fetch_26 : decode cX11_fetch 26 = .ok (.istore_n 3, 1) := by decide +kernel
theorem dX11_fetch_27 : decode cX11_fetch 27 = .ok (.iload_n 2, 1) := by decide +kernel
theorem dX11_fetch_28 : decode cX11_fetch 28 = .ok (.ifCond .ne 7, 3) := by decide +kernel
theorem dX11_fetch_31 : decode cX11_fetch 31 = .ok (.iload_n 3, 1) := by decide +kernel
theorem dX11_fetch_32 : decode cX11_fetch 32 = .ok (.goto 23, 3) := by decide +kernel
theorem dX11_fetch_35 : decode cX11_fetch 35 = .ok (.iload_n 2, 1) := by decide +kernel
theorem dX11_fetch_36 : decode cX11_fetch 36 = .ok (.iload_n 1, 1) := by decide +kernel
theorem dX11_fetch_37 : decode cX11_fetch 37 = .ok (.invokestatic 275, 3) := by decide +kernel
theorem dX11_fetch_40 : decode cX11_fetch 40 = .ok (.if_icmp .le 7, 3) := by decide +kernel
theorem dX11_fetch_43 : decode cX11_fetch 43 = .ok (.iconst (-1), 1) := by decide +kernel
theorem dX11_fetch_44 : decode cX11_fetch 44 = .ok (.goto 11, 3) := by decide +kernel
theorem dX11_fetch_47 : decode cX11_fetch 47 = .ok (.aload_n 0, 1) := by decide +kernel
theorem dX11_fetch_48 : decode cX11_fetch 48 = .ok (.getfield 49, 3) := by decide +kernel
theorem dX11_fetch_51 : decode cX11_fetch 51 = .ok (.iload_n 2, 1) := by decide +kernel
theorem dX11_fetch_52 : decode cX11_fetch 52 = .ok (.iconst 1, 1) := by decide +kernel
theorem dX11_fetch_53 : decode cX11_fetch 53 = .ok (.isub, 1) := by decide +kernel
theorem dX11_fetch_54 : decode cX11_fetch 54 = .ok (.iaload, 1) := by decide +kernel
theorem dX11_fetch_55 : decode cX11_fetch 55 = .ok (.ireturn, 1) := by decide +kernel
theorem dX11_launch_0 : decode cX11_launch 0 = .ok (.aload_n 0, 1) := by decide +kernel
theorem dX11_launch_1 : decode cX11_launch 1 = .ok (.iload_n 1, 1) := by decide +kernel
theorem dX11_launch_2 : decode cX11_launch 2 = .ok (.invokevirtual 269, 3) := by decide +kernel
theorem dX11_launch_5 : decode cX11_launch 5 = .ok (.ifCond .ne 6, 3) := by decide +kernel
theorem dX11_launch_8 : decode cX11_launch 8 = .ok (.bipush (-2), 2) := by decide +kernel
theorem dX11_launch_10 : decode cX11_launch 10 = .ok (.ireturn, 1) := by decide +kernel
theorem dX11_launch_11 : decode cX11_launch 11 = .ok (.aload_n 0, 1) := by decide +kernel
theorem dX11_launch_12 : decode cX11_launch 12 = .ok (.iload_n 1, 1) := by decide +kernel
theorem dX11_launch_13 : decode cX11_launch 13 = .ok (.invokevirtual 272, 3) := by decide +kernel
theorem dX11_launch_16 : decode cX11_launch 16 = .ok (.istore_n 2, 1) := by decide +kernel
theorem dX11_launch_17 : decode cX11_launch 17 = .ok (.aload_n 0, 1) := by decide +kernel
theorem dX11_launch_18 : decode cX11_launch 18 = .ok (.iload_n 2, 1) := by decide +kernel
theorem dX11_launch_19 : decode cX11_launch 19 = .ok (.invokevirtual 256, 3) := by decide +kernel
theorem dX11_launch_22 : decode cX11_launch 22 = .ok (.pop, 1) := by decide +kernel
theorem dX11_launch_23 : decode cX11_launch 23 = .ok (.iconst 0, 1) := by decide +kernel
theorem dX11_launch_24 : decode cX11_launch 24 = .ok (.istore_n 3, 1) := by decide +kernel
theorem dX11_launch_25 : decode cX11_launch 25 = .ok (.iload_n 3, 1) := by decide +kernel
theorem dX11_launch_26 : decode cX11_launch 26 = .ok (.aload_n 0, 1) := by decide +kernel
theorem dX11_launch_27 : decode cX11_launch 27 = .ok (.getfield 99, 3) := by decide +kernel
theorem dX11_launch_30 : decode cX11_launch 30 = .ok (.if_icmp .ge 27, 3) := by decide +kernel
theorem dX11_launch_33 : decode cX11_launch 33 = .ok (.iload_n 1, 1) := by decide +kernel
theorem dX11_launch_34 : decode cX11_launch 34 = .ok (.iload_n 3, 1) := by decide +kernel
theorem dX11_launch_35 : decode cX11_launch 35 = .ok (.ishr, 1) := by decide +kernel
theorem dX11_launch_36 : decode cX11_launch 36 = .ok (.iconst 1, 1) := by decide +kernel
theorem dX11_launch_37 : decode cX11_launch 37 = .ok (.iand, 1) := by decide +kernel
theorem dX11_launch_38 : decode cX11_launch 38 = .ok (.iconst 1, 1) := by decide +kernel
theorem dX11_launch_39 : decode cX11_launch 39 = .ok (.if_icmp .ne 12, 3) := by decide +kernel
theorem dX11_launch_42 : decode cX11_launch 42 = .ok (.aload_n 0, 1) := by decide +kernel
theorem dX11_launch_43 : decode cX11_launch 43 = .ok (.iload_n 3, 1) := by decide +kernel
theorem dX11_launch_44 : decode cX11_launch 44 = .ok (.aload_n 0, 1) := by decide +kernel
theorem dX11_launch_45 : decode cX11_launch 45 = .ok (.getfield 142, 3) := by decide +kernel
theorem dX11_launch_48 : decode cX11_launch 48 = .ok (.invokevirtual 252, 3) := by decide +kernel
theorem dX11_launch_51 : decode cX11_launch 51 = .ok (.iinc 3 1, 3) := by decide +kernel
theorem dX11_launch_54 : decode cX11_launch 54 = .ok (.goto (-29), 3) := by decide +kernel
theorem dX11_launch_57 : decode cX11_launch 57 = .ok (.iload_n 2, 1) := by decide +kernel
theorem dX11_launch_58 : decode cX11_launch 58 = .ok (.ireturn, 1) := by decide +kernel
theorem dX11_one__0 : decode cX11_one_ 0 = .ok (.iload_n 1, 1) := by decide +kernel
theorem dX11_one__1 : decode cX11_one_ 1 = .ok (.iconst 0, 1) := by decide +kernel
theorem dX11_one__2 : decode cX11_one_ 2 = .ok (.iconst 1, 1) := by decide +kernel
theorem dX11_one__3 : decode cX11_one_ 3 = .ok (.invokestatic 102, 3) := by decide +kernel
theorem dX11_one__6 : decode cX11_one_ 6 = .ok (.ifCond .ne 6, 3) := by decide +kernel
theorem dX11_one__9 : decode cX11_one_ 9 = .ok (.bipush (-2), 2) := by decide +kernel
theorem dX11_one__11 : decode cX11_one_ 11 = .ok (.ireturn, 1) := by decide +kernel
theorem dX11_one__12 : decode cX11_one_ 12 = .ok (.iconst (-1), 1) := by decide +kernel
theorem dX11_one__13 : decode cX11_one_ 13 = .ok (.istore_n 2, 1) := by decide +kernel
theorem dX11_one__14 : decode cX11_one_ 14 = .ok (.iconst 0, 1) := by decide +kernel
theorem dX11_one__15 : decode cX11_one_ 15 = .ok (.istore_n 3, 1) := by decide +kernel
theorem dX11_one__16 : decode cX11_one_ 16 = .ok (.iconst 0, 1) := by decide +kernel
theorem dX11_one__17 : decode cX11_one_ 17 = .ok (.istore 4, 2) := by decide +kernel
theorem dX11_one__19 : decode cX11_one_ 19 = .ok (.iload 4, 2) := by decide +kernel
theorem dX11_one__21 : decode cX11_one_ 21 = .ok (.aload_n 0, 1) := by decide +kernel
theorem dX11_one__22 : decode cX11_one_ 22 = .ok (.getfield 99, 3) := by decide +kernel
theorem dX11_one__25 : decode cX11_one_ 25 = .ok (.if_icmp .ge 51, 3) := by decide +kernel
theorem dX11_one__28 : decode cX11_one_ 28 = .ok (.aload_n 0, 1) := by decide +kernel
theorem dX11_one__29 : decode cX11_one_ 29 = .ok (.getfield 25, 3) := by decide +kernel
theorem dX11_one__32 : decode cX11_one_ 32 = .ok (.iload 4, 2) := by decide +kernel
theorem dX11_one__34 : decode cX11_one_ 34 = .ok (.iaload, 1) := by decide +kernel
theorem dX11_one__35 : decode cX11_one_ 35 = .ok (.ifCond .eq 6, 3) := by decide +kernel
theorem dX11_one__38 : decode cX11_one_ 38 = .ok (.goto 32, 3) := by decide +kernel
theorem dX11_one__41 : decode cX11_one_ 41 = .ok (.aload_n 0, 1) := by decide +kernel
theorem dX11_one__42 : decode cX11_one_ 42 = .ok (.iconst 1, 1) := by decide +kernel
theorem dX11_one__43 : decode cX11_one_ 43 = .ok (.iload 4, 2) := by decide +kernel
theorem dX11_one__45 : decode cX11_one_ 45 = .ok (.ishl, 1) := by decide +kernel
theorem dX11_one__46 : decode cX11_one_ 46 = .ok (.invokevirtual 272, 3) := by decide +kernel
theorem dX11_one__49 : decode cX11_one_ 49 = .ok (.istore 5, 2) := by decide +kernel
theorem dX11_one__51 : decode cX11_one_ 51 = .ok (.iload_n 2, 1) := by decide +kernel
theorem dX11_one__52 : decode cX11_one_ 52 = .ok (.ifCond .lt 12, 3) := by decide +kernel
theorem dX11_one__55 : decode cX11_one_ 55 = .ok (.iload 5, 2) := by decide +kernel
theorem dX11_one__57 : decode cX11_one_ 57 = .ok (.iload_n 3, 1) := by decide +kernel
theorem dX11_one__58 : decode cX11_one_ 58 = .ok (.if_icmp .lt 6, 3) := by decide +kernel
theorem dX11_one__61 : decode cX11_one_ 61 = .ok (.goto 9, 3) := by decide +kernel
theorem dX11_one__64 : decode cX11_one_ 64 = .ok (.iload 4, 2) := by decide +kernel
theorem dX11_one__66 : decode cX11_one_ 66 = .ok (.istore_n 2, 1) := by decide +kernel
theorem dX11_one__67 : decode cX11_one_ 67 = .ok (.iload 5, 2) := by decide +kernel
theorem dX11_one__69 : decode cX11_one_ 69 = .ok (.istore_n 3, 1) := by decide +kernel
theorem dX11_one__70 : decode cX11_one_ 70 = .ok (.iinc 4 1, 3) := by decide +kernel
theorem dX11_one__73 : decode cX11_one_ 73 = .ok (.goto (-54), 3) := by decide +kernel
theorem dX11_one__76 : decode cX11_one_ 76 = .ok (.iload_n 1, 1) := by decide +kernel
theorem dX11_one__77 : decode cX11_one_ 77 = .ok (.ifCond .ne 7, 3) := by decide +kernel
theorem dX11_one__80 : decode cX11_one_ 80 = .ok (.iload_n 2, 1) := by decide +kernel
theorem dX11_one__81 : decode cX11_one_ 81 = .ok (.goto 4, 3) := by decide +kernel
theorem dX11_one__84 : decode cX11_one_ 84 = .ok (.iload_n 3, 1) := by decide +kernel
theorem dX11_one__85 : decode cX11_one_ 85 = .ok (.ireturn, 1) := by decide +kernel
theorem dX11_thunder_0 : decode cX11_thunder 0 = .ok (.iload_n 1, 1) := by decide +kernel
theorem dX11_thunder_1 : decode cX11_thunder 1 = .ok (.iconst 0, 1) := by decide +kernel
theorem dX11_thunder_2 : decode cX11_thunder 2 = .ok (.sipush 240, 3) := by decide +kernel
theorem dX11_thunder_5 : decode cX11_thunder 5 = .ok (.invokestatic 102, 3) := by decide +kernel
theorem dX11_thunder_8 : decode cX11_thunder 8 = .ok (.ifCond .eq 12, 3) := by decide +kernel
theorem dX11_thunder_11 : decode cX11_thunder 11 = .ok (.iload_n 2, 1) := by decide +kernel
theorem dX11_thunder_12 : decode cX11_thunder 12 = .ok (.iconst 0, 1) := by decide +kernel
theorem dX11_thunder_13 : decode cX11_thunder 13 = .ok (.iconst 1, 1) := by decide +kernel
theorem dX11_thunder_14 : decode cX11_thunder 14 = .ok (.invokestatic 102, 3) := by decide +kernel
theorem dX11_thunder_17 : decode cX11_thunder 17 = .ok (.ifCond .ne 6, 3) := by decide +kernel
theorem dX11_thunder_20 : decode cX11_thunder 20 = .ok (.bipush (-2), 2) := by decide +kernel
theorem dX11_thunder_22 : decode cX11_thunder 22 = .ok (.ireturn, 1) := by decide +kernel
theorem dX11_thunder_23 : decode cX11_thunder 23 = .ok (.iload_n 2, 1) := by decide +kernel
theorem dX11_thunder_24 : decode cX11_thunder 24 = .ok (.ifCond .ne 67, 3) := by decide +kernel
theorem dX11_thunder_27 : decode cX11_thunder 27 = .ok (.iconst 0, 1) := by decide +kernel
theorem dX11_thunder_28 : decode cX11_thunder 28 = .ok (.istore_n 3, 1) := by decide +kernel
theorem dX11_thunder_29 : decode cX11_thunder 29 = .ok (.iconst 0, 1) := by decide +kernel
theorem dX11_thunder_30 : decode cX11_thunder 30 = .ok (.istore 4, 2) := by decide +kernel
theorem dX11_thunder_32 : decode cX11_thunder 32 = .ok (.iload 4, 2) := by decide +kernel
theorem dX11_thunder_34 : decode cX11_thunder 34 = .ok (.aload_n 0, 1) := by decide +kernel
theorem dX11_thunder_35 : decode cX11_thunder 35 = .ok (.getfield 99, 3) := by decide +kernel
theorem dX11_thunder_38 : decode cX11_thunder 38 = .ok (.if_icmp .ge 51, 3) := by decide +kernel
theorem dX11_thunder_41 : decode cX11_thunder 41 = .ok (.aload_n 0, 1) := by decide +kernel
theorem dX11_thunder_42 : decode cX11_thunder 42 = .ok (.iload 4, 2) := by decide +kernel
theorem dX11_thunder_44 : decode cX11_thunder 44 = .ok (.invokevirtual 259, 3) := by decide +kernel
theorem dX11_thunder_47 : decode cX11_thunder 47 = .ok (.istore 5, 2) := by decide +kernel
theorem dX11_thunder_49 : decode cX11_thunder 49 = .ok (.aload_n 0, 1) := by decide +kernel
theorem dX11_thunder_50 : decode cX11_thunder 50 = .ok (.getfield 25, 3) := by decide +kernel
theorem dX11_thunder_53 : decode cX11_thunder 53 = .ok (.iload 4, 2) := by decide +kernel
theorem dX11_thunder_55 : decode cX11_thunder 55 = .ok (.iaload, 1) := by decide +kernel
theorem dX11_thunder_56 : decode cX11_thunder 56 = .ok (.iconst 2, 1) := by decide +kernel
theorem dX11_thunder_57 : decode cX11_thunder 57 = .ok (.if_icmp .eq 19, 3) := by decide +kernel
theorem dX11_thunder_60 : decode cX11_thunder 60 = .ok (.iload 5, 2) := by decide +kernel
theorem dX11_thunder_62 : decode cX11_thunder 62 = .ok (.ifCond .lt 21, 3) := by decide +kernel
theorem dX11_thunder_65 : decode cX11_thunder 65 = .ok (.iload 5, 2) := by decide +kernel
theorem dX11_thunder_67 : decode cX11_thunder 67 = .ok (.aload_n 0, 1) := by decide +kernel
theorem dX11_thunder_68 : decode cX11_thunder 68 = .ok (.getfield 142, 3) := by decide +kernel
theorem dX11_thunder_71 : decode cX11_thunder 71 = .ok (.iload_n 1, 1) := by decide +kernel
theorem dX11_thunder_72 : decode cX11_thunder 72 = .ok (.iadd, 1) := by decide +kernel
theorem dX11_thunder_73 : decode cX11_thunder 73 = .ok (.if_icmp .gt 10, 3) := by decide +kernel
theorem dX11_thunder_76 : decode cX11_thunder 76 = .ok (.iload_n 3, 1) := by decide +kernel
theorem dX11_thunder_77 : decode cX11_thunder 77 = .ok (.iconst 1, 1) := by decide +kernel
theorem dX11_thunder_78 : decode cX11_thunder 78 = .ok (.iload 4, 2) := by decide +kernel
theorem dX11_thunder_80 : decode cX11_thunder 80 = .ok (.ishl, 1) := by decide +kernel
theorem dX11_thunder_81 : decode cX11_thunder 81 = .ok (.ior, 1) := by decide +kernel
theorem dX11_thunder_82 : decode cX11_thunder 82 = .ok (.istore_n 3, 1) := by decide +kernel
theorem dX11_thunder_83 : decode cX11_thunder 83 = .ok (.iinc 4 1, 3) := by decide +kernel
theorem dX11_thunder_86 : decode cX11_thunder 86 = .ok (.goto (-54), 3) := by decide +kernel
theorem dX11_thunder_89 : decode cX11_thunder 89 = .ok (.iload_n 3, 1) := by decide +kernel
theorem dX11_thunder_90 : decode cX11_thunder 90 = .ok (.ireturn, 1) := by decide +kernel
theorem dX11_thunder_91 : decode cX11_thunder 91 = .ok (.aload_n 0, 1) := by decide +kernel
theorem dX11_thunder_92 : decode cX11_thunder 92 = .ok (.invokevirtual 280, 3) := by decide +kernel
theorem dX11_thunder_95 : decode cX11_thunder 95 = .ok (.istore_n 3, 1) := by decide +kernel
theorem dX11_thunder_96 : decode cX11_thunder 96 = .ok (.iconst 0, 1) := by decide +kernel
theorem dX11_thunder_97 : decode cX11_thunder 97 = .ok (.istore 4, 2) := by decide +kernel
theorem dX11_thunder_99 : decode cX11_thunder 99 = .ok (.iconst 1, 1) := by decide +kernel
theorem dX11_thunder_100 : decode cX11_thunder 100 = .ok (.istore 5, 2) := by decide +kernel
theorem dX11_thunder_102 : decode cX11_thunder 102 = .ok (.iload 5, 2) := by decide +kernel
theorem dX11_thunder_104 : decode cX11_thunder 104 = .ok (.iconst 1, 1) := by decide +kernel
theorem dX11_thunder_105 : decode cX11_thunder 105 = .ok (.aload_n 0, 1) := by decide +kernel
theorem dX11_thunder_106 : decode cX11_thunder 106 = .ok (.getfield 99, 3) := by decide +kernel
theorem dX11_thunder_109 : decode cX11_thunder 109 = .ok (.ishl, 1) := by decide +kernel
theorem dX11_thunder_110 : decode cX11_thunder 110 = .ok (.if_icmp .ge 45, 3) := by decide +kernel
theorem dX11_thunder_113 : decode cX11_thunder 113 = .ok (.iload 5, 2) := by decide +kernel
theorem dX11_thunder_115 : decode cX11_thunder 115 = .ok (.iload_n 3, 1) := by decide +kernel
theorem dX11_thunder_116 : decode cX11_thunder 116 = .ok (.iconst (-1), 1) := by decide +kernel
theorem dX11_thunder_117 : decode cX11_thunder 117 = .ok (.ixor, 1) := by decide +kernel
theorem dX11_thunder_118 : decode cX11_thunder 118 = .ok (.iand, 1) := by decide +kernel
theorem dX11_thunder_119 : decode cX11_thunder 119 = .ok (.ifCond .ne 30, 3) := by decide +kernel
theorem dX11_thunder_122 : decode cX11_thunder 122 = .ok (.iload 5, 2) := by decide +kernel
theorem dX11_thunder_124 : decode cX11_thunder 124 = .ok (.invokestatic 275, 3) := by decide +kernel
theorem dX11_thunder_127 : decode cX11_thunder 127 = .ok (.iload 4, 2) := by decide +kernel
theorem dX11_thunder_129 : decode cX11_thunder 129 = .ok (.if_icmp .le 20, 3) := by decide +kernel
theorem dX11_thunder_132 : decode cX11_thunder 132 = .ok (.aload_n 0, 1) := by decide +kernel
theorem dX11_thunder_133 : decode cX11_thunder 133 = .ok (.iload 5, 2) := by decide +kernel
theorem dX11_thunder_135 : decode cX11_thunder 135 = .ok (.invokevirtual 272, 3) := by decide +kernel
theorem dX11_thunder_138 : decode cX11_thunder 138 = .ok (.iload_n 1, 1) := by decide +kernel
theorem dX11_thunder_139 : decode cX11_thunder 139 = .ok (.if_icmp .gt 10, 3) := by decide +kernel
theorem dX11_thunder_142 : decode cX11_thunder 142 = .ok (.iload 5, 2) := by decide +kernel
theorem dX11_thunder_144 : decode cX11_thunder 144 = .ok (.invokestatic 275, 3) := by decide +kernel
theorem dX11_thunder_147 : decode cX11_thunder 147 = .ok (.istore 4, 2) := by decide +kernel
theorem dX11_thunder_149 : decode cX11_thunder 149 = .ok (.iinc 5 1, 3) := by decide +kernel
theorem dX11_thunder_152 : decode cX11_thunder 152 = .ok (.goto (-50), 3) := by decide +kernel
theorem dX11_thunder_155 : decode cX11_thunder 155 = .ok (.iload 4, 2) := by decide +kernel
theorem dX11_thunder_157 : decode cX11_thunder 157 = .ok (.ireturn, 1) := by decide +kernel
theorem dX11_stand_0 : decode cX11_stand 0 = .ok (.iconst 0, 1) := by decide +kernel
theorem dX11_stand_1 : decode cX11_stand 1 = .ok (.istore_n 1, 1) := by decide +kernel
theorem dX11_stand_2 : decode cX11_stand 2 = .ok (.iconst 0, 1) := by decide +kernel
theorem dX11_stand_3 : decode cX11_stand 3 = .ok (.istore_n 2, 1) := by decide +kernel
theorem dX11_stand_4 : decode cX11_stand 4 = .ok (.iload_n 2, 1) := by decide +kernel
theorem dX11_stand_5 : decode cX11_stand 5 = .ok (.aload_n 0, 1) := by decide +kernel
theorem dX11_stand_6 : decode cX11_stand 6 = .ok (.getfield 99, 3) := by decide +kernel
theorem dX11_stand_9 : decode cX11_stand 9 = .ok (.if_icmp .ge 76, 3) := by decide +kernel
theorem dX11_stand_12 : decode cX11_stand 12 = .ok (.aload_n 0, 1) := by decide +kernel
theorem dX11_stand_13 : decode cX11_stand 13 = .ok (.iload_n 2, 1) := by decide +kernel
theorem dX11_stand_14 : decode cX11_stand 14 = .ok (.invokevirtual 259, 3) := by decide +kernel
theorem dX11_stand_17 : decode cX11_stand 17 = .ok (.istore_n 3, 1) := by decide +kernel
theorem dX11_stand_18 : decode cX11_stand 18 = .ok (.iload_n 3, 1) := by decide +kernel
theorem dX11_stand_19 : decode cX11_stand 19 = .ok (.ifCond .ge 6, 3) := by decide +kernel
theorem dX11_stand_22 : decode cX11_stand 22 = .ok (.goto 57, 3) := by decide +kernel
theorem dX11_stand_25 : decode cX11_stand 25 = .ok (.iload_n 1, 1) := by decide +kernel
theorem dX11_stand_26 : decode cX11_stand 26 = .ok (.iinc 1 1, 3) := by decide +kernel
theorem dX11_stand_29 : decode cX11_stand 29 = .ok (.istore 4, 2) := by decide +kernel
theorem dX11_stand_31 : decode cX11_stand 31 = .ok (.iload 4, 2) := by decide +kernel
theorem dX11_stand_33 : decode cX11_stand 33 = .ok (.ifCond .le 38, 3) := by decide +kernel
theorem dX11_stand_36 : decode cX11_stand 36 = .ok (.aload_n 0, 1) := by decide +kernel
theorem dX11_stand_37 : decode cX11_stand 37 = .ok (.getfield 52, 3) := by decide +kernel
theorem dX11_stand_40 : decode cX11_stand 40 = .ok (.iload 4, 2) := by decide +kernel
theorem dX11_stand_42 : decode cX11_stand 42 = .ok (.iconst 1, 1) := by decide +kernel
theorem dX11_stand_43 : decode cX11_stand 43 = .ok (.isub, 1) := by decide +kernel
theorem dX11_stand_44 : decode cX11_stand 44 = .ok (.iaload, 1) := by decide +kernel
theorem dX11_stand_45 : decode cX11_stand 45 = .ok (.iload_n 3, 1) := by decide +kernel
theorem dX11_stand_46 : decode cX11_stand 46 = .ok (.if_icmp .le 25, 3) := by decide +kernel
theorem dX11_stand_49 : decode cX11_stand 49 = .ok (.aload_n 0, 1) := by decide +kernel
theorem dX11_stand_50 : decode cX11_stand 50 = .ok (.getfield 52, 3) := by decide +kernel
theorem dX11_stand_53 : decode cX11_stand 53 = .ok (.iload 4, 2) := by decide +kernel
theorem dX11_stand_55 : decode cX11_stand 55 = .ok (.aload_n 0, 1) := by decide +kernel
theorem dX11_stand_56 : decode cX11_stand 56 = .ok (.getfield 52, 3) := by decide +kernel
theorem dX11_stand_59 : decode cX11_stand 59 = .ok (.iload 4, 2) := by decide +kernel
theorem dX11_stand_61 : decode cX11_stand 61 = .ok (.iconst 1, 1) := by decide +kernel
theorem dX11_stand_62 : decode cX11_stand 62 = .ok (.isub, 1) := by decide +kernel
theorem dX11_stand_63 : decode cX11_stand 63 = .ok (.iaload, 1) := by decide +kernel
theorem dX11_stand_64 : decode cX11_stand 64 = .ok (.iastore, 1) := by decide +kernel
theorem dX11_stand_65 : decode cX11_stand 65 = .ok (.iinc 4 (-1), 3) := by decide +kernel
theorem dX11_stand_68 : decode cX11_stand 68 = .ok (.goto (-37), 3) := by decide +kernel
theorem dX11_stand_71 : decode cX11_stand 71 = .ok (.aload_n 0, 1) := by decide +kernel
theorem dX11_stand_72 : decode cX11_stand 72 = .ok (.getfield 52, 3) := by decide +kernel
theorem dX11_stand_75 : decode cX11_stand 75 = .ok (.iload 4, 2) := by decide +kernel
theorem dX11_stand_77 : decode cX11_stand 77 = .ok (.iload_n 3, 1) := by decide +kernel
theorem dX11_stand_78 : decode cX11_stand 78 = .ok (.iastore, 1) := by decide +kernel
theorem dX11_stand_79 : decode cX11_stand 79 = .ok (.iinc 2 1, 3) := by decide +kernel
theorem dX11_stand_82 : decode cX11_stand 82 = .ok (.goto (-78), 3) := by decide +kernel
theorem dX11_stand_85 : decode cX11_stand 85 = .ok (.iconst 0, 1) := by decide +kernel
theorem dX11_stand_86 : decode cX11_stand 86 = .ok (.istore_n 2, 1) := by decide +kernel
theorem dX11_stand_87 : decode cX11_stand 87 = .ok (.iconst 0, 1) := by decide +kernel
theorem dX11_stand_88 : decode cX11_stand 88 = .ok (.istore_n 3, 1) := by decide +kernel
theorem dX11_stand_89 : decode cX11_stand 89 = .ok (.iload_n 3, 1) := by decide +kernel
theorem dX11_stand_90 : decode cX11_stand 90 = .ok (.aload_n 0, 1) := by decide +kernel
theorem dX11_stand_91 : decode cX11_stand 91 = .ok (.getfield 119, 3) := by decide +kernel
theorem dX11_stand_94 : decode cX11_stand 94 = .ok (.if_icmp .ge 34, 3) := by decide +kernel
theorem dX11_stand_97 : decode cX11_stand 97 = .ok (.iload_n 2, 1) := by decide +kernel
theorem dX11_stand_98 : decode cX11_stand 98 = .ok (.iload_n 3, 1) := by decide +kernel
theorem dX11_stand_99 : decode cX11_stand 99 = .ok (.iload_n 1, 1) := by decide +kernel
theorem dX11_stand_100 : decode cX11_stand 100 = .ok (.if_icmp .ge 17, 3) := by decide +kernel
theorem dX11_stand_103 : decode cX11_stand 103 = .ok (.aload_n 0, 1) := by decide +kernel
theorem dX11_stand_104 : decode cX11_stand 104 = .ok (.getfield 52, 3) := by decide +kernel
theorem dX11_stand_107 : decode cX11_stand 107 = .ok (.iload_n 3, 1) := by decide +kernel
theorem dX11_stand_108 : decode cX11_stand 108 = .ok (.iaload, 1) := by decide +kernel
theorem dX11_stand_109 : decode cX11_stand 109 = .ok (.aload_n 0, 1) := by decide +kernel
theorem dX11_stand_110 : decode cX11_stand 110 = .ok (.getfield 142, 3) := by decide +kernel
theorem dX11_stand_113 : decode cX11_stand 113 = .ok (.isub, 1) := by decide +kernel
theorem dX11_stand_114 : decode cX11_stand 114 = .ok (.goto 6, 3) := by decide +kernel
theorem dX11_stand_117 : decode cX11_stand 117 = .ok (.sipush 240, 3) := by decide +kernel
theorem dX11_stand_120 : decode cX11_stand 120 = .ok (.iadd, 1) := by decide +kernel
theorem dX11_stand_121 : decode cX11_stand 121 = .ok (.istore_n 2, 1) := by decide +kernel
theorem dX11_stand_122 : decode cX11_stand 122 = .ok (.iinc 3 1, 3) := by decide +kernel
theorem dX11_stand_125 : decode cX11_stand 125 = .ok (.goto (-36), 3) := by decide +kernel
theorem dX11_stand_128 : decode cX11_stand 128 = .ok (.iload_n 2, 1) := by decide +kernel
theorem dX11_stand_129 : decode cX11_stand 129 = .ok (.ireturn, 1) := by decide +kernel
theorem dX11_heard_0 : decode cX11_heard 0 = .ok (.iload_n 1, 1) := by decide +kernel
theorem dX11_heard_1 : decode cX11_heard 1 = .ok (.iconst 0, 1) := by decide +kernel
theorem dX11_heard_2 : decode cX11_heard 2 = .ok (.iconst 3, 1) := by decide +kernel
theorem dX11_heard_3 : decode cX11_heard 3 = .ok (.invokestatic 102, 3) := by decide +kernel
theorem dX11_heard_6 : decode cX11_heard 6 = .ok (.ifCond .ne 6, 3) := by decide +kernel
theorem dX11_heard_9 : decode cX11_heard 9 = .ok (.bipush (-2), 2) := by decide +kernel
theorem dX11_heard_11 : decode cX11_heard 11 = .ok (.ireturn, 1) := by decide +kernel
theorem dX11_heard_12 : decode cX11_heard 12 = .ok (.aload_n 0, 1) := by decide +kernel
theorem dX11_heard_13 : decode cX11_heard 13 = .ok (.getfield 58, 3) := by decide +kernel
theorem dX11_heard_16 : decode cX11_heard 16 = .ok (.iload_n 1, 1) := by decide +kernel
theorem dX11_heard_17 : decode cX11_heard 17 = .ok (.iaload, 1) := by decide +kernel
theorem dX11_heard_18 : decode cX11_heard 18 = .ok (.iconst (-1), 1) := by decide +kernel
theorem dX11_heard_19 : decode cX11_heard 19 = .ok (.if_icmp .ne 6, 3) := by decide +kernel
theorem dX11_heard_22 : decode cX11_heard 22 = .ok (.bipush (-11), 2) := by decide +kernel
theorem dX11_heard_24 : decode cX11_heard 24 = .ok (.ireturn, 1) := by decide +kernel
theorem dX11_heard_25 : decode cX11_heard 25 = .ok (.aload_n 0, 1) := by decide +kernel
theorem dX11_heard_26 : decode cX11_heard 26 = .ok (.getfield 61, 3) := by decide +kernel
theorem dX11_heard_29 : decode cX11_heard 29 = .ok (.iload_n 1, 1) := by decide +kernel
theorem dX11_heard_30 : decode cX11_heard 30 = .ok (.iaload, 1) := by decide +kernel
theorem dX11_heard_31 : decode cX11_heard 31 = .ok (.istore_n 2, 1) := by decide +kernel
theorem dX11_heard_32 : decode cX11_heard 32 = .ok (.iload_n 2, 1) := by decide +kernel
theorem dX11_heard_33 : decode cX11_heard 33 = .ok (.iconst 2, 1) := by decide +kernel
theorem dX11_heard_34 : decode cX11_heard 34 = .ok (.irem, 1) := by decide +kernel
theorem dX11_heard_35 : decode cX11_heard 35 = .ok (.iconst 1, 1) := by decide +kernel
theorem dX11_heard_36 : decode cX11_heard 36 = .ok (.if_icmp .ne 6, 3) := by decide +kernel
theorem dX11_heard_39 : decode cX11_heard 39 = .ok (.bipush (-2), 2) := by decide +kernel
theorem dX11_heard_41 : decode cX11_heard 41 = .ok (.ireturn, 1) := by decide +kernel
theorem dX11_heard_42 : decode cX11_heard 42 = .ok (.iconst 0, 1) := by decide +kernel
theorem dX11_heard_43 : decode cX11_heard 43 = .ok (.istore_n 3, 1) := by decide +kernel
theorem dX11_heard_44 : decode cX11_heard 44 = .ok (.iload_n 3, 1) := by decide +kernel
theorem dX11_heard_45 : decode cX11_heard 45 = .ok (.iload_n 2, 1) := by decide +kernel
theorem dX11_heard_46 : decode cX11_heard 46 = .ok (.iconst 2, 1) := by decide +kernel
theorem dX11_heard_47 : decode cX11_heard 47 = .ok (.idiv, 1) := by decide +kernel
theorem dX11_heard_48 : decode cX11_heard 48 = .ok (.if_icmp .ge 92, 3) := by decide +kernel
theorem dX11_heard_51 : decode cX11_heard 51 = .ok (.aload_n 0, 1) := by decide +kernel
theorem dX11_heard_52 : decode cX11_heard 52 = .ok (.getfield 64, 3) := by decide +kernel
theorem dX11_heard_55 : decode cX11_heard 55 = .ok (.bipush 40, 2) := by decide +kernel
theorem dX11_heard_57 : decode cX11_heard 57 = .ok (.iload_n 1, 1) := by decide +kernel
theorem dX11_heard_58 : decode cX11_heard 58 = .ok (.imul, 1) := by decide +kernel
theorem dX11_heard_59 : decode cX11_heard 59 = .ok (.iconst 2, 1) := by decide +kernel
theorem dX11_heard_60 : decode cX11_heard 60 = .ok (.iload_n 3, 1) := by decide +kernel
theorem dX11_heard_61 : decode cX11_heard 61 = .ok (.imul, 1) := by decide +kernel
theorem dX11_heard_62 : decode cX11_heard 62 = .ok (.iadd, 1) := by decide +kernel
theorem dX11_heard_63 : decode cX11_heard 63 = .ok (.iaload, 1) := by decide +kernel
theorem dX11_heard_64 : decode cX11_heard 64 = .ok (.istore 4, 2) := by decide +kernel
theorem dX11_heard_66 : decode cX11_heard 66 = .ok (.aload_n 0, 1) := by decide +kernel
theorem dX11_heard_67 : decode cX11_heard 67 = .ok (.getfield 64, 3) := by decide +kernel
theorem dX11_heard_70 : decode cX11_heard 70 = .ok (.bipush 40, 2) := by decide +kernel
theorem dX11_heard_72 : decode cX11_heard 72 = .ok (.iload_n 1, 1) := by decide +kernel
theorem dX11_heard_73 : decode cX11_heard 73 = .ok (.imul, 1) := by decide +kernel
theorem dX11_heard_74 : decode cX11_heard 74 = .ok (.iconst 2, 1) := by decide +kernel
theorem dX11_heard_75 : decode cX11_heard 75 = .ok (.iload_n 3, 1) := by decide +kernel
theorem dX11_heard_76 : decode cX11_heard 76 = .ok (.imul, 1) := by decide +kernel
theorem dX11_heard_77 : decode cX11_heard 77 = .ok (.iadd, 1) := by decide +kernel
theorem dX11_heard_78 : decode cX11_heard 78 = .ok (.iconst 1, 1) := by decide +kernel
theorem dX11_heard_79 : decode cX11_heard 79 = .ok (.iadd, 1) := by decide +kernel
theorem dX11_heard_80 : decode cX11_heard 80 = .ok (.iaload, 1) := by decide +kernel
theorem dX11_heard_81 : decode cX11_heard 81 = .ok (.istore 5, 2) := by decide +kernel
theorem dX11_heard_83 : decode cX11_heard 83 = .ok (.aload_n 0, 1) := by decide +kernel
theorem dX11_heard_84 : decode cX11_heard 84 = .ok (.iload 4, 2) := by decide +kernel
theorem dX11_heard_86 : decode cX11_heard 86 = .ok (.invokevirtual 112, 3) := by decide +kernel
theorem dX11_heard_89 : decode cX11_heard 89 = .ok (.ifCond .eq 43, 3) := by decide +kernel
theorem dX11_heard_92 : decode cX11_heard 92 = .ok (.iload 5, 2) := by decide +kernel
theorem dX11_heard_94 : decode cX11_heard 94 = .ok (.iconst 0, 1) := by decide +kernel
theorem dX11_heard_95 : decode cX11_heard 95 = .ok (.iconst 1, 1) := by decide +kernel
theorem dX11_heard_96 : decode cX11_heard 96 = .ok (.invokestatic 102, 3) := by decide +kernel
theorem dX11_heard_99 : decode cX11_heard 99 = .ok (.ifCond .eq 33, 3) := by decide +kernel
theorem dX11_heard_102 : decode cX11_heard 102 = .ok (.aload_n 0, 1) := by decide +kernel
theorem dX11_heard_103 : decode cX11_heard 103 = .ok (.getfield 25, 3) := by decide +kernel
theorem dX11_heard_106 : decode cX11_heard 106 = .ok (.iload 4, 2) := by decide +kernel
theorem dX11_heard_108 : decode cX11_heard 108 = .ok (.iaload, 1) := by decide +kernel
theorem dX11_heard_109 : decode cX11_heard 109 = .ok (.ifCond .ne 23, 3) := by decide +kernel
theorem dX11_heard_112 : decode cX11_heard 112 = .ok (.aload_n 0, 1) := by decide +kernel
theorem dX11_heard_113 : decode cX11_heard 113 = .ok (.iload 4, 2) := by decide +kernel
theorem dX11_heard_115 : decode cX11_heard 115 = .ok (.invokevirtual 151, 3) := by decide +kernel
theorem dX11_heard_118 : decode cX11_heard 118 = .ok (.iload 5, 2) := by decide +kernel
theorem dX11_heard_120 : decode cX11_heard 120 = .ok (.iconst 1, 1) := by decide +kernel
theorem dX11_heard_121 : decode cX11_heard 121 = .ok (.if_icmp .ne 7, 3) := by decide +kernel
theorem dX11_heard_124 : decode cX11_heard 124 = .ok (.iconst 1, 1) := by decide +kernel
theorem dX11_heard_125 : decode cX11_heard 125 = .ok (.goto 4, 3) := by decide +kernel
theorem dX11_heard_128 : decode cX11_heard 128 = .ok (.iconst 0, 1) := by decide +kernel
theorem dX11_heard_129 : decode cX11_heard 129 = .ok (.if_icmp .eq 5, 3) := by decide +kernel
theorem dX11_heard_132 : decode cX11_heard 132 = .ok (.iload_n 3, 1) := by decide +kernel
theorem dX11_heard_133 : decode cX11_heard 133 = .ok (.ireturn, 1) := by decide +kernel
theorem dX11_heard_134 : decode cX11_heard 134 = .ok (.iinc 3 1, 3) := by decide +kernel
theorem dX11_heard_137 : decode cX11_heard 137 = .ok (.goto (-93), 3) := by decide +kernel
theorem dX11_heard_140 : decode cX11_heard 140 = .ok (.iconst (-1), 1) := by decide +kernel
theorem dX11_heard_141 : decode cX11_heard 141 = .ok (.ireturn, 1) := by decide +kernel
theorem dX11_where_0 : decode cX11_where 0 = .ok (.aload_n 0, 1) := by decide +kernel
theorem dX11_where_1 : decode cX11_where 1 = .ok (.iload_n 1, 1) := by decide +kernel
theorem dX11_where_2 : decode cX11_where 2 = .ok (.invokevirtual 112, 3) := by decide +kernel
theorem dX11_where_5 : decode cX11_where 5 = .ok (.ifCond .eq 12, 3) := by decide +kernel
theorem dX11_where_8 : decode cX11_where 8 = .ok (.iload_n 2, 1) := by decide +kernel
theorem dX11_where_9 : decode cX11_where 9 = .ok (.iconst 0, 1) := by decide +kernel
theorem dX11_where_10 : decode cX11_where 10 = .ok (.iconst 5, 1) := by decide +kernel
theorem dX11_where_11 : decode cX11_where 11 = .ok (.invokestatic 102, 3) := by decide +kernel
theorem dX11_where_14 : decode cX11_where 14 = .ok (.ifCond .ne 6, 3) := by decide +kernel
theorem dX11_where_17 : decode cX11_where 17 = .ok (.bipush (-2), 2) := by decide +kernel
theorem dX11_where_19 : decode cX11_where 19 = .ok (.ireturn, 1) := by decide +kernel
theorem dX11_where_20 : decode cX11_where 20 = .ok (.iconst 0, 1) := by decide +kernel
theorem dX11_where_21 : decode cX11_where 21 = .ok (.istore_n 3, 1) := by decide +kernel
theorem dX11_where_22 : decode cX11_where 22 = .ok (.iconst 0, 1) := by decide +kernel
theorem dX11_where_23 : decode cX11_where 23 = .ok (.istore 4, 2) := by decide +kernel
theorem dX11_where_25 : decode cX11_where 25 = .ok (.iload 4, 2) := by decide +kernel
theorem dX11_where_27 : decode cX11_where 27 = .ok (.bipush 8, 2) := by decide +kernel
theorem dX11_where_29 : decode cX11_where 29 = .ok (.if_icmp .ge 35, 3) := by decide +kernel
theorem dX11_where_32 : decode cX11_where 32 = .ok (.aload_n 0, 1) := by decide +kernel
theorem dX11_where_33 : decode cX11_where 33 = .ok (.iload_n 1, 1) := by decide +kernel
theorem dX11_where_34 : decode cX11_where 34 = .ok (.bipush 8, 2) := by decide +kernel
theorem dX11_where_36 : decode cX11_where 36 = .ok (.iload_n 2, 1) := by decide +kernel
theorem dX11_where_37 : decode cX11_where 37 = .ok (.imul, 1) := by decide +kernel
theorem dX11_where_38 : decode cX11_where 38 = .ok (.iload 4, 2) := by decide +kernel
theorem dX11_where_40 : decode cX11_where 40 = .ok (.iadd, 1) := by decide +kernel
theorem dX11_where_41 : decode cX11_where 41 = .ok (.aload_n 0, 1) := by decide +kernel
theorem dX11_where_42 : decode cX11_where 42 = .ok (.getfield 142, 3) := by decide +kernel
theorem dX11_where_45 : decode cX11_where 45 = .ok (.invokevirtual 145, 3) := by decide +kernel
theorem dX11_where_48 : decode cX11_where 48 = .ok (.ifCond .eq 10, 3) := by decide +kernel
theorem dX11_where_51 : decode cX11_where 51 = .ok (.iload_n 3, 1) := by decide +kernel
theorem dX11_where_52 : decode cX11_where 52 = .ok (.iconst 1, 1) := by decide +kernel
theorem dX11_where_53 : decode cX11_where 53 = .ok (.iload 4, 2) := by decide +kernel
theorem dX11_where_55 : decode cX11_where 55 = .ok (.ishl, 1) := by decide +kernel
theorem dX11_where_56 : decode cX11_where 56 = .ok (.ior, 1) := by decide +kernel
theorem dX11_where_57 : decode cX11_where 57 = .ok (.istore_n 3, 1) := by decide +kernel
theorem dX11_where_58 : decode cX11_where 58 = .ok (.iinc 4 1, 3) := by decide +kernel
theorem dX11_where_61 : decode cX11_where 61 = .ok (.goto (-36), 3) := by decide +kernel
theorem dX11_where_64 : decode cX11_where 64 = .ok (.iload_n 3, 1) := by decide +kernel
theorem dX11_where_65 : decode cX11_where 65 = .ok (.ireturn, 1) := by decide +kernel
theorem dX11_drawn_0 : decode cX11_drawn 0 = .ok (.aload_n 0, 1) := by decide +kernel
theorem dX11_drawn_1 : decode cX11_drawn 1 = .ok (.getfield 116, 3) := by decide +kernel
theorem dX11_drawn_4 : decode cX11_drawn 4 = .ok (.istore_n 2, 1) := by decide +kernel
theorem dX11_drawn_5 : decode cX11_drawn 5 = .ok (.aload_n 0, 1) := by decide +kernel
theorem dX11_drawn_6 : decode cX11_drawn 6 = .ok (.iload_n 1, 1) := by decide +kernel
theorem dX11_drawn_7 : decode cX11_drawn 7 = .ok (.ldc_w 283, 3) := by decide +kernel
theorem dX11_drawn_10 : decode cX11_drawn 10 = .ok (.imul, 1) := by decide +kernel
theorem dX11_drawn_11 : decode cX11_drawn 11 = .ok (.sipush 12345, 3) := by decide +kernel
theorem dX11_drawn_14 : decode cX11_drawn 14 = .ok (.iadd, 1) := by decide +kernel
theorem dX11_drawn_15 : decode cX11_drawn 15 = .ok (.bipush 10, 2) := by decide +kernel
theorem dX11_drawn_17 : decode cX11_drawn 17 = .ok (.iushr, 1) := by decide +kernel
theorem dX11_drawn_18 : decode cX11_drawn 18 = .ok (.bipush 10, 2) := by decide +kernel
theorem dX11_drawn_20 : decode cX11_drawn 20 = .ok (.irem, 1) := by decide +kernel
theorem dX11_drawn_21 : decode cX11_drawn 21 = .ok (.putfield 116, 3) := by decide +kernel
theorem dX11_drawn_24 : decode cX11_drawn 24 = .ok (.iconst 0, 1) := by decide +kernel
theorem dX11_drawn_25 : decode cX11_drawn 25 = .ok (.istore_n 3, 1) := by decide +kernel
theorem dX11_drawn_26 : decode cX11_drawn 26 = .ok (.iconst 0, 1) := by decide +kernel
theorem dX11_drawn_27 : decode cX11_drawn 27 = .ok (.istore 4, 2) := by decide +kernel
theorem dX11_drawn_29 : decode cX11_drawn 29 = .ok (.iload 4, 2) := by decide +kernel
theorem dX11_drawn_31 : decode cX11_drawn 31 = .ok (.aload_n 0, 1) := by decide +kernel
theorem dX11_drawn_32 : decode cX11_drawn 32 = .ok (.getfield 99, 3) := by decide +kernel
theorem dX11_drawn_35 : decode cX11_drawn 35 = .ok (.if_icmp .ge 31, 3) := by decide +kernel
theorem dX11_drawn_38 : decode cX11_drawn 38 = .ok (.aload_n 0, 1) := by decide +kernel
theorem dX11_drawn_39 : decode cX11_drawn 39 = .ok (.getfield 25, 3) := by decide +kernel
theorem dX11_drawn_42 : decode cX11_drawn 42 = .ok (.iload 4, 2) := by decide +kernel
theorem dX11_drawn_44 : decode cX11_drawn 44 = .ok (.iaload, 1) := by decide +kernel
theorem dX11_drawn_45 : decode cX11_drawn 45 = .ok (.ifCond .ne 15, 3) := by decide +kernel
theorem dX11_drawn_48 : decode cX11_drawn 48 = .ok (.aload_n 0, 1) := by decide +kernel
theorem dX11_drawn_49 : decode cX11_drawn 49 = .ok (.iload 4, 2) := by decide +kernel
theorem dX11_drawn_51 : decode cX11_drawn 51 = .ok (.invokevirtual 151, 3) := by decide +kernel
theorem dX11_drawn_54 : decode cX11_drawn 54 = .ok (.ifCond .eq 6, 3) := by decide +kernel
theorem dX11_drawn_57 : decode cX11_drawn 57 = .ok (.iinc 3 1, 3) := by decide +kernel
theorem dX11_drawn_60 : decode cX11_drawn 60 = .ok (.iinc 4 1, 3) := by decide +kernel
theorem dX11_drawn_63 : decode cX11_drawn 63 = .ok (.goto (-34), 3) := by decide +kernel
theorem dX11_drawn_66 : decode cX11_drawn 66 = .ok (.aload_n 0, 1) := by decide +kernel
theorem dX11_drawn_67 : decode cX11_drawn 67 = .ok (.iload_n 2, 1) := by decide +kernel
theorem dX11_drawn_68 : decode cX11_drawn 68 = .ok (.putfield 116, 3) := by decide +kernel
theorem dX11_drawn_71 : decode cX11_drawn 71 = .ok (.iload_n 3, 1) := by decide +kernel
theorem dX11_drawn_72 : decode cX11_drawn 72 = .ok (.ireturn, 1) := by decide +kernel
theorem dX11_lowest_0 : decode cX11_lowest 0 = .ok (.lload_n 0, 1) := by decide +kernel
theorem dX11_lowest_1 : decode cX11_lowest 1 = .ok (.lstore 5, 2) := by decide +kernel
theorem dX11_lowest_3 : decode cX11_lowest 3 = .ok (.lload_n 2, 1) := by decide +kernel
theorem dX11_lowest_4 : decode cX11_lowest 4 = .ok (.lstore 7, 2) := by decide +kernel
theorem dX11_lowest_6 : decode cX11_lowest 6 = .ok (.lload 7, 2) := by decide +kernel
theorem dX11_lowest_8 : decode cX11_lowest 8 = .ok (.lconst 0, 1) := by decide +kernel
theorem dX11_lowest_9 : decode cX11_lowest 9 = .ok (.lcmp, 1) := by decide +kernel
theorem dX11_lowest_10 : decode cX11_lowest 10 = .ok (.ifCond .eq 21, 3) := by decide +kernel
theorem dX11_lowest_13 : decode cX11_lowest 13 = .ok (.lload 5, 2) := by decide +kernel
theorem dX11_lowest_15 : decode cX11_lowest 15 = .ok (.lload 7, 2) := by decide +kernel
theorem dX11_lowest_17 : decode cX11_lowest 17 = .ok (.lrem, 1) := by decide +kernel
theorem dX11_lowest_18 : decode cX11_lowest 18 = .ok (.lstore 9, 2) := by decide +kernel
theorem dX11_lowest_20 : decode cX11_lowest 20 = .ok (.lload 7, 2) := by decide +kernel
theorem dX11_lowest_22 : decode cX11_lowest 22 = .ok (.lstore 5, 2) := by decide +kernel
theorem dX11_lowest_24 : decode cX11_lowest 24 = .ok (.lload 9, 2) := by decide +kernel
theorem dX11_lowest_26 : decode cX11_lowest 26 = .ok (.lstore 7, 2) := by decide +kernel
theorem dX11_lowest_28 : decode cX11_lowest 28 = .ok (.goto (-22), 3) := by decide +kernel
theorem dX11_lowest_31 : decode cX11_lowest 31 = .ok (.iload 4, 2) := by decide +kernel
theorem dX11_lowest_33 : decode cX11_lowest 33 = .ok (.ifCond .ne 10, 3) := by decide +kernel
theorem dX11_lowest_36 : decode cX11_lowest 36 = .ok (.lload_n 0, 1) := by decide +kernel
theorem dX11_lowest_37 : decode cX11_lowest 37 = .ok (.lload 5, 2) := by decide +kernel
theorem dX11_lowest_39 : decode cX11_lowest 39 = .ok (.ldiv, 1) := by decide +kernel
theorem dX11_lowest_40 : decode cX11_lowest 40 = .ok (.goto 7, 3) := by decide +kernel
theorem dX11_lowest_43 : decode cX11_lowest 43 = .ok (.lload_n 2, 1) := by decide +kernel
theorem dX11_lowest_44 : decode cX11_lowest 44 = .ok (.lload 5, 2) := by decide +kernel
theorem dX11_lowest_46 : decode cX11_lowest 46 = .ok (.ldiv, 1) := by decide +kernel
theorem dX11_lowest_47 : decode cX11_lowest 47 = .ok (.lreturn, 1) := by decide +kernel
theorem dX11_chance_0 : decode cX11_chance 0 = .ok (.iload_n 2, 1) := by decide +kernel
theorem dX11_chance_1 : decode cX11_chance 1 = .ok (.iconst 1, 1) := by decide +kernel
theorem dX11_chance_2 : decode cX11_chance 2 = .ok (.bipush 20, 2) := by decide +kernel
theorem dX11_chance_4 : decode cX11_chance 4 = .ok (.invokestatic 102, 3) := by decide +kernel
theorem dX11_chance_7 : decode cX11_chance 7 = .ok (.ifCond .eq 12, 3) := by decide +kernel
theorem dX11_chance_10 : decode cX11_chance 10 = .ok (.iload_n 3, 1) := by decide +kernel
theorem dX11_chance_11 : decode cX11_chance 11 = .ok (.iconst 0, 1) := by decide +kernel
theorem dX11_chance_12 : decode cX11_chance 12 = .ok (.iconst 1, 1) := by decide +kernel
theorem dX11_chance_13 : decode cX11_chance 13 = .ok (.invokestatic 102, 3) := by decide +kernel
theorem dX11_chance_16 : decode cX11_chance 16 = .ok (.ifCond .ne 7, 3) := by decide +kernel
theorem dX11_chance_19 : decode cX11_chance 19 = .ok (.ldc2_w 284, 3) := by decide +kernel
theorem dX11_chance_22 : decode cX11_chance 22 = .ok (.lreturn, 1) := by decide +kernel
theorem dX11_chance_23 : decode cX11_chance 23 = .ok (.iconst 0, 1) := by decide +kernel
theorem dX11_chance_24 : decode cX11_chance 24 = .ok (.istore 4, 2) := by decide +kernel
theorem dX11_chance_26 : decode cX11_chance 26 = .ok (.iconst 0, 1) := by decide +kernel
theorem dX11_chance_27 : decode cX11_chance 27 = .ok (.istore 5, 2) := by decide +kernel
theorem dX11_chance_29 : decode cX11_chance 29 = .ok (.iload 5, 2) := by decide +kernel
theorem dX11_chance_31 : decode cX11_chance 31 = .ok (.aload_n 0, 1) := by decide +kernel
theorem dX11_chance_32 : decode cX11_chance 32 = .ok (.getfield 99, 3) := by decide +kernel
theorem dX11_chance_35 : decode cX11_chance 35 = .ok (.if_icmp .ge 22, 3) := by decide +kernel
theorem dX11_chance_38 : decode cX11_chance 38 = .ok (.aload_n 0, 1) := by decide +kernel
theorem dX11_chance_39 : decode cX11_chance 39 = .ok (.getfield 25, 3) := by decide +kernel
theorem dX11_chance_42 : decode cX11_chance 42 = .ok (.iload 5, 2) := by decide +kernel
theorem dX11_chance_44 : decode cX11_chance 44 = .ok (.iaload, 1) := by decide +kernel
theorem dX11_chance_45 : decode cX11_chance 45 = .ok (.ifCond .ne 6, 3) := by decide +kernel
theorem dX11_chance_48 : decode cX11_chance 48 = .ok (.iinc 4 1, 3) := by decide +kernel
theorem dX11_chance_51 : decode cX11_chance 51 = .ok (.iinc 5 1, 3) := by decide +kernel
theorem dX11_chance_54 : decode cX11_chance 54 = .ok (.goto (-25), 3) := by decide +kernel
theorem dX11_chance_57 : decode cX11_chance 57 = .ok (.iconst 0, 1) := by decide +kernel
theorem dX11_chance_58 : decode cX11_chance 58 = .ok (.istore 5, 2) := by decide +kernel
theorem dX11_chance_60 : decode cX11_chance 60 = .ok (.iconst 0, 1) := by decide +kernel
theorem dX11_chance_61 : decode cX11_chance 61 = .ok (.istore 6, 2) := by decide +kernel
theorem dX11_chance_63 : decode cX11_chance 63 = .ok (.iload 6, 2) := by decide +kernel
theorem dX11_chance_65 : decode cX11_chance 65 = .ok (.iload_n 2, 1) := by decide +kernel
theorem dX11_chance_66 : decode cX11_chance 66 = .ok (.if_icmp .ge 25, 3) := by decide +kernel
theorem dX11_chance_69 : decode cX11_chance 69 = .ok (.aload_n 0, 1) := by decide +kernel
theorem dX11_chance_70 : decode cX11_chance 70 = .ok (.iload_n 1, 1) := by decide +kernel
theorem dX11_chance_71 : decode cX11_chance 71 = .ok (.iload 6, 2) := by decide +kernel
theorem dX11_chance_73 : decode cX11_chance 73 = .ok (.iadd, 1) := by decide +kernel
theorem dX11_chance_74 : decode cX11_chance 74 = .ok (.invokevirtual 286, 3) := by decide +kernel
theorem dX11_chance_77 : decode cX11_chance 77 = .ok (.iload 4, 2) := by decide +kernel
theorem dX11_chance_79 : decode cX11_chance 79 = .ok (.if_icmp .ne 6, 3) := by decide +kernel
theorem dX11_chance_82 : decode cX11_chance 82 = .ok (.iinc 5 1, 3) := by decide +kernel
theorem dX11_chance_85 : decode cX11_chance 85 = .ok (.iinc 6 1, 3) := by decide +kernel
theorem dX11_chance_88 : decode cX11_chance 88 = .ok (.goto (-25), 3) := by decide +kernel
theorem dX11_chance_91 : decode cX11_chance 91 = .ok (.iload 5, 2) := by decide +kernel
theorem dX11_chance_93 : decode cX11_chance 93 = .ok (.i2l, 1) := by decide +kernel
theorem dX11_chance_94 : decode cX11_chance 94 = .ok (.iload_n 2, 1) := by decide +kernel
theorem dX11_chance_95 : decode cX11_chance 95 = .ok (.i2l, 1) := by decide +kernel
theorem dX11_chance_96 : decode cX11_chance 96 = .ok (.iload_n 3, 1) := by decide +kernel
theorem dX11_chance_97 : decode cX11_chance 97 = .ok (.invokestatic 289, 3) := by decide +kernel
theorem dX11_chance_100 : decode cX11_chance 100 = .ok (.lreturn, 1) := by decide +kernel
theorem dX11_image_0 : decode cX11_image 0 = .ok (.aload_n 0, 1) := by decide +kernel
theorem dX11_image_1 : decode cX11_image 1 = .ok (.iconst 1, 1) := by decide +kernel
theorem dX11_image_2 : decode cX11_image 2 = .ok (.putfield 293, 3) := by decide +kernel
theorem dX11_image_5 : decode cX11_image 5 = .ok (.aload_n 0, 1) := by decide +kernel
theorem dX11_image_6 : decode cX11_image 6 = .ok (.aload_n 0, 1) := by decide +kernel
theorem dX11_image_7 : decode cX11_image 7 = .ok (.getfield 99, 3) := by decide +kernel
theorem dX11_image_10 : decode cX11_image 10 = .ok (.putfield 297, 3) := by decide +kernel
theorem dX11_image_13 : decode cX11_image 13 = .ok (.iconst 0, 1) := by decide +kernel
theorem dX11_image_14 : decode cX11_image 14 = .ok (.istore_n 1, 1) := by decide +kernel
theorem dX11_image_15 : decode cX11_image 15 = .ok (.iload_n 1, 1) := by decide +kernel
theorem dX11_image_16 : decode cX11_image 16 = .ok (.aload_n 0, 1) := by decide +kernel
theorem dX11_image_17 : decode cX11_image 17 = .ok (.getfield 99, 3) := by decide +kernel
theorem dX11_image_20 : decode cX11_image 20 = .ok (.if_icmp .ge 109, 3) := by decide +kernel
theorem dX11_image_23 : decode cX11_image 23 = .ok (.aload_n 0, 1) := by decide +kernel
theorem dX11_image_24 : decode cX11_image 24 = .ok (.getfield 55, 3) := by decide +kernel
theorem dX11_image_27 : decode cX11_image 27 = .ok (.bipush 6, 2) := by decide +kernel
theorem dX11_image_29 : decode cX11_image 29 = .ok (.iload_n 1, 1) := by decide +kernel
theorem dX11_image_30 : decode cX11_image 30 = .ok (.imul, 1) := by decide +kernel
theorem dX11_image_31 : decode cX11_image 31 = .ok (.aload_n 0, 1) := by decide +kernel
theorem dX11_image_32 : decode cX11_image 32 = .ok (.getfield 16, 3) := by decide +kernel
theorem dX11_image_35 : decode cX11_image 35 = .ok (.iload_n 1, 1) := by decide +kernel
theorem dX11_image_36 : decode cX11_image 36 = .ok (.iaload, 1) := by decide +kernel
theorem dX11_image_37 : decode cX11_image 37 = .ok (.iastore, 1) := by decide +kernel
theorem dX11_image_38 : decode cX11_image 38 = .ok (.aload_n 0, 1) := by decide +kernel
theorem dX11_image_39 : decode cX11_image 39 = .ok (.getfield 55, 3) := by decide +kernel
theorem dX11_image_42 : decode cX11_image 42 = .ok (.bipush 6, 2) := by decide +kernel
theorem dX11_image_44 : decode cX11_image 44 = .ok (.iload_n 1, 1) := by decide +kernel
theorem dX11_image_45 : decode cX11_image 45 = .ok (.imul, 1) := by decide +kernel
theorem dX11_image_46 : decode cX11_image 46 = .ok (.iconst 1, 1) := by decide +kernel
theorem dX11_image_47 : decode cX11_image 47 = .ok (.iadd, 1) := by decide +kernel
theorem dX11_image_48 : decode cX11_image 48 = .ok (.aload_n 0, 1) := by decide +kernel
theorem dX11_image_49 : decode cX11_image 49 = .ok (.getfield 19, 3) := by decide +kernel
theorem dX11_image_52 : decode cX11_image 52 = .ok (.iload_n 1, 1) := by decide +kernel
theorem dX11_image_53 : decode cX11_image 53 = .ok (.iaload, 1) := by decide +kernel
theorem dX11_image_54 : decode cX11_image 54 = .ok (.iastore, 1) := by decide +kernel
theorem dX11_image_55 : decode cX11_image 55 = .ok (.aload_n 0, 1) := by decide +kernel
theorem dX11_image_56 : decode cX11_image 56 = .ok (.getfield 55, 3) := by decide +kernel
theorem dX11_image_59 : decode cX11_image 59 = .ok (.bipush 6, 2) := by decide +kernel
theorem dX11_image_61 : decode cX11_image 61 = .ok (.iload_n 1, 1) := by decide +kernel
theorem dX11_image_62 : decode cX11_image 62 = .ok (.imul, 1) := by decide +kernel
theorem dX11_image_63 : decode cX11_image 63 = .ok (.iconst 2, 1) := by decide +kernel
theorem dX11_image_64 : decode cX11_image 64 = .ok (.iadd, 1) := by decide +kernel
theorem dX11_image_65 : decode cX11_image 65 = .ok (.aload_n 0, 1) := by decide +kernel
theorem dX11_image_66 : decode cX11_image 66 = .ok (.getfield 22, 3) := by decide +kernel
theorem dX11_image_69 : decode cX11_image 69 = .ok (.iload_n 1, 1) := by decide +kernel
theorem dX11_image_70 : decode cX11_image 70 = .ok (.iaload, 1) := by decide +kernel
theorem dX11_image_71 : decode cX11_image 71 = .ok (.iastore, 1) := by decide +kernel
theorem dX11_image_72 : decode cX11_image 72 = .ok (.aload_n 0, 1) := by decide +kernel
theorem dX11_image_73 : decode cX11_image 73 = .ok (.getfield 55, 3) := by decide +kernel
theorem dX11_image_76 : decode cX11_image 76 = .ok (.bipush 6, 2) := by decide +kernel
theorem dX11_image_78 : decode cX11_image 78 = .ok (.iload_n 1, 1) := by decide +kernel
theorem dX11_image_79 : decode cX11_image 79 = .ok (.imul, 1) := by decide +kernel
theorem dX11_image_80 : decode cX11_image 80 = .ok (.iconst 3, 1) := by decide +kernel
theorem dX11_image_81 : decode cX11_image 81 = .ok (.iadd, 1) := by decide +kernel
theorem dX11_image_82 : decode cX11_image 82 = .ok (.aload_n 0, 1) := by decide +kernel
theorem dX11_image_83 : decode cX11_image 83 = .ok (.getfield 13, 3) := by decide +kernel
theorem dX11_image_86 : decode cX11_image 86 = .ok (.iload_n 1, 1) := by decide +kernel
theorem dX11_image_87 : decode cX11_image 87 = .ok (.iaload, 1) := by decide +kernel
theorem dX11_image_88 : decode cX11_image 88 = .ok (.iastore, 1) := by decide +kernel
theorem dX11_image_89 : decode cX11_image 89 = .ok (.aload_n 0, 1) := by decide +kernel
theorem dX11_image_90 : decode cX11_image 90 = .ok (.getfield 55, 3) := by decide +kernel
theorem dX11_image_93 : decode cX11_image 93 = .ok (.bipush 6, 2) := by decide +kernel
theorem dX11_image_95 : decode cX11_image 95 = .ok (.iload_n 1, 1) := by decide +kernel
theorem dX11_image_96 : decode cX11_image 96 = .ok (.imul, 1) := by decide +kernel
theorem dX11_image_97 : decode cX11_image 97 = .ok (.iconst 4, 1) := by decide +kernel
theorem dX11_image_98 : decode cX11_image 98 = .ok (.iadd, 1) := by decide +kernel
theorem dX11_image_99 : decode cX11_image 99 = .ok (.aload_n 0, 1) := by decide +kernel
theorem dX11_image_100 : decode cX11_image 100 = .ok (.getfield 25, 3) := by decide +kernel
theorem dX11_image_103 : decode cX11_image 103 = .ok (.iload_n 1, 1) := by decide +kernel
theorem dX11_image_104 : decode cX11_image 104 = .ok (.iaload, 1) := by decide +kernel
theorem dX11_image_105 : decode cX11_image 105 = .ok (.iastore, 1) := by decide +kernel
theorem dX11_image_106 : decode cX11_image 106 = .ok (.aload_n 0, 1) := by decide +kernel
theorem dX11_image_107 : decode cX11_image 107 = .ok (.getfield 55, 3) := by decide +kernel
theorem dX11_image_110 : decode cX11_image 110 = .ok (.bipush 6, 2) := by decide +kernel
theorem dX11_image_112 : decode cX11_image 112 = .ok (.iload_n 1, 1) := by decide +kernel
theorem dX11_image_113 : decode cX11_image 113 = .ok (.imul, 1) := by decide +kernel
theorem dX11_image_114 : decode cX11_image 114 = .ok (.iconst 5, 1) := by decide +kernel
theorem dX11_image_115 : decode cX11_image 115 = .ok (.iadd, 1) := by decide +kernel
theorem dX11_image_116 : decode cX11_image 116 = .ok (.aload_n 0, 1) := by decide +kernel
theorem dX11_image_117 : decode cX11_image 117 = .ok (.getfield 28, 3) := by decide +kernel
theorem dX11_image_120 : decode cX11_image 120 = .ok (.iload_n 1, 1) := by decide +kernel
theorem dX11_image_121 : decode cX11_image 121 = .ok (.iaload, 1) := by decide +kernel
theorem dX11_image_122 : decode cX11_image 122 = .ok (.iastore, 1) := by decide +kernel
theorem dX11_image_123 : decode cX11_image 123 = .ok (.iinc 1 1, 3) := by decide +kernel
theorem dX11_image_126 : decode cX11_image 126 = .ok (.goto (-111), 3) := by decide +kernel
theorem dX11_image_129 : decode cX11_image 129 = .ok (.aload_n 0, 1) := by decide +kernel
theorem dX11_image_130 : decode cX11_image 130 = .ok (.getfield 55, 3) := by decide +kernel
theorem dX11_image_133 : decode cX11_image 133 = .ok (.bipush 42, 2) := by decide +kernel
theorem dX11_image_135 : decode cX11_image 135 = .ok (.aload_n 0, 1) := by decide +kernel
theorem dX11_image_136 : decode cX11_image 136 = .ok (.getfield 70, 3) := by decide +kernel
theorem dX11_image_139 : decode cX11_image 139 = .ok (.iastore, 1) := by decide +kernel
theorem dX11_image_140 : decode cX11_image 140 = .ok (.aload_n 0, 1) := by decide +kernel
theorem dX11_image_141 : decode cX11_image 141 = .ok (.getfield 55, 3) := by decide +kernel
theorem dX11_image_144 : decode cX11_image 144 = .ok (.bipush 43, 2) := by decide +kernel
theorem dX11_image_146 : decode cX11_image 146 = .ok (.aload_n 0, 1) := by decide +kernel
theorem dX11_image_147 : decode cX11_image 147 = .ok (.getfield 116, 3) := by decide +kernel
theorem dX11_image_150 : decode cX11_image 150 = .ok (.iastore, 1) := by decide +kernel
theorem dX11_image_151 : decode cX11_image 151 = .ok (.aload_n 0, 1) := by decide +kernel
theorem dX11_image_152 : decode cX11_image 152 = .ok (.getfield 55, 3) := by decide +kernel
theorem dX11_image_155 : decode cX11_image 155 = .ok (.bipush 44, 2) := by decide +kernel
theorem dX11_image_157 : decode cX11_image 157 = .ok (.aload_n 0, 1) := by decide +kernel
theorem dX11_image_158 : decode cX11_image 158 = .ok (.getfield 142, 3) := by decide +kernel
theorem dX11_image_161 : decode cX11_image 161 = .ok (.iastore, 1) := by decide +kernel
theorem dX11_image_162 : decode cX11_image 162 = .ok (.aload_n 0, 1) := by decide +kernel
theorem dX11_image_163 : decode cX11_image 163 = .ok (.getfield 55, 3) := by decide +kernel
theorem dX11_image_166 : decode cX11_image 166 = .ok (.bipush 45, 2) := by decide +kernel
theorem dX11_image_168 : decode cX11_image 168 = .ok (.aload_n 0, 1) := by decide +kernel
theorem dX11_image_169 : decode cX11_image 169 = .ok (.getfield 74, 3) := by decide +kernel
theorem dX11_image_172 : decode cX11_image 172 = .ok (.iastore, 1) := by decide +kernel
theorem dX11_image_173 : decode cX11_image 173 = .ok (.aload_n 0, 1) := by decide +kernel
theorem dX11_image_174 : decode cX11_image 174 = .ok (.getfield 55, 3) := by decide +kernel
theorem dX11_image_177 : decode cX11_image 177 = .ok (.bipush 46, 2) := by decide +kernel
theorem dX11_image_179 : decode cX11_image 179 = .ok (.aload_n 0, 1) := by decide +kernel
theorem dX11_image_180 : decode cX11_image 180 = .ok (.getfield 77, 3) := by decide +kernel
theorem dX11_image_183 : decode cX11_image 183 = .ok (.iastore, 1) := by decide +kernel
theorem dX11_image_184 : decode cX11_image 184 = .ok (.aload_n 0, 1) := by decide +kernel
theorem dX11_image_185 : decode cX11_image 185 = .ok (.getfield 55, 3) := by decide +kernel
theorem dX11_image_188 : decode cX11_image 188 = .ok (.bipush 47, 2) := by decide +kernel
theorem dX11_image_190 : decode cX11_image 190 = .ok (.aload_n 0, 1) := by decide +kernel
theorem dX11_image_191 : decode cX11_image 191 = .ok (.getfield 119, 3) := by decide +kernel
theorem dX11_image_194 : decode cX11_image 194 = .ok (.iastore, 1) := by decide +kernel
theorem dX11_image_195 : decode cX11_image 195 = .ok (.aload_n 0, 1) := by decide +kernel
theorem dX11_image_196 : decode cX11_image 196 = .ok (.getfield 55, 3) := by decide +kernel
theorem dX11_image_199 : decode cX11_image 199 = .ok (.bipush 48, 2) := by decide +kernel
theorem dX11_image_201 : decode cX11_image 201 = .ok (.aload_n 0, 1) := by decide +kernel
theorem dX11_image_202 : decode cX11_image 202 = .ok (.getfield 249, 3) := by decide +kernel
theorem dX11_image_205 : decode cX11_image 205 = .ok (.iastore, 1) := by decide +kernel
theorem dX11_image_206 : decode cX11_image 206 = .ok (.aload_n 0, 1) := by decide +kernel
theorem dX11_image_207 : decode cX11_image 207 = .ok (.getfield 55, 3) := by decide +kernel
theorem dX11_image_210 : decode cX11_image 210 = .ok (.bipush 49, 2) := by decide +kernel
theorem dX11_image_212 : decode cX11_image 212 = .ok (.aload_n 0, 1) := by decide +kernel
theorem dX11_image_213 : decode cX11_image 213 = .ok (.getfield 129, 3) := by decide +kernel
theorem dX11_image_216 : decode cX11_image 216 = .ok (.iastore, 1) := by decide +kernel
theorem dX11_image_217 : decode cX11_image 217 = .ok (.aload_n 0, 1) := by decide +kernel
theorem dX11_image_218 : decode cX11_image 218 = .ok (.getfield 99, 3) := by decide +kernel
theorem dX11_image_221 : decode cX11_image 221 = .ok (.ireturn, 1) := by decide +kernel
theorem dX11_back_0 : decode cX11_back 0 = .ok (.aload_n 0, 1) := by decide +kernel
theorem dX11_back_1 : decode cX11_back 1 = .ok (.getfield 293, 3) := by decide +kernel
theorem dX11_back_4 : decode cX11_back 4 = .ok (.ifCond .ne 6, 3) := by decide +kernel
theorem dX11_back_7 : decode cX11_back 7 = .ok (.bipush (-3), 2) := by decide +kernel
theorem dX11_back_9 : decode cX11_back 9 = .ok (.ireturn, 1) := by decide +kernel
theorem dX11_back_10 : decode cX11_back 10 = .ok (.aload_n 0, 1) := by decide +kernel
theorem dX11_back_11 : decode cX11_back 11 = .ok (.aload_n 0, 1) := by decide +kernel
theorem dX11_back_12 : decode cX11_back 12 = .ok (.getfield 297, 3) := by decide +kernel
theorem dX11_back_15 : decode cX11_back 15 = .ok (.putfield 99, 3) := by decide +kernel
theorem dX11_back_18 : decode cX11_back 18 = .ok (.iconst 0, 1) := by decide +kernel
theorem dX11_back_19 : decode cX11_back 19 = .ok (.istore_n 1, 1) := by decide +kernel
theorem dX11_back_20 : decode cX11_back 20 = .ok (.iload_n 1, 1) := by decide +kernel
theorem dX11_back_21 : decode cX11_back 21 = .ok (.aload_n 0, 1) := by decide +kernel
theorem dX11_back_22 : decode cX11_back 22 = .ok (.getfield 99, 3) := by decide +kernel
theorem dX11_back_25 : decode cX11_back 25 = .ok (.if_icmp .ge 109, 3) := by decide +kernel
theorem dX11_back_28 : decode cX11_back 28 = .ok (.aload_n 0, 1) := by decide +kernel
theorem dX11_back_29 : decode cX11_back 29 = .ok (.getfield 16, 3) := by decide +kernel
theorem dX11_back_32 : decode cX11_back 32 = .ok (.iload_n 1, 1) := by decide +kernel
theorem dX11_back_33 : decode cX11_back 33 = .ok (.aload_n 0, 1) := by decide +kernel
theorem dX11_back_34 : decode cX11_back 34 = .ok (.getfield 55, 3) := by decide +kernel
theorem dX11_back_37 : decode cX11_back 37 = .ok (.bipush 6, 2) := by decide +kernel
theorem dX11_back_39 : decode cX11_back 39 = .ok (.iload_n 1, 1) := by decide +kernel
theorem dX11_back_40 : decode cX11_back 40 = .ok (.imul, 1) := by decide +kernel
theorem dX11_back_41 : decode cX11_back 41 = .ok (.iaload, 1) := by decide +kernel
theorem dX11_back_42 : decode cX11_back 42 = .ok (.iastore, 1) := by decide +kernel
theorem dX11_back_43 : decode cX11_back 43 = .ok (.aload_n 0, 1) := by decide +kernel
theorem dX11_back_44 : decode cX11_back 44 = .ok (.getfield 19, 3) := by decide +kernel
theorem dX11_back_47 : decode cX11_back 47 = .ok (.iload_n 1, 1) := by decide +kernel
theorem dX11_back_48 : decode cX11_back 48 = .ok (.aload_n 0, 1) := by decide +kernel
theorem dX11_back_49 : decode cX11_back 49 = .ok (.getfield 55, 3) := by decide +kernel
theorem dX11_back_52 : decode cX11_back 52 = .ok (.bipush 6, 2) := by decide +kernel
theorem dX11_back_54 : decode cX11_back 54 = .ok (.iload_n 1, 1) := by decide +kernel
theorem dX11_back_55 : decode cX11_back 55 = .ok (.imul, 1) := by decide +kernel
theorem dX11_back_56 : decode cX11_back 56 = .ok (.iconst 1, 1) := by decide +kernel
theorem dX11_back_57 : decode cX11_back 57 = .ok (.iadd, 1) := by decide +kernel
theorem dX11_back_58 : decode cX11_back 58 = .ok (.iaload, 1) := by decide +kernel
theorem dX11_back_59 : decode cX11_back 59 = .ok (.iastore, 1) := by decide +kernel
theorem dX11_back_60 : decode cX11_back 60 = .ok (.aload_n 0, 1) := by decide +kernel
theorem dX11_back_61 : decode cX11_back 61 = .ok (.getfield 22, 3) := by decide +kernel
theorem dX11_back_64 : decode cX11_back 64 = .ok (.iload_n 1, 1) := by decide +kernel
theorem dX11_back_65 : decode cX11_back 65 = .ok (.aload_n 0, 1) := by decide +kernel
theorem dX11_back_66 : decode cX11_back 66 = .ok (.getfield 55, 3) := by decide +kernel
theorem dX11_back_69 : decode cX11_back 69 = .ok (.bipush 6, 2) := by decide +kernel
theorem dX11_back_71 : decode cX11_back 71 = .ok (.iload_n 1, 1) := by decide +kernel
theorem dX11_back_72 : decode cX11_back 72 = .ok (.imul, 1) := by decide +kernel
theorem dX11_back_73 : decode cX11_back 73 = .ok (.iconst 2, 1) := by decide +kernel
theorem dX11_back_74 : decode cX11_back 74 = .ok (.iadd, 1) := by decide +kernel
theorem dX11_back_75 : decode cX11_back 75 = .ok (.iaload, 1) := by decide +kernel
theorem dX11_back_76 : decode cX11_back 76 = .ok (.iastore, 1) := by decide +kernel
theorem dX11_back_77 : decode cX11_back 77 = .ok (.aload_n 0, 1) := by decide +kernel
theorem dX11_back_78 : decode cX11_back 78 = .ok (.getfield 13, 3) := by decide +kernel
theorem dX11_back_81 : decode cX11_back 81 = .ok (.iload_n 1, 1) := by decide +kernel
theorem dX11_back_82 : decode cX11_back 82 = .ok (.aload_n 0, 1) := by decide +kernel
theorem dX11_back_83 : decode cX11_back 83 = .ok (.getfield 55, 3) := by decide +kernel
theorem dX11_back_86 : decode cX11_back 86 = .ok (.bipush 6, 2) := by decide +kernel
theorem dX11_back_88 : decode cX11_back 88 = .ok (.iload_n 1, 1) := by decide +kernel
theorem dX11_back_89 : decode cX11_back 89 = .ok (.imul, 1) := by decide +kernel
theorem dX11_back_90 : decode cX11_back 90 = .ok (.iconst 3, 1) := by decide +kernel
theorem dX11_back_91 : decode cX11_back 91 = .ok (.iadd, 1) := by decide +kernel
theorem dX11_back_92 : decode cX11_back 92 = .ok (.iaload, 1) := by decide +kernel
theorem dX11_back_93 : decode cX11_back 93 = .ok (.iastore, 1) := by decide +kernel
theorem dX11_back_94 : decode cX11_back 94 = .ok (.aload_n 0, 1) := by decide +kernel
theorem dX11_back_95 : decode cX11_back 95 = .ok (.getfield 25, 3) := by decide +kernel
theorem dX11_back_98 : decode cX11_back 98 = .ok (.iload_n 1, 1) := by decide +kernel
theorem dX11_back_99 : decode cX11_back 99 = .ok (.aload_n 0, 1) := by decide +kernel
theorem dX11_back_100 : decode cX11_back 100 = .ok (.getfield 55, 3) := by decide +kernel
theorem dX11_back_103 : decode cX11_back 103 = .ok (.bipush 6, 2) := by decide +kernel
theorem dX11_back_105 : decode cX11_back 105 = .ok (.iload_n 1, 1) := by decide +kernel
theorem dX11_back_106 : decode cX11_back 106 = .ok (.imul, 1) := by decide +kernel
theorem dX11_back_107 : decode cX11_back 107 = .ok (.iconst 4, 1) := by decide +kernel
theorem dX11_back_108 : decode cX11_back 108 = .ok (.iadd, 1) := by decide +kernel
theorem dX11_back_109 : decode cX11_back 109 = .ok (.iaload, 1) := by decide +kernel
theorem dX11_back_110 : decode cX11_back 110 = .ok (.iastore, 1) := by decide +kernel
theorem dX11_back_111 : decode cX11_back 111 = .ok (.aload_n 0, 1) := by decide +kernel
theorem dX11_back_112 : decode cX11_back 112 = .ok (.getfield 28, 3) := by decide +kernel
theorem dX11_back_115 : decode cX11_back 115 = .ok (.iload_n 1, 1) := by decide +kernel
theorem dX11_back_116 : decode cX11_back 116 = .ok (.aload_n 0, 1) := by decide +kernel
theorem dX11_back_117 : decode cX11_back 117 = .ok (.getfield 55, 3) := by decide +kernel
theorem dX11_back_120 : decode cX11_back 120 = .ok (.bipush 6, 2) := by decide +kernel
theorem dX11_back_122 : decode cX11_back 122 = .ok (.iload_n 1, 1) := by decide +kernel
theorem dX11_back_123 : decode cX11_back 123 = .ok (.imul, 1) := by decide +kernel
theorem dX11_back_124 : decode cX11_back 124 = .ok (.iconst 5, 1) := by decide +kernel
theorem dX11_back_125 : decode cX11_back 125 = .ok (.iadd, 1) := by decide +kernel
theorem dX11_back_126 : decode cX11_back 126 = .ok (.iaload, 1) := by decide +kernel
theorem dX11_back_127 : decode cX11_back 127 = .ok (.iastore, 1) := by decide +kernel
theorem dX11_back_128 : decode cX11_back 128 = .ok (.iinc 1 1, 3) := by decide +kernel
theorem dX11_back_131 : decode cX11_back 131 = .ok (.goto (-111), 3) := by decide +kernel
theorem dX11_back_134 : decode cX11_back 134 = .ok (.aload_n 0, 1) := by decide +kernel
theorem dX11_back_135 : decode cX11_back 135 = .ok (.aload_n 0, 1) := by decide +kernel
theorem dX11_back_136 : decode cX11_back 136 = .ok (.getfield 55, 3) := by decide +kernel
theorem dX11_back_139 : decode cX11_back 139 = .ok (.bipush 42, 2) := by decide +kernel
theorem dX11_back_141 : decode cX11_back 141 = .ok (.iaload, 1) := by decide +kernel
theorem dX11_back_142 : decode cX11_back 142 = .ok (.putfield 70, 3) := by decide +kernel
theorem dX11_back_145 : decode cX11_back 145 = .ok (.aload_n 0, 1) := by decide +kernel
theorem dX11_back_146 : decode cX11_back 146 = .ok (.aload_n 0, 1) := by decide +kernel
theorem dX11_back_147 : decode cX11_back 147 = .ok (.getfield 55, 3) := by decide +kernel
theorem dX11_back_150 : decode cX11_back 150 = .ok (.bipush 43, 2) := by decide +kernel
theorem dX11_back_152 : decode cX11_back 152 = .ok (.iaload, 1) := by decide +kernel
theorem dX11_back_153 : decode cX11_back 153 = .ok (.putfield 116, 3) := by decide +kernel
theorem dX11_back_156 : decode cX11_back 156 = .ok (.aload_n 0, 1) := by decide +kernel
theorem dX11_back_157 : decode cX11_back 157 = .ok (.aload_n 0, 1) := by decide +kernel
theorem dX11_back_158 : decode cX11_back 158 = .ok (.getfield 55, 3) := by decide +kernel
theorem dX11_back_161 : decode cX11_back 161 = .ok (.bipush 44, 2) := by decide +kernel
theorem dX11_back_163 : decode cX11_back 163 = .ok (.iaload, 1) := by decide +kernel
theorem dX11_back_164 : decode cX11_back 164 = .ok (.putfield 142, 3) := by decide +kernel
theorem dX11_back_167 : decode cX11_back 167 = .ok (.aload_n 0, 1) := by decide +kernel
theorem dX11_back_168 : decode cX11_back 168 = .ok (.aload_n 0, 1) := by decide +kernel
theorem dX11_back_169 : decode cX11_back 169 = .ok (.getfield 55, 3) := by decide +kernel
theorem dX11_back_172 : decode cX11_back 172 = .ok (.bipush 45, 2) := by decide +kernel
theorem dX11_back_174 : decode cX11_back 174 = .ok (.iaload, 1) := by decide +kernel
theorem dX11_back_175 : decode cX11_back 175 = .ok (.putfield 74, 3) := by decide +kernel
theorem dX11_back_178 : decode cX11_back 178 = .ok (.aload_n 0, 1) := by decide +kernel
theorem dX11_back_179 : decode cX11_back 179 = .ok (.aload_n 0, 1) := by decide +kernel
theorem dX11_back_180 : decode cX11_back 180 = .ok (.getfield 55, 3) := by decide +kernel
theorem dX11_back_183 : decode cX11_back 183 = .ok (.bipush 46, 2) := by decide +kernel
theorem dX11_back_185 : decode cX11_back 185 = .ok (.iaload, 1) := by decide +kernel
theorem dX11_back_186 : decode cX11_back 186 = .ok (.putfield 77, 3) := by decide +kernel
theorem dX11_back_189 : decode cX11_back 189 = .ok (.aload_n 0, 1) := by decide +kernel
theorem dX11_back_190 : decode cX11_back 190 = .ok (.aload_n 0, 1) := by decide +kernel
theorem dX11_back_191 : decode cX11_back 191 = .ok (.getfield 55, 3) := by decide +kernel
theorem dX11_back_194 : decode cX11_back 194 = .ok (.bipush 47, 2) := by decide +kernel
theorem dX11_back_196 : decode cX11_back 196 = .ok (.iaload, 1) := by decide +kernel
theorem dX11_back_197 : decode cX11_back 197 = .ok (.putfield 119, 3) := by decide +kernel
theorem dX11_back_200 : decode cX11_back 200 = .ok (.aload_n 0, 1) := by decide +kernel
theorem dX11_back_201 : decode cX11_back 201 = .ok (.aload_n 0, 1) := by decide +kernel
theorem dX11_back_202 : decode cX11_back 202 = .ok (.getfield 55, 3) := by decide +kernel
theorem dX11_back_205 : decode cX11_back 205 = .ok (.bipush 48, 2) := by decide +kernel
theorem dX11_back_207 : decode cX11_back 207 = .ok (.iaload, 1) := by decide +kernel
theorem dX11_back_208 : decode cX11_back 208 = .ok (.putfield 249, 3) := by decide +kernel
theorem dX11_back_211 : decode cX11_back 211 = .ok (.aload_n 0, 1) := by decide +kernel
theorem dX11_back_212 : decode cX11_back 212 = .ok (.aload_n 0, 1) := by decide +kernel
theorem dX11_back_213 : decode cX11_back 213 = .ok (.getfield 55, 3) := by decide +kernel
theorem dX11_back_216 : decode cX11_back 216 = .ok (.bipush 49, 2) := by decide +kernel
theorem dX11_back_218 : decode cX11_back 218 = .ok (.iaload, 1) := by decide +kernel
theorem dX11_back_219 : decode cX11_back 219 = .ok (.putfield 129, 3) := by decide +kernel
theorem dX11_back_222 : decode cX11_back 222 = .ok (.aload_n 0, 1) := by decide +kernel
theorem dX11_back_223 : decode cX11_back 223 = .ok (.getfield 99, 3) := by decide +kernel
theorem dX11_back_226 : decode cX11_back 226 = .ok (.ireturn, 1) := by decide +kernel
theorem dX11_thoseWho_0 : decode cX11_thoseWho 0 = .ok (.iconst 0, 1) := by decide +kernel
theorem dX11_thoseWho_1 : decode cX11_thoseWho 1 = .ok (.istore_n 2, 1) := by decide +kernel
theorem dX11_thoseWho_2 : decode cX11_thoseWho 2 = .ok (.iconst 0, 1) := by decide +kernel
theorem dX11_thoseWho_3 : decode cX11_thoseWho 3 = .ok (.istore_n 3, 1) := by decide +kernel
theorem dX11_thoseWho_4 : decode cX11_thoseWho 4 = .ok (.iload_n 3, 1) := by decide +kernel
theorem dX11_thoseWho_5 : decode cX11_thoseWho 5 = .ok (.aload_n 0, 1) := by decide +kernel
theorem dX11_thoseWho_6 : decode cX11_thoseWho 6 = .ok (.getfield 99, 3) := by decide +kernel
theorem dX11_thoseWho_9 : decode cX11_thoseWho 9 = .ok (.if_icmp .ge 22, 3) := by decide +kernel
theorem dX11_thoseWho_12 : decode cX11_thoseWho 12 = .ok (.aload_n 0, 1) := by decide +kernel
theorem dX11_thoseWho_13 : decode cX11_thoseWho 13 = .ok (.getfield 25, 3) := by decide +kernel
theorem dX11_thoseWho_16 : decode cX11_thoseWho 16 = .ok (.iload_n 3, 1) := by decide +kernel
theorem dX11_thoseWho_17 : decode cX11_thoseWho 17 = .ok (.iaload, 1) := by decide +kernel
theorem dX11_thoseWho_18 : decode cX11_thoseWho 18 = .ok (.iload_n 1, 1) := by decide +kernel
theorem dX11_thoseWho_19 : decode cX11_thoseWho 19 = .ok (.if_icmp .ne 6, 3) := by decide +kernel
theorem dX11_thoseWho_22 : decode cX11_thoseWho 22 = .ok (.iinc 2 1, 3) := by decide +kernel
theorem dX11_thoseWho_25 : decode cX11_thoseWho 25 = .ok (.iinc 3 1, 3) := by decide +kernel
theorem dX11_thoseWho_28 : decode cX11_thoseWho 28 = .ok (.goto (-24), 3) := by decide +kernel
theorem dX11_thoseWho_31 : decode cX11_thoseWho 31 = .ok (.iload_n 2, 1) := by decide +kernel
theorem dX11_thoseWho_32 : decode cX11_thoseWho 32 = .ok (.ireturn, 1) := by decide +kernel
theorem dX11_count_0 : decode cX11_count 0 = .ok (.iload_n 1, 1) := by decide +kernel
theorem dX11_count_1 : decode cX11_count 1 = .ok (.tableswitch 108 0 9 #[55, 60, 66, 72, 78, 83, 88, 93, 98, 103], 55) := by decide +kernel
theorem dX11_count_56 : decode cX11_count 56 = .ok (.aload_n 0, 1) := by decide +kernel
theorem dX11_count_57 : decode cX11_count 57 = .ok (.getfield 99, 3) := by decide +kernel
theorem dX11_count_60 : decode cX11_count 60 = .ok (.ireturn, 1) := by decide +kernel
theorem dX11_count_61 : decode cX11_count 61 = .ok (.aload_n 0, 1) := by decide +kernel
theorem dX11_count_62 : decode cX11_count 62 = .ok (.iconst 0, 1) := by decide +kernel
theorem dX11_count_63 : decode cX11_count 63 = .ok (.invokevirtual 300, 3) := by decide +kernel
theorem dX11_count_66 : decode cX11_count 66 = .ok (.ireturn, 1) := by decide +kernel
theorem dX11_count_67 : decode cX11_count 67 = .ok (.aload_n 0, 1) := by decide +kernel
theorem dX11_count_68 : decode cX11_count 68 = .ok (.iconst 1, 1) := by decide +kernel
theorem dX11_count_69 : decode cX11_count 69 = .ok (.invokevirtual 300, 3) := by decide +kernel
theorem dX11_count_72 : decode cX11_count 72 = .ok (.ireturn, 1) := by decide +kernel
theorem dX11_count_73 : decode cX11_count 73 = .ok (.aload_n 0, 1) := by decide +kernel
theorem dX11_count_74 : decode cX11_count 74 = .ok (.iconst 2, 1) := by decide +kernel
theorem dX11_count_75 : decode cX11_count 75 = .ok (.invokevirtual 300, 3) := by decide +kernel
theorem dX11_count_78 : decode cX11_count 78 = .ok (.ireturn, 1) := by decide +kernel
theorem dX11_count_79 : decode cX11_count 79 = .ok (.aload_n 0, 1) := by decide +kernel
theorem dX11_count_80 : decode cX11_count 80 = .ok (.getfield 142, 3) := by decide +kernel
theorem dX11_count_83 : decode cX11_count 83 = .ok (.ireturn, 1) := by decide +kernel
theorem dX11_count_84 : decode cX11_count 84 = .ok (.aload_n 0, 1) := by decide +kernel
theorem dX11_count_85 : decode cX11_count 85 = .ok (.getfield 249, 3) := by decide +kernel
theorem dX11_count_88 : decode cX11_count 88 = .ok (.ireturn, 1) := by decide +kernel
theorem dX11_count_89 : decode cX11_count 89 = .ok (.aload_n 0, 1) := by decide +kernel
theorem dX11_count_90 : decode cX11_count 90 = .ok (.getfield 119, 3) := by decide +kernel
theorem dX11_count_93 : decode cX11_count 93 = .ok (.ireturn, 1) := by decide +kernel
theorem dX11_count_94 : decode cX11_count 94 = .ok (.aload_n 0, 1) := by decide +kernel
theorem dX11_count_95 : decode cX11_count 95 = .ok (.getfield 190, 3) := by decide +kernel
theorem dX11_count_98 : decode cX11_count 98 = .ok (.ireturn, 1) := by decide +kernel
theorem dX11_count_99 : decode cX11_count 99 = .ok (.aload_n 0, 1) := by decide +kernel
theorem dX11_count_100 : decode cX11_count 100 = .ok (.getfield 156, 3) := by decide +kernel
theorem dX11_count_103 : decode cX11_count 103 = .ok (.ireturn, 1) := by decide +kernel
theorem dX11_count_104 : decode cX11_count 104 = .ok (.aload_n 0, 1) := by decide +kernel
theorem dX11_count_105 : decode cX11_count 105 = .ok (.getfield 129, 3) := by decide +kernel
theorem dX11_count_108 : decode cX11_count 108 = .ok (.ireturn, 1) := by decide +kernel
theorem dX11_count_109 : decode cX11_count 109 = .ok (.bipush (-2), 2) := by decide +kernel
theorem dX11_count_111 : decode cX11_count 111 = .ok (.ireturn, 1) := by decide +kernel
theorem dX11_sheet_0 : decode cX11_sheet 0 = .ok (.iload_n 1, 1) := by decide +kernel
theorem dX11_sheet_1 : decode cX11_sheet 1 = .ok (.iconst 0, 1) := by decide +kernel
theorem dX11_sheet_2 : decode cX11_sheet 2 = .ok (.iconst 3, 1) := by decide +kernel
theorem dX11_sheet_3 : decode cX11_sheet 3 = .ok (.invokestatic 102, 3) := by decide +kernel
theorem dX11_sheet_6 : decode cX11_sheet 6 = .ok (.ifCond .eq 12, 3) := by decide +kernel
theorem dX11_sheet_9 : decode cX11_sheet 9 = .ok (.iload_n 2, 1) := by decide +kernel
theorem dX11_sheet_10 : decode cX11_sheet 10 = .ok (.iconst (-1), 1) := by decide +kernel
theorem dX11_sheet_11 : decode cX11_sheet 11 = .ok (.iconst 2, 1) := by decide +kernel
theorem dX11_sheet_12 : decode cX11_sheet 12 = .ok (.invokestatic 102, 3) := by decide +kernel
theorem dX11_sheet_15 : decode cX11_sheet 15 = .ok (.ifCond .ne 6, 3) := by decide +kernel
theorem dX11_sheet_18 : decode cX11_sheet 18 = .ok (.bipush (-2), 2) := by decide +kernel
theorem dX11_sheet_20 : decode cX11_sheet 20 = .ok (.ireturn, 1) := by decide +kernel
theorem dX11_sheet_21 : decode cX11_sheet 21 = .ok (.iload_n 2, 1) := by decide +kernel
theorem dX11_sheet_22 : decode cX11_sheet 22 = .ok (.iconst (-1), 1) := by decide +kernel
theorem dX11_sheet_23 : decode cX11_sheet 23 = .ok (.if_icmp .ne 12, 3) := by decide +kernel
theorem dX11_sheet_26 : decode cX11_sheet 26 = .ok (.aload_n 0, 1) := by decide +kernel
theorem dX11_sheet_27 : decode cX11_sheet 27 = .ok (.getfield 58, 3) := by decide +kernel
theorem dX11_sheet_30 : decode cX11_sheet 30 = .ok (.iload_n 1, 1) := by decide +kernel
theorem dX11_sheet_31 : decode cX11_sheet 31 = .ok (.iconst (-1), 1) := by decide +kernel
theorem dX11_sheet_32 : decode cX11_sheet 32 = .ok (.iastore, 1) := by decide +kernel
theorem dX11_sheet_33 : decode cX11_sheet 33 = .ok (.iconst 1, 1) := by decide +kernel
theorem dX11_sheet_34 : decode cX11_sheet 34 = .ok (.ireturn, 1) := by decide +kernel
theorem dX11_sheet_35 : decode cX11_sheet 35 = .ok (.iload_n 3, 1) := by decide +kernel
theorem dX11_sheet_36 : decode cX11_sheet 36 = .ok (.bipush 40, 2) := by decide +kernel
theorem dX11_sheet_38 : decode cX11_sheet 38 = .ok (.if_icmp .le 6, 3) := by decide +kernel
theorem dX11_sheet_41 : decode cX11_sheet 41 = .ok (.bipush (-2), 2) := by decide +kernel
theorem dX11_sheet_43 : decode cX11_sheet 43 = .ok (.ireturn, 1) := by decide +kernel
theorem dX11_sheet_44 : decode cX11_sheet 44 = .ok (.iload_n 3, 1) := by decide +kernel
theorem dX11_sheet_45 : decode cX11_sheet 45 = .ok (.ifCond .ge 6, 3) := by decide +kernel
theorem dX11_sheet_48 : decode cX11_sheet 48 = .ok (.bipush (-14), 2) := by decide +kernel
theorem dX11_sheet_50 : decode cX11_sheet 50 = .ok (.ireturn, 1) := by decide +kernel
theorem dX11_sheet_51 : decode cX11_sheet 51 = .ok (.aload_n 0, 1) := by decide +kernel
theorem dX11_sheet_52 : decode cX11_sheet 52 = .ok (.getfield 58, 3) := by decide +kernel
theorem dX11_sheet_55 : decode cX11_sheet 55 = .ok (.iload_n 1, 1) := by decide +kernel
theorem dX11_sheet_56 : decode cX11_sheet 56 = .ok (.iload_n 2, 1) := by decide +kernel
theorem dX11_sheet_57 : decode cX11_sheet 57 = .ok (.iastore, 1) := by decide +kernel
theorem dX11_sheet_58 : decode cX11_sheet 58 = .ok (.aload_n 0, 1) := by decide +kernel
theorem dX11_sheet_59 : decode cX11_sheet 59 = .ok (.getfield 61, 3) := by decide +kernel
theorem dX11_sheet_62 : decode cX11_sheet 62 = .ok (.iload_n 1, 1) := by decide +kernel
theorem dX11_sheet_63 : decode cX11_sheet 63 = .ok (.iload_n 3, 1) := by decide +kernel
theorem dX11_sheet_64 : decode cX11_sheet 64 = .ok (.iastore, 1) := by decide +kernel
theorem dX11_sheet_65 : decode cX11_sheet 65 = .ok (.iconst 0, 1) := by decide +kernel
theorem dX11_sheet_66 : decode cX11_sheet 66 = .ok (.istore 4, 2) := by decide +kernel
theorem dX11_sheet_68 : decode cX11_sheet 68 = .ok (.iload 4, 2) := by decide +kernel
theorem dX11_sheet_70 : decode cX11_sheet 70 = .ok (.bipush 40, 2) := by decide +kernel
theorem dX11_sheet_72 : decode cX11_sheet 72 = .ok (.if_icmp .ge 22, 3) := by decide +kernel
theorem dX11_sheet_75 : decode cX11_sheet 75 = .ok (.aload_n 0, 1) := by decide +kernel
theorem dX11_sheet_76 : decode cX11_sheet 76 = .ok (.getfield 64, 3) := by decide +kernel
theorem dX11_sheet_79 : decode cX11_sheet 79 = .ok (.bipush 40, 2) := by decide +kernel
theorem dX11_sheet_81 : decode cX11_sheet 81 = .ok (.iload_n 1, 1) := by decide +kernel
theorem dX11_sheet_82 : decode cX11_sheet 82 = .ok (.imul, 1) := by decide +kernel
theorem dX11_sheet_83 : decode cX11_sheet 83 = .ok (.iload 4, 2) := by decide +kernel
theorem dX11_sheet_85 : decode cX11_sheet 85 = .ok (.iadd, 1) := by decide +kernel
theorem dX11_sheet_86 : decode cX11_sheet 86 = .ok (.iconst 0, 1) := by decide +kernel
theorem dX11_sheet_87 : decode cX11_sheet 87 = .ok (.iastore, 1) := by decide +kernel
theorem dX11_sheet_88 : decode cX11_sheet 88 = .ok (.iinc 4 1, 3) := by decide +kernel
theorem dX11_sheet_91 : decode cX11_sheet 91 = .ok (.goto (-23), 3) := by decide +kernel
theorem dX11_sheet_94 : decode cX11_sheet 94 = .ok (.iconst 1, 1) := by decide +kernel
theorem dX11_sheet_95 : decode cX11_sheet 95 = .ok (.ireturn, 1) := by decide +kernel
theorem dX11_cell_0 : decode cX11_cell 0 = .ok (.iload_n 1, 1) := by decide +kernel
theorem dX11_cell_1 : decode cX11_cell 1 = .ok (.iconst 0, 1) := by decide +kernel
theorem dX11_cell_2 : decode cX11_cell 2 = .ok (.iconst 3, 1) := by decide +kernel
theorem dX11_cell_3 : decode cX11_cell 3 = .ok (.invokestatic 102, 3) := by decide +kernel
theorem dX11_cell_6 : decode cX11_cell 6 = .ok (.ifCond .ne 6, 3) := by decide +kernel
theorem dX11_cell_9 : decode cX11_cell 9 = .ok (.bipush (-2), 2) := by decide +kernel
theorem dX11_cell_11 : decode cX11_cell 11 = .ok (.ireturn, 1) := by decide +kernel
theorem dX11_cell_12 : decode cX11_cell 12 = .ok (.aload_n 0, 1) := by decide +kernel
theorem dX11_cell_13 : decode cX11_cell 13 = .ok (.getfield 58, 3) := by decide +kernel
theorem dX11_cell_16 : decode cX11_cell 16 = .ok (.iload_n 1, 1) := by decide +kernel
theorem dX11_cell_17 : decode cX11_cell 17 = .ok (.iaload, 1) := by decide +kernel
theorem dX11_cell_18 : decode cX11_cell 18 = .ok (.iconst (-1), 1) := by decide +kernel
theorem dX11_cell_19 : decode cX11_cell 19 = .ok (.if_icmp .ne 6, 3) := by decide +kernel
theorem dX11_cell_22 : decode cX11_cell 22 = .ok (.bipush (-11), 2) := by decide +kernel
theorem dX11_cell_24 : decode cX11_cell 24 = .ok (.ireturn, 1) := by decide +kernel
theorem dX11_cell_25 : decode cX11_cell 25 = .ok (.iload_n 2, 1) := by decide +kernel
theorem dX11_cell_26 : decode cX11_cell 26 = .ok (.iconst 0, 1) := by decide +kernel
theorem dX11_cell_27 : decode cX11_cell 27 = .ok (.aload_n 0, 1) := by decide +kernel
theorem dX11_cell_28 : decode cX11_cell 28 = .ok (.getfield 61, 3) := by decide +kernel
theorem dX11_cell_31 : decode cX11_cell 31 = .ok (.iload_n 1, 1) := by decide +kernel
theorem dX11_cell_32 : decode cX11_cell 32 = .ok (.iaload, 1) := by decide +kernel
theorem dX11_cell_33 : decode cX11_cell 33 = .ok (.iconst 1, 1) := by decide +kernel
theorem dX11_cell_34 : decode cX11_cell 34 = .ok (.isub, 1) := by decide +kernel
theorem dX11_cell_35 : decode cX11_cell 35 = .ok (.invokestatic 102, 3) := by decide +kernel
theorem dX11_cell_38 : decode cX11_cell 38 = .ok (.ifCond .ne 6, 3) := by decide +kernel
theorem dX11_cell_41 : decode cX11_cell 41 = .ok (.bipush (-12), 2) := by decide +kernel
theorem dX11_cell_43 : decode cX11_cell 43 = .ok (.ireturn, 1) := by decide +kernel
theorem dX11_cell_44 : decode cX11_cell 44 = .ok (.aload_n 0, 1) := by decide +kernel
theorem dX11_cell_45 : decode cX11_cell 45 = .ok (.getfield 64, 3) := by decide +kernel
theorem dX11_cell_48 : decode cX11_cell 48 = .ok (.bipush 40, 2) := by decide +kernel
theorem dX11_cell_50 : decode cX11_cell 50 = .ok (.iload_n 1, 1) := by decide +kernel
theorem dX11_cell_51 : decode cX11_cell 51 = .ok (.imul, 1) := by decide +kernel
theorem dX11_cell_52 : decode cX11_cell 52 = .ok (.iload_n 2, 1) := by decide +kernel
theorem dX11_cell_53 : decode cX11_cell 53 = .ok (.iadd, 1) := by decide +kernel
theorem dX11_cell_54 : decode cX11_cell 54 = .ok (.aload_n 0, 1) := by decide +kernel
theorem dX11_cell_55 : decode cX11_cell 55 = .ok (.getfield 58, 3) := by decide +kernel
theorem dX11_cell_58 : decode cX11_cell 58 = .ok (.iload_n 1, 1) := by decide +kernel
theorem dX11_cell_59 : decode cX11_cell 59 = .ok (.iaload, 1) := by decide +kernel
theorem dX11_cell_60 : decode cX11_cell 60 = .ok (.ifCond .ne 8, 3) := by decide +kernel
theorem dX11_cell_63 : decode cX11_cell 63 = .ok (.iload_n 3, 1) := by decide +kernel
theorem dX11_cell_64 : decode cX11_cell 64 = .ok (.i2b, 1) := by decide +kernel
theorem dX11_cell_65 : decode cX11_cell 65 = .ok (.goto 19, 3) := by decide +kernel
theorem dX11_cell_68 : decode cX11_cell 68 = .ok (.aload_n 0, 1) := by decide +kernel
theorem dX11_cell_69 : decode cX11_cell 69 = .ok (.getfield 58, 3) := by decide +kernel
theorem dX11_cell_72 : decode cX11_cell 72 = .ok (.iload_n 1, 1) := by decide +kernel
theorem dX11_cell_73 : decode cX11_cell 73 = .ok (.iaload, 1) := by decide +kernel
theorem dX11_cell_74 : decode cX11_cell 74 = .ok (.iconst 1, 1) := by decide +kernel
theorem dX11_cell_75 : decode cX11_cell 75 = .ok (.if_icmp .ne 8, 3) := by decide +kernel
theorem dX11_cell_78 : decode cX11_cell 78 = .ok (.iload_n 3, 1) := by decide +kernel
theorem dX11_cell_79 : decode cX11_cell 79 = .ok (.i2s, 1) := by decide +kernel
theorem dX11_cell_80 : decode cX11_cell 80 = .ok (.goto 4, 3) := by decide +kernel
theorem dX11_cell_83 : decode cX11_cell 83 = .ok (.iload_n 3, 1) := by decide +kernel
theorem dX11_cell_84 : decode cX11_cell 84 = .ok (.iastore, 1) := by decide +kernel
theorem dX11_cell_85 : decode cX11_cell 85 = .ok (.iconst 1, 1) := by decide +kernel
theorem dX11_cell_86 : decode cX11_cell 86 = .ok (.ireturn, 1) := by decide +kernel
theorem dX11_copy_0 : decode cX11_copy 0 = .ok (.iload_n 1, 1) := by decide +kernel
theorem dX11_copy_1 : decode cX11_copy 1 = .ok (.iconst 0, 1) := by decide +kernel
theorem dX11_copy_2 : decode cX11_copy 2 = .ok (.iconst 3, 1) := by decide +kernel
theorem dX11_copy_3 : decode cX11_copy 3 = .ok (.invokestatic 102, 3) := by decide +kernel
theorem dX11_copy_6 : decode cX11_copy 6 = .ok (.ifCond .eq 12, 3) := by decide +kernel
theorem dX11_copy_9 : decode cX11_copy 9 = .ok (.iload_n 3, 1) := by decide +kernel
theorem dX11_copy_10 : decode cX11_copy 10 = .ok (.iconst 0, 1) := by decide +kernel
theorem dX11_copy_11 : decode cX11_copy 11 = .ok (.iconst 3, 1) := by decide +kernel
theorem dX11_copy_12 : decode cX11_copy 12 = .ok (.invokestatic 102, 3) := by decide +kernel
theorem dX11_copy_15 : decode cX11_copy 15 = .ok (.ifCond .ne 6, 3) := by decide +kernel
theorem dX11_copy_18 : decode cX11_copy 18 = .ok (.bipush (-2), 2) := by decide +kernel
theorem dX11_copy_20 : decode cX11_copy 20 = .ok (.ireturn, 1) := by decide +kernel
theorem dX11_copy_21 : decode cX11_copy 21 = .ok (.aload_n 0, 1) := by decide +kernel
theorem dX11_copy_22 : decode cX11_copy 22 = .ok (.getfield 58, 3) := by decide +kernel
theorem dX11_copy_25 : decode cX11_copy 25 = .ok (.iload_n 1, 1) := by decide +kernel
theorem dX11_copy_26 : decode cX11_copy 26 = .ok (.iaload, 1) := by decide +kernel
theorem dX11_copy_27 : decode cX11_copy 27 = .ok (.iconst (-1), 1) := by decide +kernel
theorem dX11_copy_28 : decode cX11_copy 28 = .ok (.if_icmp .eq 13, 3) := by decide +kernel
theorem dX11_copy_31 : decode cX11_copy 31 = .ok (.aload_n 0, 1) := by decide +kernel
theorem dX11_copy_32 : decode cX11_copy 32 = .ok (.getfield 58, 3) := by decide +kernel
theorem dX11_copy_35 : decode cX11_copy 35 = .ok (.iload_n 3, 1) := by decide +kernel
theorem dX11_copy_36 : decode cX11_copy 36 = .ok (.iaload, 1) := by decide +kernel
theorem dX11_copy_37 : decode cX11_copy 37 = .ok (.iconst (-1), 1) := by decide +kernel
theorem dX11_copy_38 : decode cX11_copy 38 = .ok (.if_icmp .ne 6, 3) := by decide +kernel
theorem dX11_copy_41 : decode cX11_copy 41 = .ok (.bipush (-11), 2) := by decide +kernel
theorem dX11_copy_43 : decode cX11_copy 43 = .ok (.ireturn, 1) := by decide +kernel
theorem dX11_copy_44 : decode cX11_copy 44 = .ok (.aload_n 0, 1) := by decide +kernel
theorem dX11_copy_45 : decode cX11_copy 45 = .ok (.getfield 58, 3) := by decide +kernel
theorem dX11_copy_48 : decode cX11_copy 48 = .ok (.iload_n 1, 1) := by decide +kernel
theorem dX11_copy_49 : decode cX11_copy 49 = .ok (.iaload, 1) := by decide +kernel
theorem dX11_copy_50 : decode cX11_copy 50 = .ok (.aload_n 0, 1) := by decide +kernel
theorem dX11_copy_51 : decode cX11_copy 51 = .ok (.getfield 58, 3) := by decide +kernel
theorem dX11_copy_54 : decode cX11_copy 54 = .ok (.iload_n 3, 1) := by decide +kernel
theorem dX11_copy_55 : decode cX11_copy 55 = .ok (.iaload, 1) := by decide +kernel
theorem dX11_copy_56 : decode cX11_copy 56 = .ok (.if_icmp .eq 6, 3) := by decide +kernel
theorem dX11_copy_59 : decode cX11_copy 59 = .ok (.bipush (-13), 2) := by decide +kernel
theorem dX11_copy_61 : decode cX11_copy 61 = .ok (.ireturn, 1) := by decide +kernel
theorem dX11_copy_62 : decode cX11_copy 62 = .ok (.iload_n 2, 1) := by decide +kernel
theorem dX11_copy_63 : decode cX11_copy 63 = .ok (.ifCond .lt 48, 3) := by decide +kernel
theorem dX11_copy_66 : decode cX11_copy 66 = .ok (.iload 4, 2) := by decide +kernel
theorem dX11_copy_68 : decode cX11_copy 68 = .ok (.ifCond .lt 43, 3) := by decide +kernel
theorem dX11_copy_71 : decode cX11_copy 71 = .ok (.iload 5, 2) := by decide +kernel
theorem dX11_copy_73 : decode cX11_copy 73 = .ok (.ifCond .lt 38, 3) := by decide +kernel
theorem dX11_copy_76 : decode cX11_copy 76 = .ok (.iload_n 2, 1) := by decide +kernel
theorem dX11_copy_77 : decode cX11_copy 77 = .ok (.i2l, 1) := by decide +kernel
theorem dX11_copy_78 : decode cX11_copy 78 = .ok (.iload 5, 2) := by decide +kernel
theorem dX11_copy_80 : decode cX11_copy 80 = .ok (.i2l, 1) := by decide +kernel
theorem dX11_copy_81 : decode cX11_copy 81 = .ok (.ladd, 1) := by decide +kernel
theorem dX11_copy_82 : decode cX11_copy 82 = .ok (.aload_n 0, 1) := by decide +kernel
theorem dX11_copy_83 : decode cX11_copy 83 = .ok (.getfield 61, 3) := by decide +kernel
theorem dX11_copy_86 : decode cX11_copy 86 = .ok (.iload_n 1, 1) := by decide +kernel
theorem dX11_copy_87 : decode cX11_copy 87 = .ok (.iaload, 1) := by decide +kernel
theorem dX11_copy_88 : decode cX11_copy 88 = .ok (.i2l, 1) := by decide +kernel
theorem dX11_copy_89 : decode cX11_copy 89 = .ok (.lcmp, 1) := by decide +kernel
theorem dX11_copy_90 : decode cX11_copy 90 = .ok (.ifCond .gt 21, 3) := by decide +kernel
theorem dX11_copy_93 : decode cX11_copy 93 = .ok (.iload 4, 2) := by decide +kernel
theorem dX11_copy_95 : decode cX11_copy 95 = .ok (.i2l, 1) := by decide +kernel
theorem dX11_copy_96 : decode cX11_copy 96 = .ok (.iload 5, 2) := by decide +kernel
theorem dX11_copy_98 : decode cX11_copy 98 = .ok (.i2l, 1) := by decide +kernel
theorem dX11_copy_99 : decode cX11_copy 99 = .ok (.ladd, 1) := by decide +kernel
theorem dX11_copy_100 : decode cX11_copy 100 = .ok (.aload_n 0, 1) := by decide +kernel
theorem dX11_copy_101 : decode cX11_copy 101 = .ok (.getfield 61, 3) := by decide +kernel
theorem dX11_copy_104 : decode cX11_copy 104 = .ok (.iload_n 3, 1) := by decide +kernel
theorem dX11_copy_105 : decode cX11_copy 105 = .ok (.iaload, 1) := by decide +kernel
theorem dX11_copy_106 : decode cX11_copy 106 = .ok (.i2l, 1) := by decide +kernel
theorem dX11_copy_107 : decode cX11_copy 107 = .ok (.lcmp, 1) := by decide +kernel
theorem dX11_copy_108 : decode cX11_copy 108 = .ok (.ifCond .le 6, 3) := by decide +kernel
theorem dX11_copy_111 : decode cX11_copy 111 = .ok (.bipush (-12), 2) := by decide +kernel
theorem dX11_copy_113 : decode cX11_copy 113 = .ok (.ireturn, 1) := by decide +kernel
theorem dX11_copy_114 : decode cX11_copy 114 = .ok (.iconst 0, 1) := by decide +kernel
theorem dX11_copy_115 : decode cX11_copy 115 = .ok (.istore 6, 2) := by decide +kernel
theorem dX11_copy_117 : decode cX11_copy 117 = .ok (.iload 6, 2) := by decide +kernel
theorem dX11_copy_119 : decode cX11_copy 119 = .ok (.iload 5, 2) := by decide +kernel
theorem dX11_copy_121 : decode cX11_copy 121 = .ok (.if_icmp .ge 30, 3) := by decide +kernel
theorem dX11_copy_124 : decode cX11_copy 124 = .ok (.aload_n 0, 1) := by decide +kernel
theorem dX11_copy_125 : decode cX11_copy 125 = .ok (.getfield 67, 3) := by decide +kernel
theorem dX11_copy_128 : decode cX11_copy 128 = .ok (.iload 6, 2) := by decide +kernel
theorem dX11_copy_130 : decode cX11_copy 130 = .ok (.aload_n 0, 1) := by decide +kernel
theorem dX11_copy_131 : decode cX11_copy 131 = .ok (.getfield 64, 3) := by decide +kernel
theorem dX11_copy_134 : decode cX11_copy 134 = .ok (.bipush 40, 2) := by decide +kernel
theorem dX11_copy_136 : decode cX11_copy 136 = .ok (.iload_n 1, 1) := by decide +kernel
theorem dX11_copy_137 : decode cX11_copy 137 = .ok (.imul, 1) := by decide +kernel
theorem dX11_copy_138 : decode cX11_copy 138 = .ok (.iload_n 2, 1) := by decide +kernel
theorem dX11_copy_139 : decode cX11_copy 139 = .ok (.iadd, 1) := by decide +kernel
theorem dX11_copy_140 : decode cX11_copy 140 = .ok (.iload 6, 2) := by decide +kernel
theorem dX11_copy_142 : decode cX11_copy 142 = .ok (.iadd, 1) := by decide +kernel
theorem dX11_copy_143 : decode cX11_copy 143 = .ok (.iaload, 1) := by decide +kernel
theorem dX11_copy_144 : decode cX11_copy 144 = .ok (.iastore, 1) := by decide +kernel
theorem dX11_copy_145 : decode cX11_copy 145 = .ok (.iinc 6 1, 3) := by decide +kernel
theorem dX11_copy_148 : decode cX11_copy 148 = .ok (.goto (-31), 3) := by decide +kernel
theorem dX11_copy_151 : decode cX11_copy 151 = .ok (.iconst 0, 1) := by decide +kernel
theorem dX11_copy_152 : decode cX11_copy 152 = .ok (.istore 6, 2) := by decide +kernel
theorem dX11_copy_154 : decode cX11_copy 154 = .ok (.iload 6, 2) := by decide +kernel
theorem dX11_copy_156 : decode cX11_copy 156 = .ok (.iload 5, 2) := by decide +kernel
theorem dX11_copy_158 : decode cX11_copy 158 = .ok (.if_icmp .ge 31, 3) := by decide +kernel
theorem dX11_copy_161 : decode cX11_copy 161 = .ok (.aload_n 0, 1) := by decide +kernel
theorem dX11_copy_162 : decode cX11_copy 162 = .ok (.getfield 64, 3) := by decide +kernel
theorem dX11_copy_165 : decode cX11_copy 165 = .ok (.bipush 40, 2) := by decide +kernel
theorem dX11_copy_167 : decode cX11_copy 167 = .ok (.iload_n 3, 1) := by decide +kernel
theorem dX11_copy_168 : decode cX11_copy 168 = .ok (.imul, 1) := by decide +kernel
theorem dX11_copy_169 : decode cX11_copy 169 = .ok (.iload 4, 2) := by decide +kernel
theorem dX11_copy_171 : decode cX11_copy 171 = .ok (.iadd, 1) := by decide +kernel
theorem dX11_copy_172 : decode cX11_copy 172 = .ok (.iload 6, 2) := by decide +kernel
theorem dX11_copy_174 : decode cX11_copy 174 = .ok (.iadd, 1) := by decide +kernel
theorem dX11_copy_175 : decode cX11_copy 175 = .ok (.aload_n 0, 1) := by decide +kernel
theorem dX11_copy_176 : decode cX11_copy 176 = .ok (.getfield 67, 3) := by decide +kernel
theorem dX11_copy_179 : decode cX11_copy 179 = .ok (.iload 6, 2) := by decide +kernel
theorem dX11_copy_181 : decode cX11_copy 181 = .ok (.iaload, 1) := by decide +kernel
theorem dX11_copy_182 : decode cX11_copy 182 = .ok (.iastore, 1) := by decide +kernel
theorem dX11_copy_183 : decode cX11_copy 183 = .ok (.iinc 6 1, 3) := by decide +kernel
theorem dX11_copy_186 : decode cX11_copy 186 = .ok (.goto (-32), 3) := by decide +kernel
theorem dX11_copy_189 : decode cX11_copy 189 = .ok (.iload 5, 2) := by decide +kernel
theorem dX11_copy_191 : decode cX11_copy 191 = .ok (.ireturn, 1) := by decide +kernel
theorem dX11_boats_0 : decode cX11_boats 0 = .ok (.iload_n 1, 1) := by decide +kernel
theorem dX11_boats_1 : decode cX11_boats 1 = .ok (.iconst 0, 1) := by decide +kernel
theorem dX11_boats_2 : decode cX11_boats 2 = .ok (.iconst 3, 1) := by decide +kernel
theorem dX11_boats_3 : decode cX11_boats 3 = .ok (.invokestatic 102, 3) := by decide +kernel
theorem dX11_boats_6 : decode cX11_boats 6 = .ok (.ifCond .eq 23, 3) := by decide +kernel
theorem dX11_boats_9 : decode cX11_boats 9 = .ok (.iload_n 2, 1) := by decide +kernel
theorem dX11_boats_10 : decode cX11_boats 10 = .ok (.iconst 0, 1) := by decide +kernel
theorem dX11_boats_11 : decode cX11_boats 11 = .ok (.iconst 2, 1) := by decide +kernel
theorem dX11_boats_12 : decode cX11_boats 12 = .ok (.invokestatic 102, 3) := by decide +kernel
theorem dX11_boats_15 : decode cX11_boats 15 = .ok (.ifCond .eq 14, 3) := by decide +kernel
theorem dX11_boats_18 : decode cX11_boats 18 = .ok (.iload 4, 2) := by decide +kernel
theorem dX11_boats_20 : decode cX11_boats 20 = .ok (.iconst 0, 1) := by decide +kernel
theorem dX11_boats_21 : decode cX11_boats 21 = .ok (.bipush 7, 2) := by decide +kernel
theorem dX11_boats_23 : decode cX11_boats 23 = .ok (.invokestatic 102, 3) := by decide +kernel
theorem dX11_boats_26 : decode cX11_boats 26 = .ok (.ifCond .ne 6, 3) := by decide +kernel
theorem dX11_boats_29 : decode cX11_boats 29 = .ok (.bipush (-2), 2) := by decide +kernel
theorem dX11_boats_31 : decode cX11_boats 31 = .ok (.ireturn, 1) := by decide +kernel
theorem dX11_boats_32 : decode cX11_boats 32 = .ok (.aload_n 0, 1) := by decide +kernel
theorem dX11_boats_33 : decode cX11_boats 33 = .ok (.getfield 58, 3) := by decide +kernel
theorem dX11_boats_36 : decode cX11_boats 36 = .ok (.iload_n 1, 1) := by decide +kernel
theorem dX11_boats_37 : decode cX11_boats 37 = .ok (.iaload, 1) := by decide +kernel
theorem dX11_boats_38 : decode cX11_boats 38 = .ok (.iconst (-1), 1) := by decide +kernel
theorem dX11_boats_39 : decode cX11_boats 39 = .ok (.if_icmp .ne 6, 3) := by decide +kernel
theorem dX11_boats_42 : decode cX11_boats 42 = .ok (.bipush (-11), 2) := by decide +kernel
theorem dX11_boats_44 : decode cX11_boats 44 = .ok (.ireturn, 1) := by decide +kernel
theorem dX11_boats_45 : decode cX11_boats 45 = .ok (.aload_n 0, 1) := by decide +kernel
theorem dX11_boats_46 : decode cX11_boats 46 = .ok (.getfield 58, 3) := by decide +kernel
theorem dX11_boats_49 : decode cX11_boats 49 = .ok (.iload_n 1, 1) := by decide +kernel
theorem dX11_boats_50 : decode cX11_boats 50 = .ok (.iaload, 1) := by decide +kernel
theorem dX11_boats_51 : decode cX11_boats 51 = .ok (.iload_n 2, 1) := by decide +kernel
theorem dX11_boats_52 : decode cX11_boats 52 = .ok (.if_icmp .eq 6, 3) := by decide +kernel
theorem dX11_boats_55 : decode cX11_boats 55 = .ok (.bipush (-13), 2) := by decide +kernel
theorem dX11_boats_57 : decode cX11_boats 57 = .ok (.ireturn, 1) := by decide +kernel
theorem dX11_boats_58 : decode cX11_boats 58 = .ok (.iconst 0, 1) := by decide +kernel
theorem dX11_boats_59 : decode cX11_boats 59 = .ok (.istore 5, 2) := by decide +kernel
theorem dX11_boats_61 : decode cX11_boats 61 = .ok (.iconst 0, 1) := by decide +kernel
theorem dX11_boats_62 : decode cX11_boats 62 = .ok (.istore 6, 2) := by decide +kernel
theorem dX11_boats_64 : decode cX11_boats 64 = .ok (.iload 6, 2) := by decide +kernel
theorem dX11_boats_66 : decode cX11_boats 66 = .ok (.iload 4, 2) := by decide +kernel
theorem dX11_boats_68 : decode cX11_boats 68 = .ok (.if_icmp .ge 93, 3) := by decide +kernel
theorem dX11_boats_71 : decode cX11_boats 71 = .ok (.iload_n 3, 1) := by decide +kernel
theorem dX11_boats_72 : decode cX11_boats 72 = .ok (.i2l, 1) := by decide +kernel
theorem dX11_boats_73 : decode cX11_boats 73 = .ok (.ldc2_w 303, 3) := by decide +kernel
theorem dX11_boats_76 : decode cX11_boats 76 = .ok (.iload 6, 2) := by decide +kernel
theorem dX11_boats_78 : decode cX11_boats 78 = .ok (.i2l, 1) := by decide +kernel
theorem dX11_boats_79 : decode cX11_boats 79 = .ok (.lmul, 1) := by decide +kernel
theorem dX11_boats_80 : decode cX11_boats 80 = .ok (.ladd, 1) := by decide +kernel
theorem dX11_boats_81 : decode cX11_boats 81 = .ok (.lstore 7, 2) := by decide +kernel
theorem dX11_boats_83 : decode cX11_boats 83 = .ok (.lload 7, 2) := by decide +kernel
theorem dX11_boats_85 : decode cX11_boats 85 = .ok (.lconst 0, 1) := by decide +kernel
theorem dX11_boats_86 : decode cX11_boats 86 = .ok (.lcmp, 1) := by decide +kernel
theorem dX11_boats_87 : decode cX11_boats 87 = .ok (.ifCond .lt 20, 3) := by decide +kernel
theorem dX11_boats_90 : decode cX11_boats 90 = .ok (.lload 7, 2) := by decide +kernel
theorem dX11_boats_92 : decode cX11_boats 92 = .ok (.ldc2_w 305, 3) := by decide +kernel
theorem dX11_boats_95 : decode cX11_boats 95 = .ok (.ladd, 1) := by decide +kernel
theorem dX11_boats_96 : decode cX11_boats 96 = .ok (.aload_n 0, 1) := by decide +kernel
theorem dX11_boats_97 : decode cX11_boats 97 = .ok (.getfield 61, 3) := by decide +kernel
theorem dX11_boats_100 : decode cX11_boats 100 = .ok (.iload_n 1, 1) := by decide +kernel
theorem dX11_boats_101 : decode cX11_boats 101 = .ok (.iaload, 1) := by decide +kernel
theorem dX11_boats_102 : decode cX11_boats 102 = .ok (.i2l, 1) := by decide +kernel
theorem dX11_boats_103 : decode cX11_boats 103 = .ok (.lcmp, 1) := by decide +kernel
theorem dX11_boats_104 : decode cX11_boats 104 = .ok (.ifCond .lt 6, 3) := by decide +kernel
theorem dX11_boats_107 : decode cX11_boats 107 = .ok (.bipush (-12), 2) := by decide +kernel
theorem dX11_boats_109 : decode cX11_boats 109 = .ok (.ireturn, 1) := by decide +kernel
theorem dX11_boats_110 : decode cX11_boats 110 = .ok (.bipush 40, 2) := by decide +kernel
theorem dX11_boats_112 : decode cX11_boats 112 = .ok (.iload_n 1, 1) := by decide +kernel
theorem dX11_boats_113 : decode cX11_boats 113 = .ok (.imul, 1) := by decide +kernel
theorem dX11_boats_114 : decode cX11_boats 114 = .ok (.lload 7, 2) := by decide +kernel
theorem dX11_boats_116 : decode cX11_boats 116 = .ok (.l2i, 1) := by decide +kernel
theorem dX11_boats_117 : decode cX11_boats 117 = .ok (.iadd, 1) := by decide +kernel
theorem dX11_boats_118 : decode cX11_boats 118 = .ok (.istore 9, 2) := by decide +kernel
theorem dX11_boats_120 : decode cX11_boats 120 = .ok (.aload_n 0, 1) := by decide +kernel
theorem dX11_boats_121 : decode cX11_boats 121 = .ok (.aload_n 0, 1) := by decide +kernel
theorem dX11_boats_122 : decode cX11_boats 122 = .ok (.getfield 64, 3) := by decide +kernel
theorem dX11_boats_125 : decode cX11_boats 125 = .ok (.iload 9, 2) := by decide +kernel
end
section
theorem dX11_boats_127 : decode cX11_boats 127 = .ok (.iaload, 1) := by decide +kernel
theorem dX11_boats_128 : decode cX11_boats 128 = .ok (.aload_n 0, 1) := by decide +kernel
theorem dX11_boats_129 : decode cX11_boats 129 = .ok (.getfield 64, 3) := by decide +kernel
theorem dX11_boats_132 : decode cX11_boats 132 = .ok (.iload 9, 2) := by decide +kernel
theorem dX11_boats_134 : decode cX11_boats 134 = .ok (.iconst 1, 1) := by decide +kernel
theorem dX11_boats_135 : decode cX11_boats 135 = .ok (.iadd, 1) := by decide +kernel
theorem dX11_boats_136 : decode cX11_boats 136 = .ok (.iaload, 1) := by decide +kernel
theorem dX11_boats_137 : decode cX11_boats 137 = .ok (.aload_n 0, 1) := by decide +kernel
theorem dX11_boats_138 : decode cX11_boats 138 = .ok (.getfield 64, 3) := by decide +kernel
theorem dX11_boats_141 : decode cX11_boats 141 = .ok (.iload 9, 2) := by decide +kernel
theorem dX11_boats_143 : decode cX11_boats 143 = .ok (.iconst 2, 1) := by decide +kernel
theorem dX11_boats_144 : decode cX11_boats 144 = .ok (.iadd, 1) := by decide +kernel
theorem dX11_boats_145 : decode cX11_boats 145 = .ok (.iaload, 1) := by decide +kernel
theorem dX11_boats_146 : decode cX11_boats 146 = .ok (.invokevirtual 307, 3) := by decide +kernel
theorem dX11_boats_149 : decode cX11_boats 149 = .ok (.ifCond .lt 6, 3) := by decide +kernel
theorem dX11_boats_152 : decode cX11_boats 152 = .ok (.iinc 5 1, 3) := by decide +kernel
theorem dX11_boats_155 : decode cX11_boats 155 = .ok (.iinc 6 1, 3) := by decide +kernel
theorem dX11_boats_158 : decode cX11_boats 158 = .ok (.goto (-94), 3) := by decide +kernel
theorem dX11_boats_161 : decode cX11_boats 161 = .ok (.iload 5, 2) := by decide +kernel
theorem dX11_boats_163 : decode cX11_boats 163 = .ok (.ireturn, 1) := by decide +kernel
theorem dX11_taken_0 : decode cX11_taken 0 = .ok (.iload_n 2, 1) := by decide +kernel
theorem dX11_taken_1 : decode cX11_taken 1 = .ok (.iconst 0, 1) := by decide +kernel
theorem dX11_taken_2 : decode cX11_taken 2 = .ok (.iconst 5, 1) := by decide +kernel
theorem dX11_taken_3 : decode cX11_taken 3 = .ok (.invokestatic 102, 3) := by decide +kernel
theorem dX11_taken_6 : decode cX11_taken 6 = .ok (.ifCond .ne 6, 3) := by decide +kernel
theorem dX11_taken_9 : decode cX11_taken 9 = .ok (.bipush (-2), 2) := by decide +kernel
theorem dX11_taken_11 : decode cX11_taken 11 = .ok (.ireturn, 1) := by decide +kernel
theorem dX11_taken_12 : decode cX11_taken 12 = .ok (.aload_n 0, 1) := by decide +kernel
theorem dX11_taken_13 : decode cX11_taken 13 = .ok (.iload_n 1, 1) := by decide +kernel
theorem dX11_taken_14 : decode cX11_taken 14 = .ok (.invokevirtual 112, 3) := by decide +kernel
theorem dX11_taken_17 : decode cX11_taken 17 = .ok (.ifCond .ne 6, 3) := by decide +kernel
theorem dX11_taken_20 : decode cX11_taken 20 = .ok (.bipush (-11), 2) := by decide +kernel
theorem dX11_taken_22 : decode cX11_taken 22 = .ok (.ireturn, 1) := by decide +kernel
theorem dX11_taken_23 : decode cX11_taken 23 = .ok (.aload_n 0, 1) := by decide +kernel
theorem dX11_taken_24 : decode cX11_taken 24 = .ok (.getfield 7, 3) := by decide +kernel
theorem dX11_taken_27 : decode cX11_taken 27 = .ok (.iload_n 1, 1) := by decide +kernel
theorem dX11_taken_28 : decode cX11_taken 28 = .ok (.iaload, 1) := by decide +kernel
theorem dX11_taken_29 : decode cX11_taken 29 = .ok (.istore_n 3, 1) := by decide +kernel
theorem dX11_taken_30 : decode cX11_taken 30 = .ok (.iload_n 3, 1) := by decide +kernel
theorem dX11_taken_31 : decode cX11_taken 31 = .ok (.iload_n 2, 1) := by decide +kernel
theorem dX11_taken_32 : decode cX11_taken 32 = .ok (.if_icmp .eq 30, 3) := by decide +kernel
theorem dX11_taken_35 : decode cX11_taken 35 = .ok (.iload_n 3, 1) := by decide +kernel
theorem dX11_taken_36 : decode cX11_taken 36 = .ok (.ifCond .le 26, 3) := by decide +kernel
theorem dX11_taken_39 : decode cX11_taken 39 = .ok (.iload_n 3, 1) := by decide +kernel
theorem dX11_taken_40 : decode cX11_taken 40 = .ok (.iconst 3, 1) := by decide +kernel
theorem dX11_taken_41 : decode cX11_taken 41 = .ok (.if_icmp .ne 7, 3) := by decide +kernel
theorem dX11_taken_44 : decode cX11_taken 44 = .ok (.iconst 1, 1) := by decide +kernel
theorem dX11_taken_45 : decode cX11_taken 45 = .ok (.goto 13, 3) := by decide +kernel
theorem dX11_taken_48 : decode cX11_taken 48 = .ok (.iload_n 3, 1) := by decide +kernel
theorem dX11_taken_49 : decode cX11_taken 49 = .ok (.iconst 4, 1) := by decide +kernel
theorem dX11_taken_50 : decode cX11_taken 50 = .ok (.if_icmp .ne 7, 3) := by decide +kernel
theorem dX11_taken_53 : decode cX11_taken 53 = .ok (.iconst 2, 1) := by decide +kernel
theorem dX11_taken_54 : decode cX11_taken 54 = .ok (.goto 4, 3) := by decide +kernel
theorem dX11_taken_57 : decode cX11_taken 57 = .ok (.iconst 0, 1) := by decide +kernel
theorem dX11_taken_58 : decode cX11_taken 58 = .ok (.istore_n 3, 1) := by decide +kernel
theorem dX11_taken_59 : decode cX11_taken 59 = .ok (.goto (-29), 3) := by decide +kernel
theorem dX11_taken_62 : decode cX11_taken 62 = .ok (.iload_n 3, 1) := by decide +kernel
theorem dX11_taken_63 : decode cX11_taken 63 = .ok (.iload_n 2, 1) := by decide +kernel
theorem dX11_taken_64 : decode cX11_taken 64 = .ok (.if_icmp .ne 12, 3) := by decide +kernel
theorem dX11_taken_67 : decode cX11_taken 67 = .ok (.aload_n 0, 1) := by decide +kernel
theorem dX11_taken_68 : decode cX11_taken 68 = .ok (.getfield 13, 3) := by decide +kernel
theorem dX11_taken_71 : decode cX11_taken 71 = .ok (.iload_n 1, 1) := by decide +kernel
theorem dX11_taken_72 : decode cX11_taken 72 = .ok (.iaload, 1) := by decide +kernel
theorem dX11_taken_73 : decode cX11_taken 73 = .ok (.goto 5, 3) := by decide +kernel
theorem dX11_taken_76 : decode cX11_taken 76 = .ok (.bipush (-13), 2) := by decide +kernel
theorem dX11_taken_78 : decode cX11_taken 78 = .ok (.ireturn, 1) := by decide +kernel
theorem dJ6_bitCount_0f7a4_0 : decode cJ6_bitCount_0f7a4 0 = .ok (.iload_n 0, 1) := by decide +kernel
theorem dJ6_bitCount_0f7a4_1 : decode cJ6_bitCount_0f7a4 1 = .ok (.iload_n 0, 1) := by decide +kernel
theorem dJ6_bitCount_0f7a4_2 : decode cJ6_bitCount_0f7a4 2 = .ok (.iconst 1, 1) := by decide +kernel
theorem dJ6_bitCount_0f7a4_3 : decode cJ6_bitCount_0f7a4 3 = .ok (.iushr, 1) := by decide +kernel
theorem dJ6_bitCount_0f7a4_4 : decode cJ6_bitCount_0f7a4 4 = .ok (.ldc_w 265, 3) := by decide +kernel
theorem dJ6_bitCount_0f7a4_7 : decode cJ6_bitCount_0f7a4 7 = .ok (.iand, 1) := by decide +kernel
theorem dJ6_bitCount_0f7a4_8 : decode cJ6_bitCount_0f7a4 8 = .ok (.isub, 1) := by decide +kernel
theorem dJ6_bitCount_0f7a4_9 : decode cJ6_bitCount_0f7a4 9 = .ok (.istore_n 0, 1) := by decide +kernel
theorem dJ6_bitCount_0f7a4_10 : decode cJ6_bitCount_0f7a4 10 = .ok (.iload_n 0, 1) := by decide +kernel
theorem dJ6_bitCount_0f7a4_11 : decode cJ6_bitCount_0f7a4 11 = .ok (.ldc_w 266, 3) := by decide +kernel
theorem dJ6_bitCount_0f7a4_14 : decode cJ6_bitCount_0f7a4 14 = .ok (.iand, 1) := by decide +kernel
theorem dJ6_bitCount_0f7a4_15 : decode cJ6_bitCount_0f7a4 15 = .ok (.iload_n 0, 1) := by decide +kernel
theorem dJ6_bitCount_0f7a4_16 : decode cJ6_bitCount_0f7a4 16 = .ok (.iconst 2, 1) := by decide +kernel
theorem dJ6_bitCount_0f7a4_17 : decode cJ6_bitCount_0f7a4 17 = .ok (.iushr, 1) := by decide +kernel
theorem dJ6_bitCount_0f7a4_18 : decode cJ6_bitCount_0f7a4 18 = .ok (.ldc_w 266, 3) := by decide +kernel
theorem dJ6_bitCount_0f7a4_21 : decode cJ6_bitCount_0f7a4 21 = .ok (.iand, 1) := by decide +kernel
theorem dJ6_bitCount_0f7a4_22 : decode cJ6_bitCount_0f7a4 22 = .ok (.iadd, 1) := by decide +kernel
theorem dJ6_bitCount_0f7a4_23 : decode cJ6_bitCount_0f7a4 23 = .ok (.istore_n 0, 1) := by decide +kernel
theorem dJ6_bitCount_0f7a4_24 : decode cJ6_bitCount_0f7a4 24 = .ok (.iload_n 0, 1) := by decide +kernel
theorem dJ6_bitCount_0f7a4_25 : decode cJ6_bitCount_0f7a4 25 = .ok (.iload_n 0, 1) := by decide +kernel
theorem dJ6_bitCount_0f7a4_26 : decode cJ6_bitCount_0f7a4 26 = .ok (.iconst 4, 1) := by decide +kernel
theorem dJ6_bitCount_0f7a4_27 : decode cJ6_bitCount_0f7a4 27 = .ok (.iushr, 1) := by decide +kernel
theorem dJ6_bitCount_0f7a4_28 : decode cJ6_bitCount_0f7a4 28 = .ok (.iadd, 1) := by decide +kernel
theorem dJ6_bitCount_0f7a4_29 : decode cJ6_bitCount_0f7a4 29 = .ok (.ldc_w 267, 3) := by decide +kernel
theorem dJ6_bitCount_0f7a4_32 : decode cJ6_bitCount_0f7a4 32 = .ok (.iand, 1) := by decide +kernel
theorem dJ6_bitCount_0f7a4_33 : decode cJ6_bitCount_0f7a4 33 = .ok (.istore_n 0, 1) := by decide +kernel
theorem dJ6_bitCount_0f7a4_34 : decode cJ6_bitCount_0f7a4 34 = .ok (.iload_n 0, 1) := by decide +kernel
theorem dJ6_bitCount_0f7a4_35 : decode cJ6_bitCount_0f7a4 35 = .ok (.iload_n 0, 1) := by decide +kernel
theorem dJ6_bitCount_0f7a4_36 : decode cJ6_bitCount_0f7a4 36 = .ok (.bipush 8, 2) := by decide +kernel
theorem dJ6_bitCount_0f7a4_38 : decode cJ6_bitCount_0f7a4 38 = .ok (.iushr, 1) := by decide +kernel
theorem dJ6_bitCount_0f7a4_39 : decode cJ6_bitCount_0f7a4 39 = .ok (.iadd, 1) := by decide +kernel
theorem dJ6_bitCount_0f7a4_40 : decode cJ6_bitCount_0f7a4 40 = .ok (.istore_n 0, 1) := by decide +kernel
theorem dJ6_bitCount_0f7a4_41 : decode cJ6_bitCount_0f7a4 41 = .ok (.iload_n 0, 1) := by decide +kernel
theorem dJ6_bitCount_0f7a4_42 : decode cJ6_bitCount_0f7a4 42 = .ok (.iload_n 0, 1) := by decide +kernel
theorem dJ6_bitCount_0f7a4_43 : decode cJ6_bitCount_0f7a4 43 = .ok (.bipush 16, 2) := by decide +kernel
theorem dJ6_bitCount_0f7a4_45 : decode cJ6_bitCount_0f7a4 45 = .ok (.iushr, 1) := by decide +kernel
theorem dJ6_bitCount_0f7a4_46 : decode cJ6_bitCount_0f7a4 46 = .ok (.iadd, 1) := by decide +kernel
theorem dJ6_bitCount_0f7a4_47 : decode cJ6_bitCount_0f7a4 47 = .ok (.istore_n 0, 1) := by decide +kernel
theorem dJ6_bitCount_0f7a4_48 : decode cJ6_bitCount_0f7a4 48 = .ok (.iload_n 0, 1) := by decide +kernel
theorem dJ6_bitCount_0f7a4_49 : decode cJ6_bitCount_0f7a4 49 = .ok (.bipush 63, 2) := by decide +kernel
theorem dJ6_bitCount_0f7a4_51 : decode cJ6_bitCount_0f7a4 51 = .ok (.iand, 1) := by decide +kernel
theorem dJ6_bitCount_0f7a4_52 : decode cJ6_bitCount_0f7a4 52 = .ok (.ireturn, 1) := by decide +kernel
theorem dJ9_abs_0f7a4_0 : decode cJ9_abs_0f7a4 0 = .ok (.iload_n 0, 1) := by decide +kernel
theorem dJ9_abs_0f7a4_1 : decode cJ9_abs_0f7a4 1 = .ok (.ifCond .ge 8, 3) := by decide +kernel
theorem dJ9_abs_0f7a4_4 : decode cJ9_abs_0f7a4 4 = .ok (.iload_n 0, 1) := by decide +kernel
theorem dJ9_abs_0f7a4_5 : decode cJ9_abs_0f7a4 5 = .ok (.ineg, 1) := by decide +kernel
theorem dJ9_abs_0f7a4_6 : decode cJ9_abs_0f7a4 6 = .ok (.goto 4, 3) := by decide +kernel
theorem dJ9_abs_0f7a4_9 : decode cJ9_abs_0f7a4 9 = .ok (.iload_n 0, 1) := by decide +kernel
theorem dJ9_abs_0f7a4_10 : decode cJ9_abs_0f7a4 10 = .ok (.ireturn, 1) := by decide +kernel
theorem dJ9_max_7cf53_0 : decode cJ9_max_7cf53 0 = .ok (.iload_n 0, 1) := by decide +kernel
theorem dJ9_max_7cf53_1 : decode cJ9_max_7cf53 1 = .ok (.iload_n 1, 1) := by decide +kernel
theorem dJ9_max_7cf53_2 : decode cJ9_max_7cf53 2 = .ok (.if_icmp .lt 7, 3) := by decide +kernel
theorem dJ9_max_7cf53_5 : decode cJ9_max_7cf53 5 = .ok (.iload_n 0, 1) := by decide +kernel
theorem dJ9_max_7cf53_6 : decode cJ9_max_7cf53 6 = .ok (.goto 4, 3) := by decide +kernel
theorem dJ9_max_7cf53_9 : decode cJ9_max_7cf53 9 = .ok (.iload_n 1, 1) := by decide +kernel
theorem dJ9_max_7cf53_10 : decode cJ9_max_7cf53 10 = .ok (.ireturn, 1) := by decide +kernel
theorem dJ9_min_7cf53_0 : decode cJ9_min_7cf53 0 = .ok (.iload_n 0, 1) := by decide +kernel
theorem dJ9_min_7cf53_1 : decode cJ9_min_7cf53 1 = .ok (.iload_n 1, 1) := by decide +kernel
theorem dJ9_min_7cf53_2 : decode cJ9_min_7cf53 2 = .ok (.if_icmp .gt 7, 3) := by decide +kernel
theorem dJ9_min_7cf53_5 : decode cJ9_min_7cf53 5 = .ok (.iload_n 0, 1) := by decide +kernel
theorem dJ9_min_7cf53_6 : decode cJ9_min_7cf53 6 = .ok (.goto 4, 3) := by decide +kernel
theorem dJ9_min_7cf53_9 : decode cJ9_min_7cf53 9 = .ok (.iload_n 1, 1) := by decide +kernel
theorem dJ9_min_7cf53_10 : decode cJ9_min_7cf53 10 = .ok (.ireturn, 1) := by decide +kernel
theorem dJ0_length_8abf5_0 : decode cJ0_length_8abf5 0 = .ok (.aload_n 0, 1) := by decide +kernel
theorem dJ0_length_8abf5_1 : decode cJ0_length_8abf5 1 = .ok (.getfield 9, 3) := by decide +kernel
theorem dJ0_length_8abf5_4 : decode cJ0_length_8abf5 4 = .ok (.arraylength, 1) := by decide +kernel
theorem dJ0_length_8abf5_5 : decode cJ0_length_8abf5 5 = .ok (.aload_n 0, 1) := by decide +kernel
theorem dJ0_length_8abf5_6 : decode cJ0_length_8abf5 6 = .ok (.invokevirtual 335, 3) := by decide +kernel
theorem dJ0_length_8abf5_9 : decode cJ0_length_8abf5 9 = .ok (.ishr, 1) := by decide +kernel
theorem dJ0_length_8abf5_10 : decode cJ0_length_8abf5 10 = .ok (.ireturn, 1) := by decide +kernel
theorem dJ0_charAt_5068e_0 : decode cJ0_charAt_5068e 0 = .ok (.aload_n 0, 1) := by decide +kernel
theorem dJ0_charAt_5068e_1 : decode cJ0_charAt_5068e 1 = .ok (.invokevirtual 492, 3) := by decide +kernel
theorem dJ0_charAt_5068e_4 : decode cJ0_charAt_5068e 4 = .ok (.ifCond .eq 12, 3) := by decide +kernel
theorem dJ0_charAt_5068e_7 : decode cJ0_charAt_5068e 7 = .ok (.aload_n 0, 1) := by decide +kernel
theorem dJ0_charAt_5068e_8 : decode cJ0_charAt_5068e 8 = .ok (.getfield 9, 3) := by decide +kernel
theorem dJ0_charAt_5068e_11 : decode cJ0_charAt_5068e 11 = .ok (.iload_n 1, 1) := by decide +kernel
theorem dJ0_charAt_5068e_12 : decode cJ0_charAt_5068e 12 = .ok (.invokestatic 495, 3) := by decide +kernel
theorem dJ0_charAt_5068e_15 : decode cJ0_charAt_5068e 15 = .ok (.ireturn, 1) := by decide +kernel
theorem dJ0_charAt_5068e_16 : decode cJ0_charAt_5068e 16 = .ok (.aload_n 0, 1) := by decide +kernel
theorem dJ0_charAt_5068e_17 : decode cJ0_charAt_5068e 17 = .ok (.getfield 9, 3) := by decide +kernel
theorem dJ0_charAt_5068e_20 : decode cJ0_charAt_5068e 20 = .ok (.iload_n 1, 1) := by decide +kernel
theorem dJ0_charAt_5068e_21 : decode cJ0_charAt_5068e 21 = .ok (.invokestatic 498, 3) := by decide +kernel
theorem dJ0_charAt_5068e_24 : decode cJ0_charAt_5068e 24 = .ok (.ireturn, 1) := by decide +kernel
theorem dJ0_coder_7d493_0 : decode cJ0_coder_7d493 0 = .ok (.getstatic 38, 3) := by decide +kernel
theorem dJ0_coder_7d493_3 : decode cJ0_coder_7d493 3 = .ok (.ifCond .eq 10, 3) := by decide +kernel
theorem dJ0_coder_7d493_6 : decode cJ0_coder_7d493 6 = .ok (.aload_n 0, 1) := by decide +kernel
theorem dJ0_coder_7d493_7 : decode cJ0_coder_7d493 7 = .ok (.getfield 15, 3) := by decide +kernel
theorem dJ0_coder_7d493_10 : decode cJ0_coder_7d493 10 = .ok (.goto 4, 3) := by decide +kernel
theorem dJ0_coder_7d493_13 : decode cJ0_coder_7d493 13 = .ok (.iconst 1, 1) := by decide +kernel
theorem dJ0_coder_7d493_14 : decode cJ0_coder_7d493 14 = .ok (.ireturn, 1) := by decide +kernel
theorem dJ0_isLatin1_aae02_0 : decode cJ0_isLatin1_aae02 0 = .ok (.getstatic 38, 3) := by decide +kernel
theorem dJ0_isLatin1_aae02_3 : decode cJ0_isLatin1_aae02 3 = .ok (.ifCond .eq 14, 3) := by decide +kernel
theorem dJ0_isLatin1_aae02_6 : decode cJ0_isLatin1_aae02 6 = .ok (.aload_n 0, 1) := by decide +kernel
theorem dJ0_isLatin1_aae02_7 : decode cJ0_isLatin1_aae02 7 = .ok (.getfield 15, 3) := by decide +kernel
theorem dJ0_isLatin1_aae02_10 : decode cJ0_isLatin1_aae02 10 = .ok (.ifCond .ne 7, 3) := by decide +kernel
theorem dJ0_isLatin1_aae02_13 : decode cJ0_isLatin1_aae02 13 = .ok (.iconst 1, 1) := by decide +kernel
theorem dJ0_isLatin1_aae02_14 : decode cJ0_isLatin1_aae02 14 = .ok (.goto 4, 3) := by decide +kernel
theorem dJ0_isLatin1_aae02_17 : decode cJ0_isLatin1_aae02 17 = .ok (.iconst 0, 1) := by decide +kernel
theorem dJ0_isLatin1_aae02_18 : decode cJ0_isLatin1_aae02 18 = .ok (.ireturn, 1) := by decide +kernel
theorem dJ0_checkIndex_df160_0 : decode cJ0_checkIndex_df160 0 = .ok (.iload_n 0, 1) := by decide +kernel
theorem dJ0_checkIndex_df160_1 : decode cJ0_checkIndex_df160 1 = .ok (.iload_n 1, 1) := by decide +kernel
theorem dJ0_checkIndex_df160_2 : decode cJ0_checkIndex_df160 2 = .ok (.getstatic 1053, 3) := by decide +kernel
theorem dJ0_checkIndex_df160_5 : decode cJ0_checkIndex_df160 5 = .ok (.invokestatic 1059, 3) := by decide +kernel
theorem dJ0_checkIndex_df160_8 : decode cJ0_checkIndex_df160 8 = .ok (.pop, 1) := by decide +kernel
theorem dJ0_checkIndex_df160_9 : decode cJ0_checkIndex_df160 9 = .ok (.return_, 1) := by decide +kernel
theorem dJ1_charAt_3b067_0 : decode cJ1_charAt_3b067 0 = .ok (.iload_n 1, 1) := by decide +kernel
theorem dJ1_charAt_3b067_1 : decode cJ1_charAt_3b067 1 = .ok (.aload_n 0, 1) := by decide +kernel
theorem dJ1_charAt_3b067_2 : decode cJ1_charAt_3b067 2 = .ok (.arraylength, 1) := by decide +kernel
theorem dJ1_charAt_3b067_3 : decode cJ1_charAt_3b067 3 = .ok (.invokestatic 9, 3) := by decide +kernel
theorem dJ1_charAt_3b067_6 : decode cJ1_charAt_3b067 6 = .ok (.aload_n 0, 1) := by decide +kernel
theorem dJ1_charAt_3b067_7 : decode cJ1_charAt_3b067 7 = .ok (.iload_n 1, 1) := by decide +kernel
theorem dJ1_charAt_3b067_8 : decode cJ1_charAt_3b067 8 = .ok (.baload, 1) := by decide +kernel
theorem dJ1_charAt_3b067_9 : decode cJ1_charAt_3b067 9 = .ok (.sipush 255, 3) := by decide +kernel
theorem dJ1_charAt_3b067_12 : decode cJ1_charAt_3b067 12 = .ok (.iand, 1) := by decide +kernel
theorem dJ1_charAt_3b067_13 : decode cJ1_charAt_3b067 13 = .ok (.i2c, 1) := by decide +kernel
theorem dJ1_charAt_3b067_14 : decode cJ1_charAt_3b067 14 = .ok (.ireturn, 1) := by decide +kernel
theorem dJ2_getChar_3b067_0 : decode cJ2_getChar_3b067 0 = .ok (.getstatic 44, 3) := by decide +kernel
theorem dJ2_getChar_3b067_3 : decode cJ2_getChar_3b067 3 = .ok (.ifCond .ne 25, 3) := by decide +kernel
theorem dJ2_getChar_3b067_6 : decode cJ2_getChar_3b067 6 = .ok (.iload_n 1, 1) := by decide +kernel
theorem dJ2_getChar_3b067_7 : decode cJ2_getChar_3b067 7 = .ok (.ifCond .lt 11, 3) := by decide +kernel
theorem dJ2_getChar_3b067_10 : decode cJ2_getChar_3b067 10 = .ok (.iload_n 1, 1) := by decide +kernel
theorem dJ2_getChar_3b067_11 : decode cJ2_getChar_3b067 11 = .ok (.aload_n 0, 1) := by decide +kernel
theorem dJ2_getChar_3b067_12 : decode cJ2_getChar_3b067 12 = .ok (.invokestatic 48, 3) := by decide +kernel
theorem dJ2_getChar_3b067_15 : decode cJ2_getChar_3b067 15 = .ok (.if_icmp .lt 13, 3) := by decide +kernel
theorem dJ2_getChar_3b067_18 : decode cJ2_getChar_3b067 18 = .ok (.new 52, 3) := by decide +kernel
theorem dJ2_getChar_3b067_21 : decode cJ2_getChar_3b067 21 = .ok (.dup, 1) := by decide +kernel
theorem dJ2_getChar_3b067_22 : decode cJ2_getChar_3b067 22 = .ok (.ldc 54, 2) := by decide +kernel
theorem dJ2_getChar_3b067_24 : decode cJ2_getChar_3b067 24 = .ok (.invokespecial 56, 3) := by decide +kernel
theorem dJ2_getChar_3b067_27 : decode cJ2_getChar_3b067 27 = .ok (.athrow, 1) := by decide +kernel
theorem dJ2_getChar_3b067_28 : decode cJ2_getChar_3b067 28 = .ok (.iload_n 1, 1) := by decide +kernel
theorem dJ2_getChar_3b067_29 : decode cJ2_getChar_3b067 29 = .ok (.iconst 1, 1) := by decide +kernel
theorem dJ2_getChar_3b067_30 : decode cJ2_getChar_3b067 30 = .ok (.ishl, 1) := by decide +kernel
theorem dJ2_getChar_3b067_31 : decode cJ2_getChar_3b067 31 = .ok (.istore_n 1, 1) := by decide +kernel
theorem dJ2_getChar_3b067_32 : decode cJ2_getChar_3b067 32 = .ok (.aload_n 0, 1) := by decide +kernel
theorem dJ2_getChar_3b067_33 : decode cJ2_getChar_3b067 33 = .ok (.iload_n 1, 1) := by decide +kernel
theorem dJ2_getChar_3b067_34 : decode cJ2_getChar_3b067 34 = .ok (.iinc 1 1, 3) := by decide +kernel
theorem dJ2_getChar_3b067_37 : decode cJ2_getChar_3b067 37 = .ok (.baload, 1) := by decide +kernel
theorem dJ2_getChar_3b067_38 : decode cJ2_getChar_3b067 38 = .ok (.sipush 255, 3) := by decide +kernel
theorem dJ2_getChar_3b067_41 : decode cJ2_getChar_3b067 41 = .ok (.iand, 1) := by decide +kernel
theorem dJ2_getChar_3b067_42 : decode cJ2_getChar_3b067 42 = .ok (.getstatic 59, 3) := by decide +kernel
theorem dJ2_getChar_3b067_45 : decode cJ2_getChar_3b067 45 = .ok (.ishl, 1) := by decide +kernel
theorem dJ2_getChar_3b067_46 : decode cJ2_getChar_3b067 46 = .ok (.aload_n 0, 1) := by decide +kernel
theorem dJ2_getChar_3b067_47 : decode cJ2_getChar_3b067 47 = .ok (.iload_n 1, 1) := by decide +kernel
theorem dJ2_getChar_3b067_48 : decode cJ2_getChar_3b067 48 = .ok (.baload, 1) := by decide +kernel
theorem dJ2_getChar_3b067_49 : decode cJ2_getChar_3b067 49 = .ok (.sipush 255, 3) := by decide +kernel
theorem dJ2_getChar_3b067_52 : decode cJ2_getChar_3b067 52 = .ok (.iand, 1) := by decide +kernel
theorem dJ2_getChar_3b067_53 : decode cJ2_getChar_3b067 53 = .ok (.getstatic 63, 3) := by decide +kernel
theorem dJ2_getChar_3b067_56 : decode cJ2_getChar_3b067 56 = .ok (.ishl, 1) := by decide +kernel
theorem dJ2_getChar_3b067_57 : decode cJ2_getChar_3b067 57 = .ok (.ior, 1) := by decide +kernel
theorem dJ2_getChar_3b067_58 : decode cJ2_getChar_3b067 58 = .ok (.i2c, 1) := by decide +kernel
theorem dJ2_getChar_3b067_59 : decode cJ2_getChar_3b067 59 = .ok (.ireturn, 1) := by decide +kernel
theorem dJ2_length_9d52b_0 : decode cJ2_length_9d52b 0 = .ok (.aload_n 0, 1) := by decide +kernel
theorem dJ2_length_9d52b_1 : decode cJ2_length_9d52b 1 = .ok (.arraylength, 1) := by decide +kernel
theorem dJ2_length_9d52b_2 : decode cJ2_length_9d52b 2 = .ok (.iconst 1, 1) := by decide +kernel
theorem dJ2_length_9d52b_3 : decode cJ2_length_9d52b 3 = .ok (.ishr, 1) := by decide +kernel
theorem dJ2_length_9d52b_4 : decode cJ2_length_9d52b 4 = .ok (.ireturn, 1) := by decide +kernel
theorem dJ2_charAt_3b067_0 : decode cJ2_charAt_3b067 0 = .ok (.iload_n 1, 1) := by decide +kernel
theorem dJ2_charAt_3b067_1 : decode cJ2_charAt_3b067 1 = .ok (.aload_n 0, 1) := by decide +kernel
theorem dJ2_charAt_3b067_2 : decode cJ2_charAt_3b067 2 = .ok (.invokestatic 67, 3) := by decide +kernel
theorem dJ2_charAt_3b067_5 : decode cJ2_charAt_3b067 5 = .ok (.aload_n 0, 1) := by decide +kernel
theorem dJ2_charAt_3b067_6 : decode cJ2_charAt_3b067 6 = .ok (.iload_n 1, 1) := by decide +kernel
theorem dJ2_charAt_3b067_7 : decode cJ2_charAt_3b067 7 = .ok (.invokestatic 71, 3) := by decide +kernel
theorem dJ2_charAt_3b067_10 : decode cJ2_charAt_3b067 10 = .ok (.ireturn, 1) := by decide +kernel
theorem dJ2_checkIndex_2214a_0 : decode cJ2_checkIndex_2214a 0 = .ok (.iload_n 0, 1) := by decide +kernel
theorem dJ2_checkIndex_2214a_1 : decode cJ2_checkIndex_2214a 1 = .ok (.aload_n 1, 1) := by decide +kernel
theorem dJ2_checkIndex_2214a_2 : decode cJ2_checkIndex_2214a 2 = .ok (.invokestatic 48, 3) := by decide +kernel
theorem dJ2_checkIndex_2214a_5 : decode cJ2_checkIndex_2214a 5 = .ok (.invokestatic 414, 3) := by decide +kernel
theorem dJ2_checkIndex_2214a_8 : decode cJ2_checkIndex_2214a 8 = .ok (.return_, 1) := by decide +kernel
theorem dJ7_fill_53178_0 : decode cJ7_fill_53178 0 = .ok (.iconst 0, 1) := by decide +kernel
theorem dJ7_fill_53178_1 : decode cJ7_fill_53178 1 = .ok (.istore_n 2, 1) := by decide +kernel
theorem dJ7_fill_53178_2 : decode cJ7_fill_53178 2 = .ok (.aload_n 0, 1) := by decide +kernel
theorem dJ7_fill_53178_3 : decode cJ7_fill_53178 3 = .ok (.arraylength, 1) := by decide +kernel
theorem dJ7_fill_53178_4 : decode cJ7_fill_53178 4 = .ok (.istore_n 3, 1) := by decide +kernel
theorem dJ7_fill_53178_5 : decode cJ7_fill_53178 5 = .ok (.iload_n 2, 1) := by decide +kernel
theorem dJ7_fill_53178_6 : decode cJ7_fill_53178 6 = .ok (.iload_n 3, 1) := by decide +kernel
theorem dJ7_fill_53178_7 : decode cJ7_fill_53178 7 = .ok (.if_icmp .ge 13, 3) := by decide +kernel
theorem dJ7_fill_53178_10 : decode cJ7_fill_53178 10 = .ok (.aload_n 0, 1) := by decide +kernel
theorem dJ7_fill_53178_11 : decode cJ7_fill_53178 11 = .ok (.iload_n 2, 1) := by decide +kernel
theorem dJ7_fill_53178_12 : decode cJ7_fill_53178 12 = .ok (.iload_n 1, 1) := by decide +kernel
theorem dJ7_fill_53178_13 : decode cJ7_fill_53178 13 = .ok (.iastore, 1) := by decide +kernel
theorem dJ7_fill_53178_14 : decode cJ7_fill_53178 14 = .ok (.iinc 2 1, 3) := by decide +kernel
theorem dJ7_fill_53178_17 : decode cJ7_fill_53178 17 = .ok (.goto (-12), 3) := by decide +kernel
theorem dJ7_fill_53178_20 : decode cJ7_fill_53178 20 = .ok (.return_, 1) := by decide +kernel
theorem dJ7_copyOf_59c91_0 : decode cJ7_copyOf_59c91 0 = .ok (.iload_n 1, 1) := by decide +kernel
theorem dJ7_copyOf_59c91_1 : decode cJ7_copyOf_59c91 1 = .ok (.aload_n 0, 1) := by decide +kernel
theorem dJ7_copyOf_59c91_2 : decode cJ7_copyOf_59c91 2 = .ok (.arraylength, 1) := by decide +kernel
theorem dJ7_copyOf_59c91_3 : decode cJ7_copyOf_59c91 3 = .ok (.if_icmp .ne 11, 3) := by decide +kernel
theorem dJ7_copyOf_59c91_6 : decode cJ7_copyOf_59c91 6 = .ok (.aload_n 0, 1) := by decide +kernel
theorem dJ7_copyOf_59c91_7 : decode cJ7_copyOf_59c91 7 = .ok (.invokevirtual 316, 3) := by decide +kernel
theorem dJ7_copyOf_59c91_10 : decode cJ7_copyOf_59c91 10 = .ok (.checkcast 317, 3) := by decide +kernel
theorem dJ7_copyOf_59c91_13 : decode cJ7_copyOf_59c91 13 = .ok (.areturn, 1) := by decide +kernel
theorem dJ7_copyOf_59c91_14 : decode cJ7_copyOf_59c91 14 = .ok (.iload_n 1, 1) := by decide +kernel
theorem dJ7_copyOf_59c91_15 : decode cJ7_copyOf_59c91 15 = .ok (.newarray .int, 2) := by decide +kernel
theorem dJ7_copyOf_59c91_17 : decode cJ7_copyOf_59c91 17 = .ok (.astore_n 2, 1) := by decide +kernel
theorem dJ7_copyOf_59c91_18 : decode cJ7_copyOf_59c91 18 = .ok (.aload_n 0, 1) := by decide +kernel
theorem dJ7_copyOf_59c91_19 : decode cJ7_copyOf_59c91 19 = .ok (.iconst 0, 1) := by decide +kernel
theorem dJ7_copyOf_59c91_20 : decode cJ7_copyOf_59c91 20 = .ok (.aload_n 2, 1) := by decide +kernel
theorem dJ7_copyOf_59c91_21 : decode cJ7_copyOf_59c91 21 = .ok (.iconst 0, 1) := by decide +kernel
theorem dJ7_copyOf_59c91_22 : decode cJ7_copyOf_59c91 22 = .ok (.aload_n 0, 1) := by decide +kernel
theorem dJ7_copyOf_59c91_23 : decode cJ7_copyOf_59c91 23 = .ok (.arraylength, 1) := by decide +kernel
theorem dJ7_copyOf_59c91_24 : decode cJ7_copyOf_59c91 24 = .ok (.iload_n 1, 1) := by decide +kernel
theorem dJ7_copyOf_59c91_25 : decode cJ7_copyOf_59c91 25 = .ok (.invokestatic 304, 3) := by decide +kernel
theorem dJ7_copyOf_59c91_28 : decode cJ7_copyOf_59c91 28 = .ok (.invokestatic 150, 3) := by decide +kernel
theorem dJ7_copyOf_59c91_31 : decode cJ7_copyOf_59c91 31 = .ok (.aload_n 2, 1) := by decide +kernel
theorem dJ7_copyOf_59c91_32 : decode cJ7_copyOf_59c91 32 = .ok (.areturn, 1) := by decide +kernel
theorem dJ3_checkIndex_8e157_0 : decode cJ3_checkIndex_8e157 0 = .ok (.iload_n 0, 1) := by decide +kernel
theorem dJ3_checkIndex_8e157_1 : decode cJ3_checkIndex_8e157 1 = .ok (.ifCond .lt 8, 3) := by decide +kernel
theorem dJ3_checkIndex_8e157_4 : decode cJ3_checkIndex_8e157 4 = .ok (.iload_n 0, 1) := by decide +kernel
theorem dJ3_checkIndex_8e157_5 : decode cJ3_checkIndex_8e157 5 = .ok (.iload_n 1, 1) := by decide +kernel
theorem dJ3_checkIndex_8e157_6 : decode cJ3_checkIndex_8e157 6 = .ok (.if_icmp .lt 10, 3) := by decide +kernel
theorem dJ3_checkIndex_8e157_9 : decode cJ3_checkIndex_8e157 9 = .ok (.aload_n 2, 1) := by decide +kernel
theorem dJ3_checkIndex_8e157_10 : decode cJ3_checkIndex_8e157 10 = .ok (.iload_n 0, 1) := by decide +kernel
theorem dJ3_checkIndex_8e157_11 : decode cJ3_checkIndex_8e157 11 = .ok (.iload_n 1, 1) := by decide +kernel
theorem dJ3_checkIndex_8e157_12 : decode cJ3_checkIndex_8e157 12 = .ok (.invokestatic 95, 3) := by decide +kernel
theorem dJ3_checkIndex_8e157_15 : decode cJ3_checkIndex_8e157 15 = .ok (.athrow, 1) := by decide +kernel
theorem dJ3_checkIndex_8e157_16 : decode cJ3_checkIndex_8e157 16 = .ok (.iload_n 0, 1) := by decide +kernel
theorem dJ3_checkIndex_8e157_17 : decode cJ3_checkIndex_8e157 17 = .ok (.ireturn, 1) := by decide +kernel
theorem dL_law_0 : decode cL_law 0 = .ok (.new 7, 3) := by decide +kernel
theorem dL_law_3 : decode cL_law 3 = .ok (.dup, 1) := by decide +kernel
theorem dL_law_4 : decode cL_law 4 = .ok (.invokespecial 9, 3) := by decide +kernel
theorem dL_law_7 : decode cL_law 7 = .ok (.astore_n 1, 1) := by decide +kernel
theorem dL_law_8 : decode cL_law 8 = .ok (.new 10, 3) := by decide +kernel
theorem dL_law_11 : decode cL_law 11 = .ok (.dup, 1) := by decide +kernel
theorem dL_law_12 : decode cL_law 12 = .ok (.invokespecial 12, 3) := by decide +kernel
theorem dL_law_15 : decode cL_law 15 = .ok (.astore_n 2, 1) := by decide +kernel
theorem dL_law_16 : decode cL_law 16 = .ok (.iconst 0, 1) := by decide +kernel
theorem dL_law_17 : decode cL_law 17 = .ok (.istore_n 3, 1) := by decide +kernel
theorem dL_law_18 : decode cL_law 18 = .ok (.iload_n 3, 1) := by decide +kernel
theorem dL_law_19 : decode cL_law 19 = .ok (.aload_n 0, 1) := by decide +kernel
theorem dL_law_20 : decode cL_law 20 = .ok (.arraylength, 1) := by decide +kernel
theorem dL_law_21 : decode cL_law 21 = .ok (.bipush 6, 2) := by decide +kernel
theorem dL_law_23 : decode cL_law 23 = .ok (.isub, 1) := by decide +kernel
theorem dL_law_24 : decode cL_law 24 = .ok (.if_icmp .gt 947, 3) := by decide +kernel
theorem dL_law_27 : decode cL_law 27 = .ok (.aload_n 0, 1) := by decide +kernel
theorem dL_law_28 : decode cL_law 28 = .ok (.iload_n 3, 1) := by decide +kernel
theorem dL_law_29 : decode cL_law 29 = .ok (.iaload, 1) := by decide +kernel
theorem dL_law_30 : decode cL_law 30 = .ok (.bipush 31, 2) := by decide +kernel
theorem dL_law_32 : decode cL_law 32 = .ok (.iand, 1) := by decide +kernel
theorem dL_law_33 : decode cL_law 33 = .ok (.tableswitch 932 0 27 #[127, 170, 213, 246, 269, 282, 305, 328, 351, 364, 387, 400, 433, 456, 479, 512, 525, 548, 581, 604, 648, 661, 674, 697, 740, 783, 846, 899], 127) := by decide +kernel
theorem dL_law_160 : decode cL_law 160 = .ok (.aload_n 1, 1) := by decide +kernel
theorem dL_law_161 : decode cL_law 161 = .ok (.aload_n 0, 1) := by decide +kernel
theorem dL_law_162 : decode cL_law 162 = .ok (.iload_n 3, 1) := by decide +kernel
theorem dL_law_163 : decode cL_law 163 = .ok (.iconst 1, 1) := by decide +kernel
theorem dL_law_164 : decode cL_law 164 = .ok (.iadd, 1) := by decide +kernel
theorem dL_law_165 : decode cL_law 165 = .ok (.iaload, 1) := by decide +kernel
theorem dL_law_166 : decode cL_law 166 = .ok (.aload_n 0, 1) := by decide +kernel
theorem dL_law_167 : decode cL_law 167 = .ok (.iload_n 3, 1) := by decide +kernel
theorem dL_law_168 : decode cL_law 168 = .ok (.iconst 2, 1) := by decide +kernel
theorem dL_law_169 : decode cL_law 169 = .ok (.iadd, 1) := by decide +kernel
theorem dL_law_170 : decode cL_law 170 = .ok (.iaload, 1) := by decide +kernel
theorem dL_law_171 : decode cL_law 171 = .ok (.aload_n 0, 1) := by decide +kernel
theorem dL_law_172 : decode cL_law 172 = .ok (.iload_n 3, 1) := by decide +kernel
theorem dL_law_173 : decode cL_law 173 = .ok (.iconst 3, 1) := by decide +kernel
theorem dL_law_174 : decode cL_law 174 = .ok (.iadd, 1) := by decide +kernel
theorem dL_law_175 : decode cL_law 175 = .ok (.iaload, 1) := by decide +kernel
theorem dL_law_176 : decode cL_law 176 = .ok (.invokevirtual 13, 3) := by decide +kernel
theorem dL_law_179 : decode cL_law 179 = .ok (.aload_n 2, 1) := by decide +kernel
theorem dL_law_180 : decode cL_law 180 = .ok (.aload_n 0, 1) := by decide +kernel
theorem dL_law_181 : decode cL_law 181 = .ok (.iload_n 3, 1) := by decide +kernel
theorem dL_law_182 : decode cL_law 182 = .ok (.iconst 1, 1) := by decide +kernel
theorem dL_law_183 : decode cL_law 183 = .ok (.iadd, 1) := by decide +kernel
theorem dL_law_184 : decode cL_law 184 = .ok (.iaload, 1) := by decide +kernel
theorem dL_law_185 : decode cL_law 185 = .ok (.aload_n 0, 1) := by decide +kernel
theorem dL_law_186 : decode cL_law 186 = .ok (.iload_n 3, 1) := by decide +kernel
theorem dL_law_187 : decode cL_law 187 = .ok (.iconst 2, 1) := by decide +kernel
theorem dL_law_188 : decode cL_law 188 = .ok (.iadd, 1) := by decide +kernel
theorem dL_law_189 : decode cL_law 189 = .ok (.iaload, 1) := by decide +kernel
theorem dL_law_190 : decode cL_law 190 = .ok (.aload_n 0, 1) := by decide +kernel
theorem dL_law_191 : decode cL_law 191 = .ok (.iload_n 3, 1) := by decide +kernel
theorem dL_law_192 : decode cL_law 192 = .ok (.iconst 3, 1) := by decide +kernel
theorem dL_law_193 : decode cL_law 193 = .ok (.iadd, 1) := by decide +kernel
theorem dL_law_194 : decode cL_law 194 = .ok (.iaload, 1) := by decide +kernel
theorem dL_law_195 : decode cL_law 195 = .ok (.invokevirtual 17, 3) := by decide +kernel
theorem dL_law_198 : decode cL_law 198 = .ok (.if_icmp .eq 767, 3) := by decide +kernel
theorem dL_law_201 : decode cL_law 201 = .ok (.iconst 0, 1) := by decide +kernel
theorem dL_law_202 : decode cL_law 202 = .ok (.ireturn, 1) := by decide +kernel
theorem dL_law_203 : decode cL_law 203 = .ok (.aload_n 1, 1) := by decide +kernel
theorem dL_law_204 : decode cL_law 204 = .ok (.aload_n 0, 1) := by decide +kernel
theorem dL_law_205 : decode cL_law 205 = .ok (.iload_n 3, 1) := by decide +kernel
theorem dL_law_206 : decode cL_law 206 = .ok (.iconst 1, 1) := by decide +kernel
theorem dL_law_207 : decode cL_law 207 = .ok (.iadd, 1) := by decide +kernel
theorem dL_law_208 : decode cL_law 208 = .ok (.iaload, 1) := by decide +kernel
theorem dL_law_209 : decode cL_law 209 = .ok (.aload_n 0, 1) := by decide +kernel
theorem dL_law_210 : decode cL_law 210 = .ok (.iload_n 3, 1) := by decide +kernel
theorem dL_law_211 : decode cL_law 211 = .ok (.iconst 2, 1) := by decide +kernel
theorem dL_law_212 : decode cL_law 212 = .ok (.iadd, 1) := by decide +kernel
theorem dL_law_213 : decode cL_law 213 = .ok (.iaload, 1) := by decide +kernel
theorem dL_law_214 : decode cL_law 214 = .ok (.aload_n 0, 1) := by decide +kernel
theorem dL_law_215 : decode cL_law 215 = .ok (.iload_n 3, 1) := by decide +kernel
theorem dL_law_216 : decode cL_law 216 = .ok (.iconst 3, 1) := by decide +kernel
theorem dL_law_217 : decode cL_law 217 = .ok (.iadd, 1) := by decide +kernel
theorem dL_law_218 : decode cL_law 218 = .ok (.iaload, 1) := by decide +kernel
theorem dL_law_219 : decode cL_law 219 = .ok (.invokevirtual 18, 3) := by decide +kernel
theorem dL_law_222 : decode cL_law 222 = .ok (.aload_n 2, 1) := by decide +kernel
theorem dL_law_223 : decode cL_law 223 = .ok (.aload_n 0, 1) := by decide +kernel
theorem dL_law_224 : decode cL_law 224 = .ok (.iload_n 3, 1) := by decide +kernel
theorem dL_law_225 : decode cL_law 225 = .ok (.iconst 1, 1) := by decide +kernel
theorem dL_law_226 : decode cL_law 226 = .ok (.iadd, 1) := by decide +kernel
theorem dL_law_227 : decode cL_law 227 = .ok (.iaload, 1) := by decide +kernel
theorem dL_law_228 : decode cL_law 228 = .ok (.aload_n 0, 1) := by decide +kernel
theorem dL_law_229 : decode cL_law 229 = .ok (.iload_n 3, 1) := by decide +kernel
theorem dL_law_230 : decode cL_law 230 = .ok (.iconst 2, 1) := by decide +kernel
theorem dL_law_231 : decode cL_law 231 = .ok (.iadd, 1) := by decide +kernel
theorem dL_law_232 : decode cL_law 232 = .ok (.iaload, 1) := by decide +kernel
theorem dL_law_233 : decode cL_law 233 = .ok (.aload_n 0, 1) := by decide +kernel
theorem dL_law_234 : decode cL_law 234 = .ok (.iload_n 3, 1) := by decide +kernel
theorem dL_law_235 : decode cL_law 235 = .ok (.iconst 3, 1) := by decide +kernel
theorem dL_law_236 : decode cL_law 236 = .ok (.iadd, 1) := by decide +kernel
theorem dL_law_237 : decode cL_law 237 = .ok (.iaload, 1) := by decide +kernel
theorem dL_law_238 : decode cL_law 238 = .ok (.invokevirtual 21, 3) := by decide +kernel
theorem dL_law_241 : decode cL_law 241 = .ok (.if_icmp .eq 724, 3) := by decide +kernel
theorem dL_law_244 : decode cL_law 244 = .ok (.iconst 0, 1) := by decide +kernel
theorem dL_law_245 : decode cL_law 245 = .ok (.ireturn, 1) := by decide +kernel
theorem dL_law_246 : decode cL_law 246 = .ok (.aload_n 1, 1) := by decide +kernel
theorem dL_law_247 : decode cL_law 247 = .ok (.aload_n 0, 1) := by decide +kernel
theorem dL_law_248 : decode cL_law 248 = .ok (.iload_n 3, 1) := by decide +kernel
theorem dL_law_249 : decode cL_law 249 = .ok (.iconst 1, 1) := by decide +kernel
theorem dL_law_250 : decode cL_law 250 = .ok (.iadd, 1) := by decide +kernel
theorem dL_law_251 : decode cL_law 251 = .ok (.iaload, 1) := by decide +kernel
theorem dL_law_252 : decode cL_law 252 = .ok (.aload_n 0, 1) := by decide +kernel
theorem dL_law_253 : decode cL_law 253 = .ok (.iload_n 3, 1) := by decide +kernel
theorem dL_law_254 : decode cL_law 254 = .ok (.iconst 2, 1) := by decide +kernel
theorem dL_law_255 : decode cL_law 255 = .ok (.iadd, 1) := by decide +kernel
theorem dL_law_256 : decode cL_law 256 = .ok (.iaload, 1) := by decide +kernel
theorem dL_law_257 : decode cL_law 257 = .ok (.invokevirtual 22, 3) := by decide +kernel
theorem dL_law_260 : decode cL_law 260 = .ok (.aload_n 2, 1) := by decide +kernel
theorem dL_law_261 : decode cL_law 261 = .ok (.aload_n 0, 1) := by decide +kernel
theorem dL_law_262 : decode cL_law 262 = .ok (.iload_n 3, 1) := by decide +kernel
theorem dL_law_263 : decode cL_law 263 = .ok (.iconst 1, 1) := by decide +kernel
theorem dL_law_264 : decode cL_law 264 = .ok (.iadd, 1) := by decide +kernel
theorem dL_law_265 : decode cL_law 265 = .ok (.iaload, 1) := by decide +kernel
theorem dL_law_266 : decode cL_law 266 = .ok (.aload_n 0, 1) := by decide +kernel
theorem dL_law_267 : decode cL_law 267 = .ok (.iload_n 3, 1) := by decide +kernel
theorem dL_law_268 : decode cL_law 268 = .ok (.iconst 2, 1) := by decide +kernel
theorem dL_law_269 : decode cL_law 269 = .ok (.iadd, 1) := by decide +kernel
theorem dL_law_270 : decode cL_law 270 = .ok (.iaload, 1) := by decide +kernel
theorem dL_law_271 : decode cL_law 271 = .ok (.invokevirtual 26, 3) := by decide +kernel
theorem dL_law_274 : decode cL_law 274 = .ok (.if_icmp .eq 691, 3) := by decide +kernel
theorem dL_law_277 : decode cL_law 277 = .ok (.iconst 0, 1) := by decide +kernel
theorem dL_law_278 : decode cL_law 278 = .ok (.ireturn, 1) := by decide +kernel
theorem dL_law_279 : decode cL_law 279 = .ok (.aload_n 1, 1) := by decide +kernel
theorem dL_law_280 : decode cL_law 280 = .ok (.aload_n 0, 1) := by decide +kernel
theorem dL_law_281 : decode cL_law 281 = .ok (.iload_n 3, 1) := by decide +kernel
theorem dL_law_282 : decode cL_law 282 = .ok (.iconst 1, 1) := by decide +kernel
theorem dL_law_283 : decode cL_law 283 = .ok (.iadd, 1) := by decide +kernel
theorem dL_law_284 : decode cL_law 284 = .ok (.iaload, 1) := by decide +kernel
theorem dL_law_285 : decode cL_law 285 = .ok (.invokevirtual 27, 3) := by decide +kernel
theorem dL_law_288 : decode cL_law 288 = .ok (.aload_n 2, 1) := by decide +kernel
theorem dL_law_289 : decode cL_law 289 = .ok (.aload_n 0, 1) := by decide +kernel
theorem dL_law_290 : decode cL_law 290 = .ok (.iload_n 3, 1) := by decide +kernel
theorem dL_law_291 : decode cL_law 291 = .ok (.iconst 1, 1) := by decide +kernel
theorem dL_law_292 : decode cL_law 292 = .ok (.iadd, 1) := by decide +kernel
theorem dL_law_293 : decode cL_law 293 = .ok (.iaload, 1) := by decide +kernel
theorem dL_law_294 : decode cL_law 294 = .ok (.invokevirtual 31, 3) := by decide +kernel
theorem dL_law_297 : decode cL_law 297 = .ok (.if_icmp .eq 668, 3) := by decide +kernel
theorem dL_law_300 : decode cL_law 300 = .ok (.iconst 0, 1) := by decide +kernel
theorem dL_law_301 : decode cL_law 301 = .ok (.ireturn, 1) := by decide +kernel
theorem dL_law_302 : decode cL_law 302 = .ok (.aload_n 1, 1) := by decide +kernel
theorem dL_law_303 : decode cL_law 303 = .ok (.invokevirtual 32, 3) := by decide +kernel
theorem dL_law_306 : decode cL_law 306 = .ok (.aload_n 2, 1) := by decide +kernel
theorem dL_law_307 : decode cL_law 307 = .ok (.invokevirtual 36, 3) := by decide +kernel
theorem dL_law_310 : decode cL_law 310 = .ok (.if_icmp .eq 655, 3) := by decide +kernel
theorem dL_law_313 : decode cL_law 313 = .ok (.iconst 0, 1) := by decide +kernel
theorem dL_law_314 : decode cL_law 314 = .ok (.ireturn, 1) := by decide +kernel
theorem dL_law_315 : decode cL_law 315 = .ok (.aload_n 1, 1) := by decide +kernel
theorem dL_law_316 : decode cL_law 316 = .ok (.aload_n 0, 1) := by decide +kernel
theorem dL_law_317 : decode cL_law 317 = .ok (.iload_n 3, 1) := by decide +kernel
theorem dL_law_318 : decode cL_law 318 = .ok (.iconst 1, 1) := by decide +kernel
theorem dL_law_319 : decode cL_law 319 = .ok (.iadd, 1) := by decide +kernel
theorem dL_law_320 : decode cL_law 320 = .ok (.iaload, 1) := by decide +kernel
theorem dL_law_321 : decode cL_law 321 = .ok (.invokevirtual 37, 3) := by decide +kernel
theorem dL_law_324 : decode cL_law 324 = .ok (.aload_n 2, 1) := by decide +kernel
theorem dL_law_325 : decode cL_law 325 = .ok (.aload_n 0, 1) := by decide +kernel
theorem dL_law_326 : decode cL_law 326 = .ok (.iload_n 3, 1) := by decide +kernel
theorem dL_law_327 : decode cL_law 327 = .ok (.iconst 1, 1) := by decide +kernel
theorem dL_law_328 : decode cL_law 328 = .ok (.iadd, 1) := by decide +kernel
theorem dL_law_329 : decode cL_law 329 = .ok (.iaload, 1) := by decide +kernel
theorem dL_law_330 : decode cL_law 330 = .ok (.invokevirtual 40, 3) := by decide +kernel
theorem dL_law_333 : decode cL_law 333 = .ok (.if_icmp .eq 632, 3) := by decide +kernel
theorem dL_law_336 : decode cL_law 336 = .ok (.iconst 0, 1) := by decide +kernel
theorem dL_law_337 : decode cL_law 337 = .ok (.ireturn, 1) := by decide +kernel
theorem dL_law_338 : decode cL_law 338 = .ok (.aload_n 1, 1) := by decide +kernel
theorem dL_law_339 : decode cL_law 339 = .ok (.aload_n 0, 1) := by decide +kernel
theorem dL_law_340 : decode cL_law 340 = .ok (.iload_n 3, 1) := by decide +kernel
theorem dL_law_341 : decode cL_law 341 = .ok (.iconst 1, 1) := by decide +kernel
theorem dL_law_342 : decode cL_law 342 = .ok (.iadd, 1) := by decide +kernel
theorem dL_law_343 : decode cL_law 343 = .ok (.iaload, 1) := by decide +kernel
theorem dL_law_344 : decode cL_law 344 = .ok (.invokevirtual 41, 3) := by decide +kernel
theorem dL_law_347 : decode cL_law 347 = .ok (.aload_n 2, 1) := by decide +kernel
theorem dL_law_348 : decode cL_law 348 = .ok (.aload_n 0, 1) := by decide +kernel
theorem dL_law_349 : decode cL_law 349 = .ok (.iload_n 3, 1) := by decide +kernel
theorem dL_law_350 : decode cL_law 350 = .ok (.iconst 1, 1) := by decide +kernel
theorem dL_law_351 : decode cL_law 351 = .ok (.iadd, 1) := by decide +kernel
theorem dL_law_352 : decode cL_law 352 = .ok (.iaload, 1) := by decide +kernel
theorem dL_law_353 : decode cL_law 353 = .ok (.invokevirtual 44, 3) := by decide +kernel
theorem dL_law_356 : decode cL_law 356 = .ok (.if_icmp .eq 609, 3) := by decide +kernel
theorem dL_law_359 : decode cL_law 359 = .ok (.iconst 0, 1) := by decide +kernel
theorem dL_law_360 : decode cL_law 360 = .ok (.ireturn, 1) := by decide +kernel
theorem dL_law_361 : decode cL_law 361 = .ok (.aload_n 1, 1) := by decide +kernel
theorem dL_law_362 : decode cL_law 362 = .ok (.aload_n 0, 1) := by decide +kernel
theorem dL_law_363 : decode cL_law 363 = .ok (.iload_n 3, 1) := by decide +kernel
theorem dL_law_364 : decode cL_law 364 = .ok (.iconst 1, 1) := by decide +kernel
theorem dL_law_365 : decode cL_law 365 = .ok (.iadd, 1) := by decide +kernel
theorem dL_law_366 : decode cL_law 366 = .ok (.iaload, 1) := by decide +kernel
theorem dL_law_367 : decode cL_law 367 = .ok (.invokevirtual 45, 3) := by decide +kernel
theorem dL_law_370 : decode cL_law 370 = .ok (.aload_n 2, 1) := by decide +kernel
theorem dL_law_371 : decode cL_law 371 = .ok (.aload_n 0, 1) := by decide +kernel
theorem dL_law_372 : decode cL_law 372 = .ok (.iload_n 3, 1) := by decide +kernel
theorem dL_law_373 : decode cL_law 373 = .ok (.iconst 1, 1) := by decide +kernel
theorem dL_law_374 : decode cL_law 374 = .ok (.iadd, 1) := by decide +kernel
theorem dL_law_375 : decode cL_law 375 = .ok (.iaload, 1) := by decide +kernel
theorem dL_law_376 : decode cL_law 376 = .ok (.invokevirtual 48, 3) := by decide +kernel
theorem dL_law_379 : decode cL_law 379 = .ok (.if_icmp .eq 586, 3) := by decide +kernel
theorem dL_law_382 : decode cL_law 382 = .ok (.iconst 0, 1) := by decide +kernel
theorem dL_law_383 : decode cL_law 383 = .ok (.ireturn, 1) := by decide +kernel
theorem dL_law_384 : decode cL_law 384 = .ok (.aload_n 1, 1) := by decide +kernel
theorem dL_law_385 : decode cL_law 385 = .ok (.invokevirtual 49, 3) := by decide +kernel
theorem dL_law_388 : decode cL_law 388 = .ok (.aload_n 2, 1) := by decide +kernel
theorem dL_law_389 : decode cL_law 389 = .ok (.invokevirtual 52, 3) := by decide +kernel
theorem dL_law_392 : decode cL_law 392 = .ok (.if_icmp .eq 573, 3) := by decide +kernel
theorem dL_law_395 : decode cL_law 395 = .ok (.iconst 0, 1) := by decide +kernel
theorem dL_law_396 : decode cL_law 396 = .ok (.ireturn, 1) := by decide +kernel
theorem dL_law_397 : decode cL_law 397 = .ok (.aload_n 1, 1) := by decide +kernel
theorem dL_law_398 : decode cL_law 398 = .ok (.aload_n 0, 1) := by decide +kernel
theorem dL_law_399 : decode cL_law 399 = .ok (.iload_n 3, 1) := by decide +kernel
theorem dL_law_400 : decode cL_law 400 = .ok (.iconst 1, 1) := by decide +kernel
theorem dL_law_401 : decode cL_law 401 = .ok (.iadd, 1) := by decide +kernel
theorem dL_law_402 : decode cL_law 402 = .ok (.iaload, 1) := by decide +kernel
theorem dL_law_403 : decode cL_law 403 = .ok (.invokevirtual 53, 3) := by decide +kernel
theorem dL_law_406 : decode cL_law 406 = .ok (.aload_n 2, 1) := by decide +kernel
theorem dL_law_407 : decode cL_law 407 = .ok (.aload_n 0, 1) := by decide +kernel
theorem dL_law_408 : decode cL_law 408 = .ok (.iload_n 3, 1) := by decide +kernel
theorem dL_law_409 : decode cL_law 409 = .ok (.iconst 1, 1) := by decide +kernel
theorem dL_law_410 : decode cL_law 410 = .ok (.iadd, 1) := by decide +kernel
theorem dL_law_411 : decode cL_law 411 = .ok (.iaload, 1) := by decide +kernel
theorem dL_law_412 : decode cL_law 412 = .ok (.invokevirtual 56, 3) := by decide +kernel
theorem dL_law_415 : decode cL_law 415 = .ok (.if_icmp .eq 550, 3) := by decide +kernel
theorem dL_law_418 : decode cL_law 418 = .ok (.iconst 0, 1) := by decide +kernel
theorem dL_law_419 : decode cL_law 419 = .ok (.ireturn, 1) := by decide +kernel
theorem dL_law_420 : decode cL_law 420 = .ok (.aload_n 1, 1) := by decide +kernel
theorem dL_law_421 : decode cL_law 421 = .ok (.invokevirtual 57, 3) := by decide +kernel
theorem dL_law_424 : decode cL_law 424 = .ok (.aload_n 2, 1) := by decide +kernel
theorem dL_law_425 : decode cL_law 425 = .ok (.invokevirtual 60, 3) := by decide +kernel
theorem dL_law_428 : decode cL_law 428 = .ok (.if_icmp .eq 537, 3) := by decide +kernel
theorem dL_law_431 : decode cL_law 431 = .ok (.iconst 0, 1) := by decide +kernel
theorem dL_law_432 : decode cL_law 432 = .ok (.ireturn, 1) := by decide +kernel
theorem dL_law_433 : decode cL_law 433 = .ok (.aload_n 1, 1) := by decide +kernel
theorem dL_law_434 : decode cL_law 434 = .ok (.aload_n 0, 1) := by decide +kernel
theorem dL_law_435 : decode cL_law 435 = .ok (.iload_n 3, 1) := by decide +kernel
theorem dL_law_436 : decode cL_law 436 = .ok (.iconst 1, 1) := by decide +kernel
theorem dL_law_437 : decode cL_law 437 = .ok (.iadd, 1) := by decide +kernel
theorem dL_law_438 : decode cL_law 438 = .ok (.iaload, 1) := by decide +kernel
theorem dL_law_439 : decode cL_law 439 = .ok (.aload_n 0, 1) := by decide +kernel
theorem dL_law_440 : decode cL_law 440 = .ok (.iload_n 3, 1) := by decide +kernel
theorem dL_law_441 : decode cL_law 441 = .ok (.iconst 2, 1) := by decide +kernel
theorem dL_law_442 : decode cL_law 442 = .ok (.iadd, 1) := by decide +kernel
theorem dL_law_443 : decode cL_law 443 = .ok (.iaload, 1) := by decide +kernel
theorem dL_law_444 : decode cL_law 444 = .ok (.invokevirtual 61, 3) := by decide +kernel
theorem dL_law_447 : decode cL_law 447 = .ok (.aload_n 2, 1) := by decide +kernel
theorem dL_law_448 : decode cL_law 448 = .ok (.aload_n 0, 1) := by decide +kernel
theorem dL_law_449 : decode cL_law 449 = .ok (.iload_n 3, 1) := by decide +kernel
theorem dL_law_450 : decode cL_law 450 = .ok (.iconst 1, 1) := by decide +kernel
theorem dL_law_451 : decode cL_law 451 = .ok (.iadd, 1) := by decide +kernel
theorem dL_law_452 : decode cL_law 452 = .ok (.iaload, 1) := by decide +kernel
theorem dL_law_453 : decode cL_law 453 = .ok (.aload_n 0, 1) := by decide +kernel
theorem dL_law_454 : decode cL_law 454 = .ok (.iload_n 3, 1) := by decide +kernel
theorem dL_law_455 : decode cL_law 455 = .ok (.iconst 2, 1) := by decide +kernel
theorem dL_law_456 : decode cL_law 456 = .ok (.iadd, 1) := by decide +kernel
theorem dL_law_457 : decode cL_law 457 = .ok (.iaload, 1) := by decide +kernel
theorem dL_law_458 : decode cL_law 458 = .ok (.invokevirtual 64, 3) := by decide +kernel
theorem dL_law_461 : decode cL_law 461 = .ok (.if_icmp .eq 504, 3) := by decide +kernel
theorem dL_law_464 : decode cL_law 464 = .ok (.iconst 0, 1) := by decide +kernel
theorem dL_law_465 : decode cL_law 465 = .ok (.ireturn, 1) := by decide +kernel
theorem dL_law_466 : decode cL_law 466 = .ok (.aload_n 1, 1) := by decide +kernel
theorem dL_law_467 : decode cL_law 467 = .ok (.aload_n 0, 1) := by decide +kernel
theorem dL_law_468 : decode cL_law 468 = .ok (.iload_n 3, 1) := by decide +kernel
theorem dL_law_469 : decode cL_law 469 = .ok (.iconst 1, 1) := by decide +kernel
theorem dL_law_470 : decode cL_law 470 = .ok (.iadd, 1) := by decide +kernel
theorem dL_law_471 : decode cL_law 471 = .ok (.iaload, 1) := by decide +kernel
theorem dL_law_472 : decode cL_law 472 = .ok (.invokevirtual 65, 3) := by decide +kernel
theorem dL_law_475 : decode cL_law 475 = .ok (.aload_n 2, 1) := by decide +kernel
theorem dL_law_476 : decode cL_law 476 = .ok (.aload_n 0, 1) := by decide +kernel
theorem dL_law_477 : decode cL_law 477 = .ok (.iload_n 3, 1) := by decide +kernel
theorem dL_law_478 : decode cL_law 478 = .ok (.iconst 1, 1) := by decide +kernel
theorem dL_law_479 : decode cL_law 479 = .ok (.iadd, 1) := by decide +kernel
theorem dL_law_480 : decode cL_law 480 = .ok (.iaload, 1) := by decide +kernel
theorem dL_law_481 : decode cL_law 481 = .ok (.invokevirtual 68, 3) := by decide +kernel
theorem dL_law_484 : decode cL_law 484 = .ok (.if_icmp .eq 481, 3) := by decide +kernel
theorem dL_law_487 : decode cL_law 487 = .ok (.iconst 0, 1) := by decide +kernel
theorem dL_law_488 : decode cL_law 488 = .ok (.ireturn, 1) := by decide +kernel
theorem dL_law_489 : decode cL_law 489 = .ok (.aload_n 1, 1) := by decide +kernel
theorem dL_law_490 : decode cL_law 490 = .ok (.aload_n 0, 1) := by decide +kernel
theorem dL_law_491 : decode cL_law 491 = .ok (.iload_n 3, 1) := by decide +kernel
theorem dL_law_492 : decode cL_law 492 = .ok (.iconst 1, 1) := by decide +kernel
theorem dL_law_493 : decode cL_law 493 = .ok (.iadd, 1) := by decide +kernel
theorem dL_law_494 : decode cL_law 494 = .ok (.iaload, 1) := by decide +kernel
theorem dL_law_495 : decode cL_law 495 = .ok (.invokevirtual 69, 3) := by decide +kernel
theorem dL_law_498 : decode cL_law 498 = .ok (.aload_n 2, 1) := by decide +kernel
theorem dL_law_499 : decode cL_law 499 = .ok (.aload_n 0, 1) := by decide +kernel
theorem dL_law_500 : decode cL_law 500 = .ok (.iload_n 3, 1) := by decide +kernel
theorem dL_law_501 : decode cL_law 501 = .ok (.iconst 1, 1) := by decide +kernel
theorem dL_law_502 : decode cL_law 502 = .ok (.iadd, 1) := by decide +kernel
theorem dL_law_503 : decode cL_law 503 = .ok (.iaload, 1) := by decide +kernel
theorem dL_law_504 : decode cL_law 504 = .ok (.invokevirtual 72, 3) := by decide +kernel
theorem dL_law_507 : decode cL_law 507 = .ok (.if_icmp .eq 458, 3) := by decide +kernel
theorem dL_law_510 : decode cL_law 510 = .ok (.iconst 0, 1) := by decide +kernel
theorem dL_law_511 : decode cL_law 511 = .ok (.ireturn, 1) := by decide +kernel
theorem dL_law_512 : decode cL_law 512 = .ok (.aload_n 1, 1) := by decide +kernel
theorem dL_law_513 : decode cL_law 513 = .ok (.aload_n 0, 1) := by decide +kernel
theorem dL_law_514 : decode cL_law 514 = .ok (.iload_n 3, 1) := by decide +kernel
theorem dL_law_515 : decode cL_law 515 = .ok (.iconst 1, 1) := by decide +kernel
theorem dL_law_516 : decode cL_law 516 = .ok (.iadd, 1) := by decide +kernel
theorem dL_law_517 : decode cL_law 517 = .ok (.iaload, 1) := by decide +kernel
theorem dL_law_518 : decode cL_law 518 = .ok (.aload_n 0, 1) := by decide +kernel
theorem dL_law_519 : decode cL_law 519 = .ok (.iload_n 3, 1) := by decide +kernel
theorem dL_law_520 : decode cL_law 520 = .ok (.iconst 2, 1) := by decide +kernel
theorem dL_law_521 : decode cL_law 521 = .ok (.iadd, 1) := by decide +kernel
theorem dL_law_522 : decode cL_law 522 = .ok (.iaload, 1) := by decide +kernel
theorem dL_law_523 : decode cL_law 523 = .ok (.invokevirtual 73, 3) := by decide +kernel
theorem dL_law_526 : decode cL_law 526 = .ok (.aload_n 2, 1) := by decide +kernel
theorem dL_law_527 : decode cL_law 527 = .ok (.aload_n 0, 1) := by decide +kernel
theorem dL_law_528 : decode cL_law 528 = .ok (.iload_n 3, 1) := by decide +kernel
theorem dL_law_529 : decode cL_law 529 = .ok (.iconst 1, 1) := by decide +kernel
theorem dL_law_530 : decode cL_law 530 = .ok (.iadd, 1) := by decide +kernel
theorem dL_law_531 : decode cL_law 531 = .ok (.iaload, 1) := by decide +kernel
theorem dL_law_532 : decode cL_law 532 = .ok (.aload_n 0, 1) := by decide +kernel
theorem dL_law_533 : decode cL_law 533 = .ok (.iload_n 3, 1) := by decide +kernel
theorem dL_law_534 : decode cL_law 534 = .ok (.iconst 2, 1) := by decide +kernel
theorem dL_law_535 : decode cL_law 535 = .ok (.iadd, 1) := by decide +kernel
theorem dL_law_536 : decode cL_law 536 = .ok (.iaload, 1) := by decide +kernel
theorem dL_law_537 : decode cL_law 537 = .ok (.invokevirtual 76, 3) := by decide +kernel
theorem dL_law_540 : decode cL_law 540 = .ok (.if_icmp .eq 425, 3) := by decide +kernel
theorem dL_law_543 : decode cL_law 543 = .ok (.iconst 0, 1) := by decide +kernel
theorem dL_law_544 : decode cL_law 544 = .ok (.ireturn, 1) := by decide +kernel
theorem dL_law_545 : decode cL_law 545 = .ok (.aload_n 1, 1) := by decide +kernel
theorem dL_law_546 : decode cL_law 546 = .ok (.invokevirtual 77, 3) := by decide +kernel
theorem dL_law_549 : decode cL_law 549 = .ok (.aload_n 2, 1) := by decide +kernel
theorem dL_law_550 : decode cL_law 550 = .ok (.invokevirtual 80, 3) := by decide +kernel
theorem dL_law_553 : decode cL_law 553 = .ok (.if_icmp .eq 412, 3) := by decide +kernel
theorem dL_law_556 : decode cL_law 556 = .ok (.iconst 0, 1) := by decide +kernel
theorem dL_law_557 : decode cL_law 557 = .ok (.ireturn, 1) := by decide +kernel
theorem dL_law_558 : decode cL_law 558 = .ok (.aload_n 1, 1) := by decide +kernel
theorem dL_law_559 : decode cL_law 559 = .ok (.aload_n 0, 1) := by decide +kernel
theorem dL_law_560 : decode cL_law 560 = .ok (.iload_n 3, 1) := by decide +kernel
theorem dL_law_561 : decode cL_law 561 = .ok (.iconst 1, 1) := by decide +kernel
theorem dL_law_562 : decode cL_law 562 = .ok (.iadd, 1) := by decide +kernel
theorem dL_law_563 : decode cL_law 563 = .ok (.iaload, 1) := by decide +kernel
theorem dL_law_564 : decode cL_law 564 = .ok (.invokevirtual 81, 3) := by decide +kernel
theorem dL_law_567 : decode cL_law 567 = .ok (.aload_n 2, 1) := by decide +kernel
theorem dL_law_568 : decode cL_law 568 = .ok (.aload_n 0, 1) := by decide +kernel
theorem dL_law_569 : decode cL_law 569 = .ok (.iload_n 3, 1) := by decide +kernel
theorem dL_law_570 : decode cL_law 570 = .ok (.iconst 1, 1) := by decide +kernel
theorem dL_law_571 : decode cL_law 571 = .ok (.iadd, 1) := by decide +kernel
theorem dL_law_572 : decode cL_law 572 = .ok (.iaload, 1) := by decide +kernel
theorem dL_law_573 : decode cL_law 573 = .ok (.invokevirtual 84, 3) := by decide +kernel
theorem dL_law_576 : decode cL_law 576 = .ok (.if_icmp .eq 389, 3) := by decide +kernel
theorem dL_law_579 : decode cL_law 579 = .ok (.iconst 0, 1) := by decide +kernel
theorem dL_law_580 : decode cL_law 580 = .ok (.ireturn, 1) := by decide +kernel
theorem dL_law_581 : decode cL_law 581 = .ok (.aload_n 1, 1) := by decide +kernel
theorem dL_law_582 : decode cL_law 582 = .ok (.aload_n 0, 1) := by decide +kernel
theorem dL_law_583 : decode cL_law 583 = .ok (.iload_n 3, 1) := by decide +kernel
theorem dL_law_584 : decode cL_law 584 = .ok (.iconst 1, 1) := by decide +kernel
theorem dL_law_585 : decode cL_law 585 = .ok (.iadd, 1) := by decide +kernel
theorem dL_law_586 : decode cL_law 586 = .ok (.iaload, 1) := by decide +kernel
theorem dL_law_587 : decode cL_law 587 = .ok (.aload_n 0, 1) := by decide +kernel
theorem dL_law_588 : decode cL_law 588 = .ok (.iload_n 3, 1) := by decide +kernel
theorem dL_law_589 : decode cL_law 589 = .ok (.iconst 2, 1) := by decide +kernel
theorem dL_law_590 : decode cL_law 590 = .ok (.iadd, 1) := by decide +kernel
theorem dL_law_591 : decode cL_law 591 = .ok (.iaload, 1) := by decide +kernel
theorem dL_law_592 : decode cL_law 592 = .ok (.invokevirtual 85, 3) := by decide +kernel
theorem dL_law_595 : decode cL_law 595 = .ok (.aload_n 2, 1) := by decide +kernel
theorem dL_law_596 : decode cL_law 596 = .ok (.aload_n 0, 1) := by decide +kernel
theorem dL_law_597 : decode cL_law 597 = .ok (.iload_n 3, 1) := by decide +kernel
theorem dL_law_598 : decode cL_law 598 = .ok (.iconst 1, 1) := by decide +kernel
theorem dL_law_599 : decode cL_law 599 = .ok (.iadd, 1) := by decide +kernel
theorem dL_law_600 : decode cL_law 600 = .ok (.iaload, 1) := by decide +kernel
theorem dL_law_601 : decode cL_law 601 = .ok (.aload_n 0, 1) := by decide +kernel
theorem dL_law_602 : decode cL_law 602 = .ok (.iload_n 3, 1) := by decide +kernel
theorem dL_law_603 : decode cL_law 603 = .ok (.iconst 2, 1) := by decide +kernel
theorem dL_law_604 : decode cL_law 604 = .ok (.iadd, 1) := by decide +kernel
theorem dL_law_605 : decode cL_law 605 = .ok (.iaload, 1) := by decide +kernel
theorem dL_law_606 : decode cL_law 606 = .ok (.invokevirtual 88, 3) := by decide +kernel
theorem dL_law_609 : decode cL_law 609 = .ok (.if_icmp .eq 356, 3) := by decide +kernel
theorem dL_law_612 : decode cL_law 612 = .ok (.iconst 0, 1) := by decide +kernel
theorem dL_law_613 : decode cL_law 613 = .ok (.ireturn, 1) := by decide +kernel
theorem dL_law_614 : decode cL_law 614 = .ok (.aload_n 1, 1) := by decide +kernel
theorem dL_law_615 : decode cL_law 615 = .ok (.aload_n 0, 1) := by decide +kernel
theorem dL_law_616 : decode cL_law 616 = .ok (.iload_n 3, 1) := by decide +kernel
theorem dL_law_617 : decode cL_law 617 = .ok (.iconst 1, 1) := by decide +kernel
theorem dL_law_618 : decode cL_law 618 = .ok (.iadd, 1) := by decide +kernel
theorem dL_law_619 : decode cL_law 619 = .ok (.iaload, 1) := by decide +kernel
theorem dL_law_620 : decode cL_law 620 = .ok (.invokevirtual 89, 3) := by decide +kernel
theorem dL_law_623 : decode cL_law 623 = .ok (.aload_n 2, 1) := by decide +kernel
theorem dL_law_624 : decode cL_law 624 = .ok (.aload_n 0, 1) := by decide +kernel
theorem dL_law_625 : decode cL_law 625 = .ok (.iload_n 3, 1) := by decide +kernel
theorem dL_law_626 : decode cL_law 626 = .ok (.iconst 1, 1) := by decide +kernel
theorem dL_law_627 : decode cL_law 627 = .ok (.iadd, 1) := by decide +kernel
theorem dL_law_628 : decode cL_law 628 = .ok (.iaload, 1) := by decide +kernel
theorem dL_law_629 : decode cL_law 629 = .ok (.invokevirtual 92, 3) := by decide +kernel
theorem dL_law_632 : decode cL_law 632 = .ok (.if_icmp .eq 333, 3) := by decide +kernel
theorem dL_law_635 : decode cL_law 635 = .ok (.iconst 0, 1) := by decide +kernel
theorem dL_law_636 : decode cL_law 636 = .ok (.ireturn, 1) := by decide +kernel
theorem dL_law_637 : decode cL_law 637 = .ok (.aload_n 1, 1) := by decide +kernel
theorem dL_law_638 : decode cL_law 638 = .ok (.aload_n 0, 1) := by decide +kernel
theorem dL_law_639 : decode cL_law 639 = .ok (.iload_n 3, 1) := by decide +kernel
theorem dL_law_640 : decode cL_law 640 = .ok (.iconst 1, 1) := by decide +kernel
theorem dL_law_641 : decode cL_law 641 = .ok (.iadd, 1) := by decide +kernel
theorem dL_law_642 : decode cL_law 642 = .ok (.iaload, 1) := by decide +kernel
theorem dL_law_643 : decode cL_law 643 = .ok (.aload_n 0, 1) := by decide +kernel
theorem dL_law_644 : decode cL_law 644 = .ok (.iload_n 3, 1) := by decide +kernel
theorem dL_law_645 : decode cL_law 645 = .ok (.iconst 2, 1) := by decide +kernel
theorem dL_law_646 : decode cL_law 646 = .ok (.iadd, 1) := by decide +kernel
theorem dL_law_647 : decode cL_law 647 = .ok (.iaload, 1) := by decide +kernel
theorem dL_law_648 : decode cL_law 648 = .ok (.aload_n 0, 1) := by decide +kernel
theorem dL_law_649 : decode cL_law 649 = .ok (.iload_n 3, 1) := by decide +kernel
theorem dL_law_650 : decode cL_law 650 = .ok (.iconst 3, 1) := by decide +kernel
theorem dL_law_651 : decode cL_law 651 = .ok (.iadd, 1) := by decide +kernel
theorem dL_law_652 : decode cL_law 652 = .ok (.iaload, 1) := by decide +kernel
theorem dL_law_653 : decode cL_law 653 = .ok (.invokevirtual 93, 3) := by decide +kernel
theorem dL_law_656 : decode cL_law 656 = .ok (.aload_n 2, 1) := by decide +kernel
theorem dL_law_657 : decode cL_law 657 = .ok (.aload_n 0, 1) := by decide +kernel
theorem dL_law_658 : decode cL_law 658 = .ok (.iload_n 3, 1) := by decide +kernel
theorem dL_law_659 : decode cL_law 659 = .ok (.iconst 1, 1) := by decide +kernel
theorem dL_law_660 : decode cL_law 660 = .ok (.iadd, 1) := by decide +kernel
theorem dL_law_661 : decode cL_law 661 = .ok (.iaload, 1) := by decide +kernel
theorem dL_law_662 : decode cL_law 662 = .ok (.aload_n 0, 1) := by decide +kernel
theorem dL_law_663 : decode cL_law 663 = .ok (.iload_n 3, 1) := by decide +kernel
theorem dL_law_664 : decode cL_law 664 = .ok (.iconst 2, 1) := by decide +kernel
theorem dL_law_665 : decode cL_law 665 = .ok (.iadd, 1) := by decide +kernel
theorem dL_law_666 : decode cL_law 666 = .ok (.iaload, 1) := by decide +kernel
theorem dL_law_667 : decode cL_law 667 = .ok (.aload_n 0, 1) := by decide +kernel
theorem dL_law_668 : decode cL_law 668 = .ok (.iload_n 3, 1) := by decide +kernel
theorem dL_law_669 : decode cL_law 669 = .ok (.iconst 3, 1) := by decide +kernel
theorem dL_law_670 : decode cL_law 670 = .ok (.iadd, 1) := by decide +kernel
theorem dL_law_671 : decode cL_law 671 = .ok (.iaload, 1) := by decide +kernel
theorem dL_law_672 : decode cL_law 672 = .ok (.invokevirtual 97, 3) := by decide +kernel
theorem dL_law_675 : decode cL_law 675 = .ok (.lcmp, 1) := by decide +kernel
theorem dL_law_676 : decode cL_law 676 = .ok (.ifCond .eq 289, 3) := by decide +kernel
theorem dL_law_679 : decode cL_law 679 = .ok (.iconst 0, 1) := by decide +kernel
theorem dL_law_680 : decode cL_law 680 = .ok (.ireturn, 1) := by decide +kernel
theorem dL_law_681 : decode cL_law 681 = .ok (.aload_n 1, 1) := by decide +kernel
theorem dL_law_682 : decode cL_law 682 = .ok (.invokevirtual 98, 3) := by decide +kernel
theorem dL_law_685 : decode cL_law 685 = .ok (.aload_n 2, 1) := by decide +kernel
theorem dL_law_686 : decode cL_law 686 = .ok (.invokevirtual 101, 3) := by decide +kernel
theorem dL_law_689 : decode cL_law 689 = .ok (.if_icmp .eq 276, 3) := by decide +kernel
theorem dL_law_692 : decode cL_law 692 = .ok (.iconst 0, 1) := by decide +kernel
theorem dL_law_693 : decode cL_law 693 = .ok (.ireturn, 1) := by decide +kernel
theorem dL_law_694 : decode cL_law 694 = .ok (.aload_n 1, 1) := by decide +kernel
theorem dL_law_695 : decode cL_law 695 = .ok (.invokevirtual 102, 3) := by decide +kernel
theorem dL_law_698 : decode cL_law 698 = .ok (.aload_n 2, 1) := by decide +kernel
theorem dL_law_699 : decode cL_law 699 = .ok (.invokevirtual 105, 3) := by decide +kernel
theorem dL_law_702 : decode cL_law 702 = .ok (.if_icmp .eq 263, 3) := by decide +kernel
theorem dL_law_705 : decode cL_law 705 = .ok (.iconst 0, 1) := by decide +kernel
theorem dL_law_706 : decode cL_law 706 = .ok (.ireturn, 1) := by decide +kernel
theorem dL_law_707 : decode cL_law 707 = .ok (.aload_n 1, 1) := by decide +kernel
theorem dL_law_708 : decode cL_law 708 = .ok (.aload_n 0, 1) := by decide +kernel
theorem dL_law_709 : decode cL_law 709 = .ok (.iload_n 3, 1) := by decide +kernel
theorem dL_law_710 : decode cL_law 710 = .ok (.iconst 1, 1) := by decide +kernel
theorem dL_law_711 : decode cL_law 711 = .ok (.iadd, 1) := by decide +kernel
theorem dL_law_712 : decode cL_law 712 = .ok (.iaload, 1) := by decide +kernel
theorem dL_law_713 : decode cL_law 713 = .ok (.invokevirtual 106, 3) := by decide +kernel
theorem dL_law_716 : decode cL_law 716 = .ok (.aload_n 2, 1) := by decide +kernel
theorem dL_law_717 : decode cL_law 717 = .ok (.aload_n 0, 1) := by decide +kernel
theorem dL_law_718 : decode cL_law 718 = .ok (.iload_n 3, 1) := by decide +kernel
theorem dL_law_719 : decode cL_law 719 = .ok (.iconst 1, 1) := by decide +kernel
theorem dL_law_720 : decode cL_law 720 = .ok (.iadd, 1) := by decide +kernel
theorem dL_law_721 : decode cL_law 721 = .ok (.iaload, 1) := by decide +kernel
theorem dL_law_722 : decode cL_law 722 = .ok (.invokevirtual 109, 3) := by decide +kernel
theorem dL_law_725 : decode cL_law 725 = .ok (.if_icmp .eq 240, 3) := by decide +kernel
theorem dL_law_728 : decode cL_law 728 = .ok (.iconst 0, 1) := by decide +kernel
theorem dL_law_729 : decode cL_law 729 = .ok (.ireturn, 1) := by decide +kernel
theorem dL_law_730 : decode cL_law 730 = .ok (.aload_n 1, 1) := by decide +kernel
theorem dL_law_731 : decode cL_law 731 = .ok (.aload_n 0, 1) := by decide +kernel
theorem dL_law_732 : decode cL_law 732 = .ok (.iload_n 3, 1) := by decide +kernel
theorem dL_law_733 : decode cL_law 733 = .ok (.iconst 1, 1) := by decide +kernel
theorem dL_law_734 : decode cL_law 734 = .ok (.iadd, 1) := by decide +kernel
theorem dL_law_735 : decode cL_law 735 = .ok (.iaload, 1) := by decide +kernel
theorem dL_law_736 : decode cL_law 736 = .ok (.aload_n 0, 1) := by decide +kernel
theorem dL_law_737 : decode cL_law 737 = .ok (.iload_n 3, 1) := by decide +kernel
theorem dL_law_738 : decode cL_law 738 = .ok (.iconst 2, 1) := by decide +kernel
theorem dL_law_739 : decode cL_law 739 = .ok (.iadd, 1) := by decide +kernel
theorem dL_law_740 : decode cL_law 740 = .ok (.iaload, 1) := by decide +kernel
theorem dL_law_741 : decode cL_law 741 = .ok (.aload_n 0, 1) := by decide +kernel
theorem dL_law_742 : decode cL_law 742 = .ok (.iload_n 3, 1) := by decide +kernel
theorem dL_law_743 : decode cL_law 743 = .ok (.iconst 3, 1) := by decide +kernel
theorem dL_law_744 : decode cL_law 744 = .ok (.iadd, 1) := by decide +kernel
theorem dL_law_745 : decode cL_law 745 = .ok (.iaload, 1) := by decide +kernel
theorem dL_law_746 : decode cL_law 746 = .ok (.invokevirtual 110, 3) := by decide +kernel
theorem dL_law_749 : decode cL_law 749 = .ok (.aload_n 2, 1) := by decide +kernel
theorem dL_law_750 : decode cL_law 750 = .ok (.aload_n 0, 1) := by decide +kernel
theorem dL_law_751 : decode cL_law 751 = .ok (.iload_n 3, 1) := by decide +kernel
theorem dL_law_752 : decode cL_law 752 = .ok (.iconst 1, 1) := by decide +kernel
theorem dL_law_753 : decode cL_law 753 = .ok (.iadd, 1) := by decide +kernel
theorem dL_law_754 : decode cL_law 754 = .ok (.iaload, 1) := by decide +kernel
theorem dL_law_755 : decode cL_law 755 = .ok (.aload_n 0, 1) := by decide +kernel
theorem dL_law_756 : decode cL_law 756 = .ok (.iload_n 3, 1) := by decide +kernel
theorem dL_law_757 : decode cL_law 757 = .ok (.iconst 2, 1) := by decide +kernel
theorem dL_law_758 : decode cL_law 758 = .ok (.iadd, 1) := by decide +kernel
theorem dL_law_759 : decode cL_law 759 = .ok (.iaload, 1) := by decide +kernel
theorem dL_law_760 : decode cL_law 760 = .ok (.aload_n 0, 1) := by decide +kernel
theorem dL_law_761 : decode cL_law 761 = .ok (.iload_n 3, 1) := by decide +kernel
theorem dL_law_762 : decode cL_law 762 = .ok (.iconst 3, 1) := by decide +kernel
theorem dL_law_763 : decode cL_law 763 = .ok (.iadd, 1) := by decide +kernel
theorem dL_law_764 : decode cL_law 764 = .ok (.iaload, 1) := by decide +kernel
theorem dL_law_765 : decode cL_law 765 = .ok (.invokevirtual 113, 3) := by decide +kernel
theorem dL_law_768 : decode cL_law 768 = .ok (.if_icmp .eq 197, 3) := by decide +kernel
theorem dL_law_771 : decode cL_law 771 = .ok (.iconst 0, 1) := by decide +kernel
theorem dL_law_772 : decode cL_law 772 = .ok (.ireturn, 1) := by decide +kernel
theorem dL_law_773 : decode cL_law 773 = .ok (.aload_n 1, 1) := by decide +kernel
theorem dL_law_774 : decode cL_law 774 = .ok (.aload_n 0, 1) := by decide +kernel
theorem dL_law_775 : decode cL_law 775 = .ok (.iload_n 3, 1) := by decide +kernel
theorem dL_law_776 : decode cL_law 776 = .ok (.iconst 1, 1) := by decide +kernel
theorem dL_law_777 : decode cL_law 777 = .ok (.iadd, 1) := by decide +kernel
theorem dL_law_778 : decode cL_law 778 = .ok (.iaload, 1) := by decide +kernel
theorem dL_law_779 : decode cL_law 779 = .ok (.aload_n 0, 1) := by decide +kernel
theorem dL_law_780 : decode cL_law 780 = .ok (.iload_n 3, 1) := by decide +kernel
theorem dL_law_781 : decode cL_law 781 = .ok (.iconst 2, 1) := by decide +kernel
theorem dL_law_782 : decode cL_law 782 = .ok (.iadd, 1) := by decide +kernel
theorem dL_law_783 : decode cL_law 783 = .ok (.iaload, 1) := by decide +kernel
theorem dL_law_784 : decode cL_law 784 = .ok (.aload_n 0, 1) := by decide +kernel
theorem dL_law_785 : decode cL_law 785 = .ok (.iload_n 3, 1) := by decide +kernel
theorem dL_law_786 : decode cL_law 786 = .ok (.iconst 3, 1) := by decide +kernel
theorem dL_law_787 : decode cL_law 787 = .ok (.iadd, 1) := by decide +kernel
theorem dL_law_788 : decode cL_law 788 = .ok (.iaload, 1) := by decide +kernel
theorem dL_law_789 : decode cL_law 789 = .ok (.invokevirtual 114, 3) := by decide +kernel
theorem dL_law_792 : decode cL_law 792 = .ok (.aload_n 2, 1) := by decide +kernel
theorem dL_law_793 : decode cL_law 793 = .ok (.aload_n 0, 1) := by decide +kernel
theorem dL_law_794 : decode cL_law 794 = .ok (.iload_n 3, 1) := by decide +kernel
theorem dL_law_795 : decode cL_law 795 = .ok (.iconst 1, 1) := by decide +kernel
theorem dL_law_796 : decode cL_law 796 = .ok (.iadd, 1) := by decide +kernel
theorem dL_law_797 : decode cL_law 797 = .ok (.iaload, 1) := by decide +kernel
theorem dL_law_798 : decode cL_law 798 = .ok (.aload_n 0, 1) := by decide +kernel
theorem dL_law_799 : decode cL_law 799 = .ok (.iload_n 3, 1) := by decide +kernel
theorem dL_law_800 : decode cL_law 800 = .ok (.iconst 2, 1) := by decide +kernel
theorem dL_law_801 : decode cL_law 801 = .ok (.iadd, 1) := by decide +kernel
theorem dL_law_802 : decode cL_law 802 = .ok (.iaload, 1) := by decide +kernel
theorem dL_law_803 : decode cL_law 803 = .ok (.aload_n 0, 1) := by decide +kernel
theorem dL_law_804 : decode cL_law 804 = .ok (.iload_n 3, 1) := by decide +kernel
theorem dL_law_805 : decode cL_law 805 = .ok (.iconst 3, 1) := by decide +kernel
theorem dL_law_806 : decode cL_law 806 = .ok (.iadd, 1) := by decide +kernel
theorem dL_law_807 : decode cL_law 807 = .ok (.iaload, 1) := by decide +kernel
theorem dL_law_808 : decode cL_law 808 = .ok (.invokevirtual 117, 3) := by decide +kernel
theorem dL_law_811 : decode cL_law 811 = .ok (.if_icmp .eq 154, 3) := by decide +kernel
theorem dL_law_814 : decode cL_law 814 = .ok (.iconst 0, 1) := by decide +kernel
theorem dL_law_815 : decode cL_law 815 = .ok (.ireturn, 1) := by decide +kernel
theorem dL_law_816 : decode cL_law 816 = .ok (.aload_n 1, 1) := by decide +kernel
theorem dL_law_817 : decode cL_law 817 = .ok (.aload_n 0, 1) := by decide +kernel
theorem dL_law_818 : decode cL_law 818 = .ok (.iload_n 3, 1) := by decide +kernel
theorem dL_law_819 : decode cL_law 819 = .ok (.iconst 1, 1) := by decide +kernel
theorem dL_law_820 : decode cL_law 820 = .ok (.iadd, 1) := by decide +kernel
theorem dL_law_821 : decode cL_law 821 = .ok (.iaload, 1) := by decide +kernel
theorem dL_law_822 : decode cL_law 822 = .ok (.aload_n 0, 1) := by decide +kernel
theorem dL_law_823 : decode cL_law 823 = .ok (.iload_n 3, 1) := by decide +kernel
theorem dL_law_824 : decode cL_law 824 = .ok (.iconst 2, 1) := by decide +kernel
theorem dL_law_825 : decode cL_law 825 = .ok (.iadd, 1) := by decide +kernel
theorem dL_law_826 : decode cL_law 826 = .ok (.iaload, 1) := by decide +kernel
theorem dL_law_827 : decode cL_law 827 = .ok (.aload_n 0, 1) := by decide +kernel
theorem dL_law_828 : decode cL_law 828 = .ok (.iload_n 3, 1) := by decide +kernel
theorem dL_law_829 : decode cL_law 829 = .ok (.iconst 3, 1) := by decide +kernel
theorem dL_law_830 : decode cL_law 830 = .ok (.iadd, 1) := by decide +kernel
theorem dL_law_831 : decode cL_law 831 = .ok (.iaload, 1) := by decide +kernel
theorem dL_law_832 : decode cL_law 832 = .ok (.aload_n 0, 1) := by decide +kernel
theorem dL_law_833 : decode cL_law 833 = .ok (.iload_n 3, 1) := by decide +kernel
theorem dL_law_834 : decode cL_law 834 = .ok (.iconst 4, 1) := by decide +kernel
theorem dL_law_835 : decode cL_law 835 = .ok (.iadd, 1) := by decide +kernel
theorem dL_law_836 : decode cL_law 836 = .ok (.iaload, 1) := by decide +kernel
theorem dL_law_837 : decode cL_law 837 = .ok (.aload_n 0, 1) := by decide +kernel
theorem dL_law_838 : decode cL_law 838 = .ok (.iload_n 3, 1) := by decide +kernel
theorem dL_law_839 : decode cL_law 839 = .ok (.iconst 5, 1) := by decide +kernel
theorem dL_law_840 : decode cL_law 840 = .ok (.iadd, 1) := by decide +kernel
theorem dL_law_841 : decode cL_law 841 = .ok (.iaload, 1) := by decide +kernel
theorem dL_law_842 : decode cL_law 842 = .ok (.invokevirtual 118, 3) := by decide +kernel
theorem dL_law_845 : decode cL_law 845 = .ok (.aload_n 2, 1) := by decide +kernel
theorem dL_law_846 : decode cL_law 846 = .ok (.aload_n 0, 1) := by decide +kernel
theorem dL_law_847 : decode cL_law 847 = .ok (.iload_n 3, 1) := by decide +kernel
theorem dL_law_848 : decode cL_law 848 = .ok (.iconst 1, 1) := by decide +kernel
theorem dL_law_849 : decode cL_law 849 = .ok (.iadd, 1) := by decide +kernel
theorem dL_law_850 : decode cL_law 850 = .ok (.iaload, 1) := by decide +kernel
theorem dL_law_851 : decode cL_law 851 = .ok (.aload_n 0, 1) := by decide +kernel
theorem dL_law_852 : decode cL_law 852 = .ok (.iload_n 3, 1) := by decide +kernel
theorem dL_law_853 : decode cL_law 853 = .ok (.iconst 2, 1) := by decide +kernel
theorem dL_law_854 : decode cL_law 854 = .ok (.iadd, 1) := by decide +kernel
theorem dL_law_855 : decode cL_law 855 = .ok (.iaload, 1) := by decide +kernel
theorem dL_law_856 : decode cL_law 856 = .ok (.aload_n 0, 1) := by decide +kernel
theorem dL_law_857 : decode cL_law 857 = .ok (.iload_n 3, 1) := by decide +kernel
theorem dL_law_858 : decode cL_law 858 = .ok (.iconst 3, 1) := by decide +kernel
theorem dL_law_859 : decode cL_law 859 = .ok (.iadd, 1) := by decide +kernel
theorem dL_law_860 : decode cL_law 860 = .ok (.iaload, 1) := by decide +kernel
theorem dL_law_861 : decode cL_law 861 = .ok (.aload_n 0, 1) := by decide +kernel
theorem dL_law_862 : decode cL_law 862 = .ok (.iload_n 3, 1) := by decide +kernel
theorem dL_law_863 : decode cL_law 863 = .ok (.iconst 4, 1) := by decide +kernel
theorem dL_law_864 : decode cL_law 864 = .ok (.iadd, 1) := by decide +kernel
theorem dL_law_865 : decode cL_law 865 = .ok (.iaload, 1) := by decide +kernel
theorem dL_law_866 : decode cL_law 866 = .ok (.aload_n 0, 1) := by decide +kernel
theorem dL_law_867 : decode cL_law 867 = .ok (.iload_n 3, 1) := by decide +kernel
theorem dL_law_868 : decode cL_law 868 = .ok (.iconst 5, 1) := by decide +kernel
theorem dL_law_869 : decode cL_law 869 = .ok (.iadd, 1) := by decide +kernel
theorem dL_law_870 : decode cL_law 870 = .ok (.iaload, 1) := by decide +kernel
theorem dL_law_871 : decode cL_law 871 = .ok (.invokevirtual 122, 3) := by decide +kernel
theorem dL_law_874 : decode cL_law 874 = .ok (.if_icmp .eq 91, 3) := by decide +kernel
theorem dL_law_877 : decode cL_law 877 = .ok (.iconst 0, 1) := by decide +kernel
theorem dL_law_878 : decode cL_law 878 = .ok (.ireturn, 1) := by decide +kernel
theorem dL_law_879 : decode cL_law 879 = .ok (.aload_n 1, 1) := by decide +kernel
theorem dL_law_880 : decode cL_law 880 = .ok (.aload_n 0, 1) := by decide +kernel
theorem dL_law_881 : decode cL_law 881 = .ok (.iload_n 3, 1) := by decide +kernel
theorem dL_law_882 : decode cL_law 882 = .ok (.iconst 1, 1) := by decide +kernel
theorem dL_law_883 : decode cL_law 883 = .ok (.iadd, 1) := by decide +kernel
theorem dL_law_884 : decode cL_law 884 = .ok (.iaload, 1) := by decide +kernel
theorem dL_law_885 : decode cL_law 885 = .ok (.aload_n 0, 1) := by decide +kernel
theorem dL_law_886 : decode cL_law 886 = .ok (.iload_n 3, 1) := by decide +kernel
theorem dL_law_887 : decode cL_law 887 = .ok (.iconst 2, 1) := by decide +kernel
theorem dL_law_888 : decode cL_law 888 = .ok (.iadd, 1) := by decide +kernel
theorem dL_law_889 : decode cL_law 889 = .ok (.iaload, 1) := by decide +kernel
theorem dL_law_890 : decode cL_law 890 = .ok (.aload_n 0, 1) := by decide +kernel
theorem dL_law_891 : decode cL_law 891 = .ok (.iload_n 3, 1) := by decide +kernel
theorem dL_law_892 : decode cL_law 892 = .ok (.iconst 3, 1) := by decide +kernel
theorem dL_law_893 : decode cL_law 893 = .ok (.iadd, 1) := by decide +kernel
theorem dL_law_894 : decode cL_law 894 = .ok (.iaload, 1) := by decide +kernel
theorem dL_law_895 : decode cL_law 895 = .ok (.aload_n 0, 1) := by decide +kernel
theorem dL_law_896 : decode cL_law 896 = .ok (.iload_n 3, 1) := by decide +kernel
theorem dL_law_897 : decode cL_law 897 = .ok (.iconst 4, 1) := by decide +kernel
theorem dL_law_898 : decode cL_law 898 = .ok (.iadd, 1) := by decide +kernel
theorem dL_law_899 : decode cL_law 899 = .ok (.iaload, 1) := by decide +kernel
theorem dL_law_900 : decode cL_law 900 = .ok (.invokevirtual 123, 3) := by decide +kernel
theorem dL_law_903 : decode cL_law 903 = .ok (.aload_n 2, 1) := by decide +kernel
theorem dL_law_904 : decode cL_law 904 = .ok (.aload_n 0, 1) := by decide +kernel
theorem dL_law_905 : decode cL_law 905 = .ok (.iload_n 3, 1) := by decide +kernel
theorem dL_law_906 : decode cL_law 906 = .ok (.iconst 1, 1) := by decide +kernel
theorem dL_law_907 : decode cL_law 907 = .ok (.iadd, 1) := by decide +kernel
theorem dL_law_908 : decode cL_law 908 = .ok (.iaload, 1) := by decide +kernel
theorem dL_law_909 : decode cL_law 909 = .ok (.aload_n 0, 1) := by decide +kernel
theorem dL_law_910 : decode cL_law 910 = .ok (.iload_n 3, 1) := by decide +kernel
theorem dL_law_911 : decode cL_law 911 = .ok (.iconst 2, 1) := by decide +kernel
theorem dL_law_912 : decode cL_law 912 = .ok (.iadd, 1) := by decide +kernel
theorem dL_law_913 : decode cL_law 913 = .ok (.iaload, 1) := by decide +kernel
theorem dL_law_914 : decode cL_law 914 = .ok (.aload_n 0, 1) := by decide +kernel
theorem dL_law_915 : decode cL_law 915 = .ok (.iload_n 3, 1) := by decide +kernel
theorem dL_law_916 : decode cL_law 916 = .ok (.iconst 3, 1) := by decide +kernel
theorem dL_law_917 : decode cL_law 917 = .ok (.iadd, 1) := by decide +kernel
theorem dL_law_918 : decode cL_law 918 = .ok (.iaload, 1) := by decide +kernel
theorem dL_law_919 : decode cL_law 919 = .ok (.aload_n 0, 1) := by decide +kernel
theorem dL_law_920 : decode cL_law 920 = .ok (.iload_n 3, 1) := by decide +kernel
theorem dL_law_921 : decode cL_law 921 = .ok (.iconst 4, 1) := by decide +kernel
theorem dL_law_922 : decode cL_law 922 = .ok (.iadd, 1) := by decide +kernel
theorem dL_law_923 : decode cL_law 923 = .ok (.iaload, 1) := by decide +kernel
theorem dL_law_924 : decode cL_law 924 = .ok (.invokevirtual 127, 3) := by decide +kernel
theorem dL_law_927 : decode cL_law 927 = .ok (.if_icmp .eq 38, 3) := by decide +kernel
theorem dL_law_930 : decode cL_law 930 = .ok (.iconst 0, 1) := by decide +kernel
theorem dL_law_931 : decode cL_law 931 = .ok (.ireturn, 1) := by decide +kernel
theorem dL_law_932 : decode cL_law 932 = .ok (.aload_n 1, 1) := by decide +kernel
theorem dL_law_933 : decode cL_law 933 = .ok (.aload_n 0, 1) := by decide +kernel
theorem dL_law_934 : decode cL_law 934 = .ok (.iload_n 3, 1) := by decide +kernel
theorem dL_law_935 : decode cL_law 935 = .ok (.iconst 1, 1) := by decide +kernel
theorem dL_law_936 : decode cL_law 936 = .ok (.iadd, 1) := by decide +kernel
theorem dL_law_937 : decode cL_law 937 = .ok (.iaload, 1) := by decide +kernel
theorem dL_law_938 : decode cL_law 938 = .ok (.aload_n 0, 1) := by decide +kernel
theorem dL_law_939 : decode cL_law 939 = .ok (.iload_n 3, 1) := by decide +kernel
theorem dL_law_940 : decode cL_law 940 = .ok (.iconst 2, 1) := by decide +kernel
theorem dL_law_941 : decode cL_law 941 = .ok (.iadd, 1) := by decide +kernel
theorem dL_law_942 : decode cL_law 942 = .ok (.iaload, 1) := by decide +kernel
theorem dL_law_943 : decode cL_law 943 = .ok (.invokevirtual 128, 3) := by decide +kernel
theorem dL_law_946 : decode cL_law 946 = .ok (.aload_n 2, 1) := by decide +kernel
theorem dL_law_947 : decode cL_law 947 = .ok (.aload_n 0, 1) := by decide +kernel
theorem dL_law_948 : decode cL_law 948 = .ok (.iload_n 3, 1) := by decide +kernel
theorem dL_law_949 : decode cL_law 949 = .ok (.iconst 1, 1) := by decide +kernel
theorem dL_law_950 : decode cL_law 950 = .ok (.iadd, 1) := by decide +kernel
theorem dL_law_951 : decode cL_law 951 = .ok (.iaload, 1) := by decide +kernel
theorem dL_law_952 : decode cL_law 952 = .ok (.aload_n 0, 1) := by decide +kernel
theorem dL_law_953 : decode cL_law 953 = .ok (.iload_n 3, 1) := by decide +kernel
theorem dL_law_954 : decode cL_law 954 = .ok (.iconst 2, 1) := by decide +kernel
theorem dL_law_955 : decode cL_law 955 = .ok (.iadd, 1) := by decide +kernel
theorem dL_law_956 : decode cL_law 956 = .ok (.iaload, 1) := by decide +kernel
theorem dL_law_957 : decode cL_law 957 = .ok (.invokevirtual 131, 3) := by decide +kernel
theorem dL_law_960 : decode cL_law 960 = .ok (.if_icmp .eq 5, 3) := by decide +kernel
theorem dL_law_963 : decode cL_law 963 = .ok (.iconst 0, 1) := by decide +kernel
theorem dL_law_964 : decode cL_law 964 = .ok (.ireturn, 1) := by decide +kernel
theorem dL_law_965 : decode cL_law 965 = .ok (.iinc 3 6, 3) := by decide +kernel
theorem dL_law_968 : decode cL_law 968 = .ok (.goto (-950), 3) := by decide +kernel
theorem dL_law_971 : decode cL_law 971 = .ok (.iconst 1, 1) := by decide +kernel
theorem dL_law_972 : decode cL_law 972 = .ok (.ireturn, 1) := by decide +kernel
end
section
/-! THE HEAP AS A WHOLE: a shape (kinds, lengths, references, the next address) and a memory of ints; all cells from a base on -/
def th_ws : List Cond := lw_tbl.filter goodWord
theorem th_ws_tbl {args : Array Value} {s : State} (h : ∀ w ∈ lw_tbl, w.before args s = true) : ∀ w ∈ th_ws, w.before args s = true := fun w hw => h w (List.mem_filter.mp hw).1
theorem th_ws_good {ws : List Cond} (h : ∀ w ∈ ws, w ∈ th_ws) : GoodIn th_ws ws := fun w hw => ⟨h w hw, good_of_word (List.mem_filter.mp (h w hw)).2⟩
theorem th_in {w : Cond} (i : Nat) (h : tables_1[i]? = some w) (hg : goodWord w = true) : w ∈ th_ws := List.mem_filter.mpr ⟨List.mem_append_right _ (List.mem_of_getElem? h), hg⟩
theorem th_inS {w : Cond} (i : Nat) (h : (k2_sels lw_privs)[i]? = some w) (hg : goodWord w = true) : w ∈ th_ws := List.mem_filter.mpr ⟨List.mem_append_left _ (List.mem_of_getElem? h), hg⟩
/-- how many fields a class has; which are ints -/
def th_N : Nat → Nat
  | 5 => 4
  | 6 => 3
  | 8 => 9
  | 9 => 4
  | 10 => 12
  | 11 => 40
  | _ => 2
def th_I : Nat → Nat → Bool
  | 5, k => k == 3
  | 6, k => k != 0
  | 8, k => !(k == 0 || k == 2 || k == 4)
  | 9, k => k == 1 || k == 2
  | 10, k => k == 1 || k == 4 || k == 7
  | 11, k => k == 0 || (8 ≤ k && k ≤ 15) || k == 17 || k == 18 || (21 ≤ k && k ≤ 26) || k == 29 || k == 33 || k == 34
  | _, _ => false
abbrev th_S : Type := (Nat → Nat) × (Nat → Nat) × (Nat → Nat → Option Nat) × Nat
abbrev th_M : Type := Nat → Nat → Int32
/-- what stays: the classes' numbers and slots, the array classes, the base, where String constants and their bytes lie, where static arrays lie -/
abbrev th_G : Type := va_G × (Nat → ClassId) × Nat × (Nat → Nat) × (Nat → Nat) × (Nat → Nat)
def th_A (G : th_G) : Nat → Prop := fun q => G.2.2.1 ≤ q
def th_f (R : Nat → Nat → Option Nat) (μ : th_M) (q c : Nat) : List Value := (List.range (th_N c)).map (fun k => if th_I c k = true then Value.int (μ q k) else va_rf (R q k))
def th_e (cA : Nat → ClassId) (σ : th_S) (μ : th_M) (q : Nat) : va_E :=
  if σ.1 q < 12 then .inr (σ.1 q, th_f σ.2.2.1 μ q (σ.1 q))
  else if σ.1 q = 12 then .inl (cA 12, (σ.2.1 q, .inl (μ q)))
  else .inl (cA (σ.1 q), (σ.2.1 q, .inr (.inr (.inr (.inr (σ.2.2.1 q))))))
theorem th_f_get {R : Nat → Nat → Option Nat} {μ : th_M} {q c k : Nat} (hk : k < th_N c) : (th_f R μ q c)[k]? = some (if th_I c k = true then Value.int (μ q k) else va_rf (R q k)) := by
  simp [th_f, hk]
theorem th_f_len {R : Nat → Nat → Option Nat} {μ : th_M} {q c : Nat} : (th_f R μ q c).length = th_N c := by simp [th_f]
theorem th_f_V {R : Nat → Nat → Option Nat} {μ : th_M} {q c k : Nat} (hk : k < th_N c) : vp_V (th_f R μ q c) k = (if th_I c k = true then Value.int (μ q k) else va_rf (R q k)) := by
  simp [vp_V, List.getD_eq_getElem?_getD, th_f_get hk]
/-- the memory or the references with one place changed -/
def th_w (μ : th_M) (a k : Nat) (v : Int32) : th_M := va_up μ a (upd (μ a) k v)
def th_wR (σ : th_S) (a k : Nat) (b : Nat) : th_S := (σ.1, σ.2.1, va_up σ.2.2.1 a (va_up (σ.2.2.1 a) k (some b)), σ.2.2.2)
theorem th_w_at (μ : th_M) (a k : Nat) (v : Int32) (b j : Nat) : th_w μ a k v b j = if b = a ∧ j = k then v else μ b j := by
  unfold th_w va_up upd
  by_cases h1 : b = a
  · subst h1
    by_cases h2 : j = k
    · simp [h2]
    · simp [h2]
  · simp [h1]
theorem th_w_ne (μ : th_M) {a k : Nat} (v : Int32) {b : Nat} (h : b ≠ a) : th_w μ a k v b = μ b := by
  unfold th_w va_up
  rw [if_neg h]
/-- a new cell -/
def th_nS (σ : th_S) (c n : Nat) : th_S := (va_up σ.1 σ.2.2.2 c, va_up σ.2.1 σ.2.2.2 n, va_up σ.2.2.1 σ.2.2.2 (fun _ => none), σ.2.2.2 + 1)
def th_nM (σ : th_S) (μ : th_M) : th_M := va_up μ σ.2.2.2 (fun _ => 0)
/-- the array classes' components -/
def th_ar : Nat → FieldType
  | 12 => .int
  | 13 => .object RX0
  | 14 => .object RX5
  | _ => .object RX6
def th_ty (G : th_G) : List (ClassId × FieldType) := [(G.2.1 12, .int), (G.2.1 13, .object RX0), (G.2.1 14, .object RX5), (G.2.1 15, .object RX6)]
/-- the String constants: who names them, by which entry, which text it is -/
def th_txt : List String := ["price 4 ; hears not hid ; comes 0 - 5 < late ;", "far", "wind", "late", "hid", "boat", "minute", "price", "hears", "comes", "or", "and", "not"]
def th_str : List (String × Nat × String × Nat) := [(RX10, 59, th_txt.getD 0 "", 0), (RX8, 122, th_txt.getD 1 "", 1), (RX8, 124, th_txt.getD 2 "", 2), (RX8, 126, th_txt.getD 3 "", 3), (RX8, 128, th_txt.getD 4 "", 4), (RX8, 130, th_txt.getD 5 "", 5), (RX8, 132, th_txt.getD 6 "", 6), (RX8, 134, th_txt.getD 7 "", 7), (RX8, 136, th_txt.getD 8 "", 8), (RX8, 138, th_txt.getD 9 "", 9), (RX8, 140, th_txt.getD 10 "", 10), (RX8, 142, th_txt.getD 11 "", 11), (RX8, 144, th_txt.getD 12 "", 12),
  (RX11, 80, th_txt.getD 0 "", 0), (RX11, 236, th_txt.getD 7 "", 7), (RX11, 214, th_txt.getD 12 "", 12), (RX11, 177, th_txt.getD 1 "", 1), (RX11, 182, th_txt.getD 2 "", 2), (RX11, 183, th_txt.getD 3 "", 3), (RX11, 185, th_txt.getD 4 "", 4), (RX11, 187, th_txt.getD 5 "", 5), (RX11, 189, th_txt.getD 6 "", 6), (RX11, 212, th_txt.getD 11 "", 11), (RX11, 200, th_txt.getD 10 "", 10), (RX11, 242, th_txt.getD 8 "", 8), (RX11, 244, th_txt.getD 9 "", 9)]
def th_len : List Nat := [46, 3, 4, 4, 3, 4, 6, 5, 5, 5, 2, 3, 3]
def th_byt : List (List Int32) := [[112, 114, 105, 99, 101, 32, 52, 32, 59, 32, 104, 101, 97, 114, 115, 32, 110, 111, 116, 32, 104, 105, 100, 32, 59, 32, 99, 111, 109, 101, 115, 32, 48, 32, 45, 32, 53, 32, 60, 32, 108, 97, 116, 101, 32, 59], [102, 97, 114], [119, 105, 110, 100], [108, 97, 116, 101], [104, 105, 100], [98, 111, 97, 116], [109, 105, 110, 117, 116, 101], [112, 114, 105, 99, 101], [104, 101, 97, 114, 115], [99, 111, 109, 101, 115], [111, 114], [97, 110, 100], [110, 111, 116]]
def th_least : List Int32 := [0, 0, 5, 0, 0, 0, 1, 1, 0]
def th_most : List Int32 := [47, 999, 240, 9, 47, 9, 6, 9, 20]
/-- the tables' side -/
def th_K (G : th_G) (U : State) : Prop := va_K G.1 vwCl (th_ty G) U ∧ ∀ x ∈ th_str, vk_R x.1 x.2.1 x.2.2.1 (G.2.2.2.1 x.2.2.2) U
/-- the constants' cells -/
def th_C (G : th_G) (U : State) (H : Heap) : Prop :=
  vk_S 13 th_len th_byt G.2.2.2.1 G.2.2.2.2.1 (th_A G) U H ∧
  (va_Z RX10 "LEAST" "[I" (.ref (G.2.2.2.2.2 0)) (th_A G) U H ∧ va_T .int (G.2.2.2.2.2 0) 9 (fun j => .int (th_least.getD j 0)) (th_A G) U H) ∧
  (va_Z RX10 "MOST" "[I" (.ref (G.2.2.2.2.2 1)) (th_A G) U H ∧ va_T .int (G.2.2.2.2.2 1) 9 (fun j => .int (th_most.getD j 0)) (th_A G) U H) ∧
  va_Z "java/lang/String" "COMPACT_STRINGS" "Z" (.int 1) (th_A G) U H ∧
  ∃ t : Nat, va_Z "jdk/internal/util/Preconditions" "SIOOBE_FORMATTER" "Ljava/util/function/BiFunction;" (.ref t) (th_A G) U H
/-- the cells -/
def th_P (G : th_G) (σ : th_S) (μ : th_M) (H : Heap) : Prop := H.size = σ.2.2.2 ∧ G.2.2.1 ≤ H.size ∧ ∀ q, σ.1 q < 16 → G.2.2.1 ≤ q ∧ va_at G.1 vwCl (q, th_e G.2.1 σ μ q) H
/-- what holds at any place of a method's run -/
def th_R (G : th_G) (s : State) (H : Heap) (locs : List Loc) (σ : th_S) (μ : th_M) : Prop := th_K G s ∧ th_C G s s.heap ∧ va_S (th_A G) s.heap H locs ∧ th_P G σ μ H
/-- what a method asks of its start -/
def th_B (G : th_G) (σ : th_S) (μ : th_M) (U : State) : Prop := th_K G U ∧ th_C G U U.heap ∧ th_P G σ μ U.heap
def th_Q (G : th_G) (res : Option Value) (σ : th_S) (μ : th_M) : Array Value → State → Outcome → State → Prop := fun _ st oc t => oc = .returned res ∧ th_P G σ μ t.heap ∧ va_F (th_A G) st t
/-- a method's contract: from the heap (σ, μ) with such arguments it answers res, and the heap is (σ', μ') -/
def th_Met (l : Launch) (G : th_G) (y : MethodName) (cc : ByteArray) (nL : Nat) (ret : Option FieldType) (rm : Room) (av : List Value) (σ : th_S) (μ : th_M) (res : Option Value) (σ' : th_S) (μ' : th_M) : Prop :=
  Met l y (.code y cc nL ret :: th_ws) rm (va_Pc av (th_B G σ μ)) (th_Q G res σ' μ') rm.cells rm.slots (th_A G)
theorem th_K.moved {G : th_G} {s U : State} (hW : s.WarmedH U.vm) (h : th_K G s) : th_K G U := ⟨va_K.moved hW.alike h.1, fun x hx => vk_R.warm hW (h.2 x hx)⟩
theorem th_C.moved {G : th_G} {u U : State} {H : Heap} (hvm : u.vm.Alike U.vm) (h : th_C G u H) : th_C G U H := by
  obtain ⟨h1, ⟨h2, h3⟩, ⟨h4, h5⟩, h6, t, h7⟩ := h
  exact ⟨h1.moved hvm, ⟨h2.moved hvm, h3.moved hvm⟩, ⟨h4.moved hvm, h5.moved hvm⟩, h6.moved hvm, t, h7.moved hvm⟩
theorem th_C.kept {G : th_G} {U : State} {H H1 : Heap} (hq : ∀ a : Nat, a < H.size → ¬ th_A G a → H1[a]? = H[a]?) (h : th_C G U H) : th_C G U H1 := by
  obtain ⟨h1, ⟨h2, h3⟩, ⟨h4, h5⟩, h6, t, h7⟩ := h
  exact ⟨h1.kept hq, ⟨h2.kept hq, h3.kept hq⟩, ⟨h4.kept hq, h5.kept hq⟩, h6.kept hq, t, h7.kept hq⟩
theorem th_B.blind {G : th_G} {σ : th_S} {μ : th_M} {av : List Value} : FrameBlind (va_Pc av (th_B G σ μ)) := fun a U g mk q => by
  obtain ⟨q0, ⟨k1, k2⟩, qC, qP⟩ := q
  exact ⟨q0, ⟨va_K.moved (u := U) (U := U.calling g mk a) (Vm.Alike.refl U.vm) k1, fun x hx => vk_R.same (u := U) rfl (k2 x hx)⟩, th_C.moved (u := U) (U := U.calling g mk a) (Vm.Alike.refl U.vm) qC, qP⟩
theorem th_A.of {G : th_G} {s : State} {H : Heap} {locs : List Loc} {σ : th_S} {μ : th_M} (T : th_R G s H locs σ μ) {q : Nat} (h : σ.1 q < 16) : th_A G q := (T.2.2.2.2.2 q h).1
/-- the world of one cell -/
theorem th_one {G : th_G} {σ : th_S} {μ : th_M} {H : Heap} (h : th_P G σ μ H) {q : Nat} (hq : σ.1 q < 16) : va_P G.1 vwCl [(q, th_e G.2.1 σ μ q)] H := by
  intro k x hx
  have hk : k < 1 := (List.getElem?_eq_some_iff.mp hx).1
  rw [show k = 0 by omega] at hx
  cases hx
  exact (h.2.2 q hq).2
theorem th_eO {cA : Nat → ClassId} {σ : th_S} {μ : th_M} {q c : Nat} (h : σ.1 q = c) (hc : c < 12) : th_e cA σ μ q = .inr (c, th_f σ.2.2.1 μ q c) := by
  subst h
  simp [th_e, hc]
theorem th_eI {cA : Nat → ClassId} {σ : th_S} {μ : th_M} {q : Nat} (h : σ.1 q = 12) : th_e cA σ μ q = .inl (cA 12, (σ.2.1 q, .inl (μ q))) := by
  simp [th_e, h]
theorem th_eR {cA : Nat → ClassId} {σ : th_S} {μ : th_M} {q c : Nat} (h : σ.1 q = c) (hc : 12 < c) : th_e cA σ μ q = .inl (cA c, (σ.2.1 q, .inr (.inr (.inr (.inr (σ.2.2.1 q)))))) := by
  subst h
  simp [th_e, show ¬ σ.1 q < 12 by omega, show ¬ σ.1 q = 12 by omega]
/-- one cell changed: the picture behind it -/
theorem th_P.upd {G : th_G} {σ σ' : th_S} {μ μ' : th_M} {H H1 : Heap} {a : Nat} (h : th_P G σ μ H) (ha : σ.1 a < 16) (z : H1.size = H.size) (oq : ∀ q : Nat, q ≠ a → H1[q]? = H[q]?) (hN : σ'.2.2.2 = σ.2.2.2) (hk : σ'.1 = σ.1) (he : ∀ q, q ≠ a → th_e G.2.1 σ' μ' q = th_e G.2.1 σ μ q) (hat : va_at G.1 vwCl (a, th_e G.2.1 σ' μ' a) H1) : th_P G σ' μ' H1 := by
  refine ⟨by rw [z, h.1, hN], by rw [z]; exact h.2.1, fun q hq => ?_⟩
  rw [hk] at hq
  refine ⟨(h.2.2 q hq).1, ?_⟩
  by_cases e : q = a
  · subst e; exact hat
  · rw [he q e]
    exact (h.2.2 q hq).2.kept (oq q e)
/-- one cell new -/
theorem th_P.push {G : th_G} {σ : th_S} {μ : th_M} {H H1 : Heap} {c n : Nat} (h : th_P G σ μ H) (z : H1.size = H.size + 1) (oq : ∀ q : Nat, q < H.size → H1[q]? = H[q]?) (hat : va_at G.1 vwCl (H.size, th_e G.2.1 (th_nS σ c n) (th_nM σ μ) H.size) H1) : th_P G (th_nS σ c n) (th_nM σ μ) H1 := by
  have hN := h.1
  refine ⟨by rw [z, hN]; rfl, by rw [z]; exact Nat.le_succ_of_le h.2.1, fun q hq => ?_⟩
  by_cases e : q = H.size
  · subst e; exact ⟨h.2.1, hat⟩
  · have e' : q ≠ σ.2.2.2 := by rw [← hN]; exact e
    have h1 : (th_nS σ c n).1 q = σ.1 q := by simp [th_nS, va_up, e']
    rw [h1] at hq
    obtain ⟨g1, g2⟩ := h.2.2 q hq
    refine ⟨g1, ?_⟩
    have h2 : th_e G.2.1 (th_nS σ c n) (th_nM σ μ) q = th_e G.2.1 σ μ q := by simp [th_e, th_f, th_nS, th_nM, va_up, e']
    rw [h2]
    exact g2.kept (oq q g2.lt)
end
section
/-! WHAT A METHOD'S BODY DOES TO THE HEAP, as functions that may fail -/
def oI (σ : th_S) (μ : th_M) (ci a k : Nat) : Option Int32 := if σ.1 a = ci then some (μ a k) else none
def oR (σ : th_S) (ci a k : Nat) : Option Nat := if σ.1 a = ci then σ.2.2.1 a k else none
def th_b (c : Nat) : Bool := c < 5 || c == 7
def oB (σ : th_S) (a k : Nat) : Option Nat := if th_b (σ.1 a) = true then σ.2.2.1 a k else none
def oA (σ : th_S) (μ : th_M) (a : Nat) (i : Int32) : Option Int32 := if σ.1 a = 12 ∧ ¬ (i < 0 ∨ σ.2.1 a ≤ i.toNatClampNeg) then some (μ a i.toNatClampNeg) else none
def oQ (σ : th_S) (c a : Nat) (i : Int32) : Option Nat := if σ.1 a = c ∧ ¬ (i < 0 ∨ σ.2.1 a ≤ i.toNatClampNeg) then σ.2.2.1 a i.toNatClampNeg else none
def oL (σ : th_S) (a : Nat) : Option Int32 := if 12 ≤ σ.1 a ∧ σ.1 a < 16 then some (Int32.ofNat (σ.2.1 a)) else none
def oPI (σ : th_S) (μ : th_M) (ci a k : Nat) (v : Int32) : Option th_M := if σ.1 a = ci then some (th_w μ a k v) else none
def oPR (σ : th_S) (ci a k b : Nat) : Option th_S := if σ.1 a = ci then some (th_wR σ a k b) else none
def oPB (σ : th_S) (a k b : Nat) : Option th_S := if th_b (σ.1 a) = true then some (th_wR σ a k b) else none
def oS (σ : th_S) (μ : th_M) (a : Nat) (i v : Int32) : Option th_M := if σ.1 a = 12 ∧ ¬ (i < 0 ∨ σ.2.1 a ≤ i.toNatClampNeg) then some (th_w μ a i.toNatClampNeg v) else none
def th_c (c d : Nat) : Bool := match c with
  | 13 => th_b d
  | 14 => d == 5
  | _ => d == 6
def oSQ (σ : th_S) (c a : Nat) (i : Int32) (b : Nat) : Option th_S := if σ.1 a = c ∧ th_c c (σ.1 b) = true ∧ ¬ (i < 0 ∨ σ.2.1 a ≤ i.toNatClampNeg) then some (th_wR σ a i.toNatClampNeg b) else none
def oN (σ : th_S) (μ : th_M) (c n : Nat) : Option (Nat × th_S × th_M) := some (σ.2.2.2, th_nS σ c n, th_nM σ μ)
def oNA (σ : th_S) (μ : th_M) (n : Int32) (M : Nat) : Option (Nat × th_S × th_M) := if ¬ n < 0 ∧ n.toNatClampNeg ≤ M then some (σ.2.2.2, th_nS σ 12 n.toNatClampNeg, th_nM σ μ) else none
/-- the receiver's class -/
def oC {α : Type} (σ : th_S) (ci a : Nat) (x : Option α) : Option α := if σ.1 a = ci then x else none
def oG {α : Type} (c : Prop) [Decidable c] (x : Option α) : Option α := if c then x else none
def oX (σ : th_S) (μ : th_M) (a0 : Nat) (sp : Int32) (a1 : Nat) (dp n : Int32) : Option th_M := if σ.1 a0 = 12 ∧ σ.1 a1 = 12 ∧ ¬ sp < 0 ∧ ¬ dp < 0 ∧ ¬ n < 0 ∧ sp.toNatClampNeg + n.toNatClampNeg ≤ σ.2.1 a0 ∧ dp.toNatClampNeg + n.toNatClampNeg ≤ σ.2.1 a1 then some (va_up μ a1 (va_cpy (μ a0) (μ a1) sp.toNatClampNeg dp.toNatClampNeg n.toNatClampNeg)) else none
/-- String constants, by their numbers -/
def oT (i : Nat) : Option Int32 := if i < 13 then some (Int32.ofNat (th_len.getD i 0)) else none
def oU (i : Nat) (j : Int32) : Option Int32 := if i < 13 ∧ ¬ (j < 0 ∨ th_len.getD i 0 ≤ j.toNatClampNeg) then some ((th_byt.getD i []).getD j.toNatClampNeg 0) else none
/-- the two static tables -/
def oZ (t : List Int32) (j : Int32) : Option Int32 := if ¬ (j < 0 ∨ 9 ≤ j.toNatClampNeg) then some (t.getD j.toNatClampNeg 0) else none
theorem ob_ {α β : Type} {x : Option α} {f : α → Option β} {r : β} (h : x.bind f = some r) : ∃ v, x = some v ∧ f v = some r := by
  cases x with
  | none => cases h
  | some v => exact ⟨v, rfl, h⟩
theorem ot_ {α : Type} {c : Prop} [Decidable c] {x y : α} {r : α} (hc : c) (h : (if c then x else y) = r) : x = r := (if_pos hc).symm.trans h
theorem of_ {α : Type} {c : Prop} [Decidable c] {x y : α} {r : α} (hc : ¬ c) (h : (if c then x else y) = r) : y = r := (if_neg hc).symm.trans h
theorem og_ {α : Type} {c : Prop} [Decidable c] {x : Option α} {r : α} (h : (if c then x else none) = some r) : c ∧ x = some r := by
  by_cases hc : c
  · exact ⟨hc, ot_ hc h⟩
  · exact absurd (of_ hc h) (by simp)
theorem th_own {s : State} {H : Heap} {a c : Nat} {G : th_G} {σ : th_S} {μ : th_M} {locs : List Loc} {q : vw_C} (T : th_R G s H locs σ μ) (hc : vwCl[c]? = some q) (h12 : c < 12) (hk : σ.1 a = c) : ∃ cell : Cell, H[a]? = some cell ∧ cell.vm.isStatics = false ∧ s.vm.findClass q.1 = some cell.cls := by
  have h1 := th_one T.2.2.2 (q := a) (by omega)
  rw [th_eO hk h12] at h1
  exact va_recv (q0 := 0) T.1.1 h1 hc rfl
section TH
variable {p : Program} {l : Launch} {e : Env} {R : Room} {s : State} {m : MethodId} {args : Array Value} {below : List Frame} {meth : Method} {c : Code} {H : Heap} {locs : List Loc} {cells slots : Nat} {Q : State → Prop}
variable {cc : ByteArray} {pc nL : Nat} {ls : Array Slot} {rest : List Value} {G : th_G} {σ σ' : th_S} {μ μ' : th_M} {own : String}
/-- a method's start -/
theorem th_ofW {y : MethodName} {ret : Option FieldType} {rm : Room} {av : List Value} {res : Option Value} (hy : plainName y.cls = true) (hlen : (lg_sl av).length ≤ nL)
    (body : ∀ (p : Program) (e : Env) (s : State) (m : MethodId) (args : Array Value) (below : List Frame) (meth : Method) (c : Code) (ls : Array Slot) (Q : State → Prop), MQ below (th_Q G res σ' μ') args s rm.cells rm.slots (th_A G) = Q → CallFix p m c cc nL s args th_ws y.cls → meth.sig.returnType = ret → meth.locks = false → meth.name = y.name → th_R G s s.heap [] σ μ → lv_has ls nL (lv_args 0 av) → W p l e rm s m args below meth c s.heap [] 0 0 Q (F0 m 0 ls [])) : th_Met l G y cc nL ret rm av σ μ res σ' μ' := by
  refine Met.ofW (cc := cc) (maxL := nL) (ret := ret) hy rfl ?_
  intro p e s m args below meth c s₁ B hml hv
  obtain ⟨rfl, hK, hC, hP⟩ := hv
  rw [lg_entry_eq]
  exact body p e s m _ below meth c _ _ rfl ⟨B.exec, B.bytes, hml, findClass_of_methodNamed B.named, fun w hw => atoms_spec (ws := Cond.code y cc nL ret :: th_ws) B.pre w (List.mem_cons_of_mem _ hw)⟩ B.returns B.notSynchronized (name_of_methodNamed B.named B.method).1 ⟨hK, hC, va_S.rf, hP⟩ (lv_entry av (n := nL) hlen)
/-- ends -/
theorem th_iret {v : Int32} {mc ms : Nat} (hQ : MQ below (th_Q G (some (.int v)) σ μ) args s mc ms (th_A G) = Q) (C : CallFix p m c cc nL s args th_ws own) (hr : meth.sig.returnType = some .int) (hlocks : meth.locks = false) (T : th_R G s H locs σ μ) (hc : cells ≤ mc) (hs : slots ≤ ms) (hdg : decode cc pc = .ok (.ireturn, 1)) : W p l e R s m args below meth c H locs cells slots Q (F0 m pc ls [.int v]) := by
  subst hQ
  refine W.widen hc hs ?_
  exact W.iret C.1 C.2.1 hr (fun t ht hW => ⟨rfl, by rw [ht]; exact T.2.2.2, T.2.2.1.F ht⟩) T.2.2.1.2.2 hdg hlocks
theorem th_zret {v : Int32} {ty : FieldType} {mc ms : Nat} (hQ : MQ below (th_Q G (some (.int v)) σ μ) args s mc ms (th_A G) = Q) (C : CallFix p m c cc nL s args th_ws own) (hr : meth.sig.returnType = some ty) (hlocks : meth.locks = false) (T : th_R G s H locs σ μ) (hc : cells ≤ mc) (hs : slots ≤ ms) (hdg : decode cc pc = .ok (.ireturn, 1)) (hn : narrow ty (.int v) = .int v) : W p l e R s m args below meth c H locs cells slots Q (F0 m pc ls [.int v]) := by
  subst hQ
  refine W.widen hc hs ?_
  exact W.zret C.1 C.2.1 hr hn (fun t ht hW => ⟨rfl, by rw [ht]; exact T.2.2.2, T.2.2.1.F ht⟩) T.2.2.1.2.2 hdg hlocks
theorem th_lret {v : Int64} {mc ms : Nat} (hQ : MQ below (th_Q G (some (.long v)) σ μ) args s mc ms (th_A G) = Q) (C : CallFix p m c cc nL s args th_ws own) (hr : meth.sig.returnType = some .long) (hlocks : meth.locks = false) (T : th_R G s H locs σ μ) (hc : cells ≤ mc) (hs : slots ≤ ms) (hdg : decode cc pc = .ok (.lreturn, 1)) : W p l e R s m args below meth c H locs cells slots Q (F0 m pc ls [.long v]) := by
  subst hQ
  refine W.widen hc hs ?_
  exact W.lret C.1 C.2.1 hr (fun t ht hW => ⟨rfl, by rw [ht]; exact T.2.2.2, T.2.2.1.F ht⟩) T.2.2.1.2.2 hdg hlocks
theorem th_aret {v : Nat} {ty : FieldType} {mc ms : Nat} (hQ : MQ below (th_Q G (some (.ref v)) σ μ) args s mc ms (th_A G) = Q) (C : CallFix p m c cc nL s args th_ws own) (hr : meth.sig.returnType = some ty) (hlocks : meth.locks = false) (T : th_R G s H locs σ μ) (hc : cells ≤ mc) (hs : slots ≤ ms) (hdg : decode cc pc = .ok (.areturn, 1)) (hn : (∃ n, ty = .object n) ∨ ∃ t, ty = .array t) : W p l e R s m args below meth c H locs cells slots Q (F0 m pc ls [.ref v]) := by
  subst hQ
  refine W.widen hc hs ?_
  exact W.aret C.1 C.2.1 hr hn (Or.inr ⟨v, rfl⟩) (fun t ht hW => ⟨rfl, by rw [ht]; exact T.2.2.2, T.2.2.1.F ht⟩) T.2.2.1.2.2 hdg hlocks
theorem th_vret {mc ms : Nat} (hQ : MQ below (th_Q G none σ μ) args s mc ms (th_A G) = Q) (C : CallFix p m c cc nL s args th_ws own) (hr : meth.sig.returnType = none) (hlocks : meth.locks = false) (T : th_R G s H locs σ μ) (hc : cells ≤ mc) (hs : slots ≤ ms) (hdg : decode cc pc = .ok (.return_, 1)) : W p l e R s m args below meth c H locs cells slots Q (F0 m pc ls []) := by
  subst hQ
  refine W.widen hc hs ?_
  exact W.vret C.1 C.2.1 hr (fun t ht hW => ⟨rfl, by rw [ht]; exact T.2.2.2, T.2.2.1.F ht⟩) T.2.2.1.2.2 hdg hlocks
/-- fields -/
theorem th_get (C : CallFix p m c cc nL s args th_ws own) (T : th_R G s H locs σ μ) {a ci k index : Nat} {Cn ref : String} {Tn : u_T} (h12 : ci < 12) (hc : vwCl[ci]? = some (Cn, Tn, th_N ci)) (hin : ∀ w ∈ u_ws Cn Tn (th_N ci), w ∈ th_ws) (hk : k < th_N ci) (hkd : σ.1 a = ci) (hlink : Cond.fieldLink own index ref (Tn k).2.1 (Tn k).2.2.1 ∈ th_ws) (hsame : ∀ x, s.fieldFound? (Tn k).1 (Tn k).2.1 (Tn k).2.2.1 = some x → s.fieldFound? ref (Tn k).2.1 (Tn k).2.2.1 = some x) (hdg : decode cc pc = .ok (.getfield index, 3))
    (kk : W p l e R s m args below meth c H locs cells slots Q (F0 m (pc + 3) ls ((if th_I ci k = true then Value.int (μ a k) else va_rf (σ.2.2.1 a k)) :: rest))) : W p l e R s m args below meth c H locs cells slots Q (F0 m pc ls (.ref a :: rest)) := by
  have h1 := th_one T.2.2.2 (q := a) (by omega)
  rw [th_eO hkd h12] at h1
  exact va_get C.1 C.2.1 C.2.2.2.2 hin C.2.2.2.1 T.1.1 h1 0 rfl hc k hk (C.2.2.2.2 _ hlink) hsame (th_f_get hk) hdg kk
theorem th_getI (C : CallFix p m c cc nL s args th_ws own) (T : th_R G s H locs σ μ) {a k index : Nat} (ci : Nat) {v : Int32} {Cn ref : String} {Tn : u_T} (h : oI σ μ ci a k = some v) (h12 : ci < 12) (hc : vwCl[ci]? = some (Cn, Tn, th_N ci)) (hin : ∀ w ∈ u_ws Cn Tn (th_N ci), w ∈ th_ws) (hk : k < th_N ci) (hI : th_I ci k = true) (hlink : Cond.fieldLink own index ref (Tn k).2.1 (Tn k).2.2.1 ∈ th_ws) (hsame : ∀ x, s.fieldFound? (Tn k).1 (Tn k).2.1 (Tn k).2.2.1 = some x → s.fieldFound? ref (Tn k).2.1 (Tn k).2.2.1 = some x) (hdg : decode cc pc = .ok (.getfield index, 3))
    (kk : W p l e R s m args below meth c H locs cells slots Q (F0 m (pc + 3) ls (.int v :: rest))) : W p l e R s m args below meth c H locs cells slots Q (F0 m pc ls (.ref a :: rest)) := by
  unfold oI at h
  obtain ⟨hkd, h⟩ := og_ h
  cases h
  refine th_get C T h12 hc hin hk hkd hlink hsame hdg ?_
  rw [if_pos hI]
  exact kk
theorem th_getR (C : CallFix p m c cc nL s args th_ws own) (T : th_R G s H locs σ μ) {a k index b : Nat} (ci : Nat) {Cn ref : String} {Tn : u_T} (h : oR σ ci a k = some b) (h12 : ci < 12) (hc : vwCl[ci]? = some (Cn, Tn, th_N ci)) (hin : ∀ w ∈ u_ws Cn Tn (th_N ci), w ∈ th_ws) (hk : k < th_N ci) (hI : th_I ci k = false) (hlink : Cond.fieldLink own index ref (Tn k).2.1 (Tn k).2.2.1 ∈ th_ws) (hsame : ∀ x, s.fieldFound? (Tn k).1 (Tn k).2.1 (Tn k).2.2.1 = some x → s.fieldFound? ref (Tn k).2.1 (Tn k).2.2.1 = some x) (hdg : decode cc pc = .ok (.getfield index, 3))
    (kk : W p l e R s m args below meth c H locs cells slots Q (F0 m (pc + 3) ls (.ref b :: rest))) : W p l e R s m args below meth c H locs cells slots Q (F0 m pc ls (.ref a :: rest)) := by
  unfold oR at h
  obtain ⟨hkd, h⟩ := og_ h
  refine th_get C T h12 hc hin hk hkd hlink hsame hdg ?_
  rw [hI, h]
  exact kk
theorem th_put (C : CallFix p m c cc nL s args th_ws own) (T : th_R G s H locs σ μ) {a k index : Nat} (ci : Nat) {v : Value} {Cn ref : String} {Tn : u_T} {tyn : Nat → FieldType} (h12 : ci < 12) (hc : vwCl[ci]? = some (Cn, Tn, th_N ci)) (hin : ∀ w ∈ u_ws Cn Tn (th_N ci), w ∈ th_ws) (hty : ∀ k, k < th_N ci → parseFieldDescriptor (Tn k).2.2.1 = some (tyn k)) (hnm : ∀ a, a < th_N ci → ∀ b, b < th_N ci → a ≠ b → (Tn a).2.1 ≠ (Tn b).2.1) (hk : k < th_N ci) (hkd : σ.1 a = ci) (hlink : Cond.fieldLink own index ref (Tn k).2.1 (Tn k).2.2.1 ∈ th_ws) (hsame : ∀ x, s.fieldFound? (Tn k).1 (Tn k).2.1 (Tn k).2.2.1 = some x → s.fieldFound? ref (Tn k).2.1 (Tn k).2.2.1 = some x)
    (hfin : (Tn k).2.2.2 = false ∨ ((Tn k).2.2.2 = true ∧ meth.name = "<init>" ∧ (Tn k).1 = own)) (hn : narrow (tyn k) v = v) (hfit : fits (tyn k) v = true) (hN : σ'.2.2.2 = σ.2.2.2) (hS : σ'.1 = σ.1) (hL : σ'.2.1 = σ.2.1) (hRo : ∀ q, q ≠ a → σ'.2.2.1 q = σ.2.2.1 q) (hMo : ∀ q, q ≠ a → μ' q = μ q)
    (hV : ∀ j, j < th_N ci → (if j = k then v else if th_I ci j = true then Value.int (μ a j) else va_rf (σ.2.2.1 a j)) = (if th_I ci j = true then Value.int (μ' a j) else va_rf (σ'.2.2.1 a j))) (hdg : decode cc pc = .ok (.putfield index, 3))
    (kk : ∀ (H : Heap) (locs : List Loc), th_R G s H locs σ' μ' → W p l e R s m args below meth c H locs cells slots Q (F0 m (pc + 3) ls rest)) : W p l e R s m args below meth c H locs cells slots Q (F0 m pc ls (v :: .ref a :: rest)) := by
  obtain ⟨tK, tC, tS, tP⟩ := T
  have hA := (tP.2.2 a (by omega)).1
  have h1 := (tP.2.2 a (by omega)).2
  rw [th_eO hkd h12] at h1
  obtain ⟨r, g1, cell, q1, q2, q3, q4⟩ := h1
  have hr : r = (Cn, Tn, th_N ci) := Option.some.inj (g1.symm.trans hc)
  subst hr
  have hap := va_apart (own := own) C.2.2.2.2 hin tyn hty hnm tK.1 hc
  obtain ⟨hS0, hfc, kC, hkC, hkind⟩ := tK.1.1 ci _ hc
  obtain ⟨cf, kf, fi, f, hi, hsl⟩ := hS0 k hk
  have hst := (u_facts hfc hkC (u_lays C.2.2.2.2 hin hk) hi).1
  have fin : ∀ H' : Heap, H'[a]? = some (cell.setSlot f.slot v) → H'.size = H.size → (∀ q, q ≠ a → H'[q]? = H[q]?) → W p l e R s m args below meth c H' (locs ++ [⟨a, f.slot⟩]) cells slots Q (F0 m (pc + 3) ls rest) := by
    intro H' e1 e2 e3
    rw [hsl] at e1
    refine kk H' _ ⟨tK, tC, tS.put e2 e3 hA, tP.upd (a := a) (by omega) e2 e3 hN hS (fun q hq => ?_) ?_⟩
    · simp only [th_e, th_f, hS, hL, hRo q hq, hMo q hq]
    · rw [th_eO (by rw [hS]; exact hkd) h12]
      refine ⟨_, hc, t_OB.to (V := updV (vp_V (th_f σ.2.2.1 μ a ci)) k v) ⟨_, e1, q2, q3, t_set q4 hap hk v⟩ (fun j hj => ?_)⟩
      rw [th_f_V hj, ← hV j hj]
      unfold updV
      by_cases hjk : j = k
      · simp [hjk]
      · simp [hjk, th_f_V hj]
  rcases hfin with hf | ⟨hf, hin2, hdecl⟩
  · have hlay := C.2.2.2.2 _ (hin _ (u_in_lay hk))
    unfold u_lay at hlay
    rw [if_neg (by rw [hf]; decide)] at hlay
    have h6 := u_store hfc hkC hkind hlay hi (hty k hk) hn hfit
    exact W.putK C.1 C.2.1 (f := f) ⟨C.2.2.2.1, C.2.2.2.2 _ hlink, ⟨_, _, _, hsame _ hi⟩, hst⟩ (by rw [q2]; exact h6) q1 q3 (by rw [hsl]; exact k2_hasslot (q4 k hk)) rfl rfl hdg fin
  · have hlay := C.2.2.2.2 _ (hin _ (u_in_lay hk))
    unfold u_lay at hlay
    rw [if_pos hf] at hlay
    have hcf : m.cls = cf := by
      obtain ⟨_, _, c', _, _, _, -, -, hf', -, -, -, hown2, -⟩ := Cond.laysFinal_spec hlay
      have e1 : c' = cf := by have := hi.symm.trans hf'; simp at this; exact this.1.symm
      rw [hdecl] at hown2
      rw [← e1]; exact Option.some.inj (C.2.2.2.1.symm.trans hown2)
    have h6 := u_fits hfc hkC hkind (Or.inr hlay) hi (hty k hk) hn hfit
    exact W.putFinK C.1 C.2.1 C.2.2.2.1 (C.2.2.2.2 _ hlink) (hsame _ hi) hst hcf hin2 (by rw [q2]; exact h6) q1 q3 (by rw [hsl]; exact k2_hasslot (q4 k hk)) rfl rfl hdg fin
theorem th_putI (C : CallFix p m c cc nL s args th_ws own) (T : th_R G s H locs σ μ) {a k index : Nat} (ci : Nat) {v : Int32} {Cn ref : String} {Tn : u_T} {tyn : Nat → FieldType} (h : oPI σ μ ci a k v = some μ') (h12 : ci < 12) (hc : vwCl[ci]? = some (Cn, Tn, th_N ci)) (hin : ∀ w ∈ u_ws Cn Tn (th_N ci), w ∈ th_ws) (hty : ∀ k, k < th_N ci → parseFieldDescriptor (Tn k).2.2.1 = some (tyn k)) (hnm : ∀ a, a < th_N ci → ∀ b, b < th_N ci → a ≠ b → (Tn a).2.1 ≠ (Tn b).2.1) (hk : k < th_N ci) (hI : th_I ci k = true) (hlink : Cond.fieldLink own index ref (Tn k).2.1 (Tn k).2.2.1 ∈ th_ws) (hsame : ∀ x, s.fieldFound? (Tn k).1 (Tn k).2.1 (Tn k).2.2.1 = some x → s.fieldFound? ref (Tn k).2.1 (Tn k).2.2.1 = some x)
    (hfin : (Tn k).2.2.2 = false ∨ ((Tn k).2.2.2 = true ∧ meth.name = "<init>" ∧ (Tn k).1 = own)) (hn : narrow (tyn k) (.int v) = .int v) (hfit : fits (tyn k) (.int v) = true) (hdg : decode cc pc = .ok (.putfield index, 3))
    (kk : ∀ (H : Heap) (locs : List Loc), th_R G s H locs σ μ' → W p l e R s m args below meth c H locs cells slots Q (F0 m (pc + 3) ls rest)) : W p l e R s m args below meth c H locs cells slots Q (F0 m pc ls (.int v :: .ref a :: rest)) := by
  unfold oPI at h
  obtain ⟨hkd, h⟩ := og_ h
  cases h
  refine th_put C T ci h12 hc hin hty hnm hk hkd hlink hsame hfin hn hfit rfl rfl rfl (fun q hq => rfl) (fun q hq => th_w_ne μ v hq) (fun j hj => ?_) hdg kk
  rw [th_w_at]
  by_cases hjk : j = k
  · subst hjk; simp [hI]
  · simp [hjk]
theorem th_putR (C : CallFix p m c cc nL s args th_ws own) (T : th_R G s H locs σ μ) {a k index b : Nat} (ci : Nat) {Cn ref : String} {Tn : u_T} {tyn : Nat → FieldType} (h : oPR σ ci a k b = some σ') (h12 : ci < 12) (hc : vwCl[ci]? = some (Cn, Tn, th_N ci)) (hin : ∀ w ∈ u_ws Cn Tn (th_N ci), w ∈ th_ws) (hty : ∀ k, k < th_N ci → parseFieldDescriptor (Tn k).2.2.1 = some (tyn k)) (hnm : ∀ a, a < th_N ci → ∀ b, b < th_N ci → a ≠ b → (Tn a).2.1 ≠ (Tn b).2.1) (hk : k < th_N ci) (hI : th_I ci k = false) (hlink : Cond.fieldLink own index ref (Tn k).2.1 (Tn k).2.2.1 ∈ th_ws) (hsame : ∀ x, s.fieldFound? (Tn k).1 (Tn k).2.1 (Tn k).2.2.1 = some x → s.fieldFound? ref (Tn k).2.1 (Tn k).2.2.1 = some x)
    (hfin : (Tn k).2.2.2 = false ∨ ((Tn k).2.2.2 = true ∧ meth.name = "<init>" ∧ (Tn k).1 = own)) (hn : narrow (tyn k) (.ref b) = .ref b) (hfit : fits (tyn k) (.ref b) = true) (hdg : decode cc pc = .ok (.putfield index, 3))
    (kk : ∀ (H : Heap) (locs : List Loc), th_R G s H locs σ' μ → W p l e R s m args below meth c H locs cells slots Q (F0 m (pc + 3) ls rest)) : W p l e R s m args below meth c H locs cells slots Q (F0 m pc ls (.ref b :: .ref a :: rest)) := by
  unfold oPR at h
  obtain ⟨hkd, h⟩ := og_ h
  cases h
  refine th_put (σ' := th_wR σ a k b) C T ci h12 hc hin hty hnm hk hkd hlink hsame hfin hn hfit rfl rfl rfl (fun q hq => by simp [th_wR, va_up, hq]) (fun q hq => rfl) (fun j hj => ?_) hdg kk
  by_cases hjk : j = k
  · subst hjk; simp [hI, th_wR, va_up, va_rf]
  · simp [hjk, th_wR, va_up]
/-- arrays -/
theorem th_iald (C : CallFix p m c cc nL s args th_ws own) (T : th_R G s H locs σ μ) {a : Nat} {i v : Int32} (h : oA σ μ a i = some v) (hdg : decode cc pc = .ok (.iaload, 1))
    (kk : W p l e R s m args below meth c H locs cells slots Q (F0 m (pc + 1) ls (.int v :: rest))) : W p l e R s m args below meth c H locs cells slots Q (F0 m pc ls (.int i :: .ref a :: rest)) := by
  unfold oA at h
  obtain ⟨⟨hkd, hi⟩, h⟩ := og_ h
  cases h
  have h1 := th_one T.2.2.2 (q := a) (by omega)
  rw [th_eI hkd] at h1
  exact va_iald C.1 C.2.1 T.1.1 h1 0 0 rfl rfl hi hdg kk
theorem th_aald (C : CallFix p m c cc nL s args th_ws own) (T : th_R G s H locs σ μ) {a b : Nat} {i : Int32} (ci : Nat) {Cn : String} (h : oQ σ ci a i = some b) (h16 : 12 < ci ∧ ci < 16) (ht : (th_ty G)[ci - 12]? = some (G.2.1 ci, .object Cn)) (hdg : decode cc pc = .ok (.aaload, 1))
    (kk : W p l e R s m args below meth c H locs cells slots Q (F0 m (pc + 1) ls (.ref b :: rest))) : W p l e R s m args below meth c H locs cells slots Q (F0 m pc ls (.int i :: .ref a :: rest)) := by
  unfold oQ at h
  obtain ⟨⟨hkd, hi⟩, h⟩ := og_ h
  have h1 := th_one T.2.2.2 (q := a) (by omega)
  rw [th_eR hkd h16.1] at h1
  refine va_aldq C.1 C.2.1 T.1.1 h1 0 (ci - 12) rfl ht hi hdg ?_
  rw [h]
  exact kk
theorem th_alen (C : CallFix p m c cc nL s args th_ws own) (T : th_R G s H locs σ μ) {a : Nat} {v : Int32} (h : oL σ a = some v) (hdg : decode cc pc = .ok (.arraylength, 1))
    (kk : W p l e R s m args below meth c H locs cells slots Q (F0 m (pc + 1) ls (.int v :: rest))) : W p l e R s m args below meth c H locs cells slots Q (F0 m pc ls (.ref a :: rest)) := by
  unfold oL at h
  obtain ⟨⟨hk1, hk2⟩, h⟩ := og_ h
  cases h
  have h1 := th_one T.2.2.2 (q := a) hk2
  by_cases hkd : σ.1 a = 12
  · rw [th_eI hkd] at h1
    exact va_alen C.1 C.2.1 T.1.1 h1 0 0 rfl (ty := .int) rfl rfl hdg kk
  · rw [th_eR rfl (by omega)] at h1
    rcases (show σ.1 a = 13 ∨ σ.1 a = 14 ∨ σ.1 a = 15 by omega) with hk | hk | hk
    · rw [hk] at h1
      exact va_alen C.1 C.2.1 T.1.1 h1 0 1 rfl (ty := .object RX0) rfl rfl hdg kk
    · rw [hk] at h1
      exact va_alen C.1 C.2.1 T.1.1 h1 0 2 rfl (ty := .object RX5) rfl rfl hdg kk
    · rw [hk] at h1
      exact va_alen C.1 C.2.1 T.1.1 h1 0 3 rfl (ty := .object RX6) rfl rfl hdg kk
theorem th_iast (C : CallFix p m c cc nL s args th_ws own) (T : th_R G s H locs σ μ) {a : Nat} {i v : Int32} (h : oS σ μ a i v = some μ') (hdg : decode cc pc = .ok (.iastore, 1))
    (kk : ∀ (H : Heap) (locs : List Loc), th_R G s H locs σ μ' → W p l e R s m args below meth c H locs cells slots Q (F0 m (pc + 1) ls rest)) : W p l e R s m args below meth c H locs cells slots Q (F0 m pc ls (.int v :: .int i :: .ref a :: rest)) := by
  unfold oS at h
  obtain ⟨⟨hkd, hin⟩, h⟩ := og_ h
  cases h
  obtain ⟨tK, tC, tS, tP⟩ := T
  have hA := (tP.2.2 a (by omega)).1
  have ha := (tP.2.2 a (by omega)).2
  rw [th_eI hkd] at ha
  refine W.iast C.1 C.2.1 ha ((tK.1.2 0 _ rfl).1 (σ.2.1 a) (fun j => .int (μ a j))) (fun q => by cases q) (by show ¬ (i < 0 ∨ (arrV _ _ _).slots.size ≤ _); rw [arrV_size]; exact hin) rfl rfl hdg fun H1 e z oq => ?_
  refine kk H1 _ ⟨tK, tC, tS.put z oq hA, tP.upd (a := a) (by omega) z oq rfl rfl (fun q hq => ?_) ?_⟩
  · simp only [th_e, th_f, th_w_ne μ v hq]
  · rw [th_eI hkd]
    show H1[a]? = some (vp_cell _ _)
    rw [e]
    show some ((vp_cell _ _).setSlot _ _) = _
    rw [vp_cell_i, vp_cell_i, arrV_store]
    congr 2
    funext q
    by_cases hq : q = i.toNatClampNeg
    · subst hq
      simp [updV, th_w_at]
    · simp [updV, th_w_at, hq]
theorem th_aast (C : CallFix p m c cc nL s args th_ws own) (T : th_R G s H locs σ μ) {a b : Nat} {i : Int32} (ci : Nat) {Cn : String} (h : oSQ σ ci a i b = some σ') (h16 : 12 < ci ∧ ci < 16) (ht : (th_ty G)[ci - 12]? = some (G.2.1 ci, .object Cn)) (hcast : ∀ cb, th_c ci cb = true → cb < 12 ∧ ∃ q : vw_C, vwCl[cb]? = some q ∧ (q.1 = Cn ∨ (Cond.castable q.1 Cn) ∈ th_ws)) (hdg : decode cc pc = .ok (.aastore, 1))
    (kk : ∀ (H : Heap) (locs : List Loc), th_R G s H locs σ' μ → W p l e R s m args below meth c H locs cells slots Q (F0 m (pc + 1) ls rest)) : W p l e R s m args below meth c H locs cells slots Q (F0 m pc ls (.ref b :: .int i :: .ref a :: rest)) := by
  unfold oSQ at h
  obtain ⟨⟨hkd, hcb, hin⟩, h⟩ := og_ h
  cases h
  have hlt : i.toNatClampNeg < σ.2.1 a := Nat.not_le.mp fun q => hin (Or.inr q)
  have h0 : ¬ i < 0 := fun q => hin (Or.inl q)
  obtain ⟨hb12, q, hq, hqc⟩ := hcast _ hcb
  obtain ⟨cellV, g1, g2, g3⟩ := th_own T hq hb12 rfl
  obtain ⟨tK, tC, tS, tP⟩ := T
  have hA := (tP.2.2 a (by omega)).1
  have ha := (tP.2.2 a (by omega)).2
  rw [th_eR hkd h16.1] at ha
  obtain ⟨kA, comp, k1, k2, k3, -⟩ := (tK.1.2 (ci - 12) _ ht).2
  obtain ⟨kC, hkC, -⟩ := Vm.findClass_spec k3
  obtain ⟨kV, hkV, -⟩ := Vm.findClass_spec g3
  have hasg : s.vm.assignable cellV.cls comp = true := by
    rcases hqc with e | e
    · rw [e, k3] at g3
      cases g3
      exact va_asg _ _
    · obtain ⟨c0, t0, f1, f2, f3⟩ := Cond.castable_spec (C.2.2.2.2 _ e)
      cases g3.symm.trans f1
      cases k3.symm.trans f2
      exact f3
  refine W.aast C.1 C.2.1 ha (fun q h => by cases h) (fun h => by cases h) k1 k2 rfl hkC ⟨h0, by show _ < (arrV _ _ _).slots.size; rw [arrV_size]; exact hlt⟩ g1 (fun q h => by rw [h] at g2; cases g2) hkV hasg rfl rfl hdg fun H1 e z oq => ?_
  refine kk H1 _ ⟨tK, tC, tS.put z oq hA, tP.upd (a := a) (by omega) z oq rfl rfl (fun q hq => ?_) ?_⟩
  · simp only [th_e, th_f, th_wR, va_up, if_neg hq]
  · rw [th_eR (show (th_wR σ a i.toNatClampNeg b).1 a = ci from hkd) h16.1]
    show H1[a]? = some (vp_cell _ _)
    rw [e]
    show some ((vp_cell _ _).setSlot _ _) = _
    rw [vp_cell_q, vp_cell_q, arrV_store]
    congr 2
    funext q
    by_cases hq : q = i.toNatClampNeg
    · subst hq
      simp [updV, th_wR, va_up, va_rf]
    · simp [updV, th_wR, va_up, hq]
/-- new cells -/
theorem th_new (C : CallFix p m c cc nL s args th_ws own) (T : th_R G s H locs σ μ) {index a : Nat} (ci : Nat) {Cn : String} {Tn : u_T} {tyn : Nat → FieldType} (h : oN σ μ ci (th_N ci) = some (a, σ', μ')) (h12 : ci < 12) (hc : vwCl[ci]? = some (Cn, Tn, th_N ci)) (hin : ∀ w ∈ u_ws Cn Tn (th_N ci), w ∈ th_ws) (hty : ∀ k, k < th_N ci → parseFieldDescriptor (Tn k).2.2.1 = some (tyn k)) (hcl : Cond.classLink own index Cn ∈ th_ws) (hinst : Cond.instantiable Cn (th_N ci) ∈ th_ws) (hini : Cond.initialized Cn ∈ th_ws) (hdef : ∀ j, j < th_N ci → defaultValue (tyn j) = if th_I ci j = true then Value.int 0 else .null) (hcells : cells + 1 ≤ R.cells) (hslots : slots + th_N ci ≤ R.slots) (hdg : decode cc pc = .ok (.new index, 3))
    (kk : ∀ (H : Heap), th_R G s H locs σ' μ' → W p l e R s m args below meth c H locs (cells + 1) (slots + th_N ci) Q (F0 m (pc + 3) ls (.ref a :: rest))) : W p l e R s m args below meth c H locs cells slots Q (F0 m pc ls rest) := by
  cases h
  obtain ⟨tK, tC, tS, tP⟩ := T
  have hKn := tK.1.1 ci _ hc
  have hN := tP.1
  refine W.newcK C.1 C.2.1 C.2.2.2.1 (C.2.2.2.2 _ hcl) (C.2.2.2.2 _ hinst) (C.2.2.2.2 _ hini) rfl hdg hcells hslots hKn.2.1 hN fun H1 kC hkC e1 z1 o1 => ?_
  refine kk H1 ⟨tK, tC, ⟨Nat.le_trans tS.1 (by omega), fun x h1 h2 => (o1 x (by have := tS.1; omega)).trans (tS.2.1 x h1 h2), tS.2.2⟩, tP.push (by omega) (fun q hq => o1 q (by omega)) ?_⟩
  rw [hN, th_eO (c := ci) (by simp [th_nS, va_up]) h12]
  refine ⟨_, hc, (u_born tyn C.2.2.2.2 hin hKn hkC e1 hty).to (fun j hj => ?_)⟩
  rw [th_f_V hj, hdef j hj]
  simp [th_nS, th_nM, va_up, va_rf]
theorem th_newaG (C : CallFix p m c cc nL s args th_ws own) (T : th_R G s H locs σ μ) {n : Int32} {k : Nat} (hn : ¬ n < 0) (hk : n.toNatClampNeg = k) (hb : k ≤ 100000) (harr : Cond.arrayClass .int ∈ th_ws) (hcells : cells + 1 ≤ R.cells) (hslots : slots + k ≤ R.slots) (hdg : decode cc pc = .ok (.newarray .int, 2))
    (kk : ∀ (H : Heap), th_R G s H locs (th_nS σ 12 k) (th_nM σ μ) → W p l e R s m args below meth c H locs (cells + 1) (slots + k) Q (F0 m (pc + 2) ls (.ref σ.2.2.2 :: rest))) : W p l e R s m args below meth c H locs cells slots Q (F0 m pc ls (.int n :: rest)) := by
  obtain ⟨tK, tC, tS, tP⟩ := T
  have hN := tP.1
  refine va_newaK (atype := .int) C.1 C.2.1 (C.2.2.2.2 _ harr) rfl hdg rfl hn hk (by show k * 4 ≤ _; omega) hcells hslots hN fun H1 cA e1 z1 o1 hAr hNm => ?_
  have hcA : cA = G.2.1 12 := Option.some.inj (hNm.symm.trans (tK.1.2 0 _ rfl).2)
  subst hcA
  refine kk H1 ⟨tK, tC, ⟨Nat.le_trans tS.1 (by omega), fun x h1 h2 => (o1 x (by have := tS.1; omega)).trans (tS.2.1 x h1 h2), tS.2.2⟩, tP.push (by omega) (fun q hq => o1 q (by omega)) ?_⟩
  rw [hN, th_eI (by simp [th_nS, va_up])]
  show H1[_]? = some (vp_cell _ _)
  rw [e1, vp_cell_i]
  congr 2
  · simp [th_nS, va_up]
  · funext j
    simp [th_nM, va_up]
    rfl
theorem th_newa (C : CallFix p m c cc nL s args th_ws own) (T : th_R G s H locs σ μ) {n : Int32} {a : Nat} (k : Nat) (h : oN σ μ 12 k = some (a, σ', μ')) (hn : ¬ n < 0) (hk : n.toNatClampNeg = k) (hb : k ≤ 100000) (harr : Cond.arrayClass .int ∈ th_ws) (hcells : cells + 1 ≤ R.cells) (hslots : slots + k ≤ R.slots) (hdg : decode cc pc = .ok (.newarray .int, 2))
    (kk : ∀ (H : Heap), th_R G s H locs σ' μ' → W p l e R s m args below meth c H locs (cells + 1) (slots + k) Q (F0 m (pc + 2) ls (.ref a :: rest))) : W p l e R s m args below meth c H locs cells slots Q (F0 m pc ls (.int n :: rest)) := by
  cases h
  exact th_newaG C T hn hk hb harr hcells hslots hdg kk
theorem th_newaV (C : CallFix p m c cc nL s args th_ws own) (T : th_R G s H locs σ μ) {n : Int32} {a : Nat} {M : Nat} (h : oNA σ μ n M = some (a, σ', μ')) (hM : M ≤ 100000) (harr : Cond.arrayClass .int ∈ th_ws) (hcells : cells + 1 ≤ R.cells) (hslots : slots + M ≤ R.slots) (hdg : decode cc pc = .ok (.newarray .int, 2))
    (kk : ∀ (H : Heap), th_R G s H locs σ' μ' → W p l e R s m args below meth c H locs (cells + 1) (slots + M) Q (F0 m (pc + 2) ls (.ref a :: rest))) : W p l e R s m args below meth c H locs cells slots Q (F0 m pc ls (.int n :: rest)) := by
  unfold oNA at h
  obtain ⟨⟨h1, h2⟩, h⟩ := og_ h
  cases h
  exact th_newaG C T h1 rfl (by omega) harr hcells (by omega) hdg (fun H T => W.widen (Nat.le_refl _) (by omega) (kk H T))
theorem th_newq (C : CallFix p m c cc nL s args th_ws own) (T : th_R G s H locs σ μ) {n : Int32} {a index : Nat} {Cn : String} (ci k : Nat) (h : oN σ μ ci k = some (a, σ', μ')) (h16 : 12 < ci ∧ ci < 16) (ht : (th_ty G)[ci - 12]? = some (G.2.1 ci, .object Cn)) (hn : ¬ n < 0) (hk : n.toNatClampNeg = k) (hb : k ≤ 100000) (hcl : Cond.classLink own index Cn ∈ th_ws) (hover : Cond.arrayOver (.object Cn) ∈ th_ws) (hcells : cells + 1 ≤ R.cells) (hslots : slots + k ≤ R.slots) (hdg : decode cc pc = .ok (.anewarray index, 3))
    (kk : ∀ (H : Heap), th_R G s H locs σ' μ' → W p l e R s m args below meth c H locs (cells + 1) (slots + k) Q (F0 m (pc + 3) ls (.ref a :: rest))) : W p l e R s m args below meth c H locs cells slots Q (F0 m pc ls (.int n :: rest)) := by
  cases h
  obtain ⟨tK, tC, tS, tP⟩ := T
  have hN := tP.1
  subst hk
  refine W.anew C.1 C.2.1 C.2.2.2.1 (C.2.2.2.2 _ hcl) (C.2.2.2.2 _ hover) rfl hdg rfl hn (by omega) hcells hslots fun cA kA comp f1 f2 f3 f4 => ?_
  generalize hH1 : H.push ({ cls := cA, slots := Array.replicate n.toNatClampNeg .null, vm := .none } : Cell) = H1
  have z1 : H1.size = H.size + 1 := by rw [← hH1, Array.size_push]
  have e1 : H1[H.size]? = some (arrV cA n.toNatClampNeg (fun _ => .null)) := by rw [← hH1, Array.getElem?_push_size, ← arrV_new]
  have o1 : ∀ q : Nat, q < H.size → H1[q]? = H[q]? := fun q hq => by rw [← hH1, Array.getElem?_push, if_neg (Nat.ne_of_lt hq)]
  have hcA : cA = G.2.1 ci := by
    obtain ⟨kA', comp', g1, g2, g3, g4⟩ := (tK.1.2 (ci - 12) _ ht).2
    exact Option.some.inj (f1.symm.trans g4)
  subst hcA
  have hkk := kk H1 ⟨tK, tC, ⟨Nat.le_trans tS.1 (by omega), fun x h1 h2 => (o1 x (by have := tS.1; omega)).trans (tS.2.1 x h1 h2), tS.2.2⟩, tP.push z1 o1 (by
    rw [hN, th_eR (c := ci) (by simp [th_nS, va_up]) h16.1]
    show H1[_]? = some (vp_cell _ _)
    rw [← hN, e1, vp_cell_q]
    congr 2
    · simp [th_nS, va_up, hN]
    · funext j
      simp [th_nS, va_up, va_rf, hN])⟩
  rw [hN]
  exact hkk
/-- arraycopy -/
theorem th_copy (C : CallFix p m c cc nL s args th_ws own) (T : th_R G s H locs σ μ) {a0 a1 index : Nat} {sp dp n : Int32} (h : oX σ μ a0 sp a1 dp n = some μ') (hls : ls.size = nL) (hlink : Cond.methodLink own index arraycopyName ∈ th_ws) (hnat : Cond.native arraycopyName ∈ th_ws) (hstat : Cond.static arraycopyName ∈ th_ws) (hini : Cond.initialized "java/lang/System" ∈ th_ws) (hframes : 1 ≤ R.frames) (hlocals : (rest.map fun v => v.category).sum + (nativeFrameWords "java/lang/System" "arraycopy" 5 + 11) ≤ R.locals) (hdg : decode cc pc = .ok (.invokestatic index, 3))
    (kk : ∀ (H : Heap) (locs : List Loc), th_R G s H locs σ μ' → W p l e R s m args below meth c H locs cells slots Q (F0 m (pc + 3) ls rest)) : W p l e R s m args below meth c H locs cells slots Q (F0 m pc ls (.int n :: .int dp :: .ref a1 :: .int sp :: .ref a0 :: rest)) := by
  unfold oX at h
  obtain ⟨⟨hk0, hk1, h1, h2, h3, h4, h5⟩, h⟩ := og_ h
  cases h
  obtain ⟨tK, tC, tS, tP⟩ := T
  have nn : ∀ z : Int32, ¬ z < 0 → z.toInt = (z.toNatClampNeg : Int) := by
    intro z hz
    have hz0 : (0 : Int) ≤ z.toInt := by
      have := Int32.not_lt.mp hz
      simpa using Int32.le_iff_toInt_le.mp this
    show z.toInt = ((z.toInt.toNat : Nat) : Int)
    omega
  have hA := (tP.2.2 a1 (by omega)).1
  have hc0 := (tP.2.2 a0 (by omega)).2
  rw [th_eI hk0] at hc0
  have hc1 := (tP.2.2 a1 (by omega)).2
  rw [th_eI hk1] at hc1
  have hc0 : H[a0]? = some (vp_cell (G.2.1 12) (σ.2.1 a0, .inl (μ a0))) := hc0
  have hc1 : H[a1]? = some (vp_cell (G.2.1 12) (σ.2.1 a1, .inl (μ a1))) := hc1
  obtain ⟨-, k0, hk0', cm0, hkk0⟩ := (tK.1.2 0 _ rfl).1 (σ.2.1 a0) (fun j => .int (μ a0 j))
  obtain ⟨-, k1, hk1', cm1, hkk1⟩ := (tK.1.2 0 _ rfl).1 (σ.2.1 a1) (fun j => .int (μ a1 j))
  intro U hU X
  obtain ⟨vm', X', step⟩ := X.arraycopy C.1 C.2.2.2.1 (C.2.2.2.2 _ hlink) (C.2.2.2.2 _ hnat) (C.2.2.2.2 _ hstat) (C.2.2.2.2 _ hini) (src := a0) (dst := a1) (cs := vp_cell (G.2.1 12) (σ.2.1 a0, .inl (μ a0))) (cd := vp_cell (G.2.1 12) (σ.2.1 a1, .inl (μ a1))) (srcPos := sp) (destPos := dp) (n := n) (by rw [hU]; exact hc0) (by rw [hU]; exact hc1)
    (fun _ h => by cases h) (fun _ h => by cases h) (fun h => by cases h) (fun h => by cases h) hk0' hk1' hkk0 hkk1 (by simp [refKind]) h1 h2 h3
    (by rw [nn sp h1, nn n h3]; show ¬ _ > ((arrV (G.2.1 12) (σ.2.1 a0) (fun j => .int (μ a0 j))).slots.size : Int); rw [arrV_size]; omega)
    (by rw [nn dp h2, nn n h3]; show ¬ _ > ((arrV (G.2.1 12) (σ.2.1 a1) (fun j => .int (μ a1 j))).slots.size : Int); rw [arrV_size]; omega)
    (fun vm₁ _ i hi => by
      have e : (vp_cell (G.2.1 12) (σ.2.1 a0, .inl (μ a0))).slots.getD (sp.toNatClampNeg + i) .null = .int (μ a0 (sp.toNatClampNeg + i)) := by
        show (arrV (G.2.1 12) (σ.2.1 a0) (fun j => .int (μ a0 j))).slots.getD _ _ = _
        rw [Array.getD_eq_getD_getElem?, arrV_read _ _ (by omega)]
        rfl
      refine ⟨?_, ?_⟩
      · rw [e]
        rfl
      · rw [e]
        exact trivial)
    (g := F0 m pc ls (.int n :: .int dp :: .ref a1 :: .int sp :: .ref a0 :: rest)) rfl (by rw [C.2.2.1]; exact hls) (rest := rest) rfl (by rw [C.2.1]; exact hdg) hframes (by show 2 * 0 + _ + _ ≤ _; omega)
  have e1 : copied (vp_cell (G.2.1 12) (σ.2.1 a0, .inl (μ a0))) (vp_cell (G.2.1 12) (σ.2.1 a1, .inl (μ a1))) sp dp n = vp_cell (G.2.1 12) (σ.2.1 a1, .inl (va_cpy (μ a0) (μ a1) sp.toNatClampNeg dp.toNatClampNeg n.toNatClampNeg)) := va_copied (fun z => .int z) _ _ (μ a0) (μ a1) h4
  rw [e1] at X' step
  have hl : a1 < H.size := (Array.getElem?_eq_some_iff.mp hc1).1
  have hheap : ((U.setVm vm').setCell a1 (vp_cell (G.2.1 12) (σ.2.1 a1, .inl (va_cpy (μ a0) (μ a1) sp.toNatClampNeg dp.toNatClampNeg n.toNatClampNeg)))).heap = H.setIfInBounds a1 (vp_cell (G.2.1 12) (σ.2.1 a1, .inl (va_cpy (μ a0) (μ a1) sp.toNatClampNeg dp.toNatClampNeg n.toNatClampNeg))) := by rw [← hU]; rfl
  have oq : ∀ q : Nat, q ≠ a1 → (H.setIfInBounds a1 (vp_cell (G.2.1 12) (σ.2.1 a1, .inl (va_cpy (μ a0) (μ a1) sp.toNatClampNeg dp.toNatClampNeg n.toNatClampNeg))))[q]? = H[q]? := fun q hq => by simp [Array.getElem?_setIfInBounds, Ne.symm hq]
  obtain ⟨t, b1, b2⟩ := kk _ _ ⟨tK, tC, ⟨by simp; exact tS.1, fun q g1 g2 => by
      rw [oq q (fun e => g2 (by rw [e]; exact hA))]
      exact tS.2.1 q g1 g2, fun q hq => by
      rcases List.mem_append.mp hq with h | h
      · exact tS.2.2 q h
      · obtain ⟨z, -, hz⟩ := List.mem_map.mp h
        rw [← hz]
        exact hA⟩, tP.upd (a := a1) (by omega) (by simp) oq rfl rfl (fun q hq => by simp only [th_e, th_f, va_up, if_neg hq]) (by
      rw [th_eI hk1]
      show (H.setIfInBounds a1 _)[a1]? = some _
      simp [Array.getElem?_setIfInBounds, hl, va_up])⟩ _ hheap X'
  exact ⟨t, step t b1, b2⟩
/-- statics, String constants -/
theorem th_least_ (C : CallFix p m c cc nL s args th_ws own) (T : th_R G s H locs σ μ) {index : Nat} (hlink : Cond.fieldLink own index RX10 "LEAST" "[I" ∈ th_ws) (hdg : decode cc pc = .ok (.getstatic index, 3))
    (kk : W p l e R s m args below meth c H locs cells slots Q (F0 m (pc + 3) ls (.ref (G.2.2.2.2.2 0) :: rest))) : W p l e R s m args below meth c H locs cells slots Q (F0 m pc ls rest) :=
  va_gets C.1 C.2.1 T.2.1.2.1.1 T.2.2.1 C.2.2.2.1 (C.2.2.2.2 _ hlink) (fun _ h => h) hdg kk
theorem th_most_ (C : CallFix p m c cc nL s args th_ws own) (T : th_R G s H locs σ μ) {index : Nat} (hlink : Cond.fieldLink own index RX10 "MOST" "[I" ∈ th_ws) (hdg : decode cc pc = .ok (.getstatic index, 3))
    (kk : W p l e R s m args below meth c H locs cells slots Q (F0 m (pc + 3) ls (.ref (G.2.2.2.2.2 1) :: rest))) : W p l e R s m args below meth c H locs cells slots Q (F0 m pc ls rest) :=
  va_gets C.1 C.2.1 T.2.1.2.2.1.1 T.2.2.1 C.2.2.2.1 (C.2.2.2.2 _ hlink) (fun _ h => h) hdg kk
theorem th_leastI (C : CallFix p m c cc nL s args th_ws own) (T : th_R G s H locs σ μ) {i v : Int32} (h : oZ th_least i = some v) (hdg : decode cc pc = .ok (.iaload, 1))
    (kk : W p l e R s m args below meth c H locs cells slots Q (F0 m (pc + 1) ls (.int v :: rest))) : W p l e R s m args below meth c H locs cells slots Q (F0 m pc ls (.int i :: .ref (G.2.2.2.2.2 0) :: rest)) := by
  unfold oZ at h
  obtain ⟨hi, h⟩ := og_ h
  cases h
  exact va_ti C.1 C.2.1 T.2.1.2.1.2 T.2.2.1 hi rfl hdg kk
theorem th_mostI (C : CallFix p m c cc nL s args th_ws own) (T : th_R G s H locs σ μ) {i v : Int32} (h : oZ th_most i = some v) (hdg : decode cc pc = .ok (.iaload, 1))
    (kk : W p l e R s m args below meth c H locs cells slots Q (F0 m (pc + 1) ls (.int v :: rest))) : W p l e R s m args below meth c H locs cells slots Q (F0 m pc ls (.int i :: .ref (G.2.2.2.2.2 1) :: rest)) := by
  unfold oZ at h
  obtain ⟨hi, h⟩ := og_ h
  cases h
  exact va_ti C.1 C.2.1 T.2.1.2.2.1.2 T.2.2.1 hi rfl hdg kk
theorem th_ldcS (C : CallFix p m c cc nL s args th_ws own) (T : th_R G s H locs σ μ) {index j : Nat} {tx : String} (i : Nat) (h : th_str[i]? = some (own, index, tx, j)) (hdg : decode cc pc = .ok (.ldc index, 2))
    (kk : W p l e R s m args below meth c H locs cells slots Q (F0 m (pc + 2) ls (.ref (G.2.2.2.1 j) :: rest))) : W p l e R s m args below meth c H locs cells slots Q (F0 m pc ls rest) :=
  va_ldcS C.1 C.2.1 C.2.2.2.1 (T.1.2 _ (List.mem_of_getElem? h)) hdg kk
/-- a call, behind it -/
theorem th_back {mc ms : Nat} {a : Array Value} {g0 : List Value} {res : Option Value} (T : th_R G s H locs σ μ) (hr : va_Run p l e R s m args below meth c H locs cells slots mc ms (F0 m pc ls g0) rest (th_Q G res σ' μ' a) (th_A G))
    (kk : ∀ (H : Heap) (locs : List Loc), th_R G s H locs σ' μ' → W p l e R s m args below meth c H locs (cells + mc) (slots + ms) Q (F0 m (pc + 3) ls (res.toList ++ rest))) : W p l e R s m args below meth c H locs cells slots Q (F0 m pc ls g0) := by
  obtain ⟨tK, tC, tS, tP⟩ := T
  intro U hU X
  obtain ⟨v, st₀, t, T', L, h0, X', hL, e1, e2, ⟨hv, hp, hz, hk⟩, st⟩ := hr U hU X
  cases hv
  rw [h0] at hz hk
  obtain ⟨t2, a1, b1⟩ := kk T'.heap (locs ++ L) ⟨tK, tC, ⟨Nat.le_trans tS.1 (by rw [e1]; exact hz), fun q h1 h2 => by rw [e1, hk q (Nat.lt_of_lt_of_le h1 tS.1) h2]; exact tS.2.1 q h1 h2, fun q hq => by
      rcases List.mem_append.mp hq with h | h
      · exact tS.2.2 q h
      · exact hL q h⟩, by rw [e1]; exact hp⟩ T' rfl X'
  exact ⟨t2, st t2 a1, b1⟩
theorem th_pre (T : th_R G s H locs σ μ) (av : List Value) (U : State) (hU : U.heap = H) (hW : s.WarmedH U.vm) : va_Pc av (th_B G σ μ) av.toArray U := by
  obtain ⟨tK, tC, tS, tP⟩ := T
  exact ⟨rfl, tK.moved hW, by rw [hU]; exact (tC.kept tS.2.1).moved hW.alike, by rw [hU]; exact tP⟩
end TH
/-- the callee's words -/
theorem th_good {y : MethodName} {cy : ByteArray} {nLy : Nat} {ret : Option FieldType} (h : Cond.code y cy nLy ret ∈ th_ws) : GoodIn th_ws (.code y cy nLy ret :: th_ws) := th_ws_good (fun w hw => by
  rcases List.mem_cons.mp hw with e | e
  · rw [e]; exact h
  · exact e)
/-- what is known of a call's place: static, virtual of one class, virtual of an inherited or an overriding method, constructor, super -/
def th_LS (own : String) (index : Nat) (y : MethodName) (cy : ByteArray) (nLy : Nat) (ret : Option FieldType) (n : Nat) : Prop := Cond.methodLink own index y ∈ th_ws ∧ Cond.static y ∈ th_ws ∧ Cond.initialized y.cls ∈ th_ws ∧ Cond.code y cy nLy ret ∈ th_ws ∧ (y.cls ≠ "java/lang/invoke/MethodHandle" ∧ y.cls ≠ "java/lang/invoke/VarHandle" ∧ (parseMethodDescriptor y.desc).map (fun d => d.parameters.length) = some n)
def th_LV (own : String) (index : Nat) (y : MethodName) (cy : ByteArray) (nLy : Nat) (ret : Option FieldType) (n : Nat) : Prop := Cond.methodLink own index y ∈ th_ws ∧ Cond.instanceMethod y ∈ th_ws ∧ Cond.selects y.cls y y ∈ th_ws ∧ Cond.initialized y.cls ∈ th_ws ∧ Cond.code y cy nLy ret ∈ th_ws ∧ (y.cls ≠ "java/lang/invoke/MethodHandle" ∧ y.cls ≠ "java/lang/invoke/VarHandle" ∧ (parseMethodDescriptor y.desc).map (fun d => d.parameters.length) = some n)
def th_LU (own : String) (index : Nat) (Cn owner : String) (x y : MethodName) (cy : ByteArray) (nLy : Nat) (ret : Option FieldType) (n : Nat) : Prop := Cond.methodLink own index x ∈ th_ws ∧ Cond.sameMethod x.cls owner x.name x.desc ∈ th_ws ∧ Cond.selects Cn x y ∈ th_ws ∧ Cond.instanceMethod y ∈ th_ws ∧ Cond.initialized y.cls ∈ th_ws ∧ Cond.code y cy nLy ret ∈ th_ws ∧ (y = ⟨owner, x.name, x.desc⟩ ∨ (Cond.instanceMethod ⟨owner, x.name, x.desc⟩ ∈ th_ws ∧ ∃ b0 m0 r0, Cond.code ⟨owner, x.name, x.desc⟩ b0 m0 r0 ∈ th_ws)) ∧ (owner ≠ "java/lang/invoke/MethodHandle" ∧ owner ≠ "java/lang/invoke/VarHandle" ∧ (parseMethodDescriptor x.desc).map (fun d => d.parameters.length) = some n)
def th_LI (own : String) (index : Nat) (y : MethodName) (cy : ByteArray) (nLy : Nat) (n : Nat) : Prop := Cond.methodLink own index y ∈ th_ws ∧ Cond.instanceMethod y ∈ th_ws ∧ Cond.initialized y.cls ∈ th_ws ∧ Cond.code y cy nLy none ∈ th_ws ∧ y.name = "<init>" ∧ (y.cls ≠ "java/lang/invoke/MethodHandle" ∧ y.cls ≠ "java/lang/invoke/VarHandle" ∧ (parseMethodDescriptor y.desc).map (fun d => d.parameters.length) = some n)
def th_LIN (own : String) (index : Nat) (y : MethodName) (host : String) (cy : ByteArray) (nLy : Nat) (n : Nat) : Prop := Cond.methodLinkNest own index y host ∈ th_ws ∧ Cond.instanceMethod y ∈ th_ws ∧ Cond.initialized y.cls ∈ th_ws ∧ Cond.code y cy nLy none ∈ th_ws ∧ y.name = "<init>" ∧ (y.cls ≠ "java/lang/invoke/MethodHandle" ∧ y.cls ≠ "java/lang/invoke/VarHandle" ∧ (parseMethodDescriptor y.desc).map (fun d => d.parameters.length) = some n)
def th_LSN (own : String) (index : Nat) (y : MethodName) (host : String) (cy : ByteArray) (nLy : Nat) (ret : Option FieldType) (n : Nat) : Prop := Cond.methodLinkNest own index y host ∈ th_ws ∧ Cond.static y ∈ th_ws ∧ Cond.initialized y.cls ∈ th_ws ∧ Cond.code y cy nLy ret ∈ th_ws ∧ (y.cls ≠ "java/lang/invoke/MethodHandle" ∧ y.cls ≠ "java/lang/invoke/VarHandle" ∧ (parseMethodDescriptor y.desc).map (fun d => d.parameters.length) = some n)
def th_LP (own : String) (index : Nat) (y : MethodName) (cy : ByteArray) (nLy : Nat) (ret : Option FieldType) (n : Nat) : Prop := Cond.methodLink own index y ∈ th_ws ∧ Cond.sameMethod y.cls y.cls y.name y.desc ∈ th_ws ∧ Cond.superclass own y.cls ∈ th_ws ∧ Cond.instanceMethod y ∈ th_ws ∧ Cond.initialized y.cls ∈ th_ws ∧ Cond.code y cy nLy ret ∈ th_ws ∧ (y.name ≠ "<init>" ∧ (parseMethodDescriptor y.desc).map (fun d => d.parameters.length) = some n)
section TC
variable {p : Program} {l : Launch} {e : Env} {R : Room} {s : State} {m : MethodId} {args : Array Value} {below : List Frame} {meth : Method} {c : Code} {H : Heap} {locs : List Loc} {cells slots : Nat} {Q : State → Prop}
variable {cc : ByteArray} {pc nL : Nat} {ls : Array Slot} {rest st0 : List Value} {G : th_G} {σ σ' : th_S} {μ μ' : th_M} {own host Cn owner : String} {index nLy n : Nat} {x y : MethodName} {cy : ByteArray} {ret : Option FieldType} {rm : Room} {As : List Value} {b : Nat} {res : Option Value}
theorem th_callS (C : CallFix p m c cc nL s args th_ws own) (T : th_R G s H locs σ μ) (hM : th_Met l G y cy nLy ret rm As σ μ res σ' μ') (hL : th_LS own index y cy nLy ret n) (hn : As.length = n) (hls : ls.size = nL) (hst : st0 = As.reverse ++ rest) (h8 : (rest.map fun v => v.category).sum ≤ 8) (hR : rm.frames + 1 ≤ R.frames ∧ 8 + (nLy + 11) + rm.locals ≤ R.locals) (hf : cells + rm.cells ≤ R.cells ∧ slots + rm.slots ≤ R.slots) (hdg : decode cc pc = .ok (.invokestatic index, 3))
    (kk : ∀ (H : Heap) (locs : List Loc), th_R G s H locs σ' μ' → W p l e R s m args below meth c H locs (cells + rm.cells) (slots + rm.slots) Q (F0 m (pc + 3) ls (res.toList ++ rest))) : W p l e R s m args below meth c H locs cells slots Q (F0 m pc ls st0) := by
  obtain ⟨h1, h2, h3, h4, h5⟩ := hL
  exact th_back T (va_runS (As := As) (rest := rest) C hM ⟨callB_of n C.2.2.2.2 (th_good h4) rfl rfl rfl (C.2.2.2.2 _ h3) (C.2.2.2.2 _ h1) h5 hR, C.2.2.2.2 _ h2⟩ ⟨th_B.blind, th_pre T As⟩ rfl hn hls hst (lv_room h8) hdg hf) kk
theorem th_callV (C : CallFix p m c cc nL s args th_ws own) (T : th_R G s H locs σ μ) (hM : th_Met l G y cy nLy ret rm (.ref b :: As) σ μ res σ' μ') (hL : th_LV own index y cy nLy ret n) (ci : Nat) {q : vw_C} (hq : vwCl[ci]? = some q) (hqc : q.1 = y.cls) (h12 : ci < 12) (hb : σ.1 b = ci) (hn : As.length = n) (hls : ls.size = nL) (hst : st0 = As.reverse ++ .ref b :: rest) (h8 : (rest.map fun v => v.category).sum ≤ 8) (hR : rm.frames + 1 ≤ R.frames ∧ 8 + (nLy + 11) + rm.locals ≤ R.locals) (hf : cells + rm.cells ≤ R.cells ∧ slots + rm.slots ≤ R.slots) (hdg : decode cc pc = .ok (.invokevirtual index, 3))
    (kk : ∀ (H : Heap) (locs : List Loc), th_R G s H locs σ' μ' → W p l e R s m args below meth c H locs (cells + rm.cells) (slots + rm.slots) Q (F0 m (pc + 3) ls (res.toList ++ rest))) : W p l e R s m args below meth c H locs cells slots Q (F0 m pc ls st0) := by
  obtain ⟨h1, h2, h3, h4, h5, h6⟩ := hL
  have hr := th_own T hq h12 hb
  rw [hqc] at hr
  exact th_back T (va_runV (As := As) (rest := rest) (C := y.cls) C hM ⟨callB_of n C.2.2.2.2 (th_good h5) rfl rfl rfl (C.2.2.2.2 _ h4) (C.2.2.2.2 _ h1) h6 hR, C.2.2.2.2 _ h2, C.2.2.2.2 _ h3⟩ ⟨th_B.blind, hr, th_pre T _⟩ rfl hn hls hst (lv_room h8) hdg hf) kk
theorem th_callU (C : CallFix p m c cc nL s args th_ws own) (T : th_R G s H locs σ μ) (hM : th_Met l G y cy nLy ret rm (.ref b :: As) σ μ res σ' μ') (hL : th_LU own index Cn owner x y cy nLy ret n) (ci : Nat) {q : vw_C} (hq : vwCl[ci]? = some q) (hqc : q.1 = Cn) (h12 : ci < 12) (hb : σ.1 b = ci) (hn : As.length = n) (hls : ls.size = nL) (hst : st0 = As.reverse ++ .ref b :: rest) (h8 : (rest.map fun v => v.category).sum ≤ 8) (hR : rm.frames + 1 ≤ R.frames ∧ 8 + (nLy + 11) + rm.locals ≤ R.locals) (hf : cells + rm.cells ≤ R.cells ∧ slots + rm.slots ≤ R.slots) (hdg : decode cc pc = .ok (.invokevirtual index, 3))
    (kk : ∀ (H : Heap) (locs : List Loc), th_R G s H locs σ' μ' → W p l e R s m args below meth c H locs (cells + rm.cells) (slots + rm.slots) Q (F0 m (pc + 3) ls (res.toList ++ rest))) : W p l e R s m args below meth c H locs cells slots Q (F0 m pc ls st0) := by
  obtain ⟨h1, h2, h3, h4, h5, h6, h7, h9⟩ := hL
  have hr := th_own T hq h12 hb
  rw [hqc] at hr
  have hcu : va_CU R s args own Cn owner index x y cy nLy ret (.code y cy nLy ret :: th_ws) rm rm.cells rm.slots n := by
    rcases h7 with e | ⟨g1, b0, m0, r0, g2⟩
    · refine va_cwU (ws' := th_ws) n C.2.2.2.2 (th_ws_good (fun w hw => ?_)) rfl rfl rfl e h9 hR
      simp only [va_wsU, List.mem_append, List.mem_cons, List.not_mem_nil, or_false] at hw
      rcases hw with (rfl | rfl | rfl | rfl | rfl) | rfl | hw <;> assumption
    · refine va_cwO (ws' := th_ws) n C.2.2.2.2 (th_ws_good (fun w hw => ?_)) rfl rfl rfl g2 h9 hR
      simp only [va_wsO, List.mem_append, List.mem_cons, List.not_mem_nil, or_false] at hw
      rcases hw with (rfl | rfl | rfl | rfl | rfl | rfl) | rfl | hw <;> assumption
  exact th_back T (va_runU (As := As) (rest := rest) (C := Cn) C hM hcu ⟨th_B.blind, hr, th_pre T _⟩ rfl hn hls hst (lv_room h8) hdg hf) kk
theorem th_callI (C : CallFix p m c cc nL s args th_ws own) (T : th_R G s H locs σ μ) (hM : th_Met l G y cy nLy none rm (.ref b :: As) σ μ res σ' μ') (hL : th_LI own index y cy nLy n) (hn : As.length = n) (hls : ls.size = nL) (hst : st0 = As.reverse ++ .ref b :: rest) (h8 : (rest.map fun v => v.category).sum ≤ 8) (hR : rm.frames + 1 ≤ R.frames ∧ 8 + (nLy + 11) + rm.locals ≤ R.locals) (hf : cells + rm.cells ≤ R.cells ∧ slots + rm.slots ≤ R.slots) (hdg : decode cc pc = .ok (.invokespecial index, 3))
    (kk : ∀ (H : Heap) (locs : List Loc), th_R G s H locs σ' μ' → W p l e R s m args below meth c H locs (cells + rm.cells) (slots + rm.slots) Q (F0 m (pc + 3) ls (res.toList ++ rest))) : W p l e R s m args below meth c H locs cells slots Q (F0 m pc ls st0) := by
  obtain ⟨h1, h2, h3, h4, h5, h6⟩ := hL
  exact th_back T (va_runI (As := As) (rest := rest) (b := b) C hM ⟨callB_of n C.2.2.2.2 (th_good h4) rfl rfl rfl (C.2.2.2.2 _ h3) (C.2.2.2.2 _ h1) h6 hR, h5, C.2.2.2.2 _ h2⟩ ⟨th_B.blind, th_pre T _⟩ rfl hn hls hst (lv_room h8) hdg hf) kk
theorem th_nw {w : Cond} (C : CallFix p m c cc nL s args th_ws own) (h : w ∈ th_ws) (hw : w.onTables = true) : va_Nw w s := va_Nw.of hw (C.2.2.2.2 _ h)
theorem th_callIN (C : CallFix p m c cc nL s args th_ws own) (T : th_R G s H locs σ μ) (hM : th_Met l G y cy nLy none rm (.ref b :: As) σ μ res σ' μ') (hL : th_LIN own index y host cy nLy n) (hn : As.length = n) (hls : ls.size = nL) (hst : st0 = As.reverse ++ .ref b :: rest) (h8 : (rest.map fun v => v.category).sum ≤ 8) (hR : rm.frames + 1 ≤ R.frames ∧ 8 + (nLy + 11) + rm.locals ≤ R.locals) (hf : cells + rm.cells ≤ R.cells ∧ slots + rm.slots ≤ R.slots) (hdg : decode cc pc = .ok (.invokespecial index, 3))
    (kk : ∀ (H : Heap) (locs : List Loc), th_R G s H locs σ' μ' → W p l e R s m args below meth c H locs (cells + rm.cells) (slots + rm.slots) Q (F0 m (pc + 3) ls (res.toList ++ rest))) : W p l e R s m args below meth c H locs cells slots Q (F0 m pc ls st0) := by
  obtain ⟨h1, h2, h3, h4, h5, h6⟩ := hL
  exact th_back T (va_runIN (As := As) (rest := rest) (b := b) C hM ⟨va_cnB n C.2.2.2.2 (th_good h4) rfl rfl rfl (th_nw C h1 rfl) (C.2.2.2.2 _ h3) h6 hR, h5, C.2.2.2.2 _ h2⟩ ⟨th_B.blind, th_pre T _⟩ rfl hn hls hst (lv_room h8) hdg hf) kk
theorem th_callSN (C : CallFix p m c cc nL s args th_ws own) (T : th_R G s H locs σ μ) (hM : th_Met l G y cy nLy ret rm As σ μ res σ' μ') (hL : th_LSN own index y host cy nLy ret n) (hn : As.length = n) (hls : ls.size = nL) (hst : st0 = As.reverse ++ rest) (h8 : (rest.map fun v => v.category).sum ≤ 8) (hR : rm.frames + 1 ≤ R.frames ∧ 8 + (nLy + 11) + rm.locals ≤ R.locals) (hf : cells + rm.cells ≤ R.cells ∧ slots + rm.slots ≤ R.slots) (hdg : decode cc pc = .ok (.invokestatic index, 3))
    (kk : ∀ (H : Heap) (locs : List Loc), th_R G s H locs σ' μ' → W p l e R s m args below meth c H locs (cells + rm.cells) (slots + rm.slots) Q (F0 m (pc + 3) ls (res.toList ++ rest))) : W p l e R s m args below meth c H locs cells slots Q (F0 m pc ls st0) := by
  obtain ⟨h1, h2, h3, h4, h6⟩ := hL
  exact th_back T (va_runSN (As := As) (rest := rest) C hM ⟨va_cnB n C.2.2.2.2 (th_good h4) rfl rfl rfl (th_nw C h1 rfl) (C.2.2.2.2 _ h3) h6 hR, C.2.2.2.2 _ h2, trivial⟩ ⟨th_B.blind, th_pre T _⟩ rfl hn hls hst (lv_room h8) hdg hf) kk
theorem th_callP (C : CallFix p m c cc nL s args th_ws own) (T : th_R G s H locs σ μ) (hM : th_Met l G y cy nLy ret rm (.ref b :: As) σ μ res σ' μ') (hL : th_LP own index y cy nLy ret n) (ci : Nat) {q : vw_C} (hq : vwCl[ci]? = some q) (h12 : ci < 12) (hb : σ.1 b = ci) (hn : As.length = n) (hls : ls.size = nL) (hst : st0 = As.reverse ++ .ref b :: rest) (h8 : (rest.map fun v => v.category).sum ≤ 8) (hR : rm.frames + 1 ≤ R.frames ∧ 8 + (nLy + 11) + rm.locals ≤ R.locals) (hf : cells + rm.cells ≤ R.cells ∧ slots + rm.slots ≤ R.slots) (hdg : decode cc pc = .ok (.invokespecial index, 3))
    (kk : ∀ (H : Heap) (locs : List Loc), th_R G s H locs σ' μ' → W p l e R s m args below meth c H locs (cells + rm.cells) (slots + rm.slots) Q (F0 m (pc + 3) ls (res.toList ++ rest))) : W p l e R s m args below meth c H locs cells slots Q (F0 m pc ls st0) := by
  obtain ⟨h1, h2, h3, h4, h5, h6, h7⟩ := hL
  have hr := th_own T hq h12 hb
  have hat := (T.1.1.1 ci q hq).2
  have hcs : va_CS R s args own index y cy nLy ret (.code y cy nLy ret :: th_ws) rm rm.cells rm.slots n := by
    refine va_cwSU (ws' := th_ws) n C.2.2.2.2 (th_ws_good (fun w hw => ?_)) rfl rfl rfl h7 hR
    simp only [va_wsSU, List.mem_append, List.mem_cons, List.not_mem_nil, or_false] at hw
    rcases hw with (rfl | rfl | rfl | rfl | rfl) | rfl | hw <;> assumption
  exact th_back T (va_runSU (As := As) (rest := rest) (C := q.1) hat C hM hcs ⟨th_B.blind, hr, th_pre T _⟩ rfl hn hls hst (lv_room h8) hdg hf) kk
end TC
end
