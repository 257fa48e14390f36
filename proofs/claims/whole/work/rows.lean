section
-- ===== PART A: goes FIRST, ahead of the names: the tables' words, and 'selects' of the private methods out of them =====
/-- a private method of a class that the tables say can be made, by its rows of tables_1 -/
def lw_okq (q : MethodName × Nat) : Prop := (q.1.cls ≠ "java/lang/invoke/MethodHandle" ∧ q.1.cls ≠ "java/lang/invoke/VarHandle") ∧ Cond.instantiable q.1.cls q.2 ∈ tables_1 ∧ Cond.privateMethod q.1 ∈ tables_1 ∧ Cond.instanceMethod q.1 ∈ tables_1
theorem lw_p0 : lw_okq (⟨"MajorityMap$Replica", "firstOpenAhead", "()I"⟩, 10) := ⟨⟨by decide +kernel, by decide +kernel⟩, List.mem_of_getElem? (i := 89) (by decide +kernel), List.mem_of_getElem? (i := 288) (by decide +kernel), List.mem_of_getElem? (i := 289) (by decide +kernel)⟩
theorem lw_p1 : lw_okq (⟨"MajorityMap$Replica", "isOpen", "(I)Z"⟩, 10) := ⟨⟨by decide +kernel, by decide +kernel⟩, List.mem_of_getElem? (i := 89) (by decide +kernel), List.mem_of_getElem? (i := 292) (by decide +kernel), List.mem_of_getElem? (i := 293) (by decide +kernel)⟩
theorem lw_p2 : lw_okq (⟨"MajorityMap$Replica", "isSupportedFor", "(I)Z"⟩, 10) := ⟨⟨by decide +kernel, by decide +kernel⟩, List.mem_of_getElem? (i := 89) (by decide +kernel), List.mem_of_getElem? (i := 301) (by decide +kernel), List.mem_of_getElem? (i := 302) (by decide +kernel)⟩
theorem lw_p3 : lw_okq (⟨"MajorityMap$Replica", "propose", "(II)V"⟩, 10) := ⟨⟨by decide +kernel, by decide +kernel⟩, List.mem_of_getElem? (i := 89) (by decide +kernel), List.mem_of_getElem? (i := 312) (by decide +kernel), List.mem_of_getElem? (i := 313) (by decide +kernel)⟩
theorem lw_p4 : lw_okq (⟨"MajorityMap$Replica", "others", "()I"⟩, 10) := ⟨⟨by decide +kernel, by decide +kernel⟩, List.mem_of_getElem? (i := 89) (by decide +kernel), List.mem_of_getElem? (i := 334) (by decide +kernel), List.mem_of_getElem? (i := 335) (by decide +kernel)⟩
theorem lw_p5 : lw_okq (⟨"MajorityMap$Replica", "sendToEach", "(IIIII)V"⟩, 10) := ⟨⟨by decide +kernel, by decide +kernel⟩, List.mem_of_getElem? (i := 89) (by decide +kernel), List.mem_of_getElem? (i := 338) (by decide +kernel), List.mem_of_getElem? (i := 339) (by decide +kernel)⟩
theorem lw_p6 : lw_okq (⟨"MajorityMap$Replica", "repeatProposals", "()V"⟩, 10) := ⟨⟨by decide +kernel, by decide +kernel⟩, List.mem_of_getElem? (i := 89) (by decide +kernel), List.mem_of_getElem? (i := 404) (by decide +kernel), List.mem_of_getElem? (i := 405) (by decide +kernel)⟩
theorem lw_p7 : lw_okq (⟨"MajorityMap$Replica", "leastBallotAbove", "(I)I"⟩, 10) := ⟨⟨by decide +kernel, by decide +kernel⟩, List.mem_of_getElem? (i := 89) (by decide +kernel), List.mem_of_getElem? (i := 413) (by decide +kernel), List.mem_of_getElem? (i := 414) (by decide +kernel)⟩
theorem lw_p8 : lw_okq (⟨"MajorityMap$Replica", "onPrepare", "(LMajorityMap$Message;)V"⟩, 10) := ⟨⟨by decide +kernel, by decide +kernel⟩, List.mem_of_getElem? (i := 89) (by decide +kernel), List.mem_of_getElem? (i := 468) (by decide +kernel), List.mem_of_getElem? (i := 469) (by decide +kernel)⟩
theorem lw_p9 : lw_okq (⟨"MajorityMap$Replica", "refuse", "(I)V"⟩, 10) := ⟨⟨by decide +kernel, by decide +kernel⟩, List.mem_of_getElem? (i := 89) (by decide +kernel), List.mem_of_getElem? (i := 472) (by decide +kernel), List.mem_of_getElem? (i := 473) (by decide +kernel)⟩
theorem lw_p10 : lw_okq (⟨"MajorityMap$Replica", "onPromise", "(LMajorityMap$Message;)Z"⟩, 10) := ⟨⟨by decide +kernel, by decide +kernel⟩, List.mem_of_getElem? (i := 89) (by decide +kernel), List.mem_of_getElem? (i := 486) (by decide +kernel), List.mem_of_getElem? (i := 487) (by decide +kernel)⟩
theorem lw_p11 : lw_okq (⟨"MajorityMap$Replica", "install", "(LMajorityMap$State;)V"⟩, 10) := ⟨⟨by decide +kernel, by decide +kernel⟩, List.mem_of_getElem? (i := 89) (by decide +kernel), List.mem_of_getElem? (i := 490) (by decide +kernel), List.mem_of_getElem? (i := 491) (by decide +kernel)⟩
theorem lw_p12 : lw_okq (⟨"MajorityMap$Replica", "onAccept", "(LMajorityMap$Message;)V"⟩, 10) := ⟨⟨by decide +kernel, by decide +kernel⟩, List.mem_of_getElem? (i := 89) (by decide +kernel), List.mem_of_getElem? (i := 505) (by decide +kernel), List.mem_of_getElem? (i := 506) (by decide +kernel)⟩
theorem lw_p13 : lw_okq (⟨"MajorityMap$Replica", "onVoted", "(LMajorityMap$Message;)Z"⟩, 10) := ⟨⟨by decide +kernel, by decide +kernel⟩, List.mem_of_getElem? (i := 89) (by decide +kernel), List.mem_of_getElem? (i := 509) (by decide +kernel), List.mem_of_getElem? (i := 510) (by decide +kernel)⟩
theorem lw_p14 : lw_okq (⟨"MajorityMap$Replica", "onLearn", "(LMajorityMap$Message;)Z"⟩, 10) := ⟨⟨by decide +kernel, by decide +kernel⟩, List.mem_of_getElem? (i := 89) (by decide +kernel), List.mem_of_getElem? (i := 514) (by decide +kernel), List.mem_of_getElem? (i := 515) (by decide +kernel)⟩
theorem lw_p15 : lw_okq (⟨"MajorityMap$Replica", "onFetch", "(LMajorityMap$Message;)V"⟩, 10) := ⟨⟨by decide +kernel, by decide +kernel⟩, List.mem_of_getElem? (i := 89) (by decide +kernel), List.mem_of_getElem? (i := 518) (by decide +kernel), List.mem_of_getElem? (i := 519) (by decide +kernel)⟩
def lw_privs_1 : List (MethodName × Nat) := [(⟨"MajorityMap$Replica", "firstOpenAhead", "()I"⟩, 10), (⟨"MajorityMap$Replica", "isOpen", "(I)Z"⟩, 10), (⟨"MajorityMap$Replica", "isSupportedFor", "(I)Z"⟩, 10), (⟨"MajorityMap$Replica", "propose", "(II)V"⟩, 10), (⟨"MajorityMap$Replica", "others", "()I"⟩, 10), (⟨"MajorityMap$Replica", "sendToEach", "(IIIII)V"⟩, 10), (⟨"MajorityMap$Replica", "repeatProposals", "()V"⟩, 10), (⟨"MajorityMap$Replica", "leastBallotAbove", "(I)I"⟩, 10), (⟨"MajorityMap$Replica", "onPrepare", "(LMajorityMap$Message;)V"⟩, 10), (⟨"MajorityMap$Replica", "refuse", "(I)V"⟩, 10), (⟨"MajorityMap$Replica", "onPromise", "(LMajorityMap$Message;)Z"⟩, 10), (⟨"MajorityMap$Replica", "install", "(LMajorityMap$State;)V"⟩, 10), (⟨"MajorityMap$Replica", "onAccept", "(LMajorityMap$Message;)V"⟩, 10), (⟨"MajorityMap$Replica", "onVoted", "(LMajorityMap$Message;)Z"⟩, 10), (⟨"MajorityMap$Replica", "onLearn", "(LMajorityMap$Message;)Z"⟩, 10), (⟨"MajorityMap$Replica", "onFetch", "(LMajorityMap$Message;)V"⟩, 10)]
theorem lw_r1 : ∀ q ∈ lw_privs_1, lw_okq q := List.forall_mem_cons.mpr ⟨lw_p0, List.forall_mem_cons.mpr ⟨lw_p1, List.forall_mem_cons.mpr ⟨lw_p2, List.forall_mem_cons.mpr ⟨lw_p3, List.forall_mem_cons.mpr ⟨lw_p4, List.forall_mem_cons.mpr ⟨lw_p5, List.forall_mem_cons.mpr ⟨lw_p6, List.forall_mem_cons.mpr ⟨lw_p7, List.forall_mem_cons.mpr ⟨lw_p8, List.forall_mem_cons.mpr ⟨lw_p9, List.forall_mem_cons.mpr ⟨lw_p10, List.forall_mem_cons.mpr ⟨lw_p11, List.forall_mem_cons.mpr ⟨lw_p12, List.forall_mem_cons.mpr ⟨lw_p13, List.forall_mem_cons.mpr ⟨lw_p14, List.forall_mem_cons.mpr ⟨lw_p15, fun _ h => absurd h List.not_mem_nil⟩⟩⟩⟩⟩⟩⟩⟩⟩⟩⟩⟩⟩⟩⟩⟩
theorem lw_p16 : lw_okq (⟨"MajorityMap$Replica", "goOn", "()V"⟩, 10) := ⟨⟨by decide +kernel, by decide +kernel⟩, List.mem_of_getElem? (i := 89) (by decide +kernel), List.mem_of_getElem? (i := 522) (by decide +kernel), List.mem_of_getElem? (i := 523) (by decide +kernel)⟩
theorem lw_p17 : lw_okq (⟨"MajorityMap$Replica", "execute", "(I)V"⟩, 10) := ⟨⟨by decide +kernel, by decide +kernel⟩, List.mem_of_getElem? (i := 89) (by decide +kernel), List.mem_of_getElem? (i := 526) (by decide +kernel), List.mem_of_getElem? (i := 527) (by decide +kernel)⟩
theorem lw_p18 : lw_okq (⟨"MajorityMap$State", "act", "(ILMajorityMap$Request;)V"⟩, 7) := ⟨⟨by decide +kernel, by decide +kernel⟩, List.mem_of_getElem? (i := 57) (by decide +kernel), List.mem_of_getElem? (i := 546) (by decide +kernel), List.mem_of_getElem? (i := 547) (by decide +kernel)⟩
theorem lw_p19 : lw_okq (⟨"MajorityMap$Replica", "commandDueFor", "(I)I"⟩, 10) := ⟨⟨by decide +kernel, by decide +kernel⟩, List.mem_of_getElem? (i := 89) (by decide +kernel), List.mem_of_getElem? (i := 550) (by decide +kernel), List.mem_of_getElem? (i := 551) (by decide +kernel)⟩
theorem lw_p20 : lw_okq (⟨"MajorityMapModel", "isUp", "(I)Z"⟩, 42) := ⟨⟨by decide +kernel, by decide +kernel⟩, List.mem_of_getElem? (i := 659) (by decide +kernel), List.mem_of_getElem? (i := 807) (by decide +kernel), List.mem_of_getElem? (i := 808) (by decide +kernel)⟩
theorem lw_p21 : lw_okq (⟨"MajorityMapModel", "replay", "(I)V"⟩, 42) := ⟨⟨by decide +kernel, by decide +kernel⟩, List.mem_of_getElem? (i := 659) (by decide +kernel), List.mem_of_getElem? (i := 811) (by decide +kernel), List.mem_of_getElem? (i := 812) (by decide +kernel)⟩
theorem lw_p22 : lw_okq (⟨"MajorityMapModel", "act", "(II)I"⟩, 42) := ⟨⟨by decide +kernel, by decide +kernel⟩, List.mem_of_getElem? (i := 659) (by decide +kernel), List.mem_of_getElem? (i := 815) (by decide +kernel), List.mem_of_getElem? (i := 816) (by decide +kernel)⟩
theorem lw_p23 : lw_okq (⟨"MajorityMapModel", "hear", "(I)V"⟩, 42) := ⟨⟨by decide +kernel, by decide +kernel⟩, List.mem_of_getElem? (i := 659) (by decide +kernel), List.mem_of_getElem? (i := 819) (by decide +kernel), List.mem_of_getElem? (i := 820) (by decide +kernel)⟩
theorem lw_p24 : lw_okq (⟨"MajorityMapModel", "campaigns", "(I)Z"⟩, 42) := ⟨⟨by decide +kernel, by decide +kernel⟩, List.mem_of_getElem? (i := 659) (by decide +kernel), List.mem_of_getElem? (i := 823) (by decide +kernel), List.mem_of_getElem? (i := 824) (by decide +kernel)⟩
theorem lw_p25 : lw_okq (⟨"MajorityMapModel", "knows", "(II)Z"⟩, 42) := ⟨⟨by decide +kernel, by decide +kernel⟩, List.mem_of_getElem? (i := 659) (by decide +kernel), List.mem_of_getElem? (i := 827) (by decide +kernel), List.mem_of_getElem? (i := 828) (by decide +kernel)⟩
theorem lw_p26 : lw_okq (⟨"MajorityMapModel", "membersOf", "(II)I"⟩, 42) := ⟨⟨by decide +kernel, by decide +kernel⟩, List.mem_of_getElem? (i := 659) (by decide +kernel), List.mem_of_getElem? (i := 831) (by decide +kernel), List.mem_of_getElem? (i := 832) (by decide +kernel)⟩
theorem lw_p27 : lw_okq (⟨"MajorityMapModel", "propose", "(III)V"⟩, 42) := ⟨⟨by decide +kernel, by decide +kernel⟩, List.mem_of_getElem? (i := 659) (by decide +kernel), List.mem_of_getElem? (i := 838) (by decide +kernel), List.mem_of_getElem? (i := 839) (by decide +kernel)⟩
theorem lw_p28 : lw_okq (⟨"MajorityMapModel", "cast", "(IIII)V"⟩, 42) := ⟨⟨by decide +kernel, by decide +kernel⟩, List.mem_of_getElem? (i := 659) (by decide +kernel), List.mem_of_getElem? (i := 842) (by decide +kernel), List.mem_of_getElem? (i := 843) (by decide +kernel)⟩
theorem lw_p29 : lw_okq (⟨"MajorityMapModel", "mailAll", "(IIIIII)V"⟩, 42) := ⟨⟨by decide +kernel, by decide +kernel⟩, List.mem_of_getElem? (i := 659) (by decide +kernel), List.mem_of_getElem? (i := 846) (by decide +kernel), List.mem_of_getElem? (i := 847) (by decide +kernel)⟩
theorem lw_p30 : lw_okq (⟨"MajorityMapModel", "mail", "(IIIIII)V"⟩, 42) := ⟨⟨by decide +kernel, by decide +kernel⟩, List.mem_of_getElem? (i := 659) (by decide +kernel), List.mem_of_getElem? (i := 850) (by decide +kernel), List.mem_of_getElem? (i := 851) (by decide +kernel)⟩
theorem lw_p31 : lw_okq (⟨"MajorityMapModel", "begin", "(I)V"⟩, 42) := ⟨⟨by decide +kernel, by decide +kernel⟩, List.mem_of_getElem? (i := 659) (by decide +kernel), List.mem_of_getElem? (i := 858) (by decide +kernel), List.mem_of_getElem? (i := 859) (by decide +kernel)⟩
def lw_privs_2 : List (MethodName × Nat) := [(⟨"MajorityMap$Replica", "goOn", "()V"⟩, 10), (⟨"MajorityMap$Replica", "execute", "(I)V"⟩, 10), (⟨"MajorityMap$State", "act", "(ILMajorityMap$Request;)V"⟩, 7), (⟨"MajorityMap$Replica", "commandDueFor", "(I)I"⟩, 10), (⟨"MajorityMapModel", "isUp", "(I)Z"⟩, 42), (⟨"MajorityMapModel", "replay", "(I)V"⟩, 42), (⟨"MajorityMapModel", "act", "(II)I"⟩, 42), (⟨"MajorityMapModel", "hear", "(I)V"⟩, 42), (⟨"MajorityMapModel", "campaigns", "(I)Z"⟩, 42), (⟨"MajorityMapModel", "knows", "(II)Z"⟩, 42), (⟨"MajorityMapModel", "membersOf", "(II)I"⟩, 42), (⟨"MajorityMapModel", "propose", "(III)V"⟩, 42), (⟨"MajorityMapModel", "cast", "(IIII)V"⟩, 42), (⟨"MajorityMapModel", "mailAll", "(IIIIII)V"⟩, 42), (⟨"MajorityMapModel", "mail", "(IIIIII)V"⟩, 42), (⟨"MajorityMapModel", "begin", "(I)V"⟩, 42)]
theorem lw_r2 : ∀ q ∈ lw_privs_2, lw_okq q := List.forall_mem_cons.mpr ⟨lw_p16, List.forall_mem_cons.mpr ⟨lw_p17, List.forall_mem_cons.mpr ⟨lw_p18, List.forall_mem_cons.mpr ⟨lw_p19, List.forall_mem_cons.mpr ⟨lw_p20, List.forall_mem_cons.mpr ⟨lw_p21, List.forall_mem_cons.mpr ⟨lw_p22, List.forall_mem_cons.mpr ⟨lw_p23, List.forall_mem_cons.mpr ⟨lw_p24, List.forall_mem_cons.mpr ⟨lw_p25, List.forall_mem_cons.mpr ⟨lw_p26, List.forall_mem_cons.mpr ⟨lw_p27, List.forall_mem_cons.mpr ⟨lw_p28, List.forall_mem_cons.mpr ⟨lw_p29, List.forall_mem_cons.mpr ⟨lw_p30, List.forall_mem_cons.mpr ⟨lw_p31, fun _ h => absurd h List.not_mem_nil⟩⟩⟩⟩⟩⟩⟩⟩⟩⟩⟩⟩⟩⟩⟩⟩
theorem lw_p32 : lw_okq (⟨"MajorityMapModel", "remove", "(I)V"⟩, 42) := ⟨⟨by decide +kernel, by decide +kernel⟩, List.mem_of_getElem? (i := 659) (by decide +kernel), List.mem_of_getElem? (i := 867) (by decide +kernel), List.mem_of_getElem? (i := 868) (by decide +kernel)⟩
theorem lw_p33 : lw_okq (⟨"MajorityMapModel", "move", "(II)V"⟩, 42) := ⟨⟨by decide +kernel, by decide +kernel⟩, List.mem_of_getElem? (i := 659) (by decide +kernel), List.mem_of_getElem? (i := 871) (by decide +kernel), List.mem_of_getElem? (i := 872) (by decide +kernel)⟩
theorem lw_p34 : lw_okq (⟨"MajorityMapModel", "receive", "(II)V"⟩, 42) := ⟨⟨by decide +kernel, by decide +kernel⟩, List.mem_of_getElem? (i := 659) (by decide +kernel), List.mem_of_getElem? (i := 875) (by decide +kernel), List.mem_of_getElem? (i := 876) (by decide +kernel)⟩
theorem lw_p35 : lw_okq (⟨"MajorityMapModel", "onPrepare", "(I)V"⟩, 42) := ⟨⟨by decide +kernel, by decide +kernel⟩, List.mem_of_getElem? (i := 659) (by decide +kernel), List.mem_of_getElem? (i := 879) (by decide +kernel), List.mem_of_getElem? (i := 880) (by decide +kernel)⟩
theorem lw_p36 : lw_okq (⟨"MajorityMapModel", "onPromise", "(I)V"⟩, 42) := ⟨⟨by decide +kernel, by decide +kernel⟩, List.mem_of_getElem? (i := 659) (by decide +kernel), List.mem_of_getElem? (i := 883) (by decide +kernel), List.mem_of_getElem? (i := 884) (by decide +kernel)⟩
theorem lw_p37 : lw_okq (⟨"MajorityMapModel", "install", "(II)V"⟩, 42) := ⟨⟨by decide +kernel, by decide +kernel⟩, List.mem_of_getElem? (i := 659) (by decide +kernel), List.mem_of_getElem? (i := 887) (by decide +kernel), List.mem_of_getElem? (i := 888) (by decide +kernel)⟩
theorem lw_p38 : lw_okq (⟨"MajorityMapModel", "forget", "(II)I"⟩, 42) := ⟨⟨by decide +kernel, by decide +kernel⟩, List.mem_of_getElem? (i := 659) (by decide +kernel), List.mem_of_getElem? (i := 891) (by decide +kernel), List.mem_of_getElem? (i := 892) (by decide +kernel)⟩
theorem lw_p39 : lw_okq (⟨"MajorityMapModel", "goOn", "(I)V"⟩, 42) := ⟨⟨by decide +kernel, by decide +kernel⟩, List.mem_of_getElem? (i := 659) (by decide +kernel), List.mem_of_getElem? (i := 895) (by decide +kernel), List.mem_of_getElem? (i := 896) (by decide +kernel)⟩
theorem lw_p40 : lw_okq (⟨"MajorityMapModel", "above", "(II)Z"⟩, 42) := ⟨⟨by decide +kernel, by decide +kernel⟩, List.mem_of_getElem? (i := 659) (by decide +kernel), List.mem_of_getElem? (i := 899) (by decide +kernel), List.mem_of_getElem? (i := 900) (by decide +kernel)⟩
theorem lw_p41 : lw_okq (⟨"MajorityMapModel", "onAccept", "(I)V"⟩, 42) := ⟨⟨by decide +kernel, by decide +kernel⟩, List.mem_of_getElem? (i := 659) (by decide +kernel), List.mem_of_getElem? (i := 903) (by decide +kernel), List.mem_of_getElem? (i := 904) (by decide +kernel)⟩
theorem lw_p42 : lw_okq (⟨"MajorityMapModel", "onVoted", "(I)V"⟩, 42) := ⟨⟨by decide +kernel, by decide +kernel⟩, List.mem_of_getElem? (i := 659) (by decide +kernel), List.mem_of_getElem? (i := 907) (by decide +kernel), List.mem_of_getElem? (i := 908) (by decide +kernel)⟩
theorem lw_p43 : lw_okq (⟨"MajorityMapModel", "onLearn", "(I)V"⟩, 42) := ⟨⟨by decide +kernel, by decide +kernel⟩, List.mem_of_getElem? (i := 659) (by decide +kernel), List.mem_of_getElem? (i := 911) (by decide +kernel), List.mem_of_getElem? (i := 912) (by decide +kernel)⟩
theorem lw_p44 : lw_okq (⟨"MajorityMapModel", "load", "(I)I"⟩, 42) := ⟨⟨by decide +kernel, by decide +kernel⟩, List.mem_of_getElem? (i := 659) (by decide +kernel), List.mem_of_getElem? (i := 947) (by decide +kernel), List.mem_of_getElem? (i := 948) (by decide +kernel)⟩
def lw_privs_3 : List (MethodName × Nat) := [(⟨"MajorityMapModel", "remove", "(I)V"⟩, 42), (⟨"MajorityMapModel", "move", "(II)V"⟩, 42), (⟨"MajorityMapModel", "receive", "(II)V"⟩, 42), (⟨"MajorityMapModel", "onPrepare", "(I)V"⟩, 42), (⟨"MajorityMapModel", "onPromise", "(I)V"⟩, 42), (⟨"MajorityMapModel", "install", "(II)V"⟩, 42), (⟨"MajorityMapModel", "forget", "(II)I"⟩, 42), (⟨"MajorityMapModel", "goOn", "(I)V"⟩, 42), (⟨"MajorityMapModel", "above", "(II)Z"⟩, 42), (⟨"MajorityMapModel", "onAccept", "(I)V"⟩, 42), (⟨"MajorityMapModel", "onVoted", "(I)V"⟩, 42), (⟨"MajorityMapModel", "onLearn", "(I)V"⟩, 42), (⟨"MajorityMapModel", "load", "(I)I"⟩, 42)]
theorem lw_r3 : ∀ q ∈ lw_privs_3, lw_okq q := List.forall_mem_cons.mpr ⟨lw_p32, List.forall_mem_cons.mpr ⟨lw_p33, List.forall_mem_cons.mpr ⟨lw_p34, List.forall_mem_cons.mpr ⟨lw_p35, List.forall_mem_cons.mpr ⟨lw_p36, List.forall_mem_cons.mpr ⟨lw_p37, List.forall_mem_cons.mpr ⟨lw_p38, List.forall_mem_cons.mpr ⟨lw_p39, List.forall_mem_cons.mpr ⟨lw_p40, List.forall_mem_cons.mpr ⟨lw_p41, List.forall_mem_cons.mpr ⟨lw_p42, List.forall_mem_cons.mpr ⟨lw_p43, List.forall_mem_cons.mpr ⟨lw_p44, fun _ h => absurd h List.not_mem_nil⟩⟩⟩⟩⟩⟩⟩⟩⟩⟩⟩⟩⟩
def lw_privs : List (MethodName × Nat) := lw_privs_1 ++ (lw_privs_2 ++ (lw_privs_3))
def lw_tbl : List Cond := k2_sels lw_privs ++ tables_1
theorem lw_privs_ok : ∀ q ∈ lw_privs, lw_okq q := by
  show ∀ q ∈ lw_privs_1 ++ (lw_privs_2 ++ (lw_privs_3)), lw_okq q
  exact List.forall_mem_append.mpr ⟨lw_r1, List.forall_mem_append.mpr ⟨lw_r2, lw_r3⟩⟩
end
section
/-! Tables of the small machine, by program (wip/whole/tools/gen.py) out of the Statement: classes and fields, methods, linked code. -/
def xR : Nat → String := fun c => match c with
  | 0 => "MajorityMap$Campaign"
  | 1 => "MajorityMap$Client"
  | 2 => "MajorityMap$Commands"
  | 3 => "MajorityMap$Message"
  | 4 => "MajorityMap$Net"
  | 5 => "MajorityMap$Replica"
  | 6 => "MajorityMap$Request"
  | 7 => "MajorityMap$State"
  | 8 => "MajorityMap$Votes"
  | 9 => "MajorityMap"
  | 10 => "MajorityMapModel"
  | 11 => "java/lang/Integer"
  | 12 => "java/lang/Long"
  | 13 => "java/lang/Math"
  | 14 => "java/util/Arrays"
  | _ => ""
def xT0 : u_T := fun k => match k with
  | 0 => ("MajorityMap$Campaign", "ballot", "I", false)
  | 1 => ("MajorityMap$Campaign", "supporters", "I", false)
  | 2 => ("MajorityMap$Campaign", "collected", "LMajorityMap$Votes;", true)
  | 3 => ("MajorityMap$Campaign", "proposed", "LMajorityMap$Commands;", true)
  | _ => ("MajorityMap$Campaign", "voters", "[I", true)
def xy0 : Nat → FieldType := fun k => match k with
  | 0 => .int
  | 1 => .int
  | 2 => .object "MajorityMap$Votes"
  | 3 => .object "MajorityMap$Commands"
  | _ => .array .int
def xT1 : u_T := fun k => match k with
  | 0 => ("MajorityMap$Client", "requests", "[LMajorityMap$Request;", true)
  | _ => ("MajorityMap$Client", "count", "I", false)
def xy1 : Nat → FieldType := fun k => match k with
  | 0 => .array (.object "MajorityMap$Request")
  | _ => .int
def xT2 : u_T := fun k => match k with
  | _ => ("MajorityMap$Commands", "commands", "[I", true)
def xy2 : Nat → FieldType := fun k => match k with
  | _ => .array .int
def xT3 : u_T := fun k => match k with
  | 0 => ("MajorityMap$Message", "kind", "I", true)
  | 1 => ("MajorityMap$Message", "from", "I", true)
  | 2 => ("MajorityMap$Message", "to", "I", true)
  | 3 => ("MajorityMap$Message", "ballot", "I", true)
  | 4 => ("MajorityMap$Message", "slot", "I", true)
  | 5 => ("MajorityMap$Message", "command", "I", true)
  | 6 => ("MajorityMap$Message", "votes", "LMajorityMap$Votes;", true)
  | _ => ("MajorityMap$Message", "state", "LMajorityMap$State;", true)
def xy3 : Nat → FieldType := fun k => match k with
  | 0 => .int
  | 1 => .int
  | 2 => .int
  | 3 => .int
  | 4 => .int
  | 5 => .int
  | 6 => .object "MajorityMap$Votes"
  | _ => .object "MajorityMap$State"
def xT4 : u_T := fun k => match k with
  | 0 => ("MajorityMap$Net", "messages", "[LMajorityMap$Message;", true)
  | _ => ("MajorityMap$Net", "count", "I", false)
def xy4 : Nat → FieldType := fun k => match k with
  | 0 => .array (.object "MajorityMap$Message")
  | _ => .int
def xT5 : u_T := fun k => match k with
  | 0 => ("MajorityMap$Replica", "id", "I", true)
  | 1 => ("MajorityMap$Replica", "client", "LMajorityMap$Client;", true)
  | 2 => ("MajorityMap$Replica", "net", "LMajorityMap$Net;", true)
  | 3 => ("MajorityMap$Replica", "up", "Z", false)
  | 4 => ("MajorityMap$Replica", "promised", "I", false)
  | 5 => ("MajorityMap$Replica", "votes", "LMajorityMap$Votes;", true)
  | 6 => ("MajorityMap$Replica", "snapshot", "LMajorityMap$State;", false)
  | 7 => ("MajorityMap$Replica", "present", "LMajorityMap$State;", false)
  | 8 => ("MajorityMap$Replica", "known", "LMajorityMap$Commands;", true)
  | _ => ("MajorityMap$Replica", "campaign", "LMajorityMap$Campaign;", true)
def xy5 : Nat → FieldType := fun k => match k with
  | 0 => .int
  | 1 => .object "MajorityMap$Client"
  | 2 => .object "MajorityMap$Net"
  | 3 => .boolean
  | 4 => .int
  | 5 => .object "MajorityMap$Votes"
  | 6 => .object "MajorityMap$State"
  | 7 => .object "MajorityMap$State"
  | 8 => .object "MajorityMap$Commands"
  | _ => .object "MajorityMap$Campaign"
def xT6 : u_T := fun k => match k with
  | 0 => ("MajorityMap$Request", "kind", "I", true)
  | 1 => ("MajorityMap$Request", "key", "I", true)
  | 2 => ("MajorityMap$Request", "v", "I", true)
  | 3 => ("MajorityMap$Request", "latestAnswer", "I", false)
  | _ => ("MajorityMap$Request", "timesAnswered", "I", false)
def xy6 : Nat → FieldType := fun k => match k with
  | 0 => .int
  | 1 => .int
  | 2 => .int
  | 3 => .int
  | _ => .int
def xT7 : u_T := fun k => match k with
  | 0 => ("MajorityMap$State", "slot", "I", true)
  | 1 => ("MajorityMap$State", "values", "[I", true)
  | 2 => ("MajorityMap$State", "answers", "[I", true)
  | 3 => ("MajorityMap$State", "done", "J", false)
  | 4 => ("MajorityMap$State", "newestMembers", "I", false)
  | 5 => ("MajorityMap$State", "middleMembers", "I", true)
  | _ => ("MajorityMap$State", "oldestMembers", "I", true)
def xy7 : Nat → FieldType := fun k => match k with
  | 0 => .int
  | 1 => .array .int
  | 2 => .array .int
  | 3 => .long
  | 4 => .int
  | 5 => .int
  | _ => .int
def xT8 : u_T := fun k => match k with
  | 0 => ("MajorityMap$Votes", "ballots", "[I", true)
  | _ => ("MajorityMap$Votes", "commands", "[I", true)
def xy8 : Nat → FieldType := fun k => match k with
  | 0 => .array .int
  | _ => .array .int
def xT9 : u_T := fun k => match k with
  | 0 => ("MajorityMap", "client", "LMajorityMap$Client;", true)
  | 1 => ("MajorityMap", "net", "LMajorityMap$Net;", true)
  | _ => ("MajorityMap", "replicas", "[LMajorityMap$Replica;", true)
def xy9 : Nat → FieldType := fun k => match k with
  | 0 => .object "MajorityMap$Client"
  | 1 => .object "MajorityMap$Net"
  | _ => .array (.object "MajorityMap$Replica")
def xT10 : u_T := fun k => match k with
  | 0 => ("MajorityMapModel", "requests", "I", false)
  | 1 => ("MajorityMapModel", "kindOf", "[I", true)
  | 2 => ("MajorityMapModel", "keyOf", "[I", true)
  | 3 => ("MajorityMapModel", "numberOf", "[I", true)
  | 4 => ("MajorityMapModel", "heardOf", "[I", true)
  | 5 => ("MajorityMapModel", "replyOf", "[I", true)
  | 6 => ("MajorityMapModel", "chosen", "[I", true)
  | 7 => ("MajorityMapModel", "up", "I", false)
  | 8 => ("MajorityMapModel", "promised", "[I", true)
  | 9 => ("MajorityMapModel", "floor", "[I", true)
  | 10 => ("MajorityMapModel", "executed", "[I", true)
  | 11 => ("MajorityMapModel", "known", "[I", true)
  | 12 => ("MajorityMapModel", "voteBallot", "[I", true)
  | 13 => ("MajorityMapModel", "voteCommand", "[I", true)
  | 14 => ("MajorityMapModel", "ballot", "[I", true)
  | 15 => ("MajorityMapModel", "heardFrom", "[I", true)
  | 16 => ("MajorityMapModel", "takenBallot", "[I", true)
  | 17 => ("MajorityMapModel", "takenCommand", "[I", true)
  | 18 => ("MajorityMapModel", "offered", "[I", true)
  | 19 => ("MajorityMapModel", "voters", "[I", true)
  | 20 => ("MajorityMapModel", "waits", "I", false)
  | 21 => ("MajorityMapModel", "put", "I", false)
  | 22 => ("MajorityMapModel", "mKind", "[I", true)
  | 23 => ("MajorityMapModel", "mFrom", "[I", true)
  | 24 => ("MajorityMapModel", "mTo", "[I", true)
  | 25 => ("MajorityMapModel", "mBallot", "[I", true)
  | 26 => ("MajorityMapModel", "mNumber", "[I", true)
  | 27 => ("MajorityMapModel", "mCommand", "[I", true)
  | 28 => ("MajorityMapModel", "mUpTo", "[I", true)
  | 29 => ("MajorityMapModel", "mVoteBallot", "[I", true)
  | 30 => ("MajorityMapModel", "mVoteCommand", "[I", true)
  | 31 => ("MajorityMapModel", "from", "I", false)
  | 32 => ("MajorityMapModel", "bearing", "I", false)
  | 33 => ("MajorityMapModel", "number", "I", false)
  | 34 => ("MajorityMapModel", "command", "I", false)
  | 35 => ("MajorityMapModel", "upTo", "I", false)
  | 36 => ("MajorityMapModel", "cameBallot", "[I", true)
  | 37 => ("MajorityMapModel", "cameCommand", "[I", true)
  | 38 => ("MajorityMapModel", "values", "[I", true)
  | 39 => ("MajorityMapModel", "done", "[Z", true)
  | 40 => ("MajorityMapModel", "answers", "[I", true)
  | _ => ("MajorityMapModel", "members", "[I", true)
def xy10 : Nat → FieldType := fun k => match k with
  | 0 => .int
  | 1 => .array .int
  | 2 => .array .int
  | 3 => .array .int
  | 4 => .array .int
  | 5 => .array .int
  | 6 => .array .int
  | 7 => .int
  | 8 => .array .int
  | 9 => .array .int
  | 10 => .array .int
  | 11 => .array .int
  | 12 => .array .int
  | 13 => .array .int
  | 14 => .array .int
  | 15 => .array .int
  | 16 => .array .int
  | 17 => .array .int
  | 18 => .array .int
  | 19 => .array .int
  | 20 => .int
  | 21 => .int
  | 22 => .array .int
  | 23 => .array .int
  | 24 => .array .int
  | 25 => .array .int
  | 26 => .array .int
  | 27 => .array .int
  | 28 => .array .int
  | 29 => .array .int
  | 30 => .array .int
  | 31 => .int
  | 32 => .int
  | 33 => .int
  | 34 => .int
  | 35 => .int
  | 36 => .array .int
  | 37 => .array .int
  | 38 => .array .int
  | 39 => .array .boolean
  | 40 => .array .int
  | _ => .array .int
def xT : Nat → u_T := fun c => match c with
  | 0 => xT0
  | 1 => xT1
  | 2 => xT2
  | 3 => xT3
  | 4 => xT4
  | 5 => xT5
  | 6 => xT6
  | 7 => xT7
  | 8 => xT8
  | 9 => xT9
  | 10 => xT10
  | _ => fun _ => ("", "", "", false)
def xy : Nat → (Nat → FieldType) := fun c => match c with
  | 0 => xy0
  | 1 => xy1
  | 2 => xy2
  | 3 => xy3
  | 4 => xy4
  | 5 => xy5
  | 6 => xy6
  | 7 => xy7
  | 8 => xy8
  | 9 => xy9
  | 10 => xy10
  | _ => fun _ => .int
def xN : Nat → Nat := fun c => match c with
  | 0 => 5
  | 1 => 2
  | 2 => 1
  | 3 => 8
  | 4 => 2
  | 5 => 10
  | 6 => 5
  | 7 => 7
  | 8 => 2
  | 9 => 3
  | 10 => 42
  | _ => 0
def xcl : List vw_C := [(xR 0, xT 0, xN 0), (xR 1, xT 1, xN 1), (xR 2, xT 2, xN 2), (xR 3, xT 3, xN 3), (xR 4, xT 4, xN 4), (xR 5, xT 5, xN 5), (xR 6, xT 6, xN 6), (xR 7, xT 7, xN 7), (xR 8, xT 8, xN 8), (xR 9, xT 9, xN 9), (xR 10, xT 10, xN 10)]
/-- element types of arrays: int, boolean, three classes -/
def x_ty : Nat → FieldType := fun t => match t with
  | 0 => .int
  | 1 => .boolean
  | 2 => .object (xR 6)
  | 3 => .object (xR 3)
  | _ => .object (xR 5)
def x_ec : Nat → Nat := fun t => match t with
  | 2 => 6
  | 3 => 3
  | 4 => 5
  | _ => 99
def x_kB : Nat := 142
/-- methods: name, code, locals, what is returned, class -/
def x_mL : List (MethodName × Nat × Option FieldType × Nat) := [
  (⟨"MajorityMap$Campaign", "<init>", "()V"⟩, 1, none, 0),
  (⟨"MajorityMap$Campaign", "propose", "(II)V"⟩, 3, none, 0),
  (⟨"MajorityMap$Campaign", "addVoter", "(II)V"⟩, 3, none, 0),
  (⟨"MajorityMap$Campaign", "votersFor", "(I)I"⟩, 2, some .int, 0),
  (⟨"MajorityMap$Campaign", "begin", "(IILMajorityMap$Votes;)V"⟩, 4, none, 0),
  (⟨"MajorityMap$Campaign", "end", "()V"⟩, 1, none, 0),
  (⟨"MajorityMap$Client", "<init>", "()V"⟩, 1, none, 1),
  (⟨"MajorityMap$Client", "add", "(LMajorityMap$Request;)I"⟩, 2, some .int, 1),
  (⟨"MajorityMap$Client", "find", "(I)LMajorityMap$Request;"⟩, 2, some (.object "MajorityMap$Request"), 1),
  (⟨"MajorityMap$Client", "hear", "(II)V"⟩, 4, none, 1),
  (⟨"MajorityMap$Commands", "<init>", "()V"⟩, 1, none, 2),
  (⟨"MajorityMap$Commands", "hasCommandAbove", "(II)Z"⟩, 4, some .boolean, 2),
  (⟨"MajorityMap$Commands", "at", "(I)I"⟩, 2, some .int, 2),
  (⟨"MajorityMap$Commands", "has", "(I)Z"⟩, 2, some .boolean, 2),
  (⟨"MajorityMap$Commands", "put", "(II)V"⟩, 3, none, 2),
  (⟨"MajorityMap$Commands", "forgetUpTo", "(I)V"⟩, 3, none, 2),
  (⟨"MajorityMap$Commands", "hasAbove", "(I)Z"⟩, 3, some .boolean, 2),
  (⟨"MajorityMap$Message", "<init>", "(IIIIII)V"⟩, 7, none, 3),
  (⟨"MajorityMap$Message", "<init>", "(IIIILMajorityMap$Votes;LMajorityMap$State;)V"⟩, 7, none, 3),
  (⟨"MajorityMap$Message", "number", "()I"⟩, 1, some .int, 3),
  (⟨"MajorityMap$Message", "load", "()I"⟩, 1, some .int, 3),
  (⟨"MajorityMap$Net", "<init>", "()V"⟩, 1, none, 4),
  (⟨"MajorityMap$Net", "put", "(LMajorityMap$Message;)Z"⟩, 2, some .boolean, 4),
  (⟨"MajorityMap$Net", "size", "()I"⟩, 1, some .int, 4),
  (⟨"MajorityMap$Net", "take", "(I)LMajorityMap$Message;"⟩, 4, some (.object "MajorityMap$Message"), 4),
  (⟨"MajorityMap$Net", "at", "(I)LMajorityMap$Message;"⟩, 2, some (.object "MajorityMap$Message"), 4),
  (⟨"MajorityMap$Replica", "<init>", "(ILMajorityMap$Client;LMajorityMap$Net;LMajorityMap$State;)V"⟩, 5, none, 5),
  (⟨"MajorityMap$Replica", "takeRequest", "(I)I"⟩, 4, some .int, 5),
  (⟨"MajorityMap$Replica", "campaigns", "()Z"⟩, 1, some .boolean, 5),
  (⟨"MajorityMap$Replica", "firstOpenAhead", "()I"⟩, 3, some .int, 5),
  (⟨"MajorityMap$Replica", "isOpen", "(I)Z"⟩, 2, some .boolean, 5),
  (⟨"MajorityMap$Replica", "isSupportedFor", "(I)Z"⟩, 2, some .boolean, 5),
  (⟨"MajorityMap$Replica", "propose", "(II)V"⟩, 4, none, 5),
  (⟨"MajorityMap$Replica", "others", "()I"⟩, 1, some .int, 5),
  (⟨"MajorityMap$Replica", "sendToEach", "(IIIII)V"⟩, 7, none, 5),
  (⟨"MajorityMap$Replica", "strike", "()V"⟩, 2, none, 5),
  (⟨"MajorityMap$Replica", "repeatProposals", "()V"⟩, 4, none, 5),
  (⟨"MajorityMap$Replica", "leastBallotAbove", "(I)I"⟩, 3, some .int, 5),
  (⟨"MajorityMap$Replica", "receive", "(LMajorityMap$Message;)V"⟩, 3, none, 5),
  (⟨"MajorityMap$Replica", "onPrepare", "(LMajorityMap$Message;)V"⟩, 2, none, 5),
  (⟨"MajorityMap$Replica", "refuse", "(I)V"⟩, 2, none, 5),
  (⟨"MajorityMap$Replica", "onPromise", "(LMajorityMap$Message;)Z"⟩, 2, some .boolean, 5),
  (⟨"MajorityMap$Replica", "install", "(LMajorityMap$State;)V"⟩, 2, none, 5),
  (⟨"MajorityMap$Replica", "keepSnapshot", "(LMajorityMap$State;)I"⟩, 3, some .int, 5),
  (⟨"MajorityMap$Replica", "onAccept", "(LMajorityMap$Message;)V"⟩, 2, none, 5),
  (⟨"MajorityMap$Replica", "onVoted", "(LMajorityMap$Message;)Z"⟩, 4, some .boolean, 5),
  (⟨"MajorityMap$Replica", "onLearn", "(LMajorityMap$Message;)Z"⟩, 2, some .boolean, 5),
  (⟨"MajorityMap$Replica", "onFetch", "(LMajorityMap$Message;)V"⟩, 2, none, 5),
  (⟨"MajorityMap$Replica", "goOn", "()V"⟩, 4, none, 5),
  (⟨"MajorityMap$Replica", "execute", "(I)V"⟩, 2, none, 5),
  (⟨"MajorityMap$Replica", "commandDueFor", "(I)I"⟩, 3, some .int, 5),
  (⟨"MajorityMap$Replica", "goDown", "()V"⟩, 1, none, 5),
  (⟨"MajorityMap$Replica", "leads", "()Z"⟩, 1, some .boolean, 5),
  (⟨"MajorityMap$Request", "<init>", "(III)V"⟩, 4, none, 6),
  (⟨"MajorityMap$State", "<init>", "()V"⟩, 1, none, 7),
  (⟨"MajorityMap$State", "isDone", "(I)Z"⟩, 2, some .boolean, 7),
  (⟨"MajorityMap$State", "answerOf", "(I)I"⟩, 2, some .int, 7),
  (⟨"MajorityMap$State", "membershipOf", "(I)I"⟩, 2, some .int, 7),
  (⟨"MajorityMap$State", "membersAhead", "()I"⟩, 1, some .int, 7),
  (⟨"MajorityMap$State", "after", "(ILMajorityMap$Request;)LMajorityMap$State;"⟩, 4, some (.object "MajorityMap$State"), 7),
  (⟨"MajorityMap$State", "<init>", "(LMajorityMap$State;)V"⟩, 2, none, 7),
  (⟨"MajorityMap$State", "act", "(ILMajorityMap$Request;)V"⟩, 4, none, 7),
  (⟨"MajorityMap$State", "countDone", "()I"⟩, 1, some .int, 7),
  (⟨"MajorityMap$Votes", "<init>", "()V"⟩, 1, none, 8),
  (⟨"MajorityMap$Votes", "put", "(III)V"⟩, 4, none, 8),
  (⟨"MajorityMap$Votes", "forgetUpTo", "(I)V"⟩, 3, none, 8),
  (⟨"MajorityMap$Votes", "merge", "(LMajorityMap$Votes;)V"⟩, 3, none, 8),
  (⟨"MajorityMap$Votes", "ballotOf", "(I)I"⟩, 2, some .int, 8),
  (⟨"MajorityMap$Votes", "has", "(I)Z"⟩, 2, some .boolean, 8),
  (⟨"MajorityMap$Votes", "commandOf", "(I)I"⟩, 2, some .int, 8),
  (⟨"MajorityMap$Votes", "duplicate", "()LMajorityMap$Votes;"⟩, 2, some (.object "MajorityMap$Votes"), 8),
  (⟨"MajorityMap$Votes", "countUpTo", "(I)I"⟩, 4, some .int, 8),
  (⟨"MajorityMap$Votes", "hasAbove", "(I)Z"⟩, 3, some .boolean, 8),
  (⟨"MajorityMap", "<init>", "()V"⟩, 3, none, 9),
  (⟨"MajorityMap", "ask", "(III)I"⟩, 4, some .int, 9),
  (⟨"MajorityMap", "isMembership", "(I)Z"⟩, 1, some .boolean, 9),
  (⟨"MajorityMap", "send", "(II)I"⟩, 3, some .int, 9),
  (⟨"MajorityMap", "isReplica", "(I)Z"⟩, 1, some .boolean, 9),
  (⟨"MajorityMap", "isSlot", "(I)Z"⟩, 1, some .boolean, 9),
  (⟨"MajorityMap", "holdsMajority", "(II)Z"⟩, 2, some .boolean, 9),
  (⟨"MajorityMap", "timer", "(I)I"⟩, 3, some .int, 9),
  (⟨"MajorityMap", "deliver", "(I)I"⟩, 5, some .int, 9),
  (⟨"MajorityMap", "drop", "(I)Z"⟩, 2, some .boolean, 9),
  (⟨"MajorityMap", "copy", "(I)Z"⟩, 3, some .boolean, 9),
  (⟨"MajorityMap", "crash", "(I)Z"⟩, 2, some .boolean, 9),
  (⟨"MajorityMap", "restart", "(I)Z"⟩, 2, some .boolean, 9),
  (⟨"MajorityMap", "cut", "(I)I"⟩, 2, some .int, 9),
  (⟨"MajorityMap", "fetch", "(II)Z"⟩, 3, some .boolean, 9),
  (⟨"MajorityMap", "waiting", "()I"⟩, 1, some .int, 9),
  (⟨"MajorityMap", "message", "(II)I"⟩, 4, some .int, 9),
  (⟨"MajorityMap", "look", "(II)I"⟩, 4, some .int, 9),
  (⟨"MajorityMap", "value", "(II)I"⟩, 3, some .int, 9),
  (⟨"MajorityMap", "vote", "(II)I"⟩, 4, some .int, 9),
  (⟨"MajorityMap", "reply", "(I)I"⟩, 3, some .int, 9),
  (⟨"MajorityMap", "heard", "(I)I"⟩, 3, some .int, 9),
  (⟨"MajorityMapModel", "<init>", "()V"⟩, 2, none, 10),
  (⟨"MajorityMapModel", "ask", "(III)I"⟩, 4, some .int, 10),
  (⟨"MajorityMapModel", "count", "(I)I"⟩, 3, some .int, 10),
  (⟨"MajorityMapModel", "send", "(II)I"⟩, 7, some .int, 10),
  (⟨"MajorityMapModel", "replica", "(I)Z"⟩, 1, some .boolean, 10),
  (⟨"MajorityMapModel", "isUp", "(I)Z"⟩, 2, some .boolean, 10),
  (⟨"MajorityMapModel", "replay", "(I)V"⟩, 4, none, 10),
  (⟨"MajorityMapModel", "act", "(II)I"⟩, 5, some .int, 10),
  (⟨"MajorityMapModel", "hear", "(I)V"⟩, 2, none, 10),
  (⟨"MajorityMapModel", "campaigns", "(I)Z"⟩, 2, some .boolean, 10),
  (⟨"MajorityMapModel", "knows", "(II)Z"⟩, 3, some .boolean, 10),
  (⟨"MajorityMapModel", "membersOf", "(II)I"⟩, 3, some .int, 10),
  (⟨"MajorityMapModel", "majority", "(II)Z"⟩, 2, some .boolean, 10),
  (⟨"MajorityMapModel", "propose", "(III)V"⟩, 5, none, 10),
  (⟨"MajorityMapModel", "cast", "(IIII)V"⟩, 5, none, 10),
  (⟨"MajorityMapModel", "mailAll", "(IIIIII)V"⟩, 8, none, 10),
  (⟨"MajorityMapModel", "mail", "(IIIIII)V"⟩, 9, none, 10),
  (⟨"MajorityMapModel", "timer", "(I)I"⟩, 7, some .int, 10),
  (⟨"MajorityMapModel", "begin", "(I)V"⟩, 4, none, 10),
  (⟨"MajorityMapModel", "deliver", "(I)I"⟩, 5, some .int, 10),
  (⟨"MajorityMapModel", "remove", "(I)V"⟩, 3, none, 10),
  (⟨"MajorityMapModel", "move", "(II)V"⟩, 4, none, 10),
  (⟨"MajorityMapModel", "receive", "(II)V"⟩, 3, none, 10),
  (⟨"MajorityMapModel", "onPrepare", "(I)V"⟩, 2, none, 10),
  (⟨"MajorityMapModel", "onPromise", "(I)V"⟩, 4, none, 10),
  (⟨"MajorityMapModel", "install", "(II)V"⟩, 3, none, 10),
  (⟨"MajorityMapModel", "forget", "(II)I"⟩, 5, some .int, 10),
  (⟨"MajorityMapModel", "goOn", "(I)V"⟩, 5, none, 10),
  (⟨"MajorityMapModel", "above", "(II)Z"⟩, 5, some .boolean, 10),
  (⟨"MajorityMapModel", "onAccept", "(I)V"⟩, 2, none, 10),
  (⟨"MajorityMapModel", "onVoted", "(I)V"⟩, 5, none, 10),
  (⟨"MajorityMapModel", "onLearn", "(I)V"⟩, 2, none, 10),
  (⟨"MajorityMapModel", "drop", "(I)Z"⟩, 2, some .boolean, 10),
  (⟨"MajorityMapModel", "copy", "(I)Z"⟩, 2, some .boolean, 10),
  (⟨"MajorityMapModel", "crash", "(I)Z"⟩, 2, some .boolean, 10),
  (⟨"MajorityMapModel", "restart", "(I)Z"⟩, 2, some .boolean, 10),
  (⟨"MajorityMapModel", "cut", "(I)I"⟩, 2, some .int, 10),
  (⟨"MajorityMapModel", "fetch", "(II)Z"⟩, 3, some .boolean, 10),
  (⟨"MajorityMapModel", "waiting", "()I"⟩, 1, some .int, 10),
  (⟨"MajorityMapModel", "message", "(II)I"⟩, 3, some .int, 10),
  (⟨"MajorityMapModel", "load", "(I)I"⟩, 4, some .int, 10),
  (⟨"MajorityMapModel", "look", "(II)I"⟩, 5, some .int, 10),
  (⟨"MajorityMapModel", "value", "(II)I"⟩, 3, some .int, 10),
  (⟨"MajorityMapModel", "vote", "(II)I"⟩, 4, some .int, 10),
  (⟨"MajorityMapModel", "reply", "(I)I"⟩, 2, some .int, 10),
  (⟨"MajorityMapModel", "heard", "(I)I"⟩, 2, some .int, 10),
  (⟨"java/lang/Integer", "bitCount", "(I)I"⟩, 1, some .int, 11),
  (⟨"java/lang/Long", "bitCount", "(J)I"⟩, 2, some .int, 12),
  (⟨"java/lang/Math", "floorDiv", "(II)I"⟩, 3, some .int, 13),
  (⟨"java/lang/Math", "max", "(II)I"⟩, 2, some .int, 13),
  (⟨"java/util/Arrays", "fill", "([II)V"⟩, 4, none, 14)]
def x_m (k : Nat) : MethodName × Nat × Option FieldType × Nat := (x_mL[k]?).getD (⟨"", "", ""⟩, 0, none, 0)
def x_nL (k : Nat) : Nat := (x_m k).2.1
def x_rkL : List Nat := [0, 0, 0, 1, 0, 0, 0, 1, 3, 0, 0, 2, 1, 2, 0, 0, 2, 0, 0, 1, 1, 0, 2, 1, 3, 3, 0, 1, 2, 1, 2, 2, 0, 1, 0, 0, 0, 1, 0, 0, 0, 2, 0, 1, 0, 2, 2, 0, 0, 0, 1, 0, 2, 0, 0, 2, 1, 1, 1, 3, 0, 0, 1, 0, 0, 0, 0, 1, 2, 1, 3, 1, 2, 0, 1, 2, 1, 2, 2, 2, 1, 1, 2, 2, 2, 2, 1, 2, 1, 1, 1, 1, 1, 1, 1, 0, 1, 1, 1, 2, 2, 0, 1, 0, 2, 2, 1, 2, 0, 0, 0, 0, 1, 0, 1, 0, 0, 0, 0, 0, 0, 1, 0, 2, 0, 0, 0, 2, 2, 2, 2, 1, 2, 1, 1, 1, 1, 1, 1, 1, 1, 1, 1, 1, 1, 0]
def x_rk (k : Nat) : Nat := (x_rkL[k]?).getD 9
def x_bL : List ByteArray := [prog_2_method_1_code, prog_2_method_4_code, prog_2_method_5_code, prog_2_method_6_code, prog_2_method_2_code, prog_2_method_3_code, prog_3_method_1_code, prog_3_method_2_code, prog_3_method_3_code, prog_3_method_4_code, prog_4_method_1_code, prog_4_method_6_code, prog_4_method_3_code, prog_4_method_2_code, prog_4_method_4_code, prog_4_method_7_code, prog_4_method_5_code, prog_5_method_1_code, prog_5_method_2_code, prog_5_method_3_code, prog_5_method_4_code, prog_6_method_1_code, prog_6_method_4_code, prog_6_method_2_code, prog_6_method_5_code, prog_6_method_3_code, prog_7_method_1_code, prog_7_method_10_code, prog_7_method_2_code, prog_7_method_11_code, prog_7_method_5_code, prog_7_method_4_code, prog_7_method_16_code, prog_7_method_6_code, prog_7_method_15_code, prog_7_method_12_code, prog_7_method_14_code, prog_7_method_13_code, prog_7_method_17_code, prog_7_method_19_code, prog_7_method_18_code, prog_7_method_20_code, prog_7_method_9_code, prog_7_method_8_code, prog_7_method_21_code, prog_7_method_22_code, prog_7_method_23_code, prog_7_method_24_code, prog_7_method_25_code, prog_7_method_26_code, prog_7_method_27_code, prog_7_method_7_code, prog_7_method_3_code, prog_8_method_1_code, prog_9_method_1_code, prog_9_method_5_code, prog_9_method_6_code, prog_9_method_8_code, prog_9_method_9_code, prog_9_method_3_code, prog_9_method_2_code, prog_9_method_4_code, prog_9_method_7_code, prog_10_method_1_code, prog_10_method_5_code, prog_10_method_8_code, prog_10_method_9_code, prog_10_method_3_code, prog_10_method_2_code, prog_10_method_4_code, prog_10_method_10_code, prog_10_method_7_code, prog_10_method_6_code, prog_1_method_1_code, prog_1_method_2_code, prog_1_method_21_code, prog_1_method_3_code, prog_1_method_19_code, prog_1_method_20_code, prog_1_method_22_code, prog_1_method_4_code, prog_1_method_5_code, prog_1_method_6_code, prog_1_method_7_code, prog_1_method_8_code, prog_1_method_9_code, prog_1_method_10_code, prog_1_method_11_code, prog_1_method_12_code, prog_1_method_13_code, prog_1_method_14_code, prog_1_method_15_code, prog_1_method_16_code, prog_1_method_17_code, prog_1_method_18_code, prog_12_method_1_code, prog_12_method_28_code, prog_12_method_5_code, prog_12_method_29_code, prog_12_method_26_code, prog_12_method_27_code, prog_12_method_2_code, prog_12_method_3_code, prog_12_method_9_code, prog_12_method_7_code, prog_12_method_8_code, prog_12_method_4_code, prog_12_method_6_code, prog_12_method_17_code, prog_12_method_16_code, prog_12_method_11_code, prog_12_method_10_code, prog_12_method_30_code, prog_12_method_31_code, prog_12_method_32_code, prog_12_method_13_code, prog_12_method_12_code, prog_12_method_25_code, prog_12_method_20_code, prog_12_method_21_code, prog_12_method_15_code, prog_12_method_14_code, prog_12_method_19_code, prog_12_method_18_code, prog_12_method_22_code, prog_12_method_23_code, prog_12_method_24_code, prog_12_method_33_code, prog_12_method_34_code, prog_12_method_35_code, prog_12_method_36_code, prog_12_method_37_code, prog_12_method_38_code, prog_12_method_39_code, prog_12_method_40_code, prog_12_method_41_code, prog_12_method_42_code, prog_12_method_43_code, prog_12_method_44_code, prog_12_method_45_code, prog_12_method_46_code, prog_14_method_49_code, prog_15_method_50_code, prog_16_method_47_code, prog_16_method_65_code, prog_17_method_103_code]
def x_b (k : Nat) : ByteArray := (x_bL[k]?).getD ⟨#[]⟩
end
section
/-! A small machine over a typed memory, and what it takes to run it. Its soundness (part sound) says: what it does, the JVM does.
    memory: kinds of the cells (array?, class or element type, number of fields or elements), ints, longs, references; a cell's address is its place -/
abbrev xK : Type := Bool × Nat × Nat
abbrev xM : Type := List xK × (Nat → Nat → Int32) × (Nat → Nat → Int64) × (Nat → Nat → Option Nat)
abbrev xL : Type := List (Option Value)
abbrev xC : Type := Nat × xL × List Value × xM
/-- an instruction, linked: the instruction itself, the next place, its constant, its numbers -/
abbrev xE : Type := Instr × Nat × Int32 × List Nat
def x_u {α : Type} (f : Nat → Nat → α) (a j : Nat) (v : α) : Nat → Nat → α := fun b i => if b = a ∧ i = j then v else f b i
def x_w {α : Type} (f : Nat → Nat → α) (a : Nat) (v : α) : Nat → Nat → α := fun b i => if b = a then v else f b i
def x_c {α : Type} (f : Nat → Nat → α) (a b : Nat) : Nat → Nat → α := fun q i => if q = a then f b i else f q i
def x_new (M : xM) (k : xK) : xM := (M.1 ++ [k], x_w M.2.1 M.1.length 0, x_w M.2.2.1 M.1.length 0, x_w M.2.2.2 M.1.length none)
/-- a copy of an array of ints -/
def x_dup (M : xM) (k : xK) (b : Nat) : xM := (M.1 ++ [k], x_c M.2.1 M.1.length b, x_w M.2.2.1 M.1.length 0, x_w M.2.2.2 M.1.length none)
def x_i1 (nx : Nat) (ls : xL) (st : List Value) (M : xM) (v : Value) : Option xC := some (nx, ls, v :: st, M)
def x_i2 (nx : Nat) (ls : xL) (st : List Value) (M : xM) (f : Int32 → Int32 → Int32) : Option xC := match st with
  | .int y :: .int x :: r => some (nx, ls, .int (f x y) :: r, M)
  | _ => none
def x_dv (nx : Nat) (ls : xL) (st : List Value) (M : xM) : Option xC := match st with
  | .int y :: .int x :: r => if y = 0 then none else some (nx, ls, .int (x / y) :: r, M)
  | _ => none
def x_l2 (nx : Nat) (ls : xL) (st : List Value) (M : xM) (f : Int64 → Int64 → Int64) : Option xC := match st with
  | .long y :: .long x :: r => some (nx, ls, .long (f x y) :: r, M)
  | _ => none
def x_ls (nx : Nat) (ls : xL) (st : List Value) (M : xM) (f : Int64 → Int64 → Int64) : Option xC := match st with
  | .int y :: .long x :: r => some (nx, ls, .long (f x (y.toInt64 &&& 63)) :: r, M)
  | _ => none
def x_lc (nx : Nat) (ls : xL) (st : List Value) (M : xM) : Option xC := match st with
  | .long y :: .long x :: r => some (nx, ls, .int (lg_cmp x y) :: r, M)
  | _ => none
def x_ld (nx i : Nat) (ls : xL) (st : List Value) (M : xM) : Option xC := match ls[i]? with
  | some (some (.int x)) => some (nx, ls, .int x :: st, M)
  | _ => none
def x_la (nx i : Nat) (ls : xL) (st : List Value) (M : xM) : Option xC := match ls[i]? with
  | some (some (.ref x)) => some (nx, ls, .ref x :: st, M)
  | some (some .null) => some (nx, ls, .null :: st, M)
  | _ => none
def x_si (nx i : Nat) (ls : xL) (st : List Value) (M : xM) : Option xC := match st with
  | .int x :: r => some (nx, ls.set i (some (.int x)), r, M)
  | _ => none
def x_sa (nx i : Nat) (ls : xL) (st : List Value) (M : xM) : Option xC := match st with
  | .ref x :: r => some (nx, ls.set i (some (.ref x)), r, M)
  | .null :: r => some (nx, ls.set i (some .null), r, M)
  | _ => none
def x_in (nx i : Nat) (c : Int32) (ls : xL) (st : List Value) (M : xM) : Option xC := match ls[i]? with
  | some (some (.int x)) => some (nx, ls.set i (some (.int (x + c))), st, M)
  | _ => none
def x_b1 (nx t : Nat) (ls : xL) (st : List Value) (M : xM) (p : Int32 → Bool) : Option xC := match st with
  | .int x :: r => some (if p x = true then t else nx, ls, r, M)
  | _ => none
def x_b2 (nx t : Nat) (ls : xL) (st : List Value) (M : xM) (p : Int32 → Int32 → Bool) : Option xC := match st with
  | .int y :: .int x :: r => some (if p x y = true then t else nx, ls, r, M)
  | _ => none
def x_nu (nx t : Nat) (ls : xL) (st : List Value) (M : xM) : Option xC := match st with
  | .ref _ :: r => some (nx, ls, r, M)
  | .null :: r => some (t, ls, r, M)
  | _ => none
def x_nn (nx t : Nat) (ls : xL) (st : List Value) (M : xM) : Option xC := match st with
  | .ref _ :: r => some (t, ls, r, M)
  | .null :: r => some (nx, ls, r, M)
  | _ => none
/-- a table: numbers: lowest, the place for none, the places -/
def x_ts (lo t : Nat) (ts : List Nat) (ls : xL) (st : List Value) (M : xM) : Option xC := match st with
  | .int x :: r => some (if x.toInt < (lo : Int) then t else ts.getD (x.toInt - (lo : Int)).toNat t, ls, r, M)
  | _ => none
def x_d1 (nx : Nat) (ls : xL) (st : List Value) (M : xM) : Option xC := match st with
  | v :: r => if v.category = 1 then some (nx, ls, v :: v :: r, M) else none
  | _ => none
def x_d2 (nx : Nat) (ls : xL) (st : List Value) (M : xM) : Option xC := match st with
  | v :: w :: r => if v.category = 1 ∧ w.category = 1 then some (nx, ls, v :: w :: v :: w :: r, M) else none
  | _ => none
def x_po (nx : Nat) (ls : xL) (st : List Value) (M : xM) : Option xC := match st with
  | v :: r => if v.category = 1 then some (nx, ls, r, M) else none
  | _ => none
/-- fields: numbers: class, how many fields it has, which, its type (0 int, 1 boolean, 2 long, 3 reference) -/
def x_fv (ty : Nat) (M : xM) (a j : Nat) : Value := match ty with
  | 0 => .int (M.2.1 a j)
  | 1 => .int (M.2.1 a j)
  | 2 => .long (M.2.2.1 a j)
  | _ => va_rf (M.2.2.2 a j)
def x_gf (nx ci n j ty : Nat) (ls : xL) (st : List Value) (M : xM) : Option xC := match st with
  | .ref a :: r => if M.1[a]? = some (false, ci, n) then some (nx, ls, x_fv ty M a j :: r, M) else none
  | _ => none
def x_pv (ty : Nat) (M : xM) (a j : Nat) (v : Value) : Option xM := match ty, v with
  | 0, .int x => some (M.1, x_u M.2.1 a j x, M.2.2)
  | 1, .int x => if x = 0 ∨ x = 1 then some (M.1, x_u M.2.1 a j x, M.2.2) else none
  | 2, .long x => some (M.1, M.2.1, x_u M.2.2.1 a j x, M.2.2.2)
  | 3, .ref x => some (M.1, M.2.1, M.2.2.1, x_u M.2.2.2 a j (some x))
  | 3, .null => some (M.1, M.2.1, M.2.2.1, x_u M.2.2.2 a j none)
  | _, _ => none
def x_pf (nx ci n j ty : Nat) (ls : xL) (st : List Value) (M : xM) : Option xC := match st with
  | v :: .ref a :: r => if M.1[a]? = some (false, ci, n) then (x_pv ty M a j v).map (fun M' => (nx, ls, r, M')) else none
  | _ => none
/-- arrays: element types: 0 int, 1 boolean, from 2 on references -/
def x_al (nx : Nat) (ls : xL) (st : List Value) (M : xM) (t : Nat) : Option xC := match st with
  | .int i :: .ref a :: r => match M.1[a]? with
    | some (true, t', n) => if t' = t ∧ ¬ i < 0 ∧ i.toNatClampNeg < n then some (nx, ls, .int (M.2.1 a i.toNatClampNeg) :: r, M) else none
    | _ => none
  | _ => none
def x_aq (nx : Nat) (ls : xL) (st : List Value) (M : xM) : Option xC := match st with
  | .int i :: .ref a :: r => match M.1[a]? with
    | some (true, t', n) => if 2 ≤ t' ∧ t' < 5 ∧ ¬ i < 0 ∧ i.toNatClampNeg < n then some (nx, ls, va_rf (M.2.2.2 a i.toNatClampNeg) :: r, M) else none
    | _ => none
  | _ => none
def x_as (nx : Nat) (ls : xL) (st : List Value) (M : xM) (t : Nat) : Option xC := match st with
  | .int x :: .int i :: .ref a :: r => match M.1[a]? with
    | some (true, t', n) => if t' = t ∧ ¬ i < 0 ∧ i.toNatClampNeg < n ∧ (t = 0 ∨ x = 0 ∨ x = 1) then some (nx, ls, r, (M.1, x_u M.2.1 a i.toNatClampNeg x, M.2.2)) else none
    | _ => none
  | _ => none
/-- aastore: the class of an array type's elements is x_ec -/
def x_sq (ec : Nat → Nat) (nx : Nat) (ls : xL) (st : List Value) (M : xM) : Option xC := match st with
  | .ref v :: .int i :: .ref a :: r => match M.1[a]?, M.1[v]? with
    | some (true, t', n), some (false, ci, _) => if 2 ≤ t' ∧ t' < 5 ∧ ec t' = ci ∧ ¬ i < 0 ∧ i.toNatClampNeg < n then some (nx, ls, r, (M.1, M.2.1, M.2.2.1, x_u M.2.2.2 a i.toNatClampNeg (some v))) else none
    | _, _ => none
  | .null :: .int i :: .ref a :: r => match M.1[a]? with
    | some (true, t', n) => if 2 ≤ t' ∧ t' < 5 ∧ ¬ i < 0 ∧ i.toNatClampNeg < n then some (nx, ls, r, (M.1, M.2.1, M.2.2.1, x_u M.2.2.2 a i.toNatClampNeg none)) else none
    | _ => none
  | _ => none
def x_ln (nx : Nat) (ls : xL) (st : List Value) (M : xM) : Option xC := match st with
  | .ref a :: r => match M.1[a]? with
    | some (true, 0, n) => some (nx, ls, .int (nI n) :: r, M)
    | _ => none
  | _ => none
def x_nw (nx ci n : Nat) (ls : xL) (st : List Value) (M : xM) : Option xC := some (nx, ls, .ref M.1.length :: st, x_new M (false, ci, n))
def x_na (nx t : Nat) (ls : xL) (st : List Value) (M : xM) : Option xC := match st with
  | .int n :: r => if ¬ n < 0 ∧ n.toNatClampNeg ≤ 65536 then some (nx, ls, .ref M.1.length :: r, x_new M (true, t, n.toNatClampNeg)) else none
  | _ => none
/-- checkcast, of an array of ints alone -/
def x_cc (nx : Nat) (ls : xL) (st : List Value) (M : xM) : Option xC := match st with
  | .ref a :: r => match M.1[a]? with
    | some (true, 0, _) => some (nx, ls, .ref a :: r, M)
    | _ => none
  | _ => none
/-- what a call does that is no call: 8: Object's constructor, 9: clone() of an array of ints -/
def x_iv (dp nx kd : Nat) (ls : xL) (st : List Value) (M : xM) : Option xC := match dp, kd, st with
  | _ + 1, 8, .ref _ :: r => if (r.map fun v => v.category).sum ≤ 8 then some (nx, ls, r, M) else none
  | _ + 1, 9, .ref a :: r => match M.1[a]? with
    | some (true, 0, n) => if (r.map fun v => v.category).sum ≤ 8 then some (nx, ls, .ref M.1.length :: r, x_dup M (true, 0, n) a) else none
    | _ => none
  | _, _, _ => none
/-- a step that stays in its frame -/
def x_st (ec : Nat → Nat) (dp : Nat) (e : xE) (ls : xL) (st : List Value) (M : xM) : Option xC := match e with
  | (ins, nx, c, xs) => match ins, xs with
  | .iconst _, _ => x_i1 nx ls st M (.int c)
  | .bipush _, _ => x_i1 nx ls st M (.int c)
  | .sipush _, _ => x_i1 nx ls st M (.int c)
  | .ldc _, _ => x_i1 nx ls st M (.int c)
  | .ldc_w _, _ => x_i1 nx ls st M (.int c)
  | .lconst n, _ => x_i1 nx ls st M (.long (lN n.val))
  | .aconst_null, _ => x_i1 nx ls st M .null
  | .iload_n _, [i] => x_ld nx i ls st M
  | .iload _, [i] => x_ld nx i ls st M
  | .aload_n _, [i] => x_la nx i ls st M
  | .aload _, [i] => x_la nx i ls st M
  | .istore_n _, [i] => x_si nx i ls st M
  | .istore _, [i] => x_si nx i ls st M
  | .astore_n _, [i] => x_sa nx i ls st M
  | .astore _, [i] => x_sa nx i ls st M
  | .iinc _ _, [i] => x_in nx i c ls st M
  | .iadd, _ => x_i2 nx ls st M (· + ·)
  | .isub, _ => x_i2 nx ls st M (· - ·)
  | .imul, _ => x_i2 nx ls st M (· * ·)
  | .iand, _ => x_i2 nx ls st M (· &&& ·)
  | .ior, _ => x_i2 nx ls st M (· ||| ·)
  | .ixor, _ => x_i2 nx ls st M (· ^^^ ·)
  | .ishl, _ => x_i2 nx ls st M (fun x y => x <<< (y &&& 31))
  | .ishr, _ => x_i2 nx ls st M (fun x y => x >>> (y &&& 31))
  | .iushr, _ => x_i2 nx ls st M (fun x y => (x.toUInt32 >>> (y.toUInt32 &&& Int32.toUInt32 31)).toInt32)
  | .idiv, _ => x_dv nx ls st M
  | .land, _ => x_l2 nx ls st M (· &&& ·)
  | .lor, _ => x_l2 nx ls st M (· ||| ·)
  | .lshl, _ => x_ls nx ls st M (· <<< ·)
  | .lshr, _ => x_ls nx ls st M (· >>> ·)
  | .lcmp, _ => x_lc nx ls st M
  | .ifCond .eq _, [t] => x_b1 nx t ls st M (fun x => decide (x = 0))
  | .ifCond .ne _, [t] => x_b1 nx t ls st M (fun x => decide (x ≠ 0))
  | .ifCond .lt _, [t] => x_b1 nx t ls st M (fun x => decide (x < 0))
  | .ifCond .ge _, [t] => x_b1 nx t ls st M (fun x => decide (0 ≤ x))
  | .ifCond .gt _, [t] => x_b1 nx t ls st M (fun x => decide (0 < x))
  | .ifCond .le _, [t] => x_b1 nx t ls st M (fun x => decide (x ≤ 0))
  | .if_icmp .eq _, [t] => x_b2 nx t ls st M (fun x y => decide (x = y))
  | .if_icmp .ne _, [t] => x_b2 nx t ls st M (fun x y => decide (x ≠ y))
  | .if_icmp .lt _, [t] => x_b2 nx t ls st M (fun x y => decide (x < y))
  | .if_icmp .ge _, [t] => x_b2 nx t ls st M (fun x y => decide (y ≤ x))
  | .if_icmp .gt _, [t] => x_b2 nx t ls st M (fun x y => decide (y < x))
  | .if_icmp .le _, [t] => x_b2 nx t ls st M (fun x y => decide (x ≤ y))
  | .goto _, [t] => some (t, ls, st, M)
  | .ifnull _, [t] => x_nu nx t ls st M
  | .ifnonnull _, [t] => x_nn nx t ls st M
  | .tableswitch _ _ _ _, lo :: t :: ts => x_ts lo t ts ls st M
  | .dup, _ => x_d1 nx ls st M
  | .dup2, _ => x_d2 nx ls st M
  | .pop, _ => x_po nx ls st M
  | .getfield _, [ci, n, j, ty] => x_gf nx ci n j ty ls st M
  | .putfield _, [ci, n, j, ty] => x_pf nx ci n j ty ls st M
  | .iaload, _ => x_al nx ls st M 0
  | .baload, _ => x_al nx ls st M 1
  | .aaload, _ => x_aq nx ls st M
  | .iastore, _ => x_as nx ls st M 0
  | .bastore, _ => x_as nx ls st M 1
  | .aastore, _ => x_sq ec nx ls st M
  | .arraylength, _ => x_ln nx ls st M
  | .new _, [ci, n] => x_nw nx ci n ls st M
  | .newarray _, [t] => x_na nx t ls st M
  | .anewarray _, [t] => x_na nx t ls st M
  | .checkcast _, _ => x_cc nx ls st M
  | .invokespecial _, [kd] => x_iv dp nx kd ls st M
  | .invokevirtual _, [kd] => x_iv dp nx kd ls st M
  | _, _ => none
/-- a call: numbers: how (0 virtual; 2 static; 3 constructor; 5, 6: static, constructor of a nest mate's private), whom, its class, how many values it takes, the receiver among them -/
def x_cl (e : xE) (st : List Value) (M : xM) : Option (Nat × List Value × List Value) := match e with
  | (ins, _, _, xs) => match ins, xs with
  | .invokevirtual _, [0, k, c, n] => if n ≤ st.length then (match (st.take n).reverse with
    | .ref a :: as => (match M.1[a]? with
      | some (false, ci, _) => if ci = c ∧ ((st.drop n).map fun v => v.category).sum ≤ 8 then some (k, .ref a :: as, st.drop n) else none
      | _ => none)
    | _ => none) else none
  | .invokestatic _, [_, k, _, n] => if n ≤ st.length ∧ ((st.drop n).map fun v => v.category).sum ≤ 8 then some (k, (st.take n).reverse, st.drop n) else none
  | .invokespecial _, [_, k, _, n] => if n ≤ st.length then (match (st.take n).reverse with
    | .ref a :: as => if ((st.drop n).map fun v => v.category).sum ≤ 8 then some (k, .ref a :: as, st.drop n) else none
    | _ => none) else none
  | _, _ => none
/-- the end of a frame; the number says what is to be returned: 0 nothing, 1 int, 2 boolean, 3 a reference -/
def x_rt (rk : Nat) (e : xE) (st : List Value) : Option (Option Value) := match e.1, rk, st with
  | .return_, 0, [] => some none
  | .ireturn, 1, [.int v] => some (some (.int v))
  | .ireturn, 2, [.int v] => if v = 0 ∨ v = 1 then some (some (.int v)) else none
  | .areturn, 3, [.ref v] => some (some (.ref v))
  | .areturn, 3, [.null] => some (some .null)
  | _, _, _ => none
end
section
/-! the run of the small machine; it keeps its memory good -/
abbrev xCal : Type := Nat → xM → List Value → Option (xM × Option Value)
def x_run (ec : Nat → Nat) (dp : Nat) (P : Nat → Option xE) (rk : Nat) (cal : xCal) : Nat → xC → Option (xM × Option Value)
  | 0, _ => none
  | n + 1, (pc, ls, st, M) => match P pc with
    | none => none
    | some e => match x_st ec dp e ls st M with
      | some c => x_run ec dp P rk cal n c
      | none => match x_cl e st M with
        | some (k, as, r) => match cal k M as with
          | some (M', v) => x_run ec dp P rk cal n (e.2.1, ls, v.toList ++ r, M')
          | none => none
        | none => match x_rt rk e st with
          | some v => some (M, v)
          | none => none
theorem x_run_mono {ec : Nat → Nat} {dp : Nat} {P : Nat → Option xE} {rk : Nat} {cal cal' : xCal} (hc : ∀ k M as r, cal k M as = some r → cal' k M as = some r) :
    ∀ (n n' : Nat) (c : xC) (r : xM × Option Value), n ≤ n' → x_run ec dp P rk cal n c = some r → x_run ec dp P rk cal' n' c = some r := by
  intro n
  induction n with
  | zero => intro n' c r _ h; simp [x_run] at h
  | succ n ih =>
    intro n' c r hn h
    obtain ⟨n1, rfl⟩ : ∃ m, n' = m + 1 := ⟨n' - 1, by omega⟩
    obtain ⟨pc, ls, st, M⟩ := c
    simp only [x_run] at h ⊢
    cases hp : P pc with
    | none => rw [hp] at h; simp at h
    | some e =>
      rw [hp] at h
      simp only at h ⊢
      cases hs : x_st ec dp e ls st M with
      | some c => rw [hs] at h; simp only at h ⊢; exact ih n1 c r (by omega) h
      | none =>
        rw [hs] at h
        simp only at h ⊢
        cases hk : x_cl e st M with
        | some q =>
          obtain ⟨k, as, rr⟩ := q
          rw [hk] at h
          simp only at h ⊢
          cases hq : cal k M as with
          | none => rw [hq] at h; simp at h
          | some q =>
            obtain ⟨M', v⟩ := q
            rw [hq] at h
            rw [hc _ _ _ _ hq]
            simp only at h ⊢
            exact ih n1 _ r (by omega) h
        | none =>
          rw [hk] at h
          simp only at h ⊢
          exact h
/-- a value's address is in the memory -/
def x_wV (n : Nat) (v : Value) : Prop := ∀ i, v = .ref i → i < n
def x_wM (M : xM) : Prop := ∀ a j i, M.2.2.2 a j = some i → i < M.1.length
def x_G (c : xC) : Prop := x_wM c.2.2.2 ∧ (∀ v ∈ c.2.2.1, x_wV c.2.2.2.1.length v) ∧ ∀ v, some v ∈ c.2.1 → x_wV c.2.2.2.1.length v ∧ v.category = 1
/-- what a step keeps -/
def x_Kp (c c' : xC) : Prop := x_G c' ∧ c.2.2.2.1 <+: c'.2.2.2.1 ∧ c'.2.1.length = c.2.1.length
theorem x_wV_int {n : Nat} {x : Int32} : x_wV n (.int x) := fun i h => by cases h
theorem x_wV_long {n : Nat} {x : Int64} : x_wV n (.long x) := fun i h => by cases h
theorem x_wV_null {n : Nat} : x_wV n .null := fun i h => by cases h
theorem x_wV_ref {n a : Nat} (h : a < n) : x_wV n (.ref a) := fun i e => by cases e; exact h
theorem x_wV.le {n m : Nat} {v : Value} (h : x_wV n v) (hm : n ≤ m) : x_wV m v := fun i e => Nat.lt_of_lt_of_le (h i e) hm
theorem x_wV_rf {n : Nat} {r : Option Nat} (h : ∀ i, r = some i → i < n) : x_wV n (va_rf r) := by
  cases r with
  | none => exact x_wV_null
  | some a => exact x_wV_ref (h a rfl)
theorem x_lt {α : Type} {l : List α} {a : Nat} {x : α} (h : l[a]? = some x) : a < l.length := (List.getElem?_eq_some_iff.mp h).1
section XG
variable {pc : Nat} {ls : xL} {st : List Value} {M : xM} {v w u : Value}
theorem x_G.push (h : x_G (pc, ls, st, M)) (hv : x_wV M.1.length v) : x_G (pc, ls, v :: st, M) :=
  ⟨h.1, fun x hx => by
    rcases List.mem_cons.mp hx with rfl | hx
    · exact hv
    · exact h.2.1 x hx, h.2.2⟩
theorem x_G.top (h : x_G (pc, ls, v :: st, M)) : x_wV M.1.length v := h.2.1 v List.mem_cons_self
theorem x_G.top2 (h : x_G (pc, ls, w :: v :: st, M)) : x_wV M.1.length v := h.2.1 v (List.mem_cons_of_mem _ List.mem_cons_self)
theorem x_G.pop (h : x_G (pc, ls, v :: st, M)) : x_G (pc, ls, st, M) := ⟨h.1, fun x hx => h.2.1 x (List.mem_cons_of_mem _ hx), h.2.2⟩
theorem x_G.set (h : x_G (pc, ls, st, M)) (hv : x_wV M.1.length v) (hc : v.category = 1) (i : Nat) : x_G (pc, ls.set i (some v), st, M) := by
  refine ⟨h.1, h.2.1, fun x hx => ?_⟩
  rcases List.mem_or_eq_of_mem_set hx with h1 | h1
  · exact h.2.2 x h1
  · cases h1; exact ⟨hv, hc⟩
theorem x_G.I (h : x_G (pc, ls, st, M)) (I : Nat → Nat → Int32) (L : Nat → Nat → Int64) : x_G (pc, ls, st, (M.1, I, L, M.2.2.2)) := h
theorem x_G.R (h : x_G (pc, ls, st, M)) (I : Nat → Nat → Int32) (L : Nat → Nat → Int64) (a j : Nat) (r : Option Nat) (hr : ∀ i, r = some i → i < M.1.length) : x_G (pc, ls, st, (M.1, I, L, x_u M.2.2.2 a j r)) := by
  refine ⟨fun b i q hq => ?_, h.2.1, h.2.2⟩
  simp only [x_u] at hq
  split at hq
  · exact hr q hq
  · exact h.1 b i q hq
theorem x_G.grow (h : x_G (pc, ls, st, M)) (k : xK) (I : Nat → Nat → Int32) (L : Nat → Nat → Int64) : x_G (pc, ls, .ref M.1.length :: st, (M.1 ++ [k], I, L, x_w M.2.2.2 M.1.length none)) := by
  have hl : (M.1 ++ [k]).length = M.1.length + 1 := by simp
  refine ⟨fun b i q hq => ?_, fun x hx => ?_, fun x hx => ⟨(h.2.2 x hx).1.le (by rw [hl]; exact Nat.le_succ _), (h.2.2 x hx).2⟩⟩
  · simp only [x_w] at hq
    split at hq
    · cases hq
    · have := h.1 b i q hq
      show q < (M.1 ++ [k]).length
      rw [hl]; exact Nat.lt_succ_of_lt this
  · rcases List.mem_cons.mp hx with rfl | hx
    · exact x_wV_ref (by show M.1.length < (M.1 ++ [k]).length; rw [hl]; exact Nat.lt_succ_self _)
    · exact (h.2.1 x hx).le (by show M.1.length ≤ (M.1 ++ [k]).length; rw [hl]; exact Nat.le_succ _)
theorem x_G.loc (h : x_G (pc, ls, st, M)) {i : Nat} (hi : ls[i]? = some (some v)) : x_wV M.1.length v ∧ v.category = 1 := h.2.2 v (List.mem_of_getElem? hi)
end XG
theorem x_kp_st {ec : Nat → Nat} {dp : Nat} {e : xE} {pc : Nat} {ls : xL} {st : List Value} {M : xM} {c : xC} (h : x_G (pc, ls, st, M)) (hs : x_st ec dp e ls st M = some c) : x_Kp (pc, ls, st, M) c := by
  obtain ⟨ins, nx, cn, xs⟩ := e
  have fin : ∀ {nx' : Nat} {ls' : xL} {st' : List Value} {M' : xM}, x_G (pc, ls', st', M') → M.1 <+: M'.1 → ls'.length = ls.length → some (nx', ls', st', M') = some c → x_Kp (pc, ls, st, M) c := by
    intro nx' ls' st' M' h1 h2 h3 h4
    cases h4
    exact ⟨h1, h2, h3⟩
  have pf : M.1 <+: M.1 := List.prefix_refl _
  have pg : ∀ k, M.1 <+: M.1 ++ [k] := fun k => List.prefix_append _ _
  unfold x_st at hs
  simp only at hs
  split at hs <;> try (cases hs; done)
  all_goals (try (simp only [x_i1] at hs; refine fin (h.push ?_) pf rfl hs; first | exact x_wV_int | exact x_wV_long | exact x_wV_null))
  all_goals (try (simp only [x_i2] at hs; split at hs; (· exact fin (h.pop.pop.push x_wV_int) pf rfl hs); (· cases hs)))
  all_goals (try (simp only [x_l2] at hs; split at hs; (· exact fin (h.pop.pop.push x_wV_long) pf rfl hs); (· cases hs)))
  all_goals (try (simp only [x_ls] at hs; split at hs; (· exact fin (h.pop.pop.push x_wV_long) pf rfl hs); (· cases hs)))
  all_goals (try (simp only [x_dv] at hs; split at hs; (· split at hs; (· cases hs); (· exact fin (h.pop.pop.push x_wV_int) pf rfl hs)); (· cases hs)))
  all_goals (try (simp only [x_lc] at hs; split at hs; (· exact fin (h.pop.pop.push x_wV_int) pf rfl hs); (· cases hs)))
  all_goals (try (simp only [x_b1] at hs; split at hs; (· exact fin h.pop pf rfl hs); (· cases hs)))
  all_goals (try (simp only [x_b2] at hs; split at hs; (· exact fin h.pop.pop pf rfl hs); (· cases hs)))
  all_goals (try (exact fin h pf rfl hs))
  all_goals (try (simp only [x_ld] at hs; split at hs; (· exact fin (h.push x_wV_int) pf rfl hs); (· cases hs)))
  all_goals (try (simp only [x_la] at hs; split at hs; (· rename_i hi; exact fin (h.push (h.loc hi).1) pf rfl hs); (· exact fin (h.push x_wV_null) pf rfl hs); (· cases hs)))
  all_goals (try (simp only [x_si] at hs; split at hs; (· exact fin (h.pop.set x_wV_int rfl _) pf (by simp) hs); (· cases hs)))
  all_goals (try (simp only [x_sa] at hs; split at hs; (· exact fin (h.pop.set h.top rfl _) pf (by simp) hs); (· exact fin (h.pop.set x_wV_null rfl _) pf (by simp) hs); (· cases hs)))
  all_goals (try (simp only [x_in] at hs; split at hs; (· exact fin (h.set x_wV_int rfl _) pf (by simp) hs); (· cases hs)))
  all_goals (try (simp only [x_nu] at hs; split at hs; (· exact fin h.pop pf rfl hs); (· exact fin h.pop pf rfl hs); (· cases hs)))
  all_goals (try (simp only [x_nn] at hs; split at hs; (· exact fin h.pop pf rfl hs); (· exact fin h.pop pf rfl hs); (· cases hs)))
  all_goals (try (simp only [x_ts] at hs; split at hs; (· exact fin h.pop pf rfl hs); (· cases hs)))
  all_goals (try (simp only [x_d1] at hs; split at hs; (· split at hs; (· exact fin (h.push h.top) pf rfl hs); (· cases hs)); (· cases hs)))
  all_goals (try (simp only [x_d2] at hs; split at hs; (· split at hs; (· exact fin (((h.push h.top2).push h.top)) pf rfl hs); (· cases hs)); (· cases hs)))
  all_goals (try (simp only [x_po] at hs; split at hs; (· split at hs; (· exact fin h.pop pf rfl hs); (· cases hs)); (· cases hs)))
  all_goals (try (simp only [x_gf] at hs; split at hs; (· split at hs; (· refine fin (h.pop.push ?_) pf rfl hs; simp only [x_fv]; split; (· exact x_wV_int); (· exact x_wV_int); (· exact x_wV_long); (· exact x_wV_rf (h.1 _ _))); (· cases hs)); (· cases hs)))
  all_goals (try (simp only [x_al] at hs; split at hs; (· split at hs; (· split at hs; (· exact fin (h.pop.pop.push x_wV_int) pf rfl hs); (· cases hs)); (· cases hs)); (· cases hs)))
  all_goals (try (simp only [x_aq] at hs; split at hs; (· split at hs; (· split at hs; (· exact fin (h.pop.pop.push (x_wV_rf (h.1 _ _))) pf rfl hs); (· cases hs)); (· cases hs)); (· cases hs)))
  all_goals (try (simp only [x_as] at hs; split at hs; (· split at hs; (· split at hs; (· exact fin ((h.pop.pop.pop).I _ _) pf rfl hs); (· cases hs)); (· cases hs)); (· cases hs)))
  all_goals (try (simp only [x_ln] at hs; split at hs; (· split at hs; (· exact fin (h.pop.push x_wV_int) pf rfl hs); (· cases hs)); (· cases hs)))
  all_goals (try (simp only [x_cc] at hs; split at hs; (· split at hs; (· exact fin h pf rfl hs); (· cases hs)); (· cases hs)))
  all_goals (try (simp only [x_nw] at hs; exact fin (h.grow _ _ _) (pg _) rfl hs))
  all_goals (try (simp only [x_na] at hs; split at hs; (· split at hs; (· exact fin (h.pop.grow _ _ _) (pg _) rfl hs); (· cases hs)); (· cases hs)))
  all_goals (try (simp only [x_iv] at hs; split at hs; (· split at hs; (· exact fin h.pop pf rfl hs); (· cases hs)); (· split at hs; (· split at hs; (· exact fin (h.pop.grow _ _ _) (pg _) rfl hs); (· cases hs)); (· cases hs)); (· cases hs)))
  · simp only [x_pf] at hs
    split at hs
    · split at hs
      · simp only [x_pv] at hs
        split at hs
        · cases hs; exact ⟨h.pop.pop, pf, rfl⟩
        · split at hs
          · cases hs; exact ⟨h.pop.pop, pf, rfl⟩
          · cases hs
        · cases hs; exact ⟨h.pop.pop, pf, rfl⟩
        · cases hs; exact ⟨(h.pop.pop).R _ _ _ _ _ (fun i hi => h.top i (by cases hi; rfl)), pf, rfl⟩
        · cases hs; exact ⟨(h.pop.pop).R _ _ _ _ _ (fun i hi => by cases hi), pf, rfl⟩
        · cases hs
      · cases hs
    · cases hs
  · unfold x_as at hs
    split at hs
    · split at hs
      · split at hs
        · cases hs; exact ⟨h.pop.pop.pop, pf, rfl⟩
        · cases hs
      · cases hs
    · cases hs
  · unfold x_as at hs
    split at hs
    · split at hs
      · split at hs
        · cases hs; exact ⟨h.pop.pop.pop, pf, rfl⟩
        · cases hs
      · cases hs
    · cases hs
  · unfold x_sq at hs
    split at hs
    · split at hs
      · split at hs
        · cases hs; exact ⟨(h.pop.pop.pop).R _ _ _ _ _ (fun i hi => h.top i (by cases hi; rfl)), pf, rfl⟩
        · cases hs
      · cases hs
    · split at hs
      · split at hs
        · cases hs; exact ⟨(h.pop.pop.pop).R _ _ _ _ _ (fun i hi => by cases hi), pf, rfl⟩
        · cases hs
      · cases hs
    · cases hs
theorem x_cl_eq {e : xE} {st : List Value} {M : xM} {k : Nat} {as r : List Value} (h : x_cl e st M = some (k, as, r)) :
    ∃ n, as = (st.take n).reverse ∧ r = st.drop n ∧ n ≤ st.length ∧ (r.map fun v => v.category).sum ≤ 8 := by
  unfold x_cl at h
  split at h
  split at h
  · split at h
    · rename_i hc
      split at h
      · rename_i hr
        split at h
        · split at h
          · rename_i h2
            cases h
            exact ⟨_, hr.symm, rfl, hc, h2.2⟩
          · cases h
        · cases h
      · cases h
    · cases h
  · split at h
    · rename_i hc
      cases h
      exact ⟨_, rfl, rfl, hc.1, hc.2⟩
    · cases h
  · split at h
    · rename_i hc
      split at h
      · rename_i hr
        split at h
        · rename_i h2
          cases h
          exact ⟨_, hr.symm, rfl, hc, h2⟩
        · cases h
      · cases h
    · cases h
  · cases h
theorem x_cl_mem {e : xE} {st : List Value} {M : xM} {k : Nat} {as r : List Value} (h : x_cl e st M = some (k, as, r)) : (∀ v ∈ as, v ∈ st) ∧ ∀ v ∈ r, v ∈ st := by
  obtain ⟨n, rfl, rfl, -, -⟩ := x_cl_eq h
  exact ⟨fun v hv => List.mem_of_mem_take (List.mem_reverse.mp hv), fun v hv => List.mem_of_mem_drop hv⟩
theorem x_rt_mem {rk : Nat} {e : xE} {st : List Value} {v : Option Value} (h : x_rt rk e st = some v) : ∀ u, v = some u → u ∈ st := by
  unfold x_rt at h
  split at h
  · cases h; intro u hu; cases hu
  · cases h; intro u hu; cases hu; exact List.mem_cons_self
  · split at h
    · cases h; intro u hu; cases hu; exact List.mem_cons_self
    · cases h
  · cases h; intro u hu; cases hu; exact List.mem_cons_self
  · cases h; intro u hu; cases hu; exact List.mem_cons_self
  · cases h
/-- what comes back is good -/
def x_gR (M : xM) (r : xM × Option Value) : Prop := x_wM r.1 ∧ M.1 <+: r.1.1 ∧ ∀ u, r.2 = some u → x_wV r.1.1.length u
def x_gC (cal : xCal) : Prop := ∀ k M as r, x_wM M → (∀ v ∈ as, x_wV M.1.length v) → cal k M as = some r → x_gR M r
theorem x_run_good {ec : Nat → Nat} {dp : Nat} {P : Nat → Option xE} {rk : Nat} {cal : xCal} (hc : x_gC cal) :
    ∀ (n : Nat) (c : xC) (r : xM × Option Value), x_G c → x_run ec dp P rk cal n c = some r → x_gR c.2.2.2 r := by
  intro n
  induction n with
  | zero => intro c r _ h; simp [x_run] at h
  | succ n ih =>
    intro c r hg h
    obtain ⟨pc, ls, st, M⟩ := c
    simp only [x_run] at h
    cases hp : P pc with
    | none => rw [hp] at h; simp at h
    | some e =>
      rw [hp] at h
      simp only at h
      cases hs : x_st ec dp e ls st M with
      | some c =>
        rw [hs] at h
        simp only at h
        obtain ⟨g1, g2, -⟩ := x_kp_st hg hs
        obtain ⟨a1, a2, a3⟩ := ih c r g1 h
        exact ⟨a1, g2.trans a2, a3⟩
      | none =>
        rw [hs] at h
        simp only at h
        cases hk : x_cl e st M with
        | some q =>
          obtain ⟨k, as, rr⟩ := q
          rw [hk] at h
          simp only at h
          cases hq : cal k M as with
          | none => rw [hq] at h; simp at h
          | some q =>
            obtain ⟨M', v⟩ := q
            rw [hq] at h
            simp only at h
            obtain ⟨m1, m2⟩ := x_cl_mem hk
            obtain ⟨b1, b2, b3⟩ := hc k M as (M', v) hg.1 (fun u hu => hg.2.1 u (m1 u hu)) hq
            have hle : M.1.length ≤ M'.1.length := b2.length_le
            obtain ⟨a1, a2, a3⟩ := ih (e.2.1, ls, v.toList ++ rr, M') r ⟨b1, fun u hu => by
              rcases List.mem_append.mp hu with h1 | h1
              · exact b3 u (by cases v <;> simp_all)
              · exact (hg.2.1 u (m2 u h1)).le hle, fun u hu => ⟨(hg.2.2 u hu).1.le hle, (hg.2.2 u hu).2⟩⟩ h
            exact ⟨a1, b2.trans a2, a3⟩
        | none =>
          rw [hk] at h
          simp only at h
          cases hr : x_rt rk e st with
          | none => rw [hr] at h; simp at h
          | some v =>
            rw [hr] at h
            cases h
            exact ⟨hg.1, List.prefix_refl _, fun u hu => hg.2.1 u (x_rt_mem hr u hu)⟩
/-- a frame's first locals: values of one word alone -/
def x_en (nL : Nat) (as : List Value) : Option xL := if as.length ≤ nL ∧ (∀ v ∈ as, v.category = 1) then some (as.map some ++ List.replicate (nL - as.length) none) else none
theorem x_en_G {nL pc : Nat} {as : List Value} {ls : xL} {M : xM} (h : x_en nL as = some ls) (hM : x_wM M) (ha : ∀ v ∈ as, x_wV M.1.length v) : x_G (pc, ls, [], M) ∧ ls.length = nL := by
  unfold x_en at h
  split at h
  · rename_i hc
    cases h
    refine ⟨⟨hM, fun v hv => (by cases hv), fun v hv => ?_⟩, by simp; omega⟩
    rcases List.mem_append.mp hv with h1 | h1
    · obtain ⟨w, hw, e⟩ := List.mem_map.mp h1
      cases e
      exact ⟨ha v hw, hc.2 v hw⟩
    · exact absurd (List.eq_of_mem_replicate h1) (by simp)
  · cases h
end
section
/-! linked code, by program: an entry a byte -/
/-- MajorityMap$Campaign.<init>()V -/
def x_T0 : List (Option xE) := [some (.aload_n 0, 1, nI 0, [0]), some (.invokespecial 3, 4, nI 0, [8]), none, none, some (.aload_n 0, 5, nI 0, [0]), some (.iconst (-1), 6, (-1), []), some (.putfield 9, 9, nI 0, [0, 5, 0, 0]), none, none, some (.aload_n 0, 10, nI 0, [0]), some (.new 15, 13, nI 0, [8, 2]), none, none, some (.dup, 14, nI 0, []), some (.invokespecial 17, 17, nI 0, [6, 63, 8, 1]), none, none, some (.putfield 18, 20, nI 0, [0, 5, 2, 3]), none, none, some (.aload_n 0, 21, nI 0, [0]), some (.new 22, 24, nI 0, [2, 1]), none, none, some (.dup, 25, nI 0, []), some (.invokespecial 24, 28, nI 0, [3, 10, 2, 1]), none, none, some (.putfield 25, 31, nI 0, [0, 5, 3, 3]), none, none, some (.aload_n 0, 32, nI 0, [0]), some (.bipush 25, 34, nI 25, []), none, some (.newarray .int, 36, nI 0, [0]), none, some (.putfield 29, 39, nI 0, [0, 5, 4, 3]), none, none, some (.return_, 40, nI 0, [])]
/-- MajorityMap$Campaign.propose(II)V -/
def x_T1 : List (Option xE) := [some (.iload_n 1, 1, nI 0, [1]), some (.invokestatic 45, 4, nI 0, [5, 78, 9, 1]), none, none, some (.ifCond .eq 19, 7, nI 0, [23]), none, none, some (.aload_n 0, 8, nI 0, [0]), some (.getfield 25, 11, nI 0, [0, 5, 3, 3]), none, none, some (.iload_n 1, 12, nI 0, [1]), some (.iload_n 2, 13, nI 0, [2]), some (.invokevirtual 49, 16, nI 0, [0, 14, 2, 3]), none, none, some (.aload_n 0, 17, nI 0, [0]), some (.getfield 29, 20, nI 0, [0, 5, 4, 3]), none, none, some (.iload_n 1, 21, nI 0, [1]), some (.iconst 0, 22, nI 0, []), some (.iastore, 23, nI 0, []), some (.return_, 24, nI 0, [])]
/-- MajorityMap$Campaign.addVoter(II)V -/
def x_T2 : List (Option xE) := [some (.iload_n 1, 1, nI 0, [1]), some (.invokestatic 45, 4, nI 0, [5, 78, 9, 1]), none, none, some (.ifCond .eq 15, 7, nI 0, [19]), none, none, some (.aload_n 0, 8, nI 0, [0]), some (.getfield 29, 11, nI 0, [0, 5, 4, 3]), none, none, some (.iload_n 1, 12, nI 0, [1]), some (.dup2, 13, nI 0, []), some (.iaload, 14, nI 0, []), some (.iconst 1, 15, nI 1, []), some (.iload_n 2, 16, nI 0, [2]), some (.ishl, 17, nI 0, []), some (.ior, 18, nI 0, []), some (.iastore, 19, nI 0, []), some (.return_, 20, nI 0, [])]
/-- MajorityMap$Campaign.votersFor(I)I -/
def x_T3 : List (Option xE) := [some (.iload_n 1, 1, nI 0, [1]), some (.invokestatic 45, 4, nI 0, [5, 78, 9, 1]), none, none, some (.ifCond .eq 12, 7, nI 0, [16]), none, none, some (.aload_n 0, 8, nI 0, [0]), some (.getfield 29, 11, nI 0, [0, 5, 4, 3]), none, none, some (.iload_n 1, 12, nI 0, [1]), some (.iaload, 13, nI 0, []), some (.goto 4, 16, nI 0, [17]), none, none, some (.iconst 0, 17, nI 0, []), some (.ireturn, 18, nI 0, [])]
/-- MajorityMap$Campaign.begin(IILMajorityMap$Votes;)V -/
def x_T4 : List (Option xE) := [some (.aload_n 0, 1, nI 0, [0]), some (.iload_n 1, 2, nI 0, [1]), some (.putfield 9, 5, nI 0, [0, 5, 0, 0]), none, none, some (.aload_n 0, 6, nI 0, [0]), some (.iload_n 2, 7, nI 0, [2]), some (.putfield 33, 10, nI 0, [0, 5, 1, 0]), none, none, some (.aload_n 0, 11, nI 0, [0]), some (.getfield 18, 14, nI 0, [0, 5, 2, 3]), none, none, some (.bipush 24, 16, nI 24, []), none, some (.invokevirtual 36, 19, nI 0, [0, 65, 8, 2]), none, none, some (.aload_n 0, 20, nI 0, [0]), some (.getfield 18, 23, nI 0, [0, 5, 2, 3]), none, none, some (.aload_n 3, 24, nI 0, [3]), some (.invokevirtual 40, 27, nI 0, [0, 66, 8, 2]), none, none, some (.aload_n 0, 28, nI 0, [0]), some (.getfield 25, 31, nI 0, [0, 5, 3, 3]), none, none, some (.bipush 24, 33, nI 24, []), none, some (.invokevirtual 44, 36, nI 0, [0, 15, 2, 2]), none, none, some (.return_, 37, nI 0, [])]
/-- MajorityMap$Campaign.end()V -/
def x_T5 : List (Option xE) := [some (.aload_n 0, 1, nI 0, [0]), some (.iconst (-1), 2, (-1), []), some (.putfield 9, 5, nI 0, [0, 5, 0, 0]), none, none, some (.return_, 6, nI 0, [])]
/-- MajorityMap$Client.<init>()V -/
def x_T6 : List (Option xE) := [some (.aload_n 0, 1, nI 0, [0]), some (.invokespecial 3, 4, nI 0, [8]), none, none, some (.aload_n 0, 5, nI 0, [0]), some (.bipush 41, 7, nI 41, []), none, some (.anewarray 9, 10, nI 0, [2]), none, none, some (.putfield 11, 13, nI 0, [1, 2, 0, 3]), none, none, some (.return_, 14, nI 0, [])]
/-- MajorityMap$Client.add(LMajorityMap$Request;)I -/
def x_T7 : List (Option xE) := [some (.aload_n 0, 1, nI 0, [0]), some (.getfield 17, 4, nI 0, [1, 2, 1, 0]), none, none, some (.bipush 40, 6, nI 40, []), none, some (.if_icmp .lt 5, 9, nI 0, [11]), none, none, some (.iconst (-1), 10, (-1), []), some (.ireturn, 11, nI 0, []), some (.aload_n 0, 12, nI 0, [0]), some (.dup, 13, nI 0, []), some (.getfield 17, 16, nI 0, [1, 2, 1, 0]), none, none, some (.iconst 1, 17, nI 1, []), some (.iadd, 18, nI 0, []), some (.putfield 17, 21, nI 0, [1, 2, 1, 0]), none, none, some (.aload_n 0, 22, nI 0, [0]), some (.getfield 11, 25, nI 0, [1, 2, 0, 3]), none, none, some (.aload_n 0, 26, nI 0, [0]), some (.getfield 17, 29, nI 0, [1, 2, 1, 0]), none, none, some (.aload_n 1, 30, nI 0, [1]), some (.aastore, 31, nI 0, []), some (.aload_n 0, 32, nI 0, [0]), some (.getfield 17, 35, nI 0, [1, 2, 1, 0]), none, none, some (.ireturn, 36, nI 0, [])]
/-- MajorityMap$Client.find(I)LMajorityMap$Request; -/
def x_T8 : List (Option xE) := [some (.iload_n 1, 1, nI 0, [1]), some (.iconst 1, 2, nI 1, []), some (.if_icmp .lt 20, 5, nI 0, [22]), none, none, some (.iload_n 1, 6, nI 0, [1]), some (.aload_n 0, 7, nI 0, [0]), some (.getfield 17, 10, nI 0, [1, 2, 1, 0]), none, none, some (.if_icmp .gt 12, 13, nI 0, [22]), none, none, some (.aload_n 0, 14, nI 0, [0]), some (.getfield 11, 17, nI 0, [1, 2, 0, 3]), none, none, some (.iload_n 1, 18, nI 0, [1]), some (.aaload, 19, nI 0, []), some (.goto 4, 22, nI 0, [23]), none, none, some (.aconst_null, 23, nI 0, []), some (.areturn, 24, nI 0, [])]
/-- MajorityMap$Client.hear(II)V -/
def x_T9 : List (Option xE) := [some (.aload_n 0, 1, nI 0, [0]), some (.iload_n 1, 2, nI 0, [1]), some (.invokevirtual 21, 5, nI 0, [0, 8, 1, 2]), none, none, some (.astore_n 3, 6, nI 0, [3]), some (.aload_n 3, 7, nI 0, [3]), some (.ifnull 18, 10, nI 0, [25]), none, none, some (.aload_n 3, 11, nI 0, [3]), some (.iload_n 2, 12, nI 0, [2]), some (.putfield 25, 15, nI 0, [6, 5, 3, 0]), none, none, some (.aload_n 3, 16, nI 0, [3]), some (.dup, 17, nI 0, []), some (.getfield 28, 20, nI 0, [6, 5, 4, 0]), none, none, some (.iconst 1, 21, nI 1, []), some (.iadd, 22, nI 0, []), some (.putfield 28, 25, nI 0, [6, 5, 4, 0]), none, none, some (.return_, 26, nI 0, [])]
/-- MajorityMap$Commands.<init>()V -/
def x_T10 : List (Option xE) := [some (.aload_n 0, 1, nI 0, [0]), some (.invokespecial 3, 4, nI 0, [8]), none, none, some (.aload_n 0, 5, nI 0, [0]), some (.bipush 25, 7, nI 25, []), none, some (.newarray .int, 9, nI 0, [0]), none, some (.putfield 9, 12, nI 0, [2, 1, 0, 3]), none, none, some (.aload_n 0, 13, nI 0, [0]), some (.getfield 9, 16, nI 0, [2, 1, 0, 3]), none, none, some (.iconst (-1), 17, (-1), []), some (.invokestatic 15, 20, nI 0, [2, 145, 14, 2]), none, none, some (.return_, 21, nI 0, [])]
/-- MajorityMap$Commands.hasCommandAbove(II)Z -/
def x_T11 : List (Option xE) := [some (.bipush 24, 2, nI 24, []), none, some (.istore_n 3, 3, nI 0, [3]), some (.iload_n 3, 4, nI 0, [3]), some (.iload_n 1, 5, nI 0, [1]), some (.if_icmp .le 20, 8, nI 0, [25]), none, none, some (.aload_n 0, 9, nI 0, [0]), some (.iload_n 3, 10, nI 0, [3]), some (.invokevirtual 28, 13, nI 0, [0, 12, 2, 2]), none, none, some (.iload_n 2, 14, nI 0, [2]), some (.if_icmp .ne 5, 17, nI 0, [19]), none, none, some (.iconst 1, 18, nI 1, []), some (.ireturn, 19, nI 0, []), some (.iinc 3 (-1), 22, (-1), [3]), none, none, some (.goto (-19), 25, nI 0, [3]), none, none, some (.iconst 0, 26, nI 0, []), some (.ireturn, 27, nI 0, [])]
/-- MajorityMap$Commands.at(I)I -/
def x_T12 : List (Option xE) := [some (.iload_n 1, 1, nI 0, [1]), some (.invokestatic 21, 4, nI 0, [5, 78, 9, 1]), none, none, some (.ifCond .eq 12, 7, nI 0, [16]), none, none, some (.aload_n 0, 8, nI 0, [0]), some (.getfield 9, 11, nI 0, [2, 1, 0, 3]), none, none, some (.iload_n 1, 12, nI 0, [1]), some (.iaload, 13, nI 0, []), some (.goto 4, 16, nI 0, [17]), none, none, some (.iconst (-1), 17, (-1), []), some (.ireturn, 18, nI 0, [])]
/-- MajorityMap$Commands.has(I)Z -/
def x_T13 : List (Option xE) := [some (.iload_n 1, 1, nI 0, [1]), some (.invokestatic 21, 4, nI 0, [5, 78, 9, 1]), none, none, some (.ifCond .eq 17, 7, nI 0, [21]), none, none, some (.aload_n 0, 8, nI 0, [0]), some (.getfield 9, 11, nI 0, [2, 1, 0, 3]), none, none, some (.iload_n 1, 12, nI 0, [1]), some (.iaload, 13, nI 0, []), some (.iconst (-1), 14, (-1), []), some (.if_icmp .eq 7, 17, nI 0, [21]), none, none, some (.iconst 1, 18, nI 1, []), some (.goto 4, 21, nI 0, [22]), none, none, some (.iconst 0, 22, nI 0, []), some (.ireturn, 23, nI 0, [])]
/-- MajorityMap$Commands.put(II)V -/
def x_T14 : List (Option xE) := [some (.iload_n 1, 1, nI 0, [1]), some (.invokestatic 21, 4, nI 0, [5, 78, 9, 1]), none, none, some (.ifCond .eq 10, 7, nI 0, [14]), none, none, some (.aload_n 0, 8, nI 0, [0]), some (.getfield 9, 11, nI 0, [2, 1, 0, 3]), none, none, some (.iload_n 1, 12, nI 0, [1]), some (.iload_n 2, 13, nI 0, [2]), some (.iastore, 14, nI 0, []), some (.return_, 15, nI 0, [])]
/-- MajorityMap$Commands.forgetUpTo(I)V -/
def x_T15 : List (Option xE) := [some (.iconst 1, 1, nI 1, []), some (.istore_n 2, 2, nI 0, [2]), some (.iload_n 2, 3, nI 0, [2]), some (.iload_n 1, 4, nI 0, [1]), some (.if_icmp .gt 22, 7, nI 0, [26]), none, none, some (.iload_n 2, 8, nI 0, [2]), some (.bipush 24, 10, nI 24, []), none, some (.if_icmp .gt 16, 13, nI 0, [26]), none, none, some (.aload_n 0, 14, nI 0, [0]), some (.getfield 9, 17, nI 0, [2, 1, 0, 3]), none, none, some (.iload_n 2, 18, nI 0, [2]), some (.iconst (-1), 19, (-1), []), some (.iastore, 20, nI 0, []), some (.iinc 2 1, 23, nI 1, [2]), none, none, some (.goto (-21), 26, nI 0, [2]), none, none, some (.return_, 27, nI 0, [])]
/-- MajorityMap$Commands.hasAbove(I)Z -/
def x_T16 : List (Option xE) := [some (.bipush 24, 2, nI 24, []), none, some (.istore_n 2, 3, nI 0, [2]), some (.iload_n 2, 4, nI 0, [2]), some (.iload_n 1, 5, nI 0, [1]), some (.if_icmp .le 19, 8, nI 0, [24]), none, none, some (.aload_n 0, 9, nI 0, [0]), some (.iload_n 2, 10, nI 0, [2]), some (.invokevirtual 25, 13, nI 0, [0, 13, 2, 2]), none, none, some (.ifCond .eq 5, 16, nI 0, [18]), none, none, some (.iconst 1, 17, nI 1, []), some (.ireturn, 18, nI 0, []), some (.iinc 2 (-1), 21, (-1), [2]), none, none, some (.goto (-18), 24, nI 0, [3]), none, none, some (.iconst 0, 25, nI 0, []), some (.ireturn, 26, nI 0, [])]
/-- MajorityMap$Message.<init>(IIIIII)V -/
def x_T17 : List (Option xE) := [some (.aload_n 0, 1, nI 0, [0]), some (.invokespecial 3, 4, nI 0, [8]), none, none, some (.aload_n 0, 5, nI 0, [0]), some (.iload_n 1, 6, nI 0, [1]), some (.putfield 9, 9, nI 0, [3, 8, 0, 0]), none, none, some (.aload_n 0, 10, nI 0, [0]), some (.iload_n 2, 11, nI 0, [2]), some (.putfield 15, 14, nI 0, [3, 8, 1, 0]), none, none, some (.aload_n 0, 15, nI 0, [0]), some (.iload_n 3, 16, nI 0, [3]), some (.putfield 18, 19, nI 0, [3, 8, 2, 0]), none, none, some (.aload_n 0, 20, nI 0, [0]), some (.iload 4, 22, nI 0, [4]), none, some (.putfield 21, 25, nI 0, [3, 8, 3, 0]), none, none, some (.aload_n 0, 26, nI 0, [0]), some (.iload 5, 28, nI 0, [5]), none, some (.putfield 24, 31, nI 0, [3, 8, 4, 0]), none, none, some (.aload_n 0, 32, nI 0, [0]), some (.iload 6, 34, nI 0, [6]), none, some (.putfield 27, 37, nI 0, [3, 8, 5, 0]), none, none, some (.aload_n 0, 38, nI 0, [0]), some (.aconst_null, 39, nI 0, []), some (.putfield 30, 42, nI 0, [3, 8, 6, 3]), none, none, some (.aload_n 0, 43, nI 0, [0]), some (.aconst_null, 44, nI 0, []), some (.putfield 34, 47, nI 0, [3, 8, 7, 3]), none, none, some (.return_, 48, nI 0, [])]
/-- MajorityMap$Message.<init>(IIIILMajorityMap$Votes;LMajorityMap$State;)V -/
def x_T18 : List (Option xE) := [some (.aload_n 0, 1, nI 0, [0]), some (.invokespecial 3, 4, nI 0, [8]), none, none, some (.aload_n 0, 5, nI 0, [0]), some (.iload_n 1, 6, nI 0, [1]), some (.putfield 9, 9, nI 0, [3, 8, 0, 0]), none, none, some (.aload_n 0, 10, nI 0, [0]), some (.iload_n 2, 11, nI 0, [2]), some (.putfield 15, 14, nI 0, [3, 8, 1, 0]), none, none, some (.aload_n 0, 15, nI 0, [0]), some (.iload_n 3, 16, nI 0, [3]), some (.putfield 18, 19, nI 0, [3, 8, 2, 0]), none, none, some (.aload_n 0, 20, nI 0, [0]), some (.iload 4, 22, nI 0, [4]), none, some (.putfield 21, 25, nI 0, [3, 8, 3, 0]), none, none, some (.aload_n 0, 26, nI 0, [0]), some (.aload 6, 28, nI 0, [6]), none, some (.ifnonnull 7, 31, nI 0, [35]), none, none, some (.iconst 0, 32, nI 0, []), some (.goto 8, 35, nI 0, [40]), none, none, some (.aload 6, 37, nI 0, [6]), none, some (.getfield 38, 40, nI 0, [7, 7, 0, 0]), none, none, some (.putfield 24, 43, nI 0, [3, 8, 4, 0]), none, none, some (.aload_n 0, 44, nI 0, [0]), some (.iconst 0, 45, nI 0, []), some (.putfield 27, 48, nI 0, [3, 8, 5, 0]), none, none, some (.aload_n 0, 49, nI 0, [0]), some (.aload 5, 51, nI 0, [5]), none, some (.putfield 30, 54, nI 0, [3, 8, 6, 3]), none, none, some (.aload_n 0, 55, nI 0, [0]), some (.aload 6, 57, nI 0, [6]), none, some (.putfield 34, 60, nI 0, [3, 8, 7, 3]), none, none, some (.return_, 61, nI 0, [])]
/-- MajorityMap$Message.number()I -/
def x_T19 : List (Option xE) := [some (.aload_n 0, 1, nI 0, [0]), some (.getfield 9, 4, nI 0, [3, 8, 0, 0]), none, none, some (.iconst 1, 5, nI 1, []), some (.if_icmp .eq 20, 8, nI 0, [25]), none, none, some (.aload_n 0, 9, nI 0, [0]), some (.getfield 9, 12, nI 0, [3, 8, 0, 0]), none, none, some (.iconst 2, 13, nI 2, []), some (.if_icmp .eq 12, 16, nI 0, [25]), none, none, some (.aload_n 0, 17, nI 0, [0]), some (.getfield 9, 20, nI 0, [3, 8, 0, 0]), none, none, some (.bipush 6, 22, nI 6, []), none, some (.if_icmp .ne 10, 25, nI 0, [32]), none, none, some (.aload_n 0, 26, nI 0, [0]), some (.getfield 21, 29, nI 0, [3, 8, 3, 0]), none, none, some (.goto 7, 32, nI 0, [36]), none, none, some (.aload_n 0, 33, nI 0, [0]), some (.getfield 24, 36, nI 0, [3, 8, 4, 0]), none, none, some (.ireturn, 37, nI 0, [])]
/-- MajorityMap$Message.load()I -/
def x_T20 : List (Option xE) := [some (.aload_n 0, 1, nI 0, [0]), some (.getfield 9, 4, nI 0, [3, 8, 0, 0]), none, none, some (.iconst 2, 5, nI 2, []), some (.if_icmp .ne 20, 8, nI 0, [25]), none, none, some (.aload_n 0, 9, nI 0, [0]), some (.getfield 30, 12, nI 0, [3, 8, 6, 3]), none, none, some (.ifnull 13, 15, nI 0, [25]), none, none, some (.aload_n 0, 16, nI 0, [0]), some (.getfield 30, 19, nI 0, [3, 8, 6, 3]), none, none, some (.bipush 24, 21, nI 24, []), none, some (.invokevirtual 41, 24, nI 0, [0, 71, 8, 2]), none, none, some (.ireturn, 25, nI 0, []), some (.aload_n 0, 26, nI 0, [0]), some (.getfield 9, 29, nI 0, [3, 8, 0, 0]), none, none, some (.bipush 8, 31, nI 8, []), none, some (.if_icmp .ne 18, 34, nI 0, [49]), none, none, some (.aload_n 0, 35, nI 0, [0]), some (.getfield 34, 38, nI 0, [3, 8, 7, 3]), none, none, some (.ifnull 11, 41, nI 0, [49]), none, none, some (.aload_n 0, 42, nI 0, [0]), some (.getfield 34, 45, nI 0, [3, 8, 7, 3]), none, none, some (.invokevirtual 47, 48, nI 0, [0, 62, 7, 1]), none, none, some (.ireturn, 49, nI 0, []), some (.iconst 0, 50, nI 0, []), some (.ireturn, 51, nI 0, [])]
/-- MajorityMap$Net.<init>()V -/
def x_T21 : List (Option xE) := [some (.aload_n 0, 1, nI 0, [0]), some (.invokespecial 3, 4, nI 0, [8]), none, none, some (.aload_n 0, 5, nI 0, [0]), some (.bipush 32, 7, nI 32, []), none, some (.anewarray 9, 10, nI 0, [3]), none, none, some (.putfield 11, 13, nI 0, [4, 2, 0, 3]), none, none, some (.return_, 14, nI 0, [])]
/-- MajorityMap$Net.put(LMajorityMap$Message;)Z -/
def x_T22 : List (Option xE) := [some (.aload_n 0, 1, nI 0, [0]), some (.getfield 17, 4, nI 0, [4, 2, 1, 0]), none, none, some (.bipush 32, 6, nI 32, []), none, some (.if_icmp .lt 5, 9, nI 0, [11]), none, none, some (.iconst 0, 10, nI 0, []), some (.ireturn, 11, nI 0, []), some (.aload_n 0, 12, nI 0, [0]), some (.getfield 11, 15, nI 0, [4, 2, 0, 3]), none, none, some (.aload_n 0, 16, nI 0, [0]), some (.getfield 17, 19, nI 0, [4, 2, 1, 0]), none, none, some (.aload_n 1, 20, nI 0, [1]), some (.aastore, 21, nI 0, []), some (.aload_n 0, 22, nI 0, [0]), some (.dup, 23, nI 0, []), some (.getfield 17, 26, nI 0, [4, 2, 1, 0]), none, none, some (.iconst 1, 27, nI 1, []), some (.iadd, 28, nI 0, []), some (.putfield 17, 31, nI 0, [4, 2, 1, 0]), none, none, some (.iconst 1, 32, nI 1, []), some (.ireturn, 33, nI 0, [])]
/-- MajorityMap$Net.size()I -/
def x_T23 : List (Option xE) := [some (.aload_n 0, 1, nI 0, [0]), some (.getfield 17, 4, nI 0, [4, 2, 1, 0]), none, none, some (.ireturn, 5, nI 0, [])]
/-- MajorityMap$Net.take(I)LMajorityMap$Message; -/
def x_T24 : List (Option xE) := [some (.aload_n 0, 1, nI 0, [0]), some (.iload_n 1, 2, nI 0, [1]), some (.invokevirtual 21, 5, nI 0, [0, 25, 4, 2]), none, none, some (.astore_n 2, 6, nI 0, [2]), some (.aload_n 2, 7, nI 0, [2]), some (.ifnull 53, 10, nI 0, [60]), none, none, some (.aload_n 0, 11, nI 0, [0]), some (.dup, 12, nI 0, []), some (.getfield 17, 15, nI 0, [4, 2, 1, 0]), none, none, some (.iconst 1, 16, nI 1, []), some (.isub, 17, nI 0, []), some (.putfield 17, 20, nI 0, [4, 2, 1, 0]), none, none, some (.iload_n 1, 21, nI 0, [1]), some (.istore_n 3, 22, nI 0, [3]), some (.iload_n 3, 23, nI 0, [3]), some (.aload_n 0, 24, nI 0, [0]), some (.getfield 17, 27, nI 0, [4, 2, 1, 0]), none, none, some (.if_icmp .ge 23, 30, nI 0, [50]), none, none, some (.aload_n 0, 31, nI 0, [0]), some (.getfield 11, 34, nI 0, [4, 2, 0, 3]), none, none, some (.iload_n 3, 35, nI 0, [3]), some (.aload_n 0, 36, nI 0, [0]), some (.getfield 11, 39, nI 0, [4, 2, 0, 3]), none, none, some (.iload_n 3, 40, nI 0, [3]), some (.iconst 1, 41, nI 1, []), some (.iadd, 42, nI 0, []), some (.aaload, 43, nI 0, []), some (.aastore, 44, nI 0, []), some (.iinc 3 1, 47, nI 1, [3]), none, none, some (.goto (-25), 50, nI 0, [22]), none, none, some (.aload_n 0, 51, nI 0, [0]), some (.getfield 11, 54, nI 0, [4, 2, 0, 3]), none, none, some (.aload_n 0, 55, nI 0, [0]), some (.getfield 17, 58, nI 0, [4, 2, 1, 0]), none, none, some (.aconst_null, 59, nI 0, []), some (.aastore, 60, nI 0, []), some (.aload_n 2, 61, nI 0, [2]), some (.areturn, 62, nI 0, [])]
/-- MajorityMap$Net.at(I)LMajorityMap$Message; -/
def x_T25 : List (Option xE) := [some (.iload_n 1, 1, nI 0, [1]), some (.ifCond .lt 20, 4, nI 0, [21]), none, none, some (.iload_n 1, 5, nI 0, [1]), some (.aload_n 0, 6, nI 0, [0]), some (.getfield 17, 9, nI 0, [4, 2, 1, 0]), none, none, some (.if_icmp .ge 12, 12, nI 0, [21]), none, none, some (.aload_n 0, 13, nI 0, [0]), some (.getfield 11, 16, nI 0, [4, 2, 0, 3]), none, none, some (.iload_n 1, 17, nI 0, [1]), some (.aaload, 18, nI 0, []), some (.goto 4, 21, nI 0, [22]), none, none, some (.aconst_null, 22, nI 0, []), some (.areturn, 23, nI 0, [])]
/-- MajorityMap$Replica.<init>(ILMajorityMap$Client;LMajorityMap$Net;LMajorityMap$State;)V -/
def x_T26 : List (Option xE) := [some (.aload_n 0, 1, nI 0, [0]), some (.invokespecial 3, 4, nI 0, [8]), none, none, some (.aload_n 0, 5, nI 0, [0]), some (.iconst 1, 6, nI 1, []), some (.putfield 9, 9, nI 0, [5, 10, 3, 1]), none, none, some (.aload_n 0, 10, nI 0, [0]), some (.new 15, 13, nI 0, [8, 2]), none, none, some (.dup, 14, nI 0, []), some (.invokespecial 17, 17, nI 0, [6, 63, 8, 1]), none, none, some (.putfield 18, 20, nI 0, [5, 10, 5, 3]), none, none, some (.aload_n 0, 21, nI 0, [0]), some (.new 22, 24, nI 0, [2, 1]), none, none, some (.dup, 25, nI 0, []), some (.invokespecial 24, 28, nI 0, [3, 10, 2, 1]), none, none, some (.putfield 25, 31, nI 0, [5, 10, 8, 3]), none, none, some (.aload_n 0, 32, nI 0, [0]), some (.new 29, 35, nI 0, [0, 5]), none, none, some (.dup, 36, nI 0, []), some (.invokespecial 31, 39, nI 0, [6, 0, 0, 1]), none, none, some (.putfield 32, 42, nI 0, [5, 10, 9, 3]), none, none, some (.aload_n 0, 43, nI 0, [0]), some (.iload_n 1, 44, nI 0, [1]), some (.putfield 36, 47, nI 0, [5, 10, 0, 0]), none, none, some (.aload_n 0, 48, nI 0, [0]), some (.aload_n 2, 49, nI 0, [2]), some (.putfield 40, 52, nI 0, [5, 10, 1, 3]), none, none, some (.aload_n 0, 53, nI 0, [0]), some (.aload_n 3, 54, nI 0, [3]), some (.putfield 44, 57, nI 0, [5, 10, 2, 3]), none, none, some (.aload_n 0, 58, nI 0, [0]), some (.aload 4, 60, nI 0, [4]), none, some (.putfield 48, 63, nI 0, [5, 10, 6, 3]), none, none, some (.aload_n 0, 64, nI 0, [0]), some (.aload 4, 66, nI 0, [4]), none, some (.putfield 52, 69, nI 0, [5, 10, 7, 3]), none, none, some (.return_, 70, nI 0, [])]
/-- MajorityMap$Replica.takeRequest(I)I -/
def x_T27 : List (Option xE) := [some (.aload_n 0, 1, nI 0, [0]), some (.getfield 9, 4, nI 0, [5, 10, 3, 1]), none, none, some (.ifCond .ne 5, 7, nI 0, [9]), none, none, some (.iconst 0, 8, nI 0, []), some (.ireturn, 9, nI 0, []), some (.aload_n 0, 10, nI 0, [0]), some (.getfield 52, 13, nI 0, [5, 10, 7, 3]), none, none, some (.iload_n 1, 14, nI 0, [1]), some (.invokevirtual 109, 17, nI 0, [0, 55, 7, 2]), none, none, some (.ifCond .eq 21, 20, nI 0, [38]), none, none, some (.aload_n 0, 21, nI 0, [0]), some (.getfield 40, 24, nI 0, [5, 10, 1, 3]), none, none, some (.iload_n 1, 25, nI 0, [1]), some (.aload_n 0, 26, nI 0, [0]), some (.getfield 52, 29, nI 0, [5, 10, 7, 3]), none, none, some (.iload_n 1, 30, nI 0, [1]), some (.invokevirtual 112, 33, nI 0, [0, 56, 7, 2]), none, none, some (.invokevirtual 115, 36, nI 0, [0, 9, 1, 3]), none, none, some (.iconst 1, 37, nI 1, []), some (.ireturn, 38, nI 0, []), some (.aload_n 0, 39, nI 0, [0]), some (.invokevirtual 61, 42, nI 0, [0, 28, 5, 1]), none, none, some (.ifCond .ne 5, 45, nI 0, [47]), none, none, some (.iconst 0, 46, nI 0, []), some (.ireturn, 47, nI 0, []), some (.aload_n 0, 48, nI 0, [0]), some (.getfield 52, 51, nI 0, [5, 10, 7, 3]), none, none, some (.getfield 65, 54, nI 0, [7, 7, 0, 0]), none, none, some (.istore_n 2, 55, nI 0, [2]), some (.aload_n 0, 56, nI 0, [0]), some (.getfield 25, 59, nI 0, [5, 10, 8, 3]), none, none, some (.iload_n 2, 60, nI 0, [2]), some (.iload_n 1, 61, nI 0, [1]), some (.invokevirtual 121, 64, nI 0, [0, 11, 2, 3]), none, none, some (.ifCond .ne 18, 67, nI 0, [82]), none, none, some (.aload_n 0, 68, nI 0, [0]), some (.getfield 32, 71, nI 0, [5, 10, 9, 3]), none, none, some (.getfield 91, 74, nI 0, [0, 5, 3, 3]), none, none, some (.iload_n 2, 75, nI 0, [2]), some (.iload_n 1, 76, nI 0, [1]), some (.invokevirtual 121, 79, nI 0, [0, 11, 2, 3]), none, none, some (.ifCond .eq 5, 82, nI 0, [84]), none, none, some (.iconst 3, 83, nI 3, []), some (.ireturn, 84, nI 0, []), some (.aload_n 0, 85, nI 0, [0]), some (.invokevirtual 124, 88, nI 0, [0, 29, 5, 1]), none, none, some (.istore_n 3, 89, nI 0, [3]), some (.iload_n 3, 90, nI 0, [3]), some (.invokestatic 85, 93, nI 0, [5, 78, 9, 1]), none, none, some (.ifCond .eq 11, 96, nI 0, [104]), none, none, some (.aload_n 0, 97, nI 0, [0]), some (.iload_n 3, 98, nI 0, [3]), some (.invokevirtual 70, 101, nI 0, [0, 31, 5, 2]), none, none, some (.ifCond .ne 5, 104, nI 0, [106]), none, none, some (.iconst 4, 105, nI 4, []), some (.ireturn, 106, nI 0, []), some (.aload_n 0, 107, nI 0, [0]), some (.iload_n 3, 108, nI 0, [3]), some (.iload_n 1, 109, nI 0, [1]), some (.invokevirtual 128, 112, nI 0, [0, 32, 5, 3]), none, none, some (.iconst 2, 113, nI 2, []), some (.ireturn, 114, nI 0, [])]
/-- MajorityMap$Replica.campaigns()Z -/
def x_T28 : List (Option xE) := [some (.aload_n 0, 1, nI 0, [0]), some (.getfield 32, 4, nI 0, [5, 10, 9, 3]), none, none, some (.getfield 55, 7, nI 0, [0, 5, 0, 0]), none, none, some (.aload_n 0, 8, nI 0, [0]), some (.getfield 58, 11, nI 0, [5, 10, 4, 0]), none, none, some (.if_icmp .ne 7, 14, nI 0, [18]), none, none, some (.iconst 1, 15, nI 1, []), some (.goto 4, 18, nI 0, [19]), none, none, some (.iconst 0, 19, nI 0, []), some (.ireturn, 20, nI 0, [])]
/-- MajorityMap$Replica.firstOpenAhead()I -/
def x_T29 : List (Option xE) := [some (.aload_n 0, 1, nI 0, [0]), some (.getfield 52, 4, nI 0, [5, 10, 7, 3]), none, none, some (.getfield 65, 7, nI 0, [7, 7, 0, 0]), none, none, some (.iconst 3, 8, nI 3, []), some (.iadd, 9, nI 0, []), some (.istore_n 1, 10, nI 0, [1]), some (.aload_n 0, 11, nI 0, [0]), some (.getfield 52, 14, nI 0, [5, 10, 7, 3]), none, none, some (.getfield 65, 17, nI 0, [7, 7, 0, 0]), none, none, some (.iconst 1, 18, nI 1, []), some (.iadd, 19, nI 0, []), some (.istore_n 2, 20, nI 0, [2]), some (.iload_n 2, 21, nI 0, [2]), some (.iload_n 1, 22, nI 0, [1]), some (.if_icmp .gt 19, 25, nI 0, [41]), none, none, some (.aload_n 0, 26, nI 0, [0]), some (.iload_n 2, 27, nI 0, [2]), some (.invokevirtual 131, 30, nI 0, [0, 30, 5, 2]), none, none, some (.ifCond .eq 5, 33, nI 0, [35]), none, none, some (.iload_n 2, 34, nI 0, [2]), some (.ireturn, 35, nI 0, []), some (.iinc 2 1, 38, nI 1, [2]), none, none, some (.goto (-18), 41, nI 0, [20]), none, none, some (.iconst 0, 42, nI 0, []), some (.ireturn, 43, nI 0, [])]
/-- MajorityMap$Replica.isOpen(I)Z -/
def x_T30 : List (Option xE) := [some (.iload_n 1, 1, nI 0, [1]), some (.invokestatic 85, 4, nI 0, [5, 78, 9, 1]), none, none, some (.ifCond .eq 32, 7, nI 0, [36]), none, none, some (.aload_n 0, 8, nI 0, [0]), some (.getfield 25, 11, nI 0, [5, 10, 8, 3]), none, none, some (.iload_n 1, 12, nI 0, [1]), some (.invokevirtual 88, 15, nI 0, [0, 13, 2, 2]), none, none, some (.ifCond .ne 21, 18, nI 0, [36]), none, none, some (.aload_n 0, 19, nI 0, [0]), some (.getfield 32, 22, nI 0, [5, 10, 9, 3]), none, none, some (.getfield 91, 25, nI 0, [0, 5, 3, 3]), none, none, some (.iload_n 1, 26, nI 0, [1]), some (.invokevirtual 88, 29, nI 0, [0, 13, 2, 2]), none, none, some (.ifCond .ne 7, 32, nI 0, [36]), none, none, some (.iconst 1, 33, nI 1, []), some (.goto 4, 36, nI 0, [37]), none, none, some (.iconst 0, 37, nI 0, []), some (.ireturn, 38, nI 0, [])]
/-- MajorityMap$Replica.isSupportedFor(I)Z -/
def x_T31 : List (Option xE) := [some (.aload_n 0, 1, nI 0, [0]), some (.getfield 32, 4, nI 0, [5, 10, 9, 3]), none, none, some (.getfield 74, 7, nI 0, [0, 5, 1, 0]), none, none, some (.aload_n 0, 8, nI 0, [0]), some (.getfield 52, 11, nI 0, [5, 10, 7, 3]), none, none, some (.iload_n 1, 12, nI 0, [1]), some (.invokevirtual 77, 15, nI 0, [0, 57, 7, 2]), none, none, some (.invokestatic 81, 18, nI 0, [5, 79, 9, 2]), none, none, some (.ireturn, 19, nI 0, [])]
/-- MajorityMap$Replica.propose(II)V -/
def x_T32 : List (Option xE) := [some (.aload_n 0, 1, nI 0, [0]), some (.getfield 52, 4, nI 0, [5, 10, 7, 3]), none, none, some (.iload_n 1, 5, nI 0, [1]), some (.invokevirtual 77, 8, nI 0, [0, 57, 7, 2]), none, none, some (.istore_n 3, 9, nI 0, [3]), some (.aload_n 0, 10, nI 0, [0]), some (.getfield 32, 13, nI 0, [5, 10, 9, 3]), none, none, some (.iload_n 1, 14, nI 0, [1]), some (.iload_n 2, 15, nI 0, [2]), some (.invokevirtual 180, 18, nI 0, [0, 1, 0, 3]), none, none, some (.iload_n 3, 19, nI 0, [3]), some (.aload_n 0, 20, nI 0, [0]), some (.getfield 36, 23, nI 0, [5, 10, 0, 0]), none, none, some (.ishr, 24, nI 0, []), some (.iconst 1, 25, nI 1, []), some (.iand, 26, nI 0, []), some (.ifCond .eq 31, 29, nI 0, [57]), none, none, some (.aload_n 0, 30, nI 0, [0]), some (.getfield 18, 33, nI 0, [5, 10, 5, 3]), none, none, some (.iload_n 1, 34, nI 0, [1]), some (.aload_n 0, 35, nI 0, [0]), some (.getfield 32, 38, nI 0, [5, 10, 9, 3]), none, none, some (.getfield 55, 41, nI 0, [0, 5, 0, 0]), none, none, some (.iload_n 2, 42, nI 0, [2]), some (.invokevirtual 181, 45, nI 0, [0, 64, 8, 4]), none, none, some (.aload_n 0, 46, nI 0, [0]), some (.getfield 32, 49, nI 0, [5, 10, 9, 3]), none, none, some (.iload_n 1, 50, nI 0, [1]), some (.aload_n 0, 51, nI 0, [0]), some (.getfield 36, 54, nI 0, [5, 10, 0, 0]), none, none, some (.invokevirtual 184, 57, nI 0, [0, 2, 0, 3]), none, none, some (.aload_n 0, 58, nI 0, [0]), some (.iload_n 3, 59, nI 0, [3]), some (.aload_n 0, 60, nI 0, [0]), some (.invokevirtual 137, 63, nI 0, [0, 33, 5, 1]), none, none, some (.iand, 64, nI 0, []), some (.iconst 3, 65, nI 3, []), some (.aload_n 0, 66, nI 0, [0]), some (.getfield 32, 69, nI 0, [5, 10, 9, 3]), none, none, some (.getfield 55, 72, nI 0, [0, 5, 0, 0]), none, none, some (.iload_n 1, 73, nI 0, [1]), some (.iload_n 2, 74, nI 0, [2]), some (.invokevirtual 140, 77, nI 0, [0, 34, 5, 6]), none, none, some (.return_, 78, nI 0, [])]
/-- MajorityMap$Replica.others()I -/
def x_T33 : List (Option xE) := [some (.bipush 31, 2, nI 31, []), none, some (.iconst 1, 3, nI 1, []), some (.aload_n 0, 4, nI 0, [0]), some (.getfield 36, 7, nI 0, [5, 10, 0, 0]), none, none, some (.ishl, 8, nI 0, []), some (.iconst (-1), 9, (-1), []), some (.ixor, 10, nI 0, []), some (.iand, 11, nI 0, []), some (.ireturn, 12, nI 0, [])]
/-- MajorityMap$Replica.sendToEach(IIIII)V -/
def x_T34 : List (Option xE) := [some (.iconst 0, 1, nI 0, []), some (.istore 6, 3, nI 0, [6]), none, some (.iload 6, 5, nI 0, [6]), none, some (.iconst 5, 6, nI 5, []), some (.if_icmp .ge 45, 9, nI 0, [51]), none, none, some (.iload_n 1, 10, nI 0, [1]), some (.iload 6, 12, nI 0, [6]), none, some (.ishr, 13, nI 0, []), some (.iconst 1, 14, nI 1, []), some (.iand, 15, nI 0, []), some (.ifCond .eq 30, 18, nI 0, [45]), none, none, some (.aload_n 0, 19, nI 0, [0]), some (.getfield 44, 22, nI 0, [5, 10, 2, 3]), none, none, some (.new 169, 25, nI 0, [3, 8]), none, none, some (.dup, 26, nI 0, []), some (.iload_n 2, 27, nI 0, [2]), some (.aload_n 0, 28, nI 0, [0]), some (.getfield 36, 31, nI 0, [5, 10, 0, 0]), none, none, some (.iload 6, 33, nI 0, [6]), none, some (.iload_n 3, 34, nI 0, [3]), some (.iload 4, 36, nI 0, [4]), none, some (.iload 5, 38, nI 0, [5]), none, some (.invokespecial 171, 41, nI 0, [3, 17, 3, 7]), none, none, some (.invokevirtual 174, 44, nI 0, [0, 22, 4, 2]), none, none, some (.pop, 45, nI 0, []), some (.iinc 6 1, 48, nI 1, [6]), none, none, some (.goto (-45), 51, nI 0, [3]), none, none, some (.return_, 52, nI 0, [])]
/-- MajorityMap$Replica.strike()V -/
def x_T35 : List (Option xE) := [some (.aload_n 0, 1, nI 0, [0]), some (.getfield 52, 4, nI 0, [5, 10, 7, 3]), none, none, some (.invokevirtual 134, 7, nI 0, [0, 58, 7, 1]), none, none, some (.aload_n 0, 8, nI 0, [0]), some (.invokevirtual 137, 11, nI 0, [0, 33, 5, 1]), none, none, some (.iand, 12, nI 0, []), some (.istore_n 1, 13, nI 0, [1]), some (.aload_n 0, 14, nI 0, [0]), some (.invokevirtual 61, 17, nI 0, [0, 28, 5, 1]), none, none, some (.ifCond .eq 35, 20, nI 0, [52]), none, none, some (.aload_n 0, 21, nI 0, [0]), some (.iload_n 1, 22, nI 0, [1]), some (.aload_n 0, 23, nI 0, [0]), some (.getfield 32, 26, nI 0, [5, 10, 9, 3]), none, none, some (.getfield 74, 29, nI 0, [0, 5, 1, 0]), none, none, some (.iconst (-1), 30, (-1), []), some (.ixor, 31, nI 0, []), some (.iand, 32, nI 0, []), some (.iconst 1, 33, nI 1, []), some (.aload_n 0, 34, nI 0, [0]), some (.getfield 32, 37, nI 0, [5, 10, 9, 3]), none, none, some (.getfield 55, 40, nI 0, [0, 5, 0, 0]), none, none, some (.iconst 0, 41, nI 0, []), some (.iconst 0, 42, nI 0, []), some (.invokevirtual 140, 45, nI 0, [0, 34, 5, 6]), none, none, some (.aload_n 0, 46, nI 0, [0]), some (.invokevirtual 144, 49, nI 0, [0, 36, 5, 1]), none, none, some (.goto 51, 52, nI 0, [100]), none, none, some (.aload_n 0, 53, nI 0, [0]), some (.aload_n 0, 54, nI 0, [0]), some (.aload_n 0, 55, nI 0, [0]), some (.getfield 58, 58, nI 0, [5, 10, 4, 0]), none, none, some (.invokevirtual 147, 61, nI 0, [0, 37, 5, 2]), none, none, some (.putfield 58, 64, nI 0, [5, 10, 4, 0]), none, none, some (.aload_n 0, 65, nI 0, [0]), some (.getfield 32, 68, nI 0, [5, 10, 9, 3]), none, none, some (.aload_n 0, 69, nI 0, [0]), some (.getfield 58, 72, nI 0, [5, 10, 4, 0]), none, none, some (.iconst 1, 73, nI 1, []), some (.aload_n 0, 74, nI 0, [0]), some (.getfield 36, 77, nI 0, [5, 10, 0, 0]), none, none, some (.ishl, 78, nI 0, []), some (.aload_n 0, 79, nI 0, [0]), some (.getfield 18, 82, nI 0, [5, 10, 5, 3]), none, none, some (.invokevirtual 150, 85, nI 0, [0, 4, 0, 4]), none, none, some (.aload_n 0, 86, nI 0, [0]), some (.iload_n 1, 87, nI 0, [1]), some (.iconst 1, 88, nI 1, []), some (.aload_n 0, 89, nI 0, [0]), some (.getfield 32, 92, nI 0, [5, 10, 9, 3]), none, none, some (.getfield 55, 95, nI 0, [0, 5, 0, 0]), none, none, some (.iconst 0, 96, nI 0, []), some (.iconst 0, 97, nI 0, []), some (.invokevirtual 140, 100, nI 0, [0, 34, 5, 6]), none, none, some (.return_, 101, nI 0, [])]
/-- MajorityMap$Replica.repeatProposals()V -/
def x_T36 : List (Option xE) := [some (.aload_n 0, 1, nI 0, [0]), some (.getfield 52, 4, nI 0, [5, 10, 7, 3]), none, none, some (.getfield 65, 7, nI 0, [7, 7, 0, 0]), none, none, some (.iconst 3, 8, nI 3, []), some (.iadd, 9, nI 0, []), some (.istore_n 1, 10, nI 0, [1]), some (.aload_n 0, 11, nI 0, [0]), some (.getfield 52, 14, nI 0, [5, 10, 7, 3]), none, none, some (.getfield 65, 17, nI 0, [7, 7, 0, 0]), none, none, some (.iconst 1, 18, nI 1, []), some (.iadd, 19, nI 0, []), some (.istore_n 2, 20, nI 0, [2]), some (.iload_n 2, 21, nI 0, [2]), some (.iload_n 1, 22, nI 0, [1]), some (.if_icmp .gt 84, 25, nI 0, [106]), none, none, some (.aload_n 0, 26, nI 0, [0]), some (.getfield 32, 29, nI 0, [5, 10, 9, 3]), none, none, some (.getfield 91, 32, nI 0, [0, 5, 3, 3]), none, none, some (.iload_n 2, 33, nI 0, [2]), some (.invokevirtual 88, 36, nI 0, [0, 13, 2, 2]), none, none, some (.ifCond .eq 64, 39, nI 0, [100]), none, none, some (.aload_n 0, 40, nI 0, [0]), some (.getfield 25, 43, nI 0, [5, 10, 8, 3]), none, none, some (.iload_n 2, 44, nI 0, [2]), some (.invokevirtual 88, 47, nI 0, [0, 13, 2, 2]), none, none, some (.ifCond .ne 53, 50, nI 0, [100]), none, none, some (.aload_n 0, 51, nI 0, [0]), some (.getfield 52, 54, nI 0, [5, 10, 7, 3]), none, none, some (.iload_n 2, 55, nI 0, [2]), some (.invokevirtual 77, 58, nI 0, [0, 57, 7, 2]), none, none, some (.aload_n 0, 59, nI 0, [0]), some (.invokevirtual 137, 62, nI 0, [0, 33, 5, 1]), none, none, some (.iand, 63, nI 0, []), some (.aload_n 0, 64, nI 0, [0]), some (.getfield 32, 67, nI 0, [5, 10, 9, 3]), none, none, some (.iload_n 2, 68, nI 0, [2]), some (.invokevirtual 163, 71, nI 0, [0, 3, 0, 2]), none, none, some (.iconst (-1), 72, (-1), []), some (.ixor, 73, nI 0, []), some (.iand, 74, nI 0, []), some (.istore_n 3, 75, nI 0, [3]), some (.aload_n 0, 76, nI 0, [0]), some (.iload_n 3, 77, nI 0, [3]), some (.iconst 3, 78, nI 3, []), some (.aload_n 0, 79, nI 0, [0]), some (.getfield 32, 82, nI 0, [5, 10, 9, 3]), none, none, some (.getfield 55, 85, nI 0, [0, 5, 0, 0]), none, none, some (.iload_n 2, 86, nI 0, [2]), some (.aload_n 0, 87, nI 0, [0]), some (.getfield 32, 90, nI 0, [5, 10, 9, 3]), none, none, some (.getfield 91, 93, nI 0, [0, 5, 3, 3]), none, none, some (.iload_n 2, 94, nI 0, [2]), some (.invokevirtual 166, 97, nI 0, [0, 12, 2, 2]), none, none, some (.invokevirtual 140, 100, nI 0, [0, 34, 5, 6]), none, none, some (.iinc 2 1, 103, nI 1, [2]), none, none, some (.goto (-83), 106, nI 0, [20]), none, none, some (.return_, 107, nI 0, [])]
/-- MajorityMap$Replica.leastBallotAbove(I)I -/
def x_T37 : List (Option xE) := [some (.iload_n 1, 1, nI 0, [1]), some (.aload_n 0, 2, nI 0, [0]), some (.getfield 36, 5, nI 0, [5, 10, 0, 0]), none, none, some (.isub, 6, nI 0, []), some (.iconst 5, 7, nI 5, []), some (.invokestatic 154, 10, nI 0, [2, 143, 13, 2]), none, none, some (.iconst 1, 11, nI 1, []), some (.iadd, 12, nI 0, []), some (.istore_n 2, 13, nI 0, [2]), some (.iconst 5, 14, nI 5, []), some (.iload_n 2, 15, nI 0, [2]), some (.iconst 1, 16, nI 1, []), some (.invokestatic 160, 19, nI 0, [2, 144, 13, 2]), none, none, some (.imul, 20, nI 0, []), some (.aload_n 0, 21, nI 0, [0]), some (.getfield 36, 24, nI 0, [5, 10, 0, 0]), none, none, some (.iadd, 25, nI 0, []), some (.ireturn, 26, nI 0, [])]
/-- MajorityMap$Replica.receive(LMajorityMap$Message;)V -/
def x_T38 : List (Option xE) := [some (.iconst 0, 1, nI 0, []), some (.istore_n 2, 2, nI 0, [2]), some (.aload_n 1, 3, nI 0, [1]), some (.getfield 187, 6, nI 0, [3, 8, 0, 0]), none, none, some (.tableswitch 128 1 8 #[46, 54, 63, 71, 80, 89, 107, 115], 52, nI 0, [1, 134, 52, 60, 69, 77, 86, 95, 113, 121]), none, none, none, none, none, none, none, none, none, none, none, none, none, none, none, none, none, none, none, none, none, none, none, none, none, none, none, none, none, none, none, none, none, none, none, none, none, none, none, none, none, none, none, none, none, some (.aload_n 0, 53, nI 0, [0]), some (.aload_n 1, 54, nI 0, [1]), some (.invokevirtual 190, 57, nI 0, [0, 39, 5, 2]), none, none, some (.goto 77, 60, nI 0, [134]), none, none, some (.aload_n 0, 61, nI 0, [0]), some (.aload_n 1, 62, nI 0, [1]), some (.invokevirtual 194, 65, nI 0, [0, 41, 5, 2]), none, none, some (.istore_n 2, 66, nI 0, [2]), some (.goto 68, 69, nI 0, [134]), none, none, some (.aload_n 0, 70, nI 0, [0]), some (.aload_n 1, 71, nI 0, [1]), some (.invokevirtual 197, 74, nI 0, [0, 44, 5, 2]), none, none, some (.goto 60, 77, nI 0, [134]), none, none, some (.aload_n 0, 78, nI 0, [0]), some (.aload_n 1, 79, nI 0, [1]), some (.invokevirtual 200, 82, nI 0, [0, 45, 5, 2]), none, none, some (.istore_n 2, 83, nI 0, [2]), some (.goto 51, 86, nI 0, [134]), none, none, some (.aload_n 0, 87, nI 0, [0]), some (.aload_n 1, 88, nI 0, [1]), some (.invokevirtual 203, 91, nI 0, [0, 46, 5, 2]), none, none, some (.istore_n 2, 92, nI 0, [2]), some (.goto 42, 95, nI 0, [134]), none, none, some (.aload_n 0, 96, nI 0, [0]), some (.aload_n 0, 97, nI 0, [0]), some (.getfield 58, 100, nI 0, [5, 10, 4, 0]), none, none, some (.aload_n 1, 101, nI 0, [1]), some (.getfield 206, 104, nI 0, [3, 8, 3, 0]), none, none, some (.invokestatic 160, 107, nI 0, [2, 144, 13, 2]), none, none, some (.putfield 58, 110, nI 0, [5, 10, 4, 0]), none, none, some (.goto 24, 113, nI 0, [134]), none, none, some (.aload_n 0, 114, nI 0, [0]), some (.aload_n 1, 115, nI 0, [1]), some (.invokevirtual 207, 118, nI 0, [0, 47, 5, 2]), none, none, some (.goto 16, 121, nI 0, [134]), none, none, some (.aload_n 0, 122, nI 0, [0]), some (.aload_n 1, 123, nI 0, [1]), some (.getfield 210, 126, nI 0, [3, 8, 7, 3]), none, none, some (.invokevirtual 213, 129, nI 0, [0, 42, 5, 2]), none, none, some (.iconst 1, 130, nI 1, []), some (.istore_n 2, 131, nI 0, [2]), some (.goto 3, 134, nI 0, [134]), none, none, some (.iload_n 2, 135, nI 0, [2]), some (.ifCond .eq 7, 138, nI 0, [142]), none, none, some (.aload_n 0, 139, nI 0, [0]), some (.invokevirtual 217, 142, nI 0, [0, 48, 5, 1]), none, none, some (.return_, 143, nI 0, [])]
/-- MajorityMap$Replica.onPrepare(LMajorityMap$Message;)V -/
def x_T39 : List (Option xE) := [some (.aload_n 1, 1, nI 0, [1]), some (.getfield 206, 4, nI 0, [3, 8, 3, 0]), none, none, some (.aload_n 0, 5, nI 0, [0]), some (.getfield 58, 8, nI 0, [5, 10, 4, 0]), none, none, some (.if_icmp .ge 12, 11, nI 0, [20]), none, none, some (.aload_n 0, 12, nI 0, [0]), some (.aload_n 1, 13, nI 0, [1]), some (.getfield 220, 16, nI 0, [3, 8, 1, 0]), none, none, some (.invokevirtual 223, 19, nI 0, [0, 40, 5, 2]), none, none, some (.return_, 20, nI 0, []), some (.aload_n 0, 21, nI 0, [0]), some (.aload_n 1, 22, nI 0, [1]), some (.getfield 206, 25, nI 0, [3, 8, 3, 0]), none, none, some (.putfield 58, 28, nI 0, [5, 10, 4, 0]), none, none, some (.aload_n 0, 29, nI 0, [0]), some (.getfield 44, 32, nI 0, [5, 10, 2, 3]), none, none, some (.new 169, 35, nI 0, [3, 8]), none, none, some (.dup, 36, nI 0, []), some (.iconst 2, 37, nI 2, []), some (.aload_n 0, 38, nI 0, [0]), some (.getfield 36, 41, nI 0, [5, 10, 0, 0]), none, none, some (.aload_n 1, 42, nI 0, [1]), some (.getfield 220, 45, nI 0, [3, 8, 1, 0]), none, none, some (.aload_n 0, 46, nI 0, [0]), some (.getfield 58, 49, nI 0, [5, 10, 4, 0]), none, none, some (.aload_n 0, 50, nI 0, [0]), some (.getfield 18, 53, nI 0, [5, 10, 5, 3]), none, none, some (.invokevirtual 226, 56, nI 0, [0, 70, 8, 1]), none, none, some (.aload_n 0, 57, nI 0, [0]), some (.getfield 48, 60, nI 0, [5, 10, 6, 3]), none, none, some (.invokespecial 230, 63, nI 0, [3, 18, 3, 7]), none, none, some (.invokevirtual 174, 66, nI 0, [0, 22, 4, 2]), none, none, some (.pop, 67, nI 0, []), some (.return_, 68, nI 0, [])]
/-- MajorityMap$Replica.refuse(I)V -/
def x_T40 : List (Option xE) := [some (.aload_n 0, 1, nI 0, [0]), some (.getfield 44, 4, nI 0, [5, 10, 2, 3]), none, none, some (.new 169, 7, nI 0, [3, 8]), none, none, some (.dup, 8, nI 0, []), some (.bipush 6, 10, nI 6, []), none, some (.aload_n 0, 11, nI 0, [0]), some (.getfield 36, 14, nI 0, [5, 10, 0, 0]), none, none, some (.iload_n 1, 15, nI 0, [1]), some (.aload_n 0, 16, nI 0, [0]), some (.getfield 58, 19, nI 0, [5, 10, 4, 0]), none, none, some (.iconst 0, 20, nI 0, []), some (.iconst 0, 21, nI 0, []), some (.invokespecial 171, 24, nI 0, [3, 17, 3, 7]), none, none, some (.invokevirtual 174, 27, nI 0, [0, 22, 4, 2]), none, none, some (.pop, 28, nI 0, []), some (.return_, 29, nI 0, [])]
/-- MajorityMap$Replica.onPromise(LMajorityMap$Message;)Z -/
def x_T41 : List (Option xE) := [some (.aload_n 0, 1, nI 0, [0]), some (.invokevirtual 61, 4, nI 0, [0, 28, 5, 1]), none, none, some (.ifCond .eq 17, 7, nI 0, [21]), none, none, some (.aload_n 1, 8, nI 0, [1]), some (.getfield 206, 11, nI 0, [3, 8, 3, 0]), none, none, some (.aload_n 0, 12, nI 0, [0]), some (.getfield 32, 15, nI 0, [5, 10, 9, 3]), none, none, some (.getfield 55, 18, nI 0, [0, 5, 0, 0]), none, none, some (.if_icmp .eq 5, 21, nI 0, [23]), none, none, some (.iconst 0, 22, nI 0, []), some (.ireturn, 23, nI 0, []), some (.aload_n 0, 24, nI 0, [0]), some (.aload_n 1, 25, nI 0, [1]), some (.getfield 210, 28, nI 0, [3, 8, 7, 3]), none, none, some (.invokevirtual 213, 31, nI 0, [0, 42, 5, 2]), none, none, some (.aload_n 0, 32, nI 0, [0]), some (.getfield 32, 35, nI 0, [5, 10, 9, 3]), none, none, some (.dup, 36, nI 0, []), some (.getfield 74, 39, nI 0, [0, 5, 1, 0]), none, none, some (.iconst 1, 40, nI 1, []), some (.aload_n 1, 41, nI 0, [1]), some (.getfield 220, 44, nI 0, [3, 8, 1, 0]), none, none, some (.ishl, 45, nI 0, []), some (.ior, 46, nI 0, []), some (.putfield 74, 49, nI 0, [0, 5, 1, 0]), none, none, some (.aload_n 1, 50, nI 0, [1]), some (.getfield 233, 53, nI 0, [3, 8, 6, 3]), none, none, some (.ifnull 17, 56, nI 0, [70]), none, none, some (.aload_n 0, 57, nI 0, [0]), some (.getfield 32, 60, nI 0, [5, 10, 9, 3]), none, none, some (.getfield 234, 63, nI 0, [0, 5, 2, 3]), none, none, some (.aload_n 1, 64, nI 0, [1]), some (.getfield 233, 67, nI 0, [3, 8, 6, 3]), none, none, some (.invokevirtual 237, 70, nI 0, [0, 66, 8, 2]), none, none, some (.iconst 1, 71, nI 1, []), some (.ireturn, 72, nI 0, [])]
/-- MajorityMap$Replica.install(LMajorityMap$State;)V -/
def x_T42 : List (Option xE) := [some (.aload_n 1, 1, nI 0, [1]), some (.ifnull 28, 4, nI 0, [29]), none, none, some (.aload_n 1, 5, nI 0, [1]), some (.getfield 65, 8, nI 0, [7, 7, 0, 0]), none, none, some (.aload_n 0, 9, nI 0, [0]), some (.getfield 52, 12, nI 0, [5, 10, 7, 3]), none, none, some (.getfield 65, 15, nI 0, [7, 7, 0, 0]), none, none, some (.if_icmp .le 14, 18, nI 0, [29]), none, none, some (.aload_n 0, 19, nI 0, [0]), some (.aload_n 1, 20, nI 0, [1]), some (.putfield 52, 23, nI 0, [5, 10, 7, 3]), none, none, some (.aload_n 0, 24, nI 0, [0]), some (.aload_n 1, 25, nI 0, [1]), some (.invokevirtual 105, 28, nI 0, [0, 43, 5, 2]), none, none, some (.pop, 29, nI 0, []), some (.return_, 30, nI 0, [])]
/-- MajorityMap$Replica.keepSnapshot(LMajorityMap$State;)I -/
def x_T43 : List (Option xE) := [some (.aload_n 0, 1, nI 0, [0]), some (.getfield 18, 4, nI 0, [5, 10, 5, 3]), none, none, some (.aload_n 1, 5, nI 0, [1]), some (.getfield 65, 8, nI 0, [7, 7, 0, 0]), none, none, some (.invokevirtual 101, 11, nI 0, [0, 71, 8, 2]), none, none, some (.istore_n 2, 12, nI 0, [2]), some (.aload_n 0, 13, nI 0, [0]), some (.aload_n 1, 14, nI 0, [1]), some (.putfield 48, 17, nI 0, [5, 10, 6, 3]), none, none, some (.aload_n 0, 18, nI 0, [0]), some (.getfield 18, 21, nI 0, [5, 10, 5, 3]), none, none, some (.aload_n 1, 22, nI 0, [1]), some (.getfield 65, 25, nI 0, [7, 7, 0, 0]), none, none, some (.invokevirtual 104, 28, nI 0, [0, 65, 8, 2]), none, none, some (.aload_n 0, 29, nI 0, [0]), some (.getfield 25, 32, nI 0, [5, 10, 8, 3]), none, none, some (.aload_n 1, 33, nI 0, [1]), some (.getfield 65, 36, nI 0, [7, 7, 0, 0]), none, none, some (.invokevirtual 94, 39, nI 0, [0, 15, 2, 2]), none, none, some (.iload_n 2, 40, nI 0, [2]), some (.ireturn, 41, nI 0, [])]
/-- MajorityMap$Replica.onAccept(LMajorityMap$Message;)V -/
def x_T44 : List (Option xE) := [some (.aload_n 1, 1, nI 0, [1]), some (.getfield 206, 4, nI 0, [3, 8, 3, 0]), none, none, some (.aload_n 0, 5, nI 0, [0]), some (.getfield 58, 8, nI 0, [5, 10, 4, 0]), none, none, some (.if_icmp .ge 12, 11, nI 0, [20]), none, none, some (.aload_n 0, 12, nI 0, [0]), some (.aload_n 1, 13, nI 0, [1]), some (.getfield 220, 16, nI 0, [3, 8, 1, 0]), none, none, some (.invokevirtual 223, 19, nI 0, [0, 40, 5, 2]), none, none, some (.return_, 20, nI 0, []), some (.aload_n 0, 21, nI 0, [0]), some (.aload_n 1, 22, nI 0, [1]), some (.getfield 206, 25, nI 0, [3, 8, 3, 0]), none, none, some (.putfield 58, 28, nI 0, [5, 10, 4, 0]), none, none, some (.aload_n 1, 29, nI 0, [1]), some (.getfield 241, 32, nI 0, [3, 8, 4, 0]), none, none, some (.aload_n 0, 33, nI 0, [0]), some (.getfield 48, 36, nI 0, [5, 10, 6, 3]), none, none, some (.getfield 65, 39, nI 0, [7, 7, 0, 0]), none, none, some (.if_icmp .gt 37, 42, nI 0, [76]), none, none, some (.aload_n 0, 43, nI 0, [0]), some (.getfield 44, 46, nI 0, [5, 10, 2, 3]), none, none, some (.new 169, 49, nI 0, [3, 8]), none, none, some (.dup, 50, nI 0, []), some (.bipush 8, 52, nI 8, []), none, some (.aload_n 0, 53, nI 0, [0]), some (.getfield 36, 56, nI 0, [5, 10, 0, 0]), none, none, some (.aload_n 1, 57, nI 0, [1]), some (.getfield 220, 60, nI 0, [3, 8, 1, 0]), none, none, some (.iconst 0, 61, nI 0, []), some (.aconst_null, 62, nI 0, []), some (.aload_n 0, 63, nI 0, [0]), some (.getfield 48, 66, nI 0, [5, 10, 6, 3]), none, none, some (.invokespecial 230, 69, nI 0, [3, 18, 3, 7]), none, none, some (.invokevirtual 174, 72, nI 0, [0, 22, 4, 2]), none, none, some (.pop, 73, nI 0, []), some (.goto 55, 76, nI 0, [128]), none, none, some (.aload_n 0, 77, nI 0, [0]), some (.getfield 18, 80, nI 0, [5, 10, 5, 3]), none, none, some (.aload_n 1, 81, nI 0, [1]), some (.getfield 241, 84, nI 0, [3, 8, 4, 0]), none, none, some (.aload_n 1, 85, nI 0, [1]), some (.getfield 206, 88, nI 0, [3, 8, 3, 0]), none, none, some (.aload_n 1, 89, nI 0, [1]), some (.getfield 242, 92, nI 0, [3, 8, 5, 0]), none, none, some (.invokevirtual 181, 95, nI 0, [0, 64, 8, 4]), none, none, some (.aload_n 0, 96, nI 0, [0]), some (.getfield 44, 99, nI 0, [5, 10, 2, 3]), none, none, some (.new 169, 102, nI 0, [3, 8]), none, none, some (.dup, 103, nI 0, []), some (.iconst 4, 104, nI 4, []), some (.aload_n 0, 105, nI 0, [0]), some (.getfield 36, 108, nI 0, [5, 10, 0, 0]), none, none, some (.aload_n 1, 109, nI 0, [1]), some (.getfield 220, 112, nI 0, [3, 8, 1, 0]), none, none, some (.aload_n 1, 113, nI 0, [1]), some (.getfield 206, 116, nI 0, [3, 8, 3, 0]), none, none, some (.aload_n 1, 117, nI 0, [1]), some (.getfield 241, 120, nI 0, [3, 8, 4, 0]), none, none, some (.iconst 0, 121, nI 0, []), some (.invokespecial 171, 124, nI 0, [3, 17, 3, 7]), none, none, some (.invokevirtual 174, 127, nI 0, [0, 22, 4, 2]), none, none, some (.pop, 128, nI 0, []), some (.return_, 129, nI 0, [])]
/-- MajorityMap$Replica.onVoted(LMajorityMap$Message;)Z -/
def x_T45 : List (Option xE) := [some (.aload_n 1, 1, nI 0, [1]), some (.getfield 241, 4, nI 0, [3, 8, 4, 0]), none, none, some (.istore_n 2, 5, nI 0, [2]), some (.aload_n 0, 6, nI 0, [0]), some (.invokevirtual 61, 9, nI 0, [0, 28, 5, 1]), none, none, some (.ifCond .eq 28, 12, nI 0, [37]), none, none, some (.aload_n 1, 13, nI 0, [1]), some (.getfield 206, 16, nI 0, [3, 8, 3, 0]), none, none, some (.aload_n 0, 17, nI 0, [0]), some (.getfield 32, 20, nI 0, [5, 10, 9, 3]), none, none, some (.getfield 55, 23, nI 0, [0, 5, 0, 0]), none, none, some (.if_icmp .ne 14, 26, nI 0, [37]), none, none, some (.iload_n 2, 27, nI 0, [2]), some (.aload_n 0, 28, nI 0, [0]), some (.getfield 52, 31, nI 0, [5, 10, 7, 3]), none, none, some (.getfield 65, 34, nI 0, [7, 7, 0, 0]), none, none, some (.if_icmp .gt 5, 37, nI 0, [39]), none, none, some (.iconst 0, 38, nI 0, []), some (.ireturn, 39, nI 0, []), some (.aload_n 0, 40, nI 0, [0]), some (.getfield 25, 43, nI 0, [5, 10, 8, 3]), none, none, some (.iload_n 2, 44, nI 0, [2]), some (.invokevirtual 88, 47, nI 0, [0, 13, 2, 2]), none, none, some (.ifCond .ne 17, 50, nI 0, [64]), none, none, some (.aload_n 0, 51, nI 0, [0]), some (.getfield 32, 54, nI 0, [5, 10, 9, 3]), none, none, some (.getfield 91, 57, nI 0, [0, 5, 3, 3]), none, none, some (.iload_n 2, 58, nI 0, [2]), some (.invokevirtual 88, 61, nI 0, [0, 13, 2, 2]), none, none, some (.ifCond .ne 5, 64, nI 0, [66]), none, none, some (.iconst 0, 65, nI 0, []), some (.ireturn, 66, nI 0, []), some (.aload_n 0, 67, nI 0, [0]), some (.getfield 32, 70, nI 0, [5, 10, 9, 3]), none, none, some (.iload_n 2, 71, nI 0, [2]), some (.aload_n 1, 72, nI 0, [1]), some (.getfield 220, 75, nI 0, [3, 8, 1, 0]), none, none, some (.invokevirtual 184, 78, nI 0, [0, 2, 0, 3]), none, none, some (.aload_n 0, 79, nI 0, [0]), some (.getfield 32, 82, nI 0, [5, 10, 9, 3]), none, none, some (.iload_n 2, 83, nI 0, [2]), some (.invokevirtual 163, 86, nI 0, [0, 3, 0, 2]), none, none, some (.aload_n 0, 87, nI 0, [0]), some (.getfield 52, 90, nI 0, [5, 10, 7, 3]), none, none, some (.iload_n 2, 91, nI 0, [2]), some (.invokevirtual 77, 94, nI 0, [0, 57, 7, 2]), none, none, some (.invokestatic 81, 97, nI 0, [5, 79, 9, 2]), none, none, some (.ifCond .ne 5, 100, nI 0, [102]), none, none, some (.iconst 0, 101, nI 0, []), some (.ireturn, 102, nI 0, []), some (.aload_n 0, 103, nI 0, [0]), some (.getfield 32, 106, nI 0, [5, 10, 9, 3]), none, none, some (.getfield 91, 109, nI 0, [0, 5, 3, 3]), none, none, some (.iload_n 2, 110, nI 0, [2]), some (.invokevirtual 166, 113, nI 0, [0, 12, 2, 2]), none, none, some (.istore_n 3, 114, nI 0, [3]), some (.aload_n 0, 115, nI 0, [0]), some (.getfield 25, 118, nI 0, [5, 10, 8, 3]), none, none, some (.iload_n 2, 119, nI 0, [2]), some (.iload_n 3, 120, nI 0, [3]), some (.invokevirtual 245, 123, nI 0, [0, 14, 2, 3]), none, none, some (.aload_n 0, 124, nI 0, [0]), some (.aload_n 0, 125, nI 0, [0]), some (.invokevirtual 137, 128, nI 0, [0, 33, 5, 1]), none, none, some (.iconst 5, 129, nI 5, []), some (.iconst 0, 130, nI 0, []), some (.iload_n 2, 131, nI 0, [2]), some (.iload_n 3, 132, nI 0, [3]), some (.invokevirtual 140, 135, nI 0, [0, 34, 5, 6]), none, none, some (.iconst 1, 136, nI 1, []), some (.ireturn, 137, nI 0, [])]
/-- MajorityMap$Replica.onLearn(LMajorityMap$Message;)Z -/
def x_T46 : List (Option xE) := [some (.aload_n 1, 1, nI 0, [1]), some (.getfield 241, 4, nI 0, [3, 8, 4, 0]), none, none, some (.aload_n 0, 5, nI 0, [0]), some (.getfield 52, 8, nI 0, [5, 10, 7, 3]), none, none, some (.getfield 65, 11, nI 0, [7, 7, 0, 0]), none, none, some (.if_icmp .le 17, 14, nI 0, [28]), none, none, some (.aload_n 0, 15, nI 0, [0]), some (.getfield 25, 18, nI 0, [5, 10, 8, 3]), none, none, some (.aload_n 1, 19, nI 0, [1]), some (.getfield 241, 22, nI 0, [3, 8, 4, 0]), none, none, some (.invokevirtual 88, 25, nI 0, [0, 13, 2, 2]), none, none, some (.ifCond .eq 5, 28, nI 0, [30]), none, none, some (.iconst 0, 29, nI 0, []), some (.ireturn, 30, nI 0, []), some (.aload_n 0, 31, nI 0, [0]), some (.getfield 25, 34, nI 0, [5, 10, 8, 3]), none, none, some (.aload_n 1, 35, nI 0, [1]), some (.getfield 241, 38, nI 0, [3, 8, 4, 0]), none, none, some (.aload_n 1, 39, nI 0, [1]), some (.getfield 242, 42, nI 0, [3, 8, 5, 0]), none, none, some (.invokevirtual 245, 45, nI 0, [0, 14, 2, 3]), none, none, some (.iconst 1, 46, nI 1, []), some (.ireturn, 47, nI 0, [])]
/-- MajorityMap$Replica.onFetch(LMajorityMap$Message;)V -/
def x_T47 : List (Option xE) := [some (.aload_n 0, 1, nI 0, [0]), some (.getfield 52, 4, nI 0, [5, 10, 7, 3]), none, none, some (.getfield 65, 7, nI 0, [7, 7, 0, 0]), none, none, some (.aload_n 1, 8, nI 0, [1]), some (.getfield 241, 11, nI 0, [3, 8, 4, 0]), none, none, some (.if_icmp .le 34, 14, nI 0, [45]), none, none, some (.aload_n 0, 15, nI 0, [0]), some (.getfield 44, 18, nI 0, [5, 10, 2, 3]), none, none, some (.new 169, 21, nI 0, [3, 8]), none, none, some (.dup, 22, nI 0, []), some (.bipush 8, 24, nI 8, []), none, some (.aload_n 0, 25, nI 0, [0]), some (.getfield 36, 28, nI 0, [5, 10, 0, 0]), none, none, some (.aload_n 1, 29, nI 0, [1]), some (.getfield 220, 32, nI 0, [3, 8, 1, 0]), none, none, some (.iconst 0, 33, nI 0, []), some (.aconst_null, 34, nI 0, []), some (.aload_n 0, 35, nI 0, [0]), some (.getfield 52, 38, nI 0, [5, 10, 7, 3]), none, none, some (.invokespecial 230, 41, nI 0, [3, 18, 3, 7]), none, none, some (.invokevirtual 174, 44, nI 0, [0, 22, 4, 2]), none, none, some (.pop, 45, nI 0, []), some (.return_, 46, nI 0, [])]
/-- MajorityMap$Replica.goOn()V -/
def x_T48 : List (Option xE) := [some (.aload_n 0, 1, nI 0, [0]), some (.getfield 52, 4, nI 0, [5, 10, 7, 3]), none, none, some (.getfield 65, 7, nI 0, [7, 7, 0, 0]), none, none, some (.iconst 1, 8, nI 1, []), some (.iadd, 9, nI 0, []), some (.istore_n 1, 10, nI 0, [1]), some (.iload_n 1, 11, nI 0, [1]), some (.bipush 24, 13, nI 24, []), none, some (.if_icmp .gt 32, 16, nI 0, [45]), none, none, some (.aload_n 0, 17, nI 0, [0]), some (.getfield 25, 20, nI 0, [5, 10, 8, 3]), none, none, some (.iload_n 1, 21, nI 0, [1]), some (.invokevirtual 88, 24, nI 0, [0, 13, 2, 2]), none, none, some (.ifCond .eq 21, 27, nI 0, [45]), none, none, some (.aload_n 0, 28, nI 0, [0]), some (.aload_n 0, 29, nI 0, [0]), some (.getfield 25, 32, nI 0, [5, 10, 8, 3]), none, none, some (.iload_n 1, 33, nI 0, [1]), some (.invokevirtual 166, 36, nI 0, [0, 12, 2, 2]), none, none, some (.invokevirtual 247, 39, nI 0, [0, 49, 5, 2]), none, none, some (.iinc 1 1, 42, nI 1, [1]), none, none, some (.goto (-32), 45, nI 0, [10]), none, none, some (.aload_n 0, 46, nI 0, [0]), some (.getfield 52, 49, nI 0, [5, 10, 7, 3]), none, none, some (.getfield 65, 52, nI 0, [7, 7, 0, 0]), none, none, some (.iconst 3, 53, nI 3, []), some (.iadd, 54, nI 0, []), some (.istore_n 1, 55, nI 0, [1]), some (.aload_n 0, 56, nI 0, [0]), some (.getfield 52, 59, nI 0, [5, 10, 7, 3]), none, none, some (.getfield 65, 62, nI 0, [7, 7, 0, 0]), none, none, some (.iconst 1, 63, nI 1, []), some (.iadd, 64, nI 0, []), some (.istore_n 2, 65, nI 0, [2]), some (.iload_n 2, 66, nI 0, [2]), some (.iload_n 1, 67, nI 0, [1]), some (.if_icmp .gt 26, 70, nI 0, [93]), none, none, some (.aload_n 0, 71, nI 0, [0]), some (.iload_n 2, 72, nI 0, [2]), some (.invokevirtual 250, 75, nI 0, [0, 50, 5, 2]), none, none, some (.istore_n 3, 76, nI 0, [3]), some (.iload_n 3, 77, nI 0, [3]), some (.iconst (-1), 78, (-1), []), some (.if_icmp .eq 9, 81, nI 0, [87]), none, none, some (.aload_n 0, 82, nI 0, [0]), some (.iload_n 2, 83, nI 0, [2]), some (.iload_n 3, 84, nI 0, [3]), some (.invokevirtual 128, 87, nI 0, [0, 32, 5, 3]), none, none, some (.iinc 2 1, 90, nI 1, [2]), none, none, some (.goto (-25), 93, nI 0, [65]), none, none, some (.return_, 94, nI 0, [])]
/-- MajorityMap$Replica.execute(I)V -/
def x_T49 : List (Option xE) := [some (.aload_n 0, 1, nI 0, [0]), some (.aload_n 0, 2, nI 0, [0]), some (.getfield 52, 5, nI 0, [5, 10, 7, 3]), none, none, some (.iload_n 1, 6, nI 0, [1]), some (.aload_n 0, 7, nI 0, [0]), some (.getfield 40, 10, nI 0, [5, 10, 1, 3]), none, none, some (.iload_n 1, 11, nI 0, [1]), some (.invokevirtual 253, 14, nI 0, [0, 8, 1, 2]), none, none, some (.invokevirtual 257, 17, nI 0, [0, 59, 7, 3]), none, none, some (.putfield 52, 20, nI 0, [5, 10, 7, 3]), none, none, some (.iload_n 1, 21, nI 0, [1]), some (.ifCond .eq 26, 24, nI 0, [47]), none, none, some (.aload_n 0, 25, nI 0, [0]), some (.invokevirtual 61, 28, nI 0, [0, 28, 5, 1]), none, none, some (.ifCond .eq 19, 31, nI 0, [47]), none, none, some (.aload_n 0, 32, nI 0, [0]), some (.getfield 40, 35, nI 0, [5, 10, 1, 3]), none, none, some (.iload_n 1, 36, nI 0, [1]), some (.aload_n 0, 37, nI 0, [0]), some (.getfield 52, 40, nI 0, [5, 10, 7, 3]), none, none, some (.iload_n 1, 41, nI 0, [1]), some (.invokevirtual 112, 44, nI 0, [0, 56, 7, 2]), none, none, some (.invokevirtual 115, 47, nI 0, [0, 9, 1, 3]), none, none, some (.return_, 48, nI 0, [])]
/-- MajorityMap$Replica.commandDueFor(I)I -/
def x_T50 : List (Option xE) := [some (.aload_n 0, 1, nI 0, [0]), some (.invokevirtual 61, 4, nI 0, [0, 28, 5, 1]), none, none, some (.ifCond .eq 19, 7, nI 0, [23]), none, none, some (.aload_n 0, 8, nI 0, [0]), some (.iload_n 1, 9, nI 0, [1]), some (.invokevirtual 131, 12, nI 0, [0, 30, 5, 2]), none, none, some (.ifCond .eq 11, 15, nI 0, [23]), none, none, some (.aload_n 0, 16, nI 0, [0]), some (.iload_n 1, 17, nI 0, [1]), some (.invokevirtual 70, 20, nI 0, [0, 31, 5, 2]), none, none, some (.ifCond .ne 5, 23, nI 0, [25]), none, none, some (.iconst (-1), 24, (-1), []), some (.ireturn, 25, nI 0, []), some (.aload_n 0, 26, nI 0, [0]), some (.getfield 32, 29, nI 0, [5, 10, 9, 3]), none, none, some (.getfield 234, 32, nI 0, [0, 5, 2, 3]), none, none, some (.iload_n 1, 33, nI 0, [1]), some (.invokevirtual 261, 36, nI 0, [0, 68, 8, 2]), none, none, some (.ifCond .eq 15, 39, nI 0, [51]), none, none, some (.aload_n 0, 40, nI 0, [0]), some (.getfield 32, 43, nI 0, [5, 10, 9, 3]), none, none, some (.getfield 234, 46, nI 0, [0, 5, 2, 3]), none, none, some (.iload_n 1, 47, nI 0, [1]), some (.invokevirtual 262, 50, nI 0, [0, 69, 8, 2]), none, none, some (.ireturn, 51, nI 0, []), some (.aload_n 0, 52, nI 0, [0]), some (.getfield 25, 55, nI 0, [5, 10, 8, 3]), none, none, some (.iload_n 1, 56, nI 0, [1]), some (.invokevirtual 265, 59, nI 0, [0, 16, 2, 2]), none, none, some (.ifCond .ne 17, 62, nI 0, [76]), none, none, some (.aload_n 0, 63, nI 0, [0]), some (.getfield 32, 66, nI 0, [5, 10, 9, 3]), none, none, some (.getfield 234, 69, nI 0, [0, 5, 2, 3]), none, none, some (.iload_n 1, 70, nI 0, [1]), some (.invokevirtual 268, 73, nI 0, [0, 72, 8, 2]), none, none, some (.ifCond .eq 7, 76, nI 0, [80]), none, none, some (.iconst 1, 77, nI 1, []), some (.goto 4, 80, nI 0, [81]), none, none, some (.iconst 0, 81, nI 0, []), some (.istore_n 2, 82, nI 0, [2]), some (.iload_n 2, 83, nI 0, [2]), some (.ifCond .eq 7, 86, nI 0, [90]), none, none, some (.iconst 0, 87, nI 0, []), some (.goto 4, 90, nI 0, [91]), none, none, some (.iconst (-1), 91, (-1), []), some (.ireturn, 92, nI 0, [])]
/-- MajorityMap$Replica.goDown()V -/
def x_T51 : List (Option xE) := [some (.aload_n 0, 1, nI 0, [0]), some (.iconst 0, 2, nI 0, []), some (.putfield 9, 5, nI 0, [5, 10, 3, 1]), none, none, some (.aload_n 0, 6, nI 0, [0]), some (.getfield 25, 9, nI 0, [5, 10, 8, 3]), none, none, some (.bipush 24, 11, nI 24, []), none, some (.invokevirtual 94, 14, nI 0, [0, 15, 2, 2]), none, none, some (.aload_n 0, 15, nI 0, [0]), some (.aload_n 0, 16, nI 0, [0]), some (.getfield 48, 19, nI 0, [5, 10, 6, 3]), none, none, some (.putfield 52, 22, nI 0, [5, 10, 7, 3]), none, none, some (.aload_n 0, 23, nI 0, [0]), some (.getfield 32, 26, nI 0, [5, 10, 9, 3]), none, none, some (.invokevirtual 98, 29, nI 0, [0, 5, 0, 1]), none, none, some (.return_, 30, nI 0, [])]
/-- MajorityMap$Replica.leads()Z -/
def x_T52 : List (Option xE) := [some (.aload_n 0, 1, nI 0, [0]), some (.invokevirtual 61, 4, nI 0, [0, 28, 5, 1]), none, none, some (.ifCond .eq 23, 7, nI 0, [27]), none, none, some (.aload_n 0, 8, nI 0, [0]), some (.aload_n 0, 9, nI 0, [0]), some (.getfield 52, 12, nI 0, [5, 10, 7, 3]), none, none, some (.getfield 65, 15, nI 0, [7, 7, 0, 0]), none, none, some (.iconst 1, 16, nI 1, []), some (.iadd, 17, nI 0, []), some (.invokevirtual 70, 20, nI 0, [0, 31, 5, 2]), none, none, some (.ifCond .eq 7, 23, nI 0, [27]), none, none, some (.iconst 1, 24, nI 1, []), some (.goto 4, 27, nI 0, [28]), none, none, some (.iconst 0, 28, nI 0, []), some (.ireturn, 29, nI 0, [])]
/-- MajorityMap$Request.<init>(III)V -/
def x_T53 : List (Option xE) := [some (.aload_n 0, 1, nI 0, [0]), some (.invokespecial 1, 4, nI 0, [8]), none, none, some (.aload_n 0, 5, nI 0, [0]), some (.iload_n 1, 6, nI 0, [1]), some (.putfield 7, 9, nI 0, [6, 5, 0, 0]), none, none, some (.aload_n 0, 10, nI 0, [0]), some (.iload_n 2, 11, nI 0, [2]), some (.putfield 13, 14, nI 0, [6, 5, 1, 0]), none, none, some (.aload_n 0, 15, nI 0, [0]), some (.iload_n 3, 16, nI 0, [3]), some (.putfield 16, 19, nI 0, [6, 5, 2, 0]), none, none, some (.return_, 20, nI 0, [])]
/-- MajorityMap$State.<init>()V -/
def x_T54 : List (Option xE) := [some (.aload_n 0, 1, nI 0, [0]), some (.invokespecial 3, 4, nI 0, [8]), none, none, some (.aload_n 0, 5, nI 0, [0]), some (.iconst 0, 6, nI 0, []), some (.putfield 9, 9, nI 0, [7, 7, 0, 0]), none, none, some (.aload_n 0, 10, nI 0, [0]), some (.iconst 4, 11, nI 4, []), some (.newarray .int, 13, nI 0, [0]), none, some (.putfield 15, 16, nI 0, [7, 7, 1, 3]), none, none, some (.aload_n 0, 17, nI 0, [0]), some (.bipush 41, 19, nI 41, []), none, some (.newarray .int, 21, nI 0, [0]), none, some (.putfield 19, 24, nI 0, [7, 7, 2, 3]), none, none, some (.aload_n 0, 25, nI 0, [0]), some (.bipush 7, 27, nI 7, []), none, some (.putfield 22, 30, nI 0, [7, 7, 4, 0]), none, none, some (.aload_n 0, 31, nI 0, [0]), some (.bipush 7, 33, nI 7, []), none, some (.putfield 25, 36, nI 0, [7, 7, 5, 0]), none, none, some (.aload_n 0, 37, nI 0, [0]), some (.bipush 7, 39, nI 7, []), none, some (.putfield 28, 42, nI 0, [7, 7, 6, 0]), none, none, some (.return_, 43, nI 0, [])]
/-- MajorityMap$State.isDone(I)Z -/
def x_T55 : List (Option xE) := [some (.iload_n 1, 1, nI 0, [1]), some (.iconst 1, 2, nI 1, []), some (.if_icmp .lt 26, 5, nI 0, [28]), none, none, some (.iload_n 1, 6, nI 0, [1]), some (.bipush 40, 8, nI 40, []), none, some (.if_icmp .gt 20, 11, nI 0, [28]), none, none, some (.aload_n 0, 12, nI 0, [0]), some (.getfield 36, 15, nI 0, [7, 7, 3, 2]), none, none, some (.iload_n 1, 16, nI 0, [1]), some (.lshr, 17, nI 0, []), some (.lconst 1, 18, nI 0, []), some (.land, 19, nI 0, []), some (.lconst 0, 20, nI 0, []), some (.lcmp, 21, nI 0, []), some (.ifCond .eq 7, 24, nI 0, [28]), none, none, some (.iconst 1, 25, nI 1, []), some (.goto 4, 28, nI 0, [29]), none, none, some (.iconst 0, 29, nI 0, []), some (.ireturn, 30, nI 0, [])]
/-- MajorityMap$State.answerOf(I)I -/
def x_T56 : List (Option xE) := [some (.aload_n 0, 1, nI 0, [0]), some (.iload_n 1, 2, nI 0, [1]), some (.invokevirtual 43, 5, nI 0, [0, 55, 7, 2]), none, none, some (.ifCond .eq 12, 8, nI 0, [17]), none, none, some (.aload_n 0, 9, nI 0, [0]), some (.getfield 19, 12, nI 0, [7, 7, 2, 3]), none, none, some (.iload_n 1, 13, nI 0, [1]), some (.iaload, 14, nI 0, []), some (.goto 4, 17, nI 0, [18]), none, none, some (.iconst 0, 18, nI 0, []), some (.ireturn, 19, nI 0, [])]
/-- MajorityMap$State.membershipOf(I)I -/
def x_T57 : List (Option xE) := [some (.iload_n 1, 1, nI 0, [1]), some (.aload_n 0, 2, nI 0, [0]), some (.getfield 9, 5, nI 0, [7, 7, 0, 0]), none, none, some (.isub, 6, nI 0, []), some (.tableswitch 41 1 3 #[26, 31, 36], 32, nI 0, [1, 47, 32, 37, 42]), none, none, none, none, none, none, none, none, none, none, none, none, none, none, none, none, none, none, none, none, none, none, none, none, none, some (.aload_n 0, 33, nI 0, [0]), some (.getfield 28, 36, nI 0, [7, 7, 6, 0]), none, none, some (.ireturn, 37, nI 0, []), some (.aload_n 0, 38, nI 0, [0]), some (.getfield 25, 41, nI 0, [7, 7, 5, 0]), none, none, some (.ireturn, 42, nI 0, []), some (.aload_n 0, 43, nI 0, [0]), some (.getfield 22, 46, nI 0, [7, 7, 4, 0]), none, none, some (.ireturn, 47, nI 0, []), some (.iconst 0, 48, nI 0, []), some (.ireturn, 49, nI 0, [])]
/-- MajorityMap$State.membersAhead()I -/
def x_T58 : List (Option xE) := [some (.aload_n 0, 1, nI 0, [0]), some (.getfield 28, 4, nI 0, [7, 7, 6, 0]), none, none, some (.aload_n 0, 5, nI 0, [0]), some (.getfield 25, 8, nI 0, [7, 7, 5, 0]), none, none, some (.ior, 9, nI 0, []), some (.aload_n 0, 10, nI 0, [0]), some (.getfield 22, 13, nI 0, [7, 7, 4, 0]), none, none, some (.ior, 14, nI 0, []), some (.ireturn, 15, nI 0, [])]
/-- MajorityMap$State.after(ILMajorityMap$Request;)LMajorityMap$State; -/
def x_T59 : List (Option xE) := [some (.new 10, 3, nI 0, [7, 7]), none, none, some (.dup, 4, nI 0, []), some (.aload_n 0, 5, nI 0, [0]), some (.invokespecial 40, 8, nI 0, [3, 60, 7, 2]), none, none, some (.astore_n 3, 9, nI 0, [3]), some (.aload_n 2, 10, nI 0, [2]), some (.ifnull 17, 13, nI 0, [27]), none, none, some (.aload_n 0, 14, nI 0, [0]), some (.iload_n 1, 15, nI 0, [1]), some (.invokevirtual 43, 18, nI 0, [0, 55, 7, 2]), none, none, some (.ifCond .ne 9, 21, nI 0, [27]), none, none, some (.aload_n 3, 22, nI 0, [3]), some (.iload_n 1, 23, nI 0, [1]), some (.aload_n 2, 24, nI 0, [2]), some (.invokevirtual 47, 27, nI 0, [0, 61, 7, 3]), none, none, some (.aload_n 3, 28, nI 0, [3]), some (.areturn, 29, nI 0, [])]
/-- MajorityMap$State.<init>(LMajorityMap$State;)V -/
def x_T60 : List (Option xE) := [some (.aload_n 0, 1, nI 0, [0]), some (.invokespecial 3, 4, nI 0, [8]), none, none, some (.aload_n 0, 5, nI 0, [0]), some (.aload_n 1, 6, nI 0, [1]), some (.getfield 9, 9, nI 0, [7, 7, 0, 0]), none, none, some (.iconst 1, 10, nI 1, []), some (.iadd, 11, nI 0, []), some (.putfield 9, 14, nI 0, [7, 7, 0, 0]), none, none, some (.aload_n 0, 15, nI 0, [0]), some (.aload_n 1, 16, nI 0, [1]), some (.getfield 15, 19, nI 0, [7, 7, 1, 3]), none, none, some (.invokevirtual 31, 22, nI 0, [9]), none, none, some (.checkcast 32, 25, nI 0, []), none, none, some (.putfield 15, 28, nI 0, [7, 7, 1, 3]), none, none, some (.aload_n 0, 29, nI 0, [0]), some (.aload_n 1, 30, nI 0, [1]), some (.getfield 19, 33, nI 0, [7, 7, 2, 3]), none, none, some (.invokevirtual 31, 36, nI 0, [9]), none, none, some (.checkcast 32, 39, nI 0, []), none, none, some (.putfield 19, 42, nI 0, [7, 7, 2, 3]), none, none, some (.aload_n 0, 43, nI 0, [0]), some (.aload_n 1, 44, nI 0, [1]), some (.getfield 36, 47, nI 0, [7, 7, 3, 2]), none, none, some (.putfield 36, 50, nI 0, [7, 7, 3, 2]), none, none, some (.aload_n 0, 51, nI 0, [0]), some (.aload_n 1, 52, nI 0, [1]), some (.getfield 22, 55, nI 0, [7, 7, 4, 0]), none, none, some (.putfield 22, 58, nI 0, [7, 7, 4, 0]), none, none, some (.aload_n 0, 59, nI 0, [0]), some (.aload_n 1, 60, nI 0, [1]), some (.getfield 22, 63, nI 0, [7, 7, 4, 0]), none, none, some (.putfield 25, 66, nI 0, [7, 7, 5, 0]), none, none, some (.aload_n 0, 67, nI 0, [0]), some (.aload_n 1, 68, nI 0, [1]), some (.getfield 25, 71, nI 0, [7, 7, 5, 0]), none, none, some (.putfield 28, 74, nI 0, [7, 7, 6, 0]), none, none, some (.return_, 75, nI 0, [])]
/-- MajorityMap$State.act(ILMajorityMap$Request;)V -/
def x_T61 : List (Option xE) := [some (.aload_n 0, 1, nI 0, [0]), some (.getfield 15, 4, nI 0, [7, 7, 1, 3]), none, none, some (.aload_n 2, 5, nI 0, [2]), some (.getfield 51, 8, nI 0, [6, 5, 1, 0]), none, none, some (.iaload, 9, nI 0, []), some (.istore_n 3, 10, nI 0, [3]), some (.aload_n 2, 11, nI 0, [2]), some (.getfield 56, 14, nI 0, [6, 5, 0, 0]), none, none, some (.tableswitch 102 1 4 #[30, 46, 66, 86], 44, nI 0, [1, 116, 44, 60, 80, 100]), none, none, none, none, none, none, none, none, none, none, none, none, none, none, none, none, none, none, none, none, none, none, none, none, none, none, none, none, none, some (.aload_n 0, 45, nI 0, [0]), some (.getfield 15, 48, nI 0, [7, 7, 1, 3]), none, none, some (.aload_n 2, 49, nI 0, [2]), some (.getfield 51, 52, nI 0, [6, 5, 1, 0]), none, none, some (.aload_n 2, 53, nI 0, [2]), some (.getfield 59, 56, nI 0, [6, 5, 2, 0]), none, none, some (.iastore, 57, nI 0, []), some (.goto 59, 60, nI 0, [116]), none, none, some (.iload_n 3, 61, nI 0, [3]), some (.aload_n 2, 62, nI 0, [2]), some (.getfield 59, 65, nI 0, [6, 5, 2, 0]), none, none, some (.iadd, 66, nI 0, []), some (.istore_n 3, 67, nI 0, [3]), some (.aload_n 0, 68, nI 0, [0]), some (.getfield 15, 71, nI 0, [7, 7, 1, 3]), none, none, some (.aload_n 2, 72, nI 0, [2]), some (.getfield 51, 75, nI 0, [6, 5, 1, 0]), none, none, some (.iload_n 3, 76, nI 0, [3]), some (.iastore, 77, nI 0, []), some (.goto 39, 80, nI 0, [116]), none, none, some (.iload_n 3, 81, nI 0, [3]), some (.ifCond .ne 35, 84, nI 0, [116]), none, none, some (.aload_n 0, 85, nI 0, [0]), some (.getfield 15, 88, nI 0, [7, 7, 1, 3]), none, none, some (.aload_n 2, 89, nI 0, [2]), some (.getfield 51, 92, nI 0, [6, 5, 1, 0]), none, none, some (.aload_n 2, 93, nI 0, [2]), some (.getfield 59, 96, nI 0, [6, 5, 2, 0]), none, none, some (.iastore, 97, nI 0, []), some (.goto 19, 100, nI 0, [116]), none, none, some (.aload_n 0, 101, nI 0, [0]), some (.getfield 22, 104, nI 0, [7, 7, 4, 0]), none, none, some (.istore_n 3, 105, nI 0, [3]), some (.aload_n 0, 106, nI 0, [0]), some (.aload_n 2, 107, nI 0, [2]), some (.getfield 59, 110, nI 0, [6, 5, 2, 0]), none, none, some (.putfield 22, 113, nI 0, [7, 7, 4, 0]), none, none, some (.goto 3, 116, nI 0, [116]), none, none, some (.aload_n 0, 117, nI 0, [0]), some (.getfield 19, 120, nI 0, [7, 7, 2, 3]), none, none, some (.iload_n 1, 121, nI 0, [1]), some (.iload_n 3, 122, nI 0, [3]), some (.iastore, 123, nI 0, []), some (.aload_n 0, 124, nI 0, [0]), some (.dup, 125, nI 0, []), some (.getfield 36, 128, nI 0, [7, 7, 3, 2]), none, none, some (.lconst 1, 129, nI 0, []), some (.iload_n 1, 130, nI 0, [1]), some (.lshl, 131, nI 0, []), some (.lor, 132, nI 0, []), some (.putfield 36, 135, nI 0, [7, 7, 3, 2]), none, none, some (.return_, 136, nI 0, [])]
/-- MajorityMap$State.countDone()I -/
def x_T62 : List (Option xE) := [some (.aload_n 0, 1, nI 0, [0]), some (.getfield 36, 4, nI 0, [7, 7, 3, 2]), none, none, some (.invokestatic 62, 7, nI 0, [2, 142, 12, 1]), none, none, some (.ireturn, 8, nI 0, [])]
/-- MajorityMap$Votes.<init>()V -/
def x_T63 : List (Option xE) := [some (.aload_n 0, 1, nI 0, [0]), some (.invokespecial 3, 4, nI 0, [8]), none, none, some (.aload_n 0, 5, nI 0, [0]), some (.bipush 25, 7, nI 25, []), none, some (.newarray .int, 9, nI 0, [0]), none, some (.putfield 9, 12, nI 0, [8, 2, 0, 3]), none, none, some (.aload_n 0, 13, nI 0, [0]), some (.bipush 25, 15, nI 25, []), none, some (.newarray .int, 17, nI 0, [0]), none, some (.putfield 15, 20, nI 0, [8, 2, 1, 3]), none, none, some (.return_, 21, nI 0, [])]
/-- MajorityMap$Votes.put(III)V -/
def x_T64 : List (Option xE) := [some (.iload_n 1, 1, nI 0, [1]), some (.invokestatic 18, 4, nI 0, [5, 78, 9, 1]), none, none, some (.ifCond .eq 17, 7, nI 0, [21]), none, none, some (.aload_n 0, 8, nI 0, [0]), some (.getfield 9, 11, nI 0, [8, 2, 0, 3]), none, none, some (.iload_n 1, 12, nI 0, [1]), some (.iload_n 2, 13, nI 0, [2]), some (.iastore, 14, nI 0, []), some (.aload_n 0, 15, nI 0, [0]), some (.getfield 15, 18, nI 0, [8, 2, 1, 3]), none, none, some (.iload_n 1, 19, nI 0, [1]), some (.iload_n 3, 20, nI 0, [3]), some (.iastore, 21, nI 0, []), some (.return_, 22, nI 0, [])]
/-- MajorityMap$Votes.forgetUpTo(I)V -/
def x_T65 : List (Option xE) := [some (.iconst 1, 1, nI 1, []), some (.istore_n 2, 2, nI 0, [2]), some (.iload_n 2, 3, nI 0, [2]), some (.iload_n 1, 4, nI 0, [1]), some (.if_icmp .gt 22, 7, nI 0, [26]), none, none, some (.iload_n 2, 8, nI 0, [2]), some (.bipush 24, 10, nI 24, []), none, some (.if_icmp .gt 16, 13, nI 0, [26]), none, none, some (.aload_n 0, 14, nI 0, [0]), some (.getfield 9, 17, nI 0, [8, 2, 0, 3]), none, none, some (.iload_n 2, 18, nI 0, [2]), some (.iconst 0, 19, nI 0, []), some (.iastore, 20, nI 0, []), some (.iinc 2 1, 23, nI 1, [2]), none, none, some (.goto (-21), 26, nI 0, [2]), none, none, some (.return_, 27, nI 0, [])]
/-- MajorityMap$Votes.merge(LMajorityMap$Votes;)V -/
def x_T66 : List (Option xE) := [some (.iconst 1, 1, nI 1, []), some (.istore_n 2, 2, nI 0, [2]), some (.iload_n 2, 3, nI 0, [2]), some (.bipush 24, 5, nI 24, []), none, some (.if_icmp .gt 37, 8, nI 0, [42]), none, none, some (.aload_n 1, 9, nI 0, [1]), some (.iload_n 2, 10, nI 0, [2]), some (.invokevirtual 25, 13, nI 0, [0, 67, 8, 2]), none, none, some (.aload_n 0, 14, nI 0, [0]), some (.iload_n 2, 15, nI 0, [2]), some (.invokevirtual 25, 18, nI 0, [0, 67, 8, 2]), none, none, some (.if_icmp .le 18, 21, nI 0, [36]), none, none, some (.aload_n 0, 22, nI 0, [0]), some (.iload_n 2, 23, nI 0, [2]), some (.aload_n 1, 24, nI 0, [1]), some (.iload_n 2, 25, nI 0, [2]), some (.invokevirtual 25, 28, nI 0, [0, 67, 8, 2]), none, none, some (.aload_n 1, 29, nI 0, [1]), some (.iload_n 2, 30, nI 0, [2]), some (.invokevirtual 29, 33, nI 0, [0, 69, 8, 2]), none, none, some (.invokevirtual 32, 36, nI 0, [0, 64, 8, 4]), none, none, some (.iinc 2 1, 39, nI 1, [2]), none, none, some (.goto (-37), 42, nI 0, [2]), none, none, some (.return_, 43, nI 0, [])]
/-- MajorityMap$Votes.ballotOf(I)I -/
def x_T67 : List (Option xE) := [some (.aload_n 0, 1, nI 0, [0]), some (.iload_n 1, 2, nI 0, [1]), some (.invokevirtual 22, 5, nI 0, [0, 68, 8, 2]), none, none, some (.ifCond .eq 12, 8, nI 0, [17]), none, none, some (.aload_n 0, 9, nI 0, [0]), some (.getfield 9, 12, nI 0, [8, 2, 0, 3]), none, none, some (.iload_n 1, 13, nI 0, [1]), some (.iaload, 14, nI 0, []), some (.goto 4, 17, nI 0, [18]), none, none, some (.iconst 0, 18, nI 0, []), some (.ireturn, 19, nI 0, [])]
/-- MajorityMap$Votes.has(I)Z -/
def x_T68 : List (Option xE) := [some (.iload_n 1, 1, nI 0, [1]), some (.invokestatic 18, 4, nI 0, [5, 78, 9, 1]), none, none, some (.ifCond .eq 16, 7, nI 0, [20]), none, none, some (.aload_n 0, 8, nI 0, [0]), some (.getfield 9, 11, nI 0, [8, 2, 0, 3]), none, none, some (.iload_n 1, 12, nI 0, [1]), some (.iaload, 13, nI 0, []), some (.ifCond .eq 7, 16, nI 0, [20]), none, none, some (.iconst 1, 17, nI 1, []), some (.goto 4, 20, nI 0, [21]), none, none, some (.iconst 0, 21, nI 0, []), some (.ireturn, 22, nI 0, [])]
/-- MajorityMap$Votes.commandOf(I)I -/
def x_T69 : List (Option xE) := [some (.aload_n 0, 1, nI 0, [0]), some (.iload_n 1, 2, nI 0, [1]), some (.invokevirtual 22, 5, nI 0, [0, 68, 8, 2]), none, none, some (.ifCond .eq 12, 8, nI 0, [17]), none, none, some (.aload_n 0, 9, nI 0, [0]), some (.getfield 15, 12, nI 0, [8, 2, 1, 3]), none, none, some (.iload_n 1, 13, nI 0, [1]), some (.iaload, 14, nI 0, []), some (.goto 4, 17, nI 0, [18]), none, none, some (.iconst (-1), 18, (-1), []), some (.ireturn, 19, nI 0, [])]
/-- MajorityMap$Votes.duplicate()LMajorityMap$Votes; -/
def x_T70 : List (Option xE) := [some (.new 10, 3, nI 0, [8, 2]), none, none, some (.dup, 4, nI 0, []), some (.invokespecial 36, 7, nI 0, [3, 63, 8, 1]), none, none, some (.astore_n 1, 8, nI 0, [1]), some (.aload_n 1, 9, nI 0, [1]), some (.aload_n 0, 10, nI 0, [0]), some (.invokevirtual 37, 13, nI 0, [0, 66, 8, 2]), none, none, some (.aload_n 1, 14, nI 0, [1]), some (.areturn, 15, nI 0, [])]
/-- MajorityMap$Votes.countUpTo(I)I -/
def x_T71 : List (Option xE) := [some (.iconst 0, 1, nI 0, []), some (.istore_n 2, 2, nI 0, [2]), some (.iconst 1, 3, nI 1, []), some (.istore_n 3, 4, nI 0, [3]), some (.iload_n 3, 5, nI 0, [3]), some (.iload_n 1, 6, nI 0, [1]), some (.if_icmp .gt 26, 9, nI 0, [32]), none, none, some (.iload_n 3, 10, nI 0, [3]), some (.bipush 24, 12, nI 24, []), none, some (.if_icmp .gt 20, 15, nI 0, [32]), none, none, some (.aload_n 0, 16, nI 0, [0]), some (.iload_n 3, 17, nI 0, [3]), some (.invokevirtual 22, 20, nI 0, [0, 68, 8, 2]), none, none, some (.ifCond .eq 6, 23, nI 0, [26]), none, none, some (.iinc 2 1, 26, nI 1, [2]), none, none, some (.iinc 3 1, 29, nI 1, [3]), none, none, some (.goto (-25), 32, nI 0, [4]), none, none, some (.iload_n 2, 33, nI 0, [2]), some (.ireturn, 34, nI 0, [])]
/-- MajorityMap$Votes.hasAbove(I)Z -/
def x_T72 : List (Option xE) := [some (.bipush 24, 2, nI 24, []), none, some (.istore_n 2, 3, nI 0, [2]), some (.iload_n 2, 4, nI 0, [2]), some (.iload_n 1, 5, nI 0, [1]), some (.if_icmp .le 19, 8, nI 0, [24]), none, none, some (.aload_n 0, 9, nI 0, [0]), some (.iload_n 2, 10, nI 0, [2]), some (.invokevirtual 22, 13, nI 0, [0, 68, 8, 2]), none, none, some (.ifCond .eq 5, 16, nI 0, [18]), none, none, some (.iconst 1, 17, nI 1, []), some (.ireturn, 18, nI 0, []), some (.iinc 2 (-1), 21, (-1), [2]), none, none, some (.goto (-18), 24, nI 0, [3]), none, none, some (.iconst 0, 25, nI 0, []), some (.ireturn, 26, nI 0, [])]
/-- MajorityMap.<init>()V -/
def x_T73 : List (Option xE) := [some (.aload_n 0, 1, nI 0, [0]), some (.invokespecial 3, 4, nI 0, [8]), none, none, some (.aload_n 0, 5, nI 0, [0]), some (.new 9, 8, nI 0, [1, 2]), none, none, some (.dup, 9, nI 0, []), some (.invokespecial 11, 12, nI 0, [6, 6, 1, 1]), none, none, some (.putfield 12, 15, nI 0, [9, 3, 0, 3]), none, none, some (.aload_n 0, 16, nI 0, [0]), some (.new 16, 19, nI 0, [4, 2]), none, none, some (.dup, 20, nI 0, []), some (.invokespecial 18, 23, nI 0, [6, 21, 4, 1]), none, none, some (.putfield 19, 26, nI 0, [9, 3, 1, 3]), none, none, some (.aload_n 0, 27, nI 0, [0]), some (.iconst 5, 28, nI 5, []), some (.anewarray 23, 31, nI 0, [4]), none, none, some (.putfield 25, 34, nI 0, [9, 3, 2, 3]), none, none, some (.new 29, 37, nI 0, [7, 7]), none, none, some (.dup, 38, nI 0, []), some (.invokespecial 31, 41, nI 0, [3, 54, 7, 1]), none, none, some (.astore_n 1, 42, nI 0, [1]), some (.iconst 0, 43, nI 0, []), some (.istore_n 2, 44, nI 0, [2]), some (.iload_n 2, 45, nI 0, [2]), some (.iconst 5, 46, nI 5, []), some (.if_icmp .ge 32, 49, nI 0, [78]), none, none, some (.aload_n 0, 50, nI 0, [0]), some (.getfield 25, 53, nI 0, [9, 3, 2, 3]), none, none, some (.iload_n 2, 54, nI 0, [2]), some (.new 23, 57, nI 0, [5, 10]), none, none, some (.dup, 58, nI 0, []), some (.iload_n 2, 59, nI 0, [2]), some (.aload_n 0, 60, nI 0, [0]), some (.getfield 12, 63, nI 0, [9, 3, 0, 3]), none, none, some (.aload_n 0, 64, nI 0, [0]), some (.getfield 19, 67, nI 0, [9, 3, 1, 3]), none, none, some (.aload_n 1, 68, nI 0, [1]), some (.invokespecial 32, 71, nI 0, [3, 26, 5, 5]), none, none, some (.aastore, 72, nI 0, []), some (.iinc 2 1, 75, nI 1, [2]), none, none, some (.goto (-31), 78, nI 0, [44]), none, none, some (.return_, 79, nI 0, [])]
/-- MajorityMap.ask(III)I -/
def x_T74 : List (Option xE) := [some (.iload_n 1, 1, nI 0, [1]), some (.ifCond .lt 17, 4, nI 0, [18]), none, none, some (.iload_n 1, 5, nI 0, [1]), some (.iconst 4, 6, nI 4, []), some (.if_icmp .gt 12, 9, nI 0, [18]), none, none, some (.iload_n 2, 10, nI 0, [2]), some (.ifCond .lt 8, 13, nI 0, [18]), none, none, some (.iload_n 2, 14, nI 0, [2]), some (.iconst 4, 15, nI 4, []), some (.if_icmp .lt 5, 18, nI 0, [20]), none, none, some (.iconst (-1), 19, (-1), []), some (.ireturn, 20, nI 0, []), some (.iload_n 1, 21, nI 0, [1]), some (.iconst 4, 22, nI 4, []), some (.if_icmp .ne 12, 25, nI 0, [34]), none, none, some (.iload_n 3, 26, nI 0, [3]), some (.invokestatic 35, 29, nI 0, [2, 75, 9, 1]), none, none, some (.ifCond .ne 5, 32, nI 0, [34]), none, none, some (.iconst (-1), 33, (-1), []), some (.ireturn, 34, nI 0, []), some (.aload_n 0, 35, nI 0, [0]), some (.getfield 12, 38, nI 0, [9, 3, 0, 3]), none, none, some (.new 39, 41, nI 0, [6, 5]), none, none, some (.dup, 42, nI 0, []), some (.iload_n 1, 43, nI 0, [1]), some (.iload_n 2, 44, nI 0, [2]), some (.iload_n 3, 45, nI 0, [3]), some (.invokespecial 41, 48, nI 0, [3, 53, 6, 4]), none, none, some (.invokevirtual 44, 51, nI 0, [0, 7, 1, 2]), none, none, some (.ireturn, 52, nI 0, [])]
/-- MajorityMap.isMembership(I)Z -/
def x_T75 : List (Option xE) := [some (.iload_n 0, 1, nI 0, [0]), some (.ifCond .lt 21, 4, nI 0, [22]), none, none, some (.iload_n 0, 5, nI 0, [0]), some (.bipush 31, 7, nI 31, []), none, some (.if_icmp .gt 15, 10, nI 0, [22]), none, none, some (.iload_n 0, 11, nI 0, [0]), some (.invokestatic 179, 14, nI 0, [2, 141, 11, 1]), none, none, some (.iconst 2, 15, nI 2, []), some (.if_icmp .lt 7, 18, nI 0, [22]), none, none, some (.iconst 1, 19, nI 1, []), some (.goto 4, 22, nI 0, [23]), none, none, some (.iconst 0, 23, nI 0, []), some (.ireturn, 24, nI 0, [])]
/-- MajorityMap.send(II)I -/
def x_T76 : List (Option xE) := [some (.aload_n 0, 1, nI 0, [0]), some (.getfield 12, 4, nI 0, [9, 3, 0, 3]), none, none, some (.iload_n 1, 5, nI 0, [1]), some (.invokevirtual 48, 8, nI 0, [0, 8, 1, 2]), none, none, some (.ifnull 10, 11, nI 0, [18]), none, none, some (.iload_n 2, 12, nI 0, [2]), some (.invokestatic 52, 15, nI 0, [2, 77, 9, 1]), none, none, some (.ifCond .ne 5, 18, nI 0, [20]), none, none, some (.iconst (-1), 19, (-1), []), some (.ireturn, 20, nI 0, []), some (.aload_n 0, 21, nI 0, [0]), some (.getfield 25, 24, nI 0, [9, 3, 2, 3]), none, none, some (.iload_n 2, 25, nI 0, [2]), some (.aaload, 26, nI 0, []), some (.iload_n 1, 27, nI 0, [1]), some (.invokevirtual 55, 30, nI 0, [0, 27, 5, 2]), none, none, some (.ireturn, 31, nI 0, [])]
/-- MajorityMap.isReplica(I)Z -/
def x_T77 : List (Option xE) := [some (.iload_n 0, 1, nI 0, [0]), some (.ifCond .lt 12, 4, nI 0, [13]), none, none, some (.iload_n 0, 5, nI 0, [0]), some (.iconst 5, 6, nI 5, []), some (.if_icmp .ge 7, 9, nI 0, [13]), none, none, some (.iconst 1, 10, nI 1, []), some (.goto 4, 13, nI 0, [14]), none, none, some (.iconst 0, 14, nI 0, []), some (.ireturn, 15, nI 0, [])]
/-- MajorityMap.isSlot(I)Z -/
def x_T78 : List (Option xE) := [some (.iload_n 0, 1, nI 0, [0]), some (.iconst 1, 2, nI 1, []), some (.if_icmp .lt 13, 5, nI 0, [15]), none, none, some (.iload_n 0, 6, nI 0, [0]), some (.bipush 24, 8, nI 24, []), none, some (.if_icmp .gt 7, 11, nI 0, [15]), none, none, some (.iconst 1, 12, nI 1, []), some (.goto 4, 15, nI 0, [16]), none, none, some (.iconst 0, 16, nI 0, []), some (.ireturn, 17, nI 0, [])]
/-- MajorityMap.holdsMajority(II)Z -/
def x_T79 : List (Option xE) := [some (.iconst 2, 1, nI 2, []), some (.iload_n 0, 2, nI 0, [0]), some (.iload_n 1, 3, nI 0, [1]), some (.iand, 4, nI 0, []), some (.invokestatic 179, 7, nI 0, [2, 141, 11, 1]), none, none, some (.imul, 8, nI 0, []), some (.iload_n 1, 9, nI 0, [1]), some (.invokestatic 179, 12, nI 0, [2, 141, 11, 1]), none, none, some (.if_icmp .le 7, 15, nI 0, [19]), none, none, some (.iconst 1, 16, nI 1, []), some (.goto 4, 19, nI 0, [20]), none, none, some (.iconst 0, 20, nI 0, []), some (.ireturn, 21, nI 0, [])]
/-- MajorityMap.timer(I)I -/
def x_T80 : List (Option xE) := [some (.iload_n 1, 1, nI 0, [1]), some (.invokestatic 52, 4, nI 0, [2, 77, 9, 1]), none, none, some (.ifCond .eq 15, 7, nI 0, [19]), none, none, some (.aload_n 0, 8, nI 0, [0]), some (.getfield 25, 11, nI 0, [9, 3, 2, 3]), none, none, some (.iload_n 1, 12, nI 0, [1]), some (.aaload, 13, nI 0, []), some (.getfield 59, 16, nI 0, [5, 10, 3, 1]), none, none, some (.ifCond .ne 5, 19, nI 0, [21]), none, none, some (.iconst (-1), 20, (-1), []), some (.ireturn, 21, nI 0, []), some (.aload_n 0, 22, nI 0, [0]), some (.getfield 19, 25, nI 0, [9, 3, 1, 3]), none, none, some (.invokevirtual 63, 28, nI 0, [0, 23, 4, 1]), none, none, some (.istore_n 2, 29, nI 0, [2]), some (.aload_n 0, 30, nI 0, [0]), some (.getfield 25, 33, nI 0, [9, 3, 2, 3]), none, none, some (.iload_n 1, 34, nI 0, [1]), some (.aaload, 35, nI 0, []), some (.invokevirtual 67, 38, nI 0, [0, 35, 5, 1]), none, none, some (.aload_n 0, 39, nI 0, [0]), some (.getfield 19, 42, nI 0, [9, 3, 1, 3]), none, none, some (.invokevirtual 63, 45, nI 0, [0, 23, 4, 1]), none, none, some (.iload_n 2, 46, nI 0, [2]), some (.isub, 47, nI 0, []), some (.ireturn, 48, nI 0, [])]
/-- MajorityMap.deliver(I)I -/
def x_T81 : List (Option xE) := [some (.aload_n 0, 1, nI 0, [0]), some (.getfield 19, 4, nI 0, [9, 3, 1, 3]), none, none, some (.iload_n 1, 5, nI 0, [1]), some (.invokevirtual 70, 8, nI 0, [0, 24, 4, 2]), none, none, some (.astore_n 2, 9, nI 0, [2]), some (.aload_n 2, 10, nI 0, [2]), some (.ifnonnull 5, 13, nI 0, [15]), none, none, some (.iconst (-1), 14, (-1), []), some (.ireturn, 15, nI 0, []), some (.aload_n 0, 16, nI 0, [0]), some (.getfield 25, 19, nI 0, [9, 3, 2, 3]), none, none, some (.aload_n 2, 20, nI 0, [2]), some (.getfield 74, 23, nI 0, [3, 8, 2, 0]), none, none, some (.aaload, 24, nI 0, []), some (.astore_n 3, 25, nI 0, [3]), some (.aload_n 3, 26, nI 0, [3]), some (.getfield 59, 29, nI 0, [5, 10, 3, 1]), none, none, some (.ifCond .ne 6, 32, nI 0, [35]), none, none, some (.bipush (-2), 34, (-2), []), none, some (.ireturn, 35, nI 0, []), some (.aload_n 0, 36, nI 0, [0]), some (.getfield 19, 39, nI 0, [9, 3, 1, 3]), none, none, some (.invokevirtual 63, 42, nI 0, [0, 23, 4, 1]), none, none, some (.istore 4, 44, nI 0, [4]), none, some (.aload_n 3, 45, nI 0, [3]), some (.aload_n 2, 46, nI 0, [2]), some (.invokevirtual 80, 49, nI 0, [0, 38, 5, 2]), none, none, some (.aload_n 0, 50, nI 0, [0]), some (.getfield 19, 53, nI 0, [9, 3, 1, 3]), none, none, some (.invokevirtual 63, 56, nI 0, [0, 23, 4, 1]), none, none, some (.iload 4, 58, nI 0, [4]), none, some (.isub, 59, nI 0, []), some (.ireturn, 60, nI 0, [])]
/-- MajorityMap.drop(I)Z -/
def x_T82 : List (Option xE) := [some (.aload_n 0, 1, nI 0, [0]), some (.getfield 19, 4, nI 0, [9, 3, 1, 3]), none, none, some (.iload_n 1, 5, nI 0, [1]), some (.invokevirtual 70, 8, nI 0, [0, 24, 4, 2]), none, none, some (.ifnull 7, 11, nI 0, [15]), none, none, some (.iconst 1, 12, nI 1, []), some (.goto 4, 15, nI 0, [16]), none, none, some (.iconst 0, 16, nI 0, []), some (.ireturn, 17, nI 0, [])]
/-- MajorityMap.copy(I)Z -/
def x_T83 : List (Option xE) := [some (.aload_n 0, 1, nI 0, [0]), some (.getfield 19, 4, nI 0, [9, 3, 1, 3]), none, none, some (.iload_n 1, 5, nI 0, [1]), some (.invokevirtual 84, 8, nI 0, [0, 25, 4, 2]), none, none, some (.astore_n 2, 9, nI 0, [2]), some (.aload_n 2, 10, nI 0, [2]), some (.ifnull 18, 13, nI 0, [28]), none, none, some (.aload_n 0, 14, nI 0, [0]), some (.getfield 19, 17, nI 0, [9, 3, 1, 3]), none, none, some (.aload_n 2, 18, nI 0, [2]), some (.invokevirtual 87, 21, nI 0, [0, 22, 4, 2]), none, none, some (.ifCond .eq 7, 24, nI 0, [28]), none, none, some (.iconst 1, 25, nI 1, []), some (.goto 4, 28, nI 0, [29]), none, none, some (.iconst 0, 29, nI 0, []), some (.ireturn, 30, nI 0, [])]
/-- MajorityMap.crash(I)Z -/
def x_T84 : List (Option xE) := [some (.iload_n 1, 1, nI 0, [1]), some (.invokestatic 52, 4, nI 0, [2, 77, 9, 1]), none, none, some (.ifCond .eq 15, 7, nI 0, [19]), none, none, some (.aload_n 0, 8, nI 0, [0]), some (.getfield 25, 11, nI 0, [9, 3, 2, 3]), none, none, some (.iload_n 1, 12, nI 0, [1]), some (.aaload, 13, nI 0, []), some (.getfield 59, 16, nI 0, [5, 10, 3, 1]), none, none, some (.ifCond .ne 5, 19, nI 0, [21]), none, none, some (.iconst 0, 20, nI 0, []), some (.ireturn, 21, nI 0, []), some (.aload_n 0, 22, nI 0, [0]), some (.getfield 25, 25, nI 0, [9, 3, 2, 3]), none, none, some (.iload_n 1, 26, nI 0, [1]), some (.aaload, 27, nI 0, []), some (.invokevirtual 91, 30, nI 0, [0, 51, 5, 1]), none, none, some (.iconst 1, 31, nI 1, []), some (.ireturn, 32, nI 0, [])]
/-- MajorityMap.restart(I)Z -/
def x_T85 : List (Option xE) := [some (.iload_n 1, 1, nI 0, [1]), some (.invokestatic 52, 4, nI 0, [2, 77, 9, 1]), none, none, some (.ifCond .eq 15, 7, nI 0, [19]), none, none, some (.aload_n 0, 8, nI 0, [0]), some (.getfield 25, 11, nI 0, [9, 3, 2, 3]), none, none, some (.iload_n 1, 12, nI 0, [1]), some (.aaload, 13, nI 0, []), some (.getfield 59, 16, nI 0, [5, 10, 3, 1]), none, none, some (.ifCond .eq 5, 19, nI 0, [21]), none, none, some (.iconst 0, 20, nI 0, []), some (.ireturn, 21, nI 0, []), some (.aload_n 0, 22, nI 0, [0]), some (.getfield 25, 25, nI 0, [9, 3, 2, 3]), none, none, some (.iload_n 1, 26, nI 0, [1]), some (.aaload, 27, nI 0, []), some (.iconst 1, 28, nI 1, []), some (.putfield 59, 31, nI 0, [5, 10, 3, 1]), none, none, some (.iconst 1, 32, nI 1, []), some (.ireturn, 33, nI 0, [])]
/-- MajorityMap.cut(I)I -/
def x_T86 : List (Option xE) := [some (.iload_n 1, 1, nI 0, [1]), some (.invokestatic 52, 4, nI 0, [2, 77, 9, 1]), none, none, some (.ifCond .eq 15, 7, nI 0, [19]), none, none, some (.aload_n 0, 8, nI 0, [0]), some (.getfield 25, 11, nI 0, [9, 3, 2, 3]), none, none, some (.iload_n 1, 12, nI 0, [1]), some (.aaload, 13, nI 0, []), some (.getfield 59, 16, nI 0, [5, 10, 3, 1]), none, none, some (.ifCond .ne 5, 19, nI 0, [21]), none, none, some (.iconst (-1), 20, (-1), []), some (.ireturn, 21, nI 0, []), some (.aload_n 0, 22, nI 0, [0]), some (.getfield 25, 25, nI 0, [9, 3, 2, 3]), none, none, some (.iload_n 1, 26, nI 0, [1]), some (.aaload, 27, nI 0, []), some (.aload_n 0, 28, nI 0, [0]), some (.getfield 25, 31, nI 0, [9, 3, 2, 3]), none, none, some (.iload_n 1, 32, nI 0, [1]), some (.aaload, 33, nI 0, []), some (.getfield 94, 36, nI 0, [5, 10, 7, 3]), none, none, some (.invokevirtual 98, 39, nI 0, [0, 43, 5, 2]), none, none, some (.ireturn, 40, nI 0, [])]
/-- MajorityMap.fetch(II)Z -/
def x_T87 : List (Option xE) := [some (.iload_n 1, 1, nI 0, [1]), some (.invokestatic 52, 4, nI 0, [2, 77, 9, 1]), none, none, some (.ifCond .eq 27, 7, nI 0, [31]), none, none, some (.iload_n 2, 8, nI 0, [2]), some (.invokestatic 52, 11, nI 0, [2, 77, 9, 1]), none, none, some (.ifCond .eq 20, 14, nI 0, [31]), none, none, some (.iload_n 1, 15, nI 0, [1]), some (.iload_n 2, 16, nI 0, [2]), some (.if_icmp .eq 15, 19, nI 0, [31]), none, none, some (.aload_n 0, 20, nI 0, [0]), some (.getfield 25, 23, nI 0, [9, 3, 2, 3]), none, none, some (.iload_n 1, 24, nI 0, [1]), some (.aaload, 25, nI 0, []), some (.getfield 59, 28, nI 0, [5, 10, 3, 1]), none, none, some (.ifCond .ne 5, 31, nI 0, [33]), none, none, some (.iconst 0, 32, nI 0, []), some (.ireturn, 33, nI 0, []), some (.aload_n 0, 34, nI 0, [0]), some (.getfield 19, 37, nI 0, [9, 3, 1, 3]), none, none, some (.new 75, 40, nI 0, [3, 8]), none, none, some (.dup, 41, nI 0, []), some (.bipush 7, 43, nI 7, []), none, some (.iload_n 1, 44, nI 0, [1]), some (.iload_n 2, 45, nI 0, [2]), some (.iconst 0, 46, nI 0, []), some (.aload_n 0, 47, nI 0, [0]), some (.getfield 25, 50, nI 0, [9, 3, 2, 3]), none, none, some (.iload_n 1, 51, nI 0, [1]), some (.aaload, 52, nI 0, []), some (.getfield 94, 55, nI 0, [5, 10, 7, 3]), none, none, some (.getfield 102, 58, nI 0, [7, 7, 0, 0]), none, none, some (.iconst 0, 59, nI 0, []), some (.invokespecial 105, 62, nI 0, [3, 17, 3, 7]), none, none, some (.invokevirtual 87, 65, nI 0, [0, 22, 4, 2]), none, none, some (.ireturn, 66, nI 0, [])]
/-- MajorityMap.waiting()I -/
def x_T88 : List (Option xE) := [some (.aload_n 0, 1, nI 0, [0]), some (.getfield 19, 4, nI 0, [9, 3, 1, 3]), none, none, some (.invokevirtual 63, 7, nI 0, [0, 23, 4, 1]), none, none, some (.ireturn, 8, nI 0, [])]
/-- MajorityMap.message(II)I -/
def x_T89 : List (Option xE) := [some (.aload_n 0, 1, nI 0, [0]), some (.getfield 19, 4, nI 0, [9, 3, 1, 3]), none, none, some (.iload_n 1, 5, nI 0, [1]), some (.invokevirtual 84, 8, nI 0, [0, 25, 4, 2]), none, none, some (.astore_n 3, 9, nI 0, [3]), some (.aload_n 3, 10, nI 0, [3]), some (.ifnonnull 5, 13, nI 0, [15]), none, none, some (.iconst (-1), 14, (-1), []), some (.ireturn, 15, nI 0, []), some (.iload_n 2, 16, nI 0, [2]), some (.tableswitch 70 0 5 #[40, 45, 50, 55, 60, 65], 56, nI 0, [0, 86, 56, 61, 66, 71, 76, 81]), none, none, none, none, none, none, none, none, none, none, none, none, none, none, none, none, none, none, none, none, none, none, none, none, none, none, none, none, none, none, none, none, none, none, none, none, none, none, none, some (.aload_n 3, 57, nI 0, [3]), some (.getfield 108, 60, nI 0, [3, 8, 0, 0]), none, none, some (.ireturn, 61, nI 0, []), some (.aload_n 3, 62, nI 0, [3]), some (.getfield 111, 65, nI 0, [3, 8, 1, 0]), none, none, some (.ireturn, 66, nI 0, []), some (.aload_n 3, 67, nI 0, [3]), some (.getfield 74, 70, nI 0, [3, 8, 2, 0]), none, none, some (.ireturn, 71, nI 0, []), some (.aload_n 3, 72, nI 0, [3]), some (.invokevirtual 114, 75, nI 0, [0, 19, 3, 1]), none, none, some (.ireturn, 76, nI 0, []), some (.aload_n 3, 77, nI 0, [3]), some (.invokevirtual 117, 80, nI 0, [0, 20, 3, 1]), none, none, some (.ireturn, 81, nI 0, []), some (.aload_n 3, 82, nI 0, [3]), some (.getfield 120, 85, nI 0, [3, 8, 5, 0]), none, none, some (.ireturn, 86, nI 0, []), some (.iconst (-1), 87, (-1), []), some (.ireturn, 88, nI 0, [])]
/-- MajorityMap.look(II)I -/
def x_T90 : List (Option xE) := [some (.iload_n 1, 1, nI 0, [1]), some (.invokestatic 52, 4, nI 0, [2, 77, 9, 1]), none, none, some (.ifCond .ne 5, 7, nI 0, [9]), none, none, some (.iconst (-1), 8, (-1), []), some (.ireturn, 9, nI 0, []), some (.aload_n 0, 10, nI 0, [0]), some (.getfield 25, 13, nI 0, [9, 3, 2, 3]), none, none, some (.iload_n 1, 14, nI 0, [1]), some (.aaload, 15, nI 0, []), some (.astore_n 3, 16, nI 0, [3]), some (.iload_n 2, 17, nI 0, [2]), some (.tableswitch 149 0 7 #[47, 60, 65, 73, 81, 100, 113, 130], 64, nI 0, [0, 166, 64, 77, 82, 90, 98, 117, 130, 147]), none, none, none, none, none, none, none, none, none, none, none, none, none, none, none, none, none, none, none, none, none, none, none, none, none, none, none, none, none, none, none, none, none, none, none, none, none, none, none, none, none, none, none, none, none, none, some (.aload_n 3, 65, nI 0, [3]), some (.getfield 59, 68, nI 0, [5, 10, 3, 1]), none, none, some (.ifCond .eq 7, 71, nI 0, [75]), none, none, some (.iconst 1, 72, nI 1, []), some (.goto 4, 75, nI 0, [76]), none, none, some (.iconst 0, 76, nI 0, []), some (.ireturn, 77, nI 0, []), some (.aload_n 3, 78, nI 0, [3]), some (.getfield 123, 81, nI 0, [5, 10, 4, 0]), none, none, some (.ireturn, 82, nI 0, []), some (.aload_n 3, 83, nI 0, [3]), some (.getfield 126, 86, nI 0, [5, 10, 6, 3]), none, none, some (.getfield 102, 89, nI 0, [7, 7, 0, 0]), none, none, some (.ireturn, 90, nI 0, []), some (.aload_n 3, 91, nI 0, [3]), some (.getfield 94, 94, nI 0, [5, 10, 7, 3]), none, none, some (.getfield 102, 97, nI 0, [7, 7, 0, 0]), none, none, some (.ireturn, 98, nI 0, []), some (.aload_n 3, 99, nI 0, [3]), some (.invokevirtual 129, 102, nI 0, [0, 28, 5, 1]), none, none, some (.ifCond .eq 13, 105, nI 0, [115]), none, none, some (.aload_n 3, 106, nI 0, [3]), some (.getfield 133, 109, nI 0, [5, 10, 9, 3]), none, none, some (.getfield 137, 112, nI 0, [0, 5, 0, 0]), none, none, some (.goto 4, 115, nI 0, [116]), none, none, some (.iconst 0, 116, nI 0, []), some (.ireturn, 117, nI 0, []), some (.aload_n 3, 118, nI 0, [3]), some (.invokevirtual 142, 121, nI 0, [0, 52, 5, 1]), none, none, some (.ifCond .eq 7, 124, nI 0, [128]), none, none, some (.iconst 1, 125, nI 1, []), some (.goto 4, 128, nI 0, [129]), none, none, some (.iconst 0, 129, nI 0, []), some (.ireturn, 130, nI 0, []), some (.aload_n 3, 131, nI 0, [3]), some (.getfield 94, 134, nI 0, [5, 10, 7, 3]), none, none, some (.aload_n 3, 135, nI 0, [3]), some (.getfield 94, 138, nI 0, [5, 10, 7, 3]), none, none, some (.getfield 102, 141, nI 0, [7, 7, 0, 0]), none, none, some (.iconst 1, 142, nI 1, []), some (.iadd, 143, nI 0, []), some (.invokevirtual 145, 146, nI 0, [0, 57, 7, 2]), none, none, some (.ireturn, 147, nI 0, []), some (.aload_n 3, 148, nI 0, [3]), some (.invokevirtual 129, 151, nI 0, [0, 28, 5, 1]), none, none, some (.ifCond .eq 13, 154, nI 0, [164]), none, none, some (.aload_n 3, 155, nI 0, [3]), some (.getfield 133, 158, nI 0, [5, 10, 9, 3]), none, none, some (.getfield 148, 161, nI 0, [0, 5, 1, 0]), none, none, some (.goto 4, 164, nI 0, [165]), none, none, some (.iconst 0, 165, nI 0, []), some (.ireturn, 166, nI 0, []), some (.iconst (-1), 167, (-1), []), some (.ireturn, 168, nI 0, [])]
/-- MajorityMap.value(II)I -/
def x_T91 : List (Option xE) := [some (.iload_n 1, 1, nI 0, [1]), some (.invokestatic 52, 4, nI 0, [2, 77, 9, 1]), none, none, some (.ifCond .eq 12, 7, nI 0, [16]), none, none, some (.iload_n 2, 8, nI 0, [2]), some (.ifCond .lt 8, 11, nI 0, [16]), none, none, some (.iload_n 2, 12, nI 0, [2]), some (.iconst 4, 13, nI 4, []), some (.if_icmp .lt 5, 16, nI 0, [18]), none, none, some (.iconst 0, 17, nI 0, []), some (.ireturn, 18, nI 0, []), some (.aload_n 0, 19, nI 0, [0]), some (.getfield 25, 22, nI 0, [9, 3, 2, 3]), none, none, some (.iload_n 1, 23, nI 0, [1]), some (.aaload, 24, nI 0, []), some (.getfield 94, 27, nI 0, [5, 10, 7, 3]), none, none, some (.getfield 151, 30, nI 0, [7, 7, 1, 3]), none, none, some (.iload_n 2, 31, nI 0, [2]), some (.iaload, 32, nI 0, []), some (.ireturn, 33, nI 0, [])]
/-- MajorityMap.vote(II)I -/
def x_T92 : List (Option xE) := [some (.iload_n 1, 1, nI 0, [1]), some (.invokestatic 52, 4, nI 0, [2, 77, 9, 1]), none, none, some (.ifCond .eq 10, 7, nI 0, [14]), none, none, some (.iload_n 2, 8, nI 0, [2]), some (.invokestatic 155, 11, nI 0, [2, 78, 9, 1]), none, none, some (.ifCond .ne 5, 14, nI 0, [16]), none, none, some (.iconst (-1), 15, (-1), []), some (.ireturn, 16, nI 0, []), some (.aload_n 0, 17, nI 0, [0]), some (.getfield 25, 20, nI 0, [9, 3, 2, 3]), none, none, some (.iload_n 1, 21, nI 0, [1]), some (.aaload, 22, nI 0, []), some (.getfield 158, 25, nI 0, [5, 10, 5, 3]), none, none, some (.astore_n 3, 26, nI 0, [3]), some (.aload_n 3, 27, nI 0, [3]), some (.iload_n 2, 28, nI 0, [2]), some (.invokevirtual 162, 31, nI 0, [0, 68, 8, 2]), none, none, some (.ifCond .eq 20, 34, nI 0, [51]), none, none, some (.bipush 64, 36, nI 64, []), none, some (.aload_n 3, 37, nI 0, [3]), some (.iload_n 2, 38, nI 0, [2]), some (.invokevirtual 167, 41, nI 0, [0, 67, 8, 2]), none, none, some (.imul, 42, nI 0, []), some (.aload_n 3, 43, nI 0, [3]), some (.iload_n 2, 44, nI 0, [2]), some (.invokevirtual 170, 47, nI 0, [0, 69, 8, 2]), none, none, some (.iadd, 48, nI 0, []), some (.goto 4, 51, nI 0, [52]), none, none, some (.iconst 0, 52, nI 0, []), some (.ireturn, 53, nI 0, [])]
/-- MajorityMap.reply(I)I -/
def x_T93 : List (Option xE) := [some (.aload_n 0, 1, nI 0, [0]), some (.getfield 12, 4, nI 0, [9, 3, 0, 3]), none, none, some (.iload_n 1, 5, nI 0, [1]), some (.invokevirtual 48, 8, nI 0, [0, 8, 1, 2]), none, none, some (.astore_n 2, 9, nI 0, [2]), some (.aload_n 2, 10, nI 0, [2]), some (.ifnonnull 7, 13, nI 0, [17]), none, none, some (.iconst 0, 14, nI 0, []), some (.goto 7, 17, nI 0, [21]), none, none, some (.aload_n 2, 18, nI 0, [2]), some (.getfield 173, 21, nI 0, [6, 5, 3, 0]), none, none, some (.ireturn, 22, nI 0, [])]
/-- MajorityMap.heard(I)I -/
def x_T94 : List (Option xE) := [some (.aload_n 0, 1, nI 0, [0]), some (.getfield 12, 4, nI 0, [9, 3, 0, 3]), none, none, some (.iload_n 1, 5, nI 0, [1]), some (.invokevirtual 48, 8, nI 0, [0, 8, 1, 2]), none, none, some (.astore_n 2, 9, nI 0, [2]), some (.aload_n 2, 10, nI 0, [2]), some (.ifnonnull 7, 13, nI 0, [17]), none, none, some (.iconst 0, 14, nI 0, []), some (.goto 7, 17, nI 0, [21]), none, none, some (.aload_n 2, 18, nI 0, [2]), some (.getfield 176, 21, nI 0, [6, 5, 4, 0]), none, none, some (.ireturn, 22, nI 0, [])]
/-- MajorityMapModel.<init>()V -/
def x_T95 : List (Option xE) := [some (.aload_n 0, 1, nI 0, [0]), some (.invokespecial 1, 4, nI 0, [8]), none, none, some (.aload_n 0, 5, nI 0, [0]), some (.bipush 41, 7, nI 41, []), none, some (.newarray .int, 9, nI 0, [0]), none, some (.putfield 7, 12, nI 0, [10, 42, 1, 3]), none, none, some (.aload_n 0, 13, nI 0, [0]), some (.bipush 41, 15, nI 41, []), none, some (.newarray .int, 17, nI 0, [0]), none, some (.putfield 13, 20, nI 0, [10, 42, 2, 3]), none, none, some (.aload_n 0, 21, nI 0, [0]), some (.bipush 41, 23, nI 41, []), none, some (.newarray .int, 25, nI 0, [0]), none, some (.putfield 16, 28, nI 0, [10, 42, 3, 3]), none, none, some (.aload_n 0, 29, nI 0, [0]), some (.bipush 41, 31, nI 41, []), none, some (.newarray .int, 33, nI 0, [0]), none, some (.putfield 19, 36, nI 0, [10, 42, 4, 3]), none, none, some (.aload_n 0, 37, nI 0, [0]), some (.bipush 41, 39, nI 41, []), none, some (.newarray .int, 41, nI 0, [0]), none, some (.putfield 22, 44, nI 0, [10, 42, 5, 3]), none, none, some (.aload_n 0, 45, nI 0, [0]), some (.bipush 25, 47, nI 25, []), none, some (.newarray .int, 49, nI 0, [0]), none, some (.putfield 25, 52, nI 0, [10, 42, 6, 3]), none, none, some (.aload_n 0, 53, nI 0, [0]), some (.bipush 31, 55, nI 31, []), none, some (.putfield 28, 58, nI 0, [10, 42, 7, 0]), none, none, some (.aload_n 0, 59, nI 0, [0]), some (.iconst 5, 60, nI 5, []), some (.newarray .int, 62, nI 0, [0]), none, some (.putfield 32, 65, nI 0, [10, 42, 8, 3]), none, none, some (.aload_n 0, 66, nI 0, [0]), some (.iconst 5, 67, nI 5, []), some (.newarray .int, 69, nI 0, [0]), none, some (.putfield 35, 72, nI 0, [10, 42, 9, 3]), none, none, some (.aload_n 0, 73, nI 0, [0]), some (.iconst 5, 74, nI 5, []), some (.newarray .int, 76, nI 0, [0]), none, some (.putfield 38, 79, nI 0, [10, 42, 10, 3]), none, none, some (.aload_n 0, 80, nI 0, [0]), some (.iconst 5, 81, nI 5, []), some (.newarray .int, 83, nI 0, [0]), none, some (.putfield 41, 86, nI 0, [10, 42, 11, 3]), none, none, some (.aload_n 0, 87, nI 0, [0]), some (.bipush 125, 89, nI 125, []), none, some (.newarray .int, 91, nI 0, [0]), none, some (.putfield 44, 94, nI 0, [10, 42, 12, 3]), none, none, some (.aload_n 0, 95, nI 0, [0]), some (.bipush 125, 97, nI 125, []), none, some (.newarray .int, 99, nI 0, [0]), none, some (.putfield 47, 102, nI 0, [10, 42, 13, 3]), none, none, some (.aload_n 0, 103, nI 0, [0]), some (.iconst 5, 104, nI 5, []), some (.newarray .int, 106, nI 0, [0]), none, some (.putfield 50, 109, nI 0, [10, 42, 14, 3]), none, none, some (.aload_n 0, 110, nI 0, [0]), some (.iconst 5, 111, nI 5, []), some (.newarray .int, 113, nI 0, [0]), none, some (.putfield 53, 116, nI 0, [10, 42, 15, 3]), none, none, some (.aload_n 0, 117, nI 0, [0]), some (.bipush 125, 119, nI 125, []), none, some (.newarray .int, 121, nI 0, [0]), none, some (.putfield 56, 124, nI 0, [10, 42, 16, 3]), none, none, some (.aload_n 0, 125, nI 0, [0]), some (.bipush 125, 127, nI 125, []), none, some (.newarray .int, 129, nI 0, [0]), none, some (.putfield 59, 132, nI 0, [10, 42, 17, 3]), none, none, some (.aload_n 0, 133, nI 0, [0]), some (.bipush 125, 135, nI 125, []), none, some (.newarray .int, 137, nI 0, [0]), none, some (.putfield 62, 140, nI 0, [10, 42, 18, 3]), none, none, some (.aload_n 0, 141, nI 0, [0]), some (.bipush 125, 143, nI 125, []), none, some (.newarray .int, 145, nI 0, [0]), none, some (.putfield 65, 148, nI 0, [10, 42, 19, 3]), none, none, some (.aload_n 0, 149, nI 0, [0]), some (.bipush 32, 151, nI 32, []), none, some (.newarray .int, 153, nI 0, [0]), none, some (.putfield 68, 156, nI 0, [10, 42, 22, 3]), none, none, some (.aload_n 0, 157, nI 0, [0]), some (.bipush 32, 159, nI 32, []), none, some (.newarray .int, 161, nI 0, [0]), none, some (.putfield 71, 164, nI 0, [10, 42, 23, 3]), none, none, some (.aload_n 0, 165, nI 0, [0]), some (.bipush 32, 167, nI 32, []), none, some (.newarray .int, 169, nI 0, [0]), none, some (.putfield 74, 172, nI 0, [10, 42, 24, 3]), none, none, some (.aload_n 0, 173, nI 0, [0]), some (.bipush 32, 175, nI 32, []), none, some (.newarray .int, 177, nI 0, [0]), none, some (.putfield 77, 180, nI 0, [10, 42, 25, 3]), none, none, some (.aload_n 0, 181, nI 0, [0]), some (.bipush 32, 183, nI 32, []), none, some (.newarray .int, 185, nI 0, [0]), none, some (.putfield 80, 188, nI 0, [10, 42, 26, 3]), none, none, some (.aload_n 0, 189, nI 0, [0]), some (.bipush 32, 191, nI 32, []), none, some (.newarray .int, 193, nI 0, [0]), none, some (.putfield 83, 196, nI 0, [10, 42, 27, 3]), none, none, some (.aload_n 0, 197, nI 0, [0]), some (.bipush 32, 199, nI 32, []), none, some (.newarray .int, 201, nI 0, [0]), none, some (.putfield 86, 204, nI 0, [10, 42, 28, 3]), none, none, some (.aload_n 0, 205, nI 0, [0]), some (.sipush 800, 208, nI 800, []), none, none, some (.newarray .int, 210, nI 0, [0]), none, some (.putfield 89, 213, nI 0, [10, 42, 29, 3]), none, none, some (.aload_n 0, 214, nI 0, [0]), some (.sipush 800, 217, nI 800, []), none, none, some (.newarray .int, 219, nI 0, [0]), none, some (.putfield 92, 222, nI 0, [10, 42, 30, 3]), none, none, some (.aload_n 0, 223, nI 0, [0]), some (.bipush 25, 225, nI 25, []), none, some (.newarray .int, 227, nI 0, [0]), none, some (.putfield 95, 230, nI 0, [10, 42, 36, 3]), none, none, some (.aload_n 0, 231, nI 0, [0]), some (.bipush 25, 233, nI 25, []), none, some (.newarray .int, 235, nI 0, [0]), none, some (.putfield 98, 238, nI 0, [10, 42, 37, 3]), none, none, some (.aload_n 0, 239, nI 0, [0]), some (.iconst 4, 240, nI 4, []), some (.newarray .int, 242, nI 0, [0]), none, some (.putfield 101, 245, nI 0, [10, 42, 38, 3]), none, none, some (.aload_n 0, 246, nI 0, [0]), some (.bipush 41, 248, nI 41, []), none, some (.newarray .boolean, 250, nI 0, [1]), none, some (.putfield 104, 253, nI 0, [10, 42, 39, 3]), none, none, some (.aload_n 0, 254, nI 0, [0]), some (.bipush 41, 256, nI 41, []), none, some (.newarray .int, 258, nI 0, [0]), none, some (.putfield 108, 261, nI 0, [10, 42, 40, 3]), none, none, some (.aload_n 0, 262, nI 0, [0]), some (.bipush 25, 264, nI 25, []), none, some (.newarray .int, 266, nI 0, [0]), none, some (.putfield 111, 269, nI 0, [10, 42, 41, 3]), none, none, some (.iconst 0, 270, nI 0, []), some (.istore_n 1, 271, nI 0, [1]), some (.iload_n 1, 272, nI 0, [1]), some (.bipush 25, 274, nI 25, []), none, some (.if_icmp .ge 16, 277, nI 0, [290]), none, none, some (.aload_n 0, 278, nI 0, [0]), some (.getfield 25, 281, nI 0, [10, 42, 6, 3]), none, none, some (.iload_n 1, 282, nI 0, [1]), some (.iconst (-1), 283, (-1), []), some (.iastore, 284, nI 0, []), some (.iinc 1 1, 287, nI 1, [1]), none, none, some (.goto (-16), 290, nI 0, [271]), none, none, some (.iconst 0, 291, nI 0, []), some (.istore_n 1, 292, nI 0, [1]), some (.iload_n 1, 293, nI 0, [1]), some (.bipush 125, 295, nI 125, []), none, some (.if_icmp .ge 16, 298, nI 0, [311]), none, none, some (.aload_n 0, 299, nI 0, [0]), some (.getfield 62, 302, nI 0, [10, 42, 18, 3]), none, none, some (.iload_n 1, 303, nI 0, [1]), some (.iconst (-1), 304, (-1), []), some (.iastore, 305, nI 0, []), some (.iinc 1 1, 308, nI 1, [1]), none, none, some (.goto (-16), 311, nI 0, [292]), none, none, some (.return_, 312, nI 0, [])]
/-- MajorityMapModel.ask(III)I -/
def x_T96 : List (Option xE) := [some (.iload_n 1, 1, nI 0, [1]), some (.ifCond .lt 26, 4, nI 0, [27]), none, none, some (.iload_n 1, 5, nI 0, [1]), some (.iconst 4, 6, nI 4, []), some (.if_icmp .gt 21, 9, nI 0, [27]), none, none, some (.iload_n 2, 10, nI 0, [2]), some (.ifCond .lt 17, 13, nI 0, [27]), none, none, some (.iload_n 2, 14, nI 0, [2]), some (.iconst 3, 15, nI 3, []), some (.if_icmp .gt 12, 18, nI 0, [27]), none, none, some (.aload_n 0, 19, nI 0, [0]), some (.getfield 213, 22, nI 0, [10, 42, 0, 0]), none, none, some (.bipush 40, 24, nI 40, []), none, some (.if_icmp .ne 5, 27, nI 0, [29]), none, none, some (.iconst (-1), 28, (-1), []), some (.ireturn, 29, nI 0, []), some (.iload_n 1, 30, nI 0, [1]), some (.iconst 4, 31, nI 4, []), some (.if_icmp .ne 23, 34, nI 0, [54]), none, none, some (.iload_n 3, 35, nI 0, [3]), some (.ifCond .lt 17, 38, nI 0, [52]), none, none, some (.iload_n 3, 39, nI 0, [3]), some (.bipush 31, 41, nI 31, []), none, some (.if_icmp .gt 11, 44, nI 0, [52]), none, none, some (.iload_n 3, 45, nI 0, [3]), some (.invokestatic 122, 48, nI 0, [2, 97, 10, 1]), none, none, some (.iconst 2, 49, nI 2, []), some (.if_icmp .ge 5, 52, nI 0, [54]), none, none, some (.iconst (-1), 53, (-1), []), some (.ireturn, 54, nI 0, []), some (.aload_n 0, 55, nI 0, [0]), some (.dup, 56, nI 0, []), some (.getfield 213, 59, nI 0, [10, 42, 0, 0]), none, none, some (.iconst 1, 60, nI 1, []), some (.iadd, 61, nI 0, []), some (.putfield 213, 64, nI 0, [10, 42, 0, 0]), none, none, some (.aload_n 0, 65, nI 0, [0]), some (.getfield 7, 68, nI 0, [10, 42, 1, 3]), none, none, some (.aload_n 0, 69, nI 0, [0]), some (.getfield 213, 72, nI 0, [10, 42, 0, 0]), none, none, some (.iload_n 1, 73, nI 0, [1]), some (.iastore, 74, nI 0, []), some (.aload_n 0, 75, nI 0, [0]), some (.getfield 13, 78, nI 0, [10, 42, 2, 3]), none, none, some (.aload_n 0, 79, nI 0, [0]), some (.getfield 213, 82, nI 0, [10, 42, 0, 0]), none, none, some (.iload_n 2, 83, nI 0, [2]), some (.iastore, 84, nI 0, []), some (.aload_n 0, 85, nI 0, [0]), some (.getfield 16, 88, nI 0, [10, 42, 3, 3]), none, none, some (.aload_n 0, 89, nI 0, [0]), some (.getfield 213, 92, nI 0, [10, 42, 0, 0]), none, none, some (.iload_n 3, 93, nI 0, [3]), some (.iastore, 94, nI 0, []), some (.aload_n 0, 95, nI 0, [0]), some (.getfield 213, 98, nI 0, [10, 42, 0, 0]), none, none, some (.ireturn, 99, nI 0, [])]
/-- MajorityMapModel.count(I)I -/
def x_T97 : List (Option xE) := [some (.iconst 0, 1, nI 0, []), some (.istore_n 1, 2, nI 0, [1]), some (.iconst 0, 3, nI 0, []), some (.istore_n 2, 4, nI 0, [2]), some (.iload_n 2, 5, nI 0, [2]), some (.iconst 5, 6, nI 5, []), some (.if_icmp .ge 17, 9, nI 0, [23]), none, none, some (.iload_n 1, 10, nI 0, [1]), some (.iload_n 0, 11, nI 0, [0]), some (.iload_n 2, 12, nI 0, [2]), some (.ishr, 13, nI 0, []), some (.iconst 1, 14, nI 1, []), some (.iand, 15, nI 0, []), some (.iadd, 16, nI 0, []), some (.istore_n 1, 17, nI 0, [1]), some (.iinc 2 1, 20, nI 1, [2]), none, none, some (.goto (-16), 23, nI 0, [4]), none, none, some (.iload_n 1, 24, nI 0, [1]), some (.ireturn, 25, nI 0, [])]
/-- MajorityMapModel.send(II)I -/
def x_T98 : List (Option xE) := [some (.iload_n 1, 1, nI 0, [1]), some (.iconst 1, 2, nI 1, []), some (.if_icmp .lt 18, 5, nI 0, [20]), none, none, some (.iload_n 1, 6, nI 0, [1]), some (.aload_n 0, 7, nI 0, [0]), some (.getfield 213, 10, nI 0, [10, 42, 0, 0]), none, none, some (.if_icmp .gt 10, 13, nI 0, [20]), none, none, some (.iload_n 2, 14, nI 0, [2]), some (.invokestatic 210, 17, nI 0, [2, 99, 10, 1]), none, none, some (.ifCond .ne 5, 20, nI 0, [22]), none, none, some (.iconst (-1), 21, (-1), []), some (.ireturn, 22, nI 0, []), some (.aload_n 0, 23, nI 0, [0]), some (.iload_n 2, 24, nI 0, [2]), some (.invokevirtual 216, 27, nI 0, [0, 100, 10, 2]), none, none, some (.ifCond .ne 5, 30, nI 0, [32]), none, none, some (.iconst 0, 31, nI 0, []), some (.ireturn, 32, nI 0, []), some (.aload_n 0, 33, nI 0, [0]), some (.aload_n 0, 34, nI 0, [0]), some (.getfield 38, 37, nI 0, [10, 42, 10, 3]), none, none, some (.iload_n 2, 38, nI 0, [2]), some (.iaload, 39, nI 0, []), some (.invokevirtual 118, 42, nI 0, [0, 101, 10, 2]), none, none, some (.aload_n 0, 43, nI 0, [0]), some (.getfield 104, 46, nI 0, [10, 42, 39, 3]), none, none, some (.iload_n 1, 47, nI 0, [1]), some (.baload, 48, nI 0, []), some (.ifCond .eq 10, 51, nI 0, [58]), none, none, some (.aload_n 0, 52, nI 0, [0]), some (.iload_n 1, 53, nI 0, [1]), some (.invokevirtual 161, 56, nI 0, [0, 103, 10, 2]), none, none, some (.iconst 1, 57, nI 1, []), some (.ireturn, 58, nI 0, []), some (.aload_n 0, 59, nI 0, [0]), some (.iload_n 2, 60, nI 0, [2]), some (.invokevirtual 157, 63, nI 0, [0, 104, 10, 2]), none, none, some (.ifCond .ne 5, 66, nI 0, [68]), none, none, some (.iconst 0, 67, nI 0, []), some (.ireturn, 68, nI 0, []), some (.iconst 0, 69, nI 0, []), some (.istore_n 3, 70, nI 0, [3]), some (.bipush 24, 72, nI 24, []), none, some (.istore 4, 74, nI 0, [4]), none, some (.iload 4, 76, nI 0, [4]), none, some (.aload_n 0, 77, nI 0, [0]), some (.getfield 38, 80, nI 0, [10, 42, 10, 3]), none, none, some (.iload_n 2, 81, nI 0, [2]), some (.iaload, 82, nI 0, []), some (.if_icmp .le 69, 85, nI 0, [151]), none, none, some (.aload_n 0, 86, nI 0, [0]), some (.iload_n 2, 87, nI 0, [2]), some (.iload 4, 89, nI 0, [4]), none, some (.invokevirtual 153, 92, nI 0, [0, 105, 10, 3]), none, none, some (.istore 5, 94, nI 0, [5]), none, some (.aload_n 0, 95, nI 0, [0]), some (.getfield 62, 98, nI 0, [10, 42, 18, 3]), none, none, some (.bipush 25, 100, nI 25, []), none, some (.iload_n 2, 101, nI 0, [2]), some (.imul, 102, nI 0, []), some (.iload 4, 104, nI 0, [4]), none, some (.iadd, 105, nI 0, []), some (.iaload, 106, nI 0, []), some (.istore 6, 108, nI 0, [6]), none, some (.iload 5, 110, nI 0, [5]), none, some (.ifCond .eq 14, 113, nI 0, [124]), none, none, some (.aload_n 0, 114, nI 0, [0]), some (.getfield 25, 117, nI 0, [10, 42, 6, 3]), none, none, some (.iload 4, 119, nI 0, [4]), none, some (.iaload, 120, nI 0, []), some (.iload_n 1, 121, nI 0, [1]), some (.if_icmp .eq 9, 124, nI 0, [130]), none, none, some (.iload 6, 126, nI 0, [6]), none, some (.iload_n 1, 127, nI 0, [1]), some (.if_icmp .ne 5, 130, nI 0, [132]), none, none, some (.iconst 3, 131, nI 3, []), some (.ireturn, 132, nI 0, []), some (.iload 5, 134, nI 0, [5]), none, some (.ifCond .ne 11, 137, nI 0, [145]), none, none, some (.iload 6, 139, nI 0, [6]), none, some (.ifCond .ge 6, 142, nI 0, [145]), none, none, some (.iload 4, 144, nI 0, [4]), none, some (.istore_n 3, 145, nI 0, [3]), some (.iinc 4 (-1), 148, (-1), [4]), none, none, some (.goto (-74), 151, nI 0, [74]), none, none, some (.iload_n 3, 152, nI 0, [3]), some (.ifCond .eq 15, 155, nI 0, [167]), none, none, some (.iload_n 3, 156, nI 0, [3]), some (.aload_n 0, 157, nI 0, [0]), some (.getfield 38, 160, nI 0, [10, 42, 10, 3]), none, none, some (.iload_n 2, 161, nI 0, [2]), some (.iaload, 162, nI 0, []), some (.iconst 3, 163, nI 3, []), some (.iadd, 164, nI 0, []), some (.if_icmp .le 5, 167, nI 0, [169]), none, none, some (.iconst 4, 168, nI 4, []), some (.ireturn, 169, nI 0, []), some (.aload_n 0, 170, nI 0, [0]), some (.iload_n 2, 171, nI 0, [2]), some (.iload_n 3, 172, nI 0, [3]), some (.invokevirtual 143, 175, nI 0, [0, 106, 10, 3]), none, none, some (.istore 4, 177, nI 0, [4]), none, some (.aload_n 0, 178, nI 0, [0]), some (.getfield 53, 181, nI 0, [10, 42, 15, 3]), none, none, some (.iload_n 2, 182, nI 0, [2]), some (.iaload, 183, nI 0, []), some (.iload 4, 185, nI 0, [4]), none, some (.invokestatic 164, 188, nI 0, [2, 107, 10, 2]), none, none, some (.ifCond .ne 5, 191, nI 0, [193]), none, none, some (.iconst 4, 192, nI 4, []), some (.ireturn, 193, nI 0, []), some (.aload_n 0, 194, nI 0, [0]), some (.iload_n 2, 195, nI 0, [2]), some (.iload_n 3, 196, nI 0, [3]), some (.iload_n 1, 197, nI 0, [1]), some (.invokevirtual 167, 200, nI 0, [0, 108, 10, 4]), none, none, some (.iconst 2, 201, nI 2, []), some (.ireturn, 202, nI 0, [])]
/-- MajorityMapModel.replica(I)Z -/
def x_T99 : List (Option xE) := [some (.iload_n 0, 1, nI 0, [0]), some (.ifCond .lt 12, 4, nI 0, [13]), none, none, some (.iload_n 0, 5, nI 0, [0]), some (.iconst 5, 6, nI 5, []), some (.if_icmp .ge 7, 9, nI 0, [13]), none, none, some (.iconst 1, 10, nI 1, []), some (.goto 4, 13, nI 0, [14]), none, none, some (.iconst 0, 14, nI 0, []), some (.ireturn, 15, nI 0, [])]
/-- MajorityMapModel.isUp(I)Z -/
def x_T100 : List (Option xE) := [some (.iload_n 1, 1, nI 0, [1]), some (.invokestatic 210, 4, nI 0, [2, 99, 10, 1]), none, none, some (.ifCond .eq 19, 7, nI 0, [23]), none, none, some (.aload_n 0, 8, nI 0, [0]), some (.getfield 28, 11, nI 0, [10, 42, 7, 0]), none, none, some (.iload_n 1, 12, nI 0, [1]), some (.ishr, 13, nI 0, []), some (.iconst 1, 14, nI 1, []), some (.iand, 15, nI 0, []), some (.iconst 1, 16, nI 1, []), some (.if_icmp .ne 7, 19, nI 0, [23]), none, none, some (.iconst 1, 20, nI 1, []), some (.goto 4, 23, nI 0, [24]), none, none, some (.iconst 0, 24, nI 0, []), some (.ireturn, 25, nI 0, [])]
/-- MajorityMapModel.replay(I)V -/
def x_T101 : List (Option xE) := [some (.iconst 0, 1, nI 0, []), some (.istore_n 2, 2, nI 0, [2]), some (.iload_n 2, 3, nI 0, [2]), some (.iconst 4, 4, nI 4, []), some (.if_icmp .ge 16, 7, nI 0, [20]), none, none, some (.aload_n 0, 8, nI 0, [0]), some (.getfield 101, 11, nI 0, [10, 42, 38, 3]), none, none, some (.iload_n 2, 12, nI 0, [2]), some (.iconst 0, 13, nI 0, []), some (.iastore, 14, nI 0, []), some (.iinc 2 1, 17, nI 1, [2]), none, none, some (.goto (-15), 20, nI 0, [2]), none, none, some (.iconst 0, 21, nI 0, []), some (.istore_n 2, 22, nI 0, [2]), some (.iload_n 2, 23, nI 0, [2]), some (.bipush 41, 25, nI 41, []), none, some (.if_icmp .ge 23, 28, nI 0, [48]), none, none, some (.aload_n 0, 29, nI 0, [0]), some (.getfield 104, 32, nI 0, [10, 42, 39, 3]), none, none, some (.iload_n 2, 33, nI 0, [2]), some (.iconst 0, 34, nI 0, []), some (.bastore, 35, nI 0, []), some (.aload_n 0, 36, nI 0, [0]), some (.getfield 108, 39, nI 0, [10, 42, 40, 3]), none, none, some (.iload_n 2, 40, nI 0, [2]), some (.iconst 0, 41, nI 0, []), some (.iastore, 42, nI 0, []), some (.iinc 2 1, 45, nI 1, [2]), none, none, some (.goto (-23), 48, nI 0, [22]), none, none, some (.aload_n 0, 49, nI 0, [0]), some (.getfield 111, 52, nI 0, [10, 42, 41, 3]), none, none, some (.iconst 0, 53, nI 0, []), some (.bipush 7, 55, nI 7, []), none, some (.iastore, 56, nI 0, []), some (.iconst 1, 57, nI 1, []), some (.istore_n 2, 58, nI 0, [2]), some (.iload_n 2, 59, nI 0, [2]), some (.iload_n 1, 60, nI 0, [1]), some (.if_icmp .gt 62, 63, nI 0, [122]), none, none, some (.aload_n 0, 64, nI 0, [0]), some (.getfield 111, 67, nI 0, [10, 42, 41, 3]), none, none, some (.iload_n 2, 68, nI 0, [2]), some (.aload_n 0, 69, nI 0, [0]), some (.getfield 111, 72, nI 0, [10, 42, 41, 3]), none, none, some (.iload_n 2, 73, nI 0, [2]), some (.iconst 1, 74, nI 1, []), some (.isub, 75, nI 0, []), some (.iaload, 76, nI 0, []), some (.iastore, 77, nI 0, []), some (.aload_n 0, 78, nI 0, [0]), some (.getfield 25, 81, nI 0, [10, 42, 6, 3]), none, none, some (.iload_n 2, 82, nI 0, [2]), some (.iaload, 83, nI 0, []), some (.istore_n 3, 84, nI 0, [3]), some (.iload_n 3, 85, nI 0, [3]), some (.ifCond .le 31, 88, nI 0, [116]), none, none, some (.aload_n 0, 89, nI 0, [0]), some (.getfield 104, 92, nI 0, [10, 42, 39, 3]), none, none, some (.iload_n 3, 93, nI 0, [3]), some (.baload, 94, nI 0, []), some (.ifCond .ne 22, 97, nI 0, [116]), none, none, some (.aload_n 0, 98, nI 0, [0]), some (.getfield 104, 101, nI 0, [10, 42, 39, 3]), none, none, some (.iload_n 3, 102, nI 0, [3]), some (.iconst 1, 103, nI 1, []), some (.bastore, 104, nI 0, []), some (.aload_n 0, 105, nI 0, [0]), some (.getfield 108, 108, nI 0, [10, 42, 40, 3]), none, none, some (.iload_n 3, 109, nI 0, [3]), some (.aload_n 0, 110, nI 0, [0]), some (.iload_n 3, 111, nI 0, [3]), some (.iload_n 2, 112, nI 0, [2]), some (.invokevirtual 114, 115, nI 0, [0, 102, 10, 3]), none, none, some (.iastore, 116, nI 0, []), some (.iinc 2 1, 119, nI 1, [2]), none, none, some (.goto (-61), 122, nI 0, [58]), none, none, some (.return_, 123, nI 0, [])]
/-- MajorityMapModel.act(II)I -/
def x_T102 : List (Option xE) := [some (.aload_n 0, 1, nI 0, [0]), some (.getfield 101, 4, nI 0, [10, 42, 38, 3]), none, none, some (.aload_n 0, 5, nI 0, [0]), some (.getfield 13, 8, nI 0, [10, 42, 2, 3]), none, none, some (.iload_n 1, 9, nI 0, [1]), some (.iaload, 10, nI 0, []), some (.iaload, 11, nI 0, []), some (.istore_n 3, 12, nI 0, [3]), some (.aload_n 0, 13, nI 0, [0]), some (.getfield 16, 16, nI 0, [10, 42, 3, 3]), none, none, some (.iload_n 1, 17, nI 0, [1]), some (.iaload, 18, nI 0, []), some (.istore 4, 20, nI 0, [4]), none, some (.aload_n 0, 21, nI 0, [0]), some (.getfield 7, 24, nI 0, [10, 42, 1, 3]), none, none, some (.iload_n 1, 25, nI 0, [1]), some (.iaload, 26, nI 0, []), some (.ifCond .ne 5, 29, nI 0, [31]), none, none, some (.iload_n 3, 30, nI 0, [3]), some (.ireturn, 31, nI 0, []), some (.aload_n 0, 32, nI 0, [0]), some (.getfield 7, 35, nI 0, [10, 42, 1, 3]), none, none, some (.iload_n 1, 36, nI 0, [1]), some (.iaload, 37, nI 0, []), some (.iconst 4, 38, nI 4, []), some (.if_icmp .ne 20, 41, nI 0, [58]), none, none, some (.aload_n 0, 42, nI 0, [0]), some (.getfield 111, 45, nI 0, [10, 42, 41, 3]), none, none, some (.iload_n 2, 46, nI 0, [2]), some (.iload 4, 48, nI 0, [4]), none, some (.iastore, 49, nI 0, []), some (.aload_n 0, 50, nI 0, [0]), some (.getfield 111, 53, nI 0, [10, 42, 41, 3]), none, none, some (.iload_n 2, 54, nI 0, [2]), some (.iconst 1, 55, nI 1, []), some (.isub, 56, nI 0, []), some (.iaload, 57, nI 0, []), some (.ireturn, 58, nI 0, []), some (.aload_n 0, 59, nI 0, [0]), some (.getfield 7, 62, nI 0, [10, 42, 1, 3]), none, none, some (.iload_n 1, 63, nI 0, [1]), some (.iaload, 64, nI 0, []), some (.iconst 2, 65, nI 2, []), some (.if_icmp .ne 23, 68, nI 0, [88]), none, none, some (.aload_n 0, 69, nI 0, [0]), some (.getfield 101, 72, nI 0, [10, 42, 38, 3]), none, none, some (.aload_n 0, 73, nI 0, [0]), some (.getfield 13, 76, nI 0, [10, 42, 2, 3]), none, none, some (.iload_n 1, 77, nI 0, [1]), some (.iaload, 78, nI 0, []), some (.iload_n 3, 79, nI 0, [3]), some (.iload 4, 81, nI 0, [4]), none, some (.iadd, 82, nI 0, []), some (.iastore, 83, nI 0, []), some (.iload_n 3, 84, nI 0, [3]), some (.iload 4, 86, nI 0, [4]), none, some (.iadd, 87, nI 0, []), some (.ireturn, 88, nI 0, []), some (.aload_n 0, 89, nI 0, [0]), some (.getfield 7, 92, nI 0, [10, 42, 1, 3]), none, none, some (.iload_n 1, 93, nI 0, [1]), some (.iaload, 94, nI 0, []), some (.iconst 1, 95, nI 1, []), some (.if_icmp .eq 7, 98, nI 0, [102]), none, none, some (.iload_n 3, 99, nI 0, [3]), some (.ifCond .ne 16, 102, nI 0, [115]), none, none, some (.aload_n 0, 103, nI 0, [0]), some (.getfield 101, 106, nI 0, [10, 42, 38, 3]), none, none, some (.aload_n 0, 107, nI 0, [0]), some (.getfield 13, 110, nI 0, [10, 42, 2, 3]), none, none, some (.iload_n 1, 111, nI 0, [1]), some (.iaload, 112, nI 0, []), some (.iload 4, 114, nI 0, [4]), none, some (.iastore, 115, nI 0, []), some (.iload_n 3, 116, nI 0, [3]), some (.ireturn, 117, nI 0, [])]
/-- MajorityMapModel.hear(I)V -/
def x_T103 : List (Option xE) := [some (.aload_n 0, 1, nI 0, [0]), some (.getfield 19, 4, nI 0, [10, 42, 4, 3]), none, none, some (.iload_n 1, 5, nI 0, [1]), some (.dup2, 6, nI 0, []), some (.iaload, 7, nI 0, []), some (.iconst 1, 8, nI 1, []), some (.iadd, 9, nI 0, []), some (.iastore, 10, nI 0, []), some (.aload_n 0, 11, nI 0, [0]), some (.getfield 22, 14, nI 0, [10, 42, 5, 3]), none, none, some (.iload_n 1, 15, nI 0, [1]), some (.aload_n 0, 16, nI 0, [0]), some (.getfield 108, 19, nI 0, [10, 42, 40, 3]), none, none, some (.iload_n 1, 20, nI 0, [1]), some (.iaload, 21, nI 0, []), some (.iastore, 22, nI 0, []), some (.return_, 23, nI 0, [])]
/-- MajorityMapModel.campaigns(I)Z -/
def x_T104 : List (Option xE) := [some (.aload_n 0, 1, nI 0, [0]), some (.getfield 50, 4, nI 0, [10, 42, 14, 3]), none, none, some (.iload_n 1, 5, nI 0, [1]), some (.iaload, 6, nI 0, []), some (.ifCond .le 22, 9, nI 0, [28]), none, none, some (.aload_n 0, 10, nI 0, [0]), some (.getfield 50, 13, nI 0, [10, 42, 14, 3]), none, none, some (.iload_n 1, 14, nI 0, [1]), some (.iaload, 15, nI 0, []), some (.aload_n 0, 16, nI 0, [0]), some (.getfield 32, 19, nI 0, [10, 42, 8, 3]), none, none, some (.iload_n 1, 20, nI 0, [1]), some (.iaload, 21, nI 0, []), some (.if_icmp .ne 7, 24, nI 0, [28]), none, none, some (.iconst 1, 25, nI 1, []), some (.goto 4, 28, nI 0, [29]), none, none, some (.iconst 0, 29, nI 0, []), some (.ireturn, 30, nI 0, [])]
/-- MajorityMapModel.knows(II)Z -/
def x_T105 : List (Option xE) := [some (.aload_n 0, 1, nI 0, [0]), some (.getfield 41, 4, nI 0, [10, 42, 11, 3]), none, none, some (.iload_n 1, 5, nI 0, [1]), some (.iaload, 6, nI 0, []), some (.iload_n 2, 7, nI 0, [2]), some (.ishr, 8, nI 0, []), some (.iconst 1, 9, nI 1, []), some (.iand, 10, nI 0, []), some (.iconst 1, 11, nI 1, []), some (.if_icmp .ne 7, 14, nI 0, [18]), none, none, some (.iconst 1, 15, nI 1, []), some (.goto 4, 18, nI 0, [19]), none, none, some (.iconst 0, 19, nI 0, []), some (.ireturn, 20, nI 0, [])]
/-- MajorityMapModel.membersOf(II)I -/
def x_T106 : List (Option xE) := [some (.aload_n 0, 1, nI 0, [0]), some (.aload_n 0, 2, nI 0, [0]), some (.getfield 38, 5, nI 0, [10, 42, 10, 3]), none, none, some (.iload_n 1, 6, nI 0, [1]), some (.iaload, 7, nI 0, []), some (.invokevirtual 118, 10, nI 0, [0, 101, 10, 2]), none, none, some (.iload_n 2, 11, nI 0, [2]), some (.iconst 3, 12, nI 3, []), some (.if_icmp .gt 8, 15, nI 0, [20]), none, none, some (.bipush 7, 17, nI 7, []), none, some (.goto 11, 20, nI 0, [28]), none, none, some (.aload_n 0, 21, nI 0, [0]), some (.getfield 111, 24, nI 0, [10, 42, 41, 3]), none, none, some (.iload_n 2, 25, nI 0, [2]), some (.iconst 3, 26, nI 3, []), some (.isub, 27, nI 0, []), some (.iaload, 28, nI 0, []), some (.ireturn, 29, nI 0, [])]
/-- MajorityMapModel.majority(II)Z -/
def x_T107 : List (Option xE) := [some (.iconst 2, 1, nI 2, []), some (.iload_n 0, 2, nI 0, [0]), some (.iload_n 1, 3, nI 0, [1]), some (.iand, 4, nI 0, []), some (.invokestatic 122, 7, nI 0, [2, 97, 10, 1]), none, none, some (.imul, 8, nI 0, []), some (.iload_n 1, 9, nI 0, [1]), some (.invokestatic 122, 12, nI 0, [2, 97, 10, 1]), none, none, some (.if_icmp .le 7, 15, nI 0, [19]), none, none, some (.iconst 1, 16, nI 1, []), some (.goto 4, 19, nI 0, [20]), none, none, some (.iconst 0, 20, nI 0, []), some (.ireturn, 21, nI 0, [])]
/-- MajorityMapModel.propose(III)V -/
def x_T108 : List (Option xE) := [some (.aload_n 0, 1, nI 0, [0]), some (.iload_n 1, 2, nI 0, [1]), some (.iload_n 2, 3, nI 0, [2]), some (.invokevirtual 143, 6, nI 0, [0, 106, 10, 3]), none, none, some (.istore 4, 8, nI 0, [4]), none, some (.aload_n 0, 9, nI 0, [0]), some (.getfield 62, 12, nI 0, [10, 42, 18, 3]), none, none, some (.bipush 25, 14, nI 25, []), none, some (.iload_n 1, 15, nI 0, [1]), some (.imul, 16, nI 0, []), some (.iload_n 2, 17, nI 0, [2]), some (.iadd, 18, nI 0, []), some (.iload_n 3, 19, nI 0, [3]), some (.iastore, 20, nI 0, []), some (.aload_n 0, 21, nI 0, [0]), some (.getfield 65, 24, nI 0, [10, 42, 19, 3]), none, none, some (.bipush 25, 26, nI 25, []), none, some (.iload_n 1, 27, nI 0, [1]), some (.imul, 28, nI 0, []), some (.iload_n 2, 29, nI 0, [2]), some (.iadd, 30, nI 0, []), some (.iload 4, 32, nI 0, [4]), none, some (.iconst 1, 33, nI 1, []), some (.iload_n 1, 34, nI 0, [1]), some (.ishl, 35, nI 0, []), some (.iand, 36, nI 0, []), some (.iastore, 37, nI 0, []), some (.iload 4, 39, nI 0, [4]), none, some (.iload_n 1, 40, nI 0, [1]), some (.ishr, 41, nI 0, []), some (.iconst 1, 42, nI 1, []), some (.iand, 43, nI 0, []), some (.iconst 1, 44, nI 1, []), some (.if_icmp .ne 16, 47, nI 0, [60]), none, none, some (.aload_n 0, 48, nI 0, [0]), some (.iload_n 1, 49, nI 0, [1]), some (.iload_n 2, 50, nI 0, [2]), some (.aload_n 0, 51, nI 0, [0]), some (.getfield 50, 54, nI 0, [10, 42, 14, 3]), none, none, some (.iload_n 1, 55, nI 0, [1]), some (.iaload, 56, nI 0, []), some (.iload_n 3, 57, nI 0, [3]), some (.invokevirtual 146, 60, nI 0, [0, 109, 10, 5]), none, none, some (.aload_n 0, 61, nI 0, [0]), some (.iconst 3, 62, nI 3, []), some (.iload_n 1, 63, nI 0, [1]), some (.iload 4, 65, nI 0, [4]), none, some (.aload_n 0, 66, nI 0, [0]), some (.getfield 50, 69, nI 0, [10, 42, 14, 3]), none, none, some (.iload_n 1, 70, nI 0, [1]), some (.iaload, 71, nI 0, []), some (.iload_n 2, 72, nI 0, [2]), some (.iload_n 3, 73, nI 0, [3]), some (.invokevirtual 150, 76, nI 0, [0, 110, 10, 7]), none, none, some (.return_, 77, nI 0, [])]
/-- MajorityMapModel.cast(IIII)V -/
def x_T109 : List (Option xE) := [some (.aload_n 0, 1, nI 0, [0]), some (.getfield 44, 4, nI 0, [10, 42, 12, 3]), none, none, some (.bipush 25, 6, nI 25, []), none, some (.iload_n 1, 7, nI 0, [1]), some (.imul, 8, nI 0, []), some (.iload_n 2, 9, nI 0, [2]), some (.iadd, 10, nI 0, []), some (.iload_n 3, 11, nI 0, [3]), some (.iastore, 12, nI 0, []), some (.aload_n 0, 13, nI 0, [0]), some (.getfield 47, 16, nI 0, [10, 42, 13, 3]), none, none, some (.bipush 25, 18, nI 25, []), none, some (.iload_n 1, 19, nI 0, [1]), some (.imul, 20, nI 0, []), some (.iload_n 2, 21, nI 0, [2]), some (.iadd, 22, nI 0, []), some (.iload 4, 24, nI 0, [4]), none, some (.iastore, 25, nI 0, []), some (.return_, 26, nI 0, [])]
/-- MajorityMapModel.mailAll(IIIIII)V -/
def x_T110 : List (Option xE) := [some (.iconst 0, 1, nI 0, []), some (.istore 7, 3, nI 0, [7]), none, some (.iload 7, 5, nI 0, [7]), none, some (.iconst 5, 6, nI 5, []), some (.if_icmp .ge 39, 9, nI 0, [45]), none, none, some (.iload 7, 11, nI 0, [7]), none, some (.iload_n 2, 12, nI 0, [2]), some (.if_icmp .eq 27, 15, nI 0, [39]), none, none, some (.iload_n 3, 16, nI 0, [3]), some (.iload 7, 18, nI 0, [7]), none, some (.ishr, 19, nI 0, []), some (.iconst 1, 20, nI 1, []), some (.iand, 21, nI 0, []), some (.iconst 1, 22, nI 1, []), some (.if_icmp .ne 17, 25, nI 0, [39]), none, none, some (.aload_n 0, 26, nI 0, [0]), some (.iload_n 1, 27, nI 0, [1]), some (.iload_n 2, 28, nI 0, [2]), some (.iload 7, 30, nI 0, [7]), none, some (.iload 4, 32, nI 0, [4]), none, some (.iload 5, 34, nI 0, [5]), none, some (.iload 6, 36, nI 0, [6]), none, some (.invokevirtual 132, 39, nI 0, [0, 111, 10, 7]), none, none, some (.iinc 7 1, 42, nI 1, [7]), none, none, some (.goto (-39), 45, nI 0, [3]), none, none, some (.return_, 46, nI 0, [])]
/-- MajorityMapModel.mail(IIIIII)V -/
def x_T111 : List (Option xE) := [some (.aload_n 0, 1, nI 0, [0]), some (.getfield 126, 4, nI 0, [10, 42, 20, 0]), none, none, some (.bipush 32, 6, nI 32, []), none, some (.if_icmp .ne 4, 9, nI 0, [10]), none, none, some (.return_, 10, nI 0, []), some (.aload_n 0, 11, nI 0, [0]), some (.getfield 126, 14, nI 0, [10, 42, 20, 0]), none, none, some (.istore 7, 16, nI 0, [7]), none, some (.aload_n 0, 17, nI 0, [0]), some (.dup, 18, nI 0, []), some (.getfield 126, 21, nI 0, [10, 42, 20, 0]), none, none, some (.iconst 1, 22, nI 1, []), some (.iadd, 23, nI 0, []), some (.putfield 126, 26, nI 0, [10, 42, 20, 0]), none, none, some (.aload_n 0, 27, nI 0, [0]), some (.dup, 28, nI 0, []), some (.getfield 129, 31, nI 0, [10, 42, 21, 0]), none, none, some (.iconst 1, 32, nI 1, []), some (.iadd, 33, nI 0, []), some (.putfield 129, 36, nI 0, [10, 42, 21, 0]), none, none, some (.aload_n 0, 37, nI 0, [0]), some (.getfield 68, 40, nI 0, [10, 42, 22, 3]), none, none, some (.iload 7, 42, nI 0, [7]), none, some (.iload_n 1, 43, nI 0, [1]), some (.iastore, 44, nI 0, []), some (.aload_n 0, 45, nI 0, [0]), some (.getfield 71, 48, nI 0, [10, 42, 23, 3]), none, none, some (.iload 7, 50, nI 0, [7]), none, some (.iload_n 2, 51, nI 0, [2]), some (.iastore, 52, nI 0, []), some (.aload_n 0, 53, nI 0, [0]), some (.getfield 74, 56, nI 0, [10, 42, 24, 3]), none, none, some (.iload 7, 58, nI 0, [7]), none, some (.iload_n 3, 59, nI 0, [3]), some (.iastore, 60, nI 0, []), some (.aload_n 0, 61, nI 0, [0]), some (.getfield 77, 64, nI 0, [10, 42, 25, 3]), none, none, some (.iload 7, 66, nI 0, [7]), none, some (.iload 4, 68, nI 0, [4]), none, some (.iastore, 69, nI 0, []), some (.aload_n 0, 70, nI 0, [0]), some (.getfield 80, 73, nI 0, [10, 42, 26, 3]), none, none, some (.iload 7, 75, nI 0, [7]), none, some (.iload 5, 77, nI 0, [5]), none, some (.iastore, 78, nI 0, []), some (.aload_n 0, 79, nI 0, [0]), some (.getfield 83, 82, nI 0, [10, 42, 27, 3]), none, none, some (.iload 7, 84, nI 0, [7]), none, some (.iload 6, 86, nI 0, [6]), none, some (.iastore, 87, nI 0, []), some (.aload_n 0, 88, nI 0, [0]), some (.getfield 86, 91, nI 0, [10, 42, 28, 3]), none, none, some (.iload 7, 93, nI 0, [7]), none, some (.iload_n 1, 94, nI 0, [1]), some (.iconst 2, 95, nI 2, []), some (.if_icmp .ne 12, 98, nI 0, [107]), none, none, some (.aload_n 0, 99, nI 0, [0]), some (.getfield 35, 102, nI 0, [10, 42, 9, 3]), none, none, some (.iload_n 2, 103, nI 0, [2]), some (.iaload, 104, nI 0, []), some (.goto 5, 107, nI 0, [109]), none, none, some (.iload 5, 109, nI 0, [5]), none, some (.iastore, 110, nI 0, []), some (.iconst 0, 111, nI 0, []), some (.istore 8, 113, nI 0, [8]), none, some (.iload 8, 115, nI 0, [8]), none, some (.bipush 25, 117, nI 25, []), none, some (.if_icmp .ge 77, 120, nI 0, [194]), none, none, some (.aload_n 0, 121, nI 0, [0]), some (.getfield 89, 124, nI 0, [10, 42, 29, 3]), none, none, some (.bipush 25, 126, nI 25, []), none, some (.iload 7, 128, nI 0, [7]), none, some (.imul, 129, nI 0, []), some (.iload 8, 131, nI 0, [8]), none, some (.iadd, 132, nI 0, []), some (.iload_n 1, 133, nI 0, [1]), some (.iconst 2, 134, nI 2, []), some (.if_icmp .ne 18, 137, nI 0, [152]), none, none, some (.aload_n 0, 138, nI 0, [0]), some (.getfield 44, 141, nI 0, [10, 42, 12, 3]), none, none, some (.bipush 25, 143, nI 25, []), none, some (.iload_n 2, 144, nI 0, [2]), some (.imul, 145, nI 0, []), some (.iload 8, 147, nI 0, [8]), none, some (.iadd, 148, nI 0, []), some (.iaload, 149, nI 0, []), some (.goto 4, 152, nI 0, [153]), none, none, some (.iconst 0, 153, nI 0, []), some (.iastore, 154, nI 0, []), some (.aload_n 0, 155, nI 0, [0]), some (.getfield 92, 158, nI 0, [10, 42, 30, 3]), none, none, some (.bipush 25, 160, nI 25, []), none, some (.iload 7, 162, nI 0, [7]), none, some (.imul, 163, nI 0, []), some (.iload 8, 165, nI 0, [8]), none, some (.iadd, 166, nI 0, []), some (.iload_n 1, 167, nI 0, [1]), some (.iconst 2, 168, nI 2, []), some (.if_icmp .ne 18, 171, nI 0, [186]), none, none, some (.aload_n 0, 172, nI 0, [0]), some (.getfield 47, 175, nI 0, [10, 42, 13, 3]), none, none, some (.bipush 25, 177, nI 25, []), none, some (.iload_n 2, 178, nI 0, [2]), some (.imul, 179, nI 0, []), some (.iload 8, 181, nI 0, [8]), none, some (.iadd, 182, nI 0, []), some (.iaload, 183, nI 0, []), some (.goto 4, 186, nI 0, [187]), none, none, some (.iconst 0, 187, nI 0, []), some (.iastore, 188, nI 0, []), some (.iinc 8 1, 191, nI 1, [8]), none, none, some (.goto (-78), 194, nI 0, [113]), none, none, some (.return_, 195, nI 0, [])]
/-- MajorityMapModel.timer(I)I -/
def x_T112 : List (Option xE) := [some (.aload_n 0, 1, nI 0, [0]), some (.iload_n 1, 2, nI 0, [1]), some (.invokevirtual 216, 5, nI 0, [0, 100, 10, 2]), none, none, some (.ifCond .ne 5, 8, nI 0, [10]), none, none, some (.iconst (-1), 9, (-1), []), some (.ireturn, 10, nI 0, []), some (.aload_n 0, 11, nI 0, [0]), some (.iconst 0, 12, nI 0, []), some (.putfield 129, 15, nI 0, [10, 42, 21, 0]), none, none, some (.aload_n 0, 16, nI 0, [0]), some (.getfield 38, 19, nI 0, [10, 42, 10, 3]), none, none, some (.iload_n 1, 20, nI 0, [1]), some (.iaload, 21, nI 0, []), some (.istore_n 2, 22, nI 0, [2]), some (.aload_n 0, 23, nI 0, [0]), some (.iload_n 1, 24, nI 0, [1]), some (.iload_n 2, 25, nI 0, [2]), some (.iconst 1, 26, nI 1, []), some (.iadd, 27, nI 0, []), some (.invokevirtual 143, 30, nI 0, [0, 106, 10, 3]), none, none, some (.aload_n 0, 31, nI 0, [0]), some (.iload_n 1, 32, nI 0, [1]), some (.iload_n 2, 33, nI 0, [2]), some (.iconst 2, 34, nI 2, []), some (.iadd, 35, nI 0, []), some (.invokevirtual 143, 38, nI 0, [0, 106, 10, 3]), none, none, some (.ior, 39, nI 0, []), some (.aload_n 0, 40, nI 0, [0]), some (.iload_n 1, 41, nI 0, [1]), some (.iload_n 2, 42, nI 0, [2]), some (.iconst 3, 43, nI 3, []), some (.iadd, 44, nI 0, []), some (.invokevirtual 143, 47, nI 0, [0, 106, 10, 3]), none, none, some (.ior, 48, nI 0, []), some (.istore_n 3, 49, nI 0, [3]), some (.aload_n 0, 50, nI 0, [0]), some (.iload_n 1, 51, nI 0, [1]), some (.invokevirtual 157, 54, nI 0, [0, 104, 10, 2]), none, none, some (.ifCond .ne 28, 57, nI 0, [82]), none, none, some (.aload_n 0, 58, nI 0, [0]), some (.iload_n 1, 59, nI 0, [1]), some (.invokevirtual 219, 62, nI 0, [0, 113, 10, 2]), none, none, some (.aload_n 0, 63, nI 0, [0]), some (.iconst 1, 64, nI 1, []), some (.iload_n 1, 65, nI 0, [1]), some (.iload_n 3, 66, nI 0, [3]), some (.iconst 0, 67, nI 0, []), some (.aload_n 0, 68, nI 0, [0]), some (.getfield 50, 71, nI 0, [10, 42, 14, 3]), none, none, some (.iload_n 1, 72, nI 0, [1]), some (.iaload, 73, nI 0, []), some (.iconst 0, 74, nI 0, []), some (.invokevirtual 150, 77, nI 0, [0, 110, 10, 7]), none, none, some (.aload_n 0, 78, nI 0, [0]), some (.getfield 129, 81, nI 0, [10, 42, 21, 0]), none, none, some (.ireturn, 82, nI 0, []), some (.aload_n 0, 83, nI 0, [0]), some (.iconst 1, 84, nI 1, []), some (.iload_n 1, 85, nI 0, [1]), some (.iload_n 3, 86, nI 0, [3]), some (.aload_n 0, 87, nI 0, [0]), some (.getfield 53, 90, nI 0, [10, 42, 15, 3]), none, none, some (.iload_n 1, 91, nI 0, [1]), some (.iaload, 92, nI 0, []), some (.iconst (-1), 93, (-1), []), some (.ixor, 94, nI 0, []), some (.iand, 95, nI 0, []), some (.iconst 0, 96, nI 0, []), some (.aload_n 0, 97, nI 0, [0]), some (.getfield 50, 100, nI 0, [10, 42, 14, 3]), none, none, some (.iload_n 1, 101, nI 0, [1]), some (.iaload, 102, nI 0, []), some (.iconst 0, 103, nI 0, []), some (.invokevirtual 150, 106, nI 0, [0, 110, 10, 7]), none, none, some (.iload_n 2, 107, nI 0, [2]), some (.iconst 1, 108, nI 1, []), some (.iadd, 109, nI 0, []), some (.istore 4, 111, nI 0, [4]), none, some (.iload 4, 113, nI 0, [4]), none, some (.iload_n 2, 114, nI 0, [2]), some (.iconst 3, 115, nI 3, []), some (.iadd, 116, nI 0, []), some (.if_icmp .gt 90, 119, nI 0, [206]), none, none, some (.iload 4, 121, nI 0, [4]), none, some (.bipush 24, 123, nI 24, []), none, some (.if_icmp .gt 83, 126, nI 0, [206]), none, none, some (.bipush 25, 128, nI 25, []), none, some (.iload_n 1, 129, nI 0, [1]), some (.imul, 130, nI 0, []), some (.iload 4, 132, nI 0, [4]), none, some (.iadd, 133, nI 0, []), some (.istore 5, 135, nI 0, [5]), none, some (.aload_n 0, 136, nI 0, [0]), some (.getfield 62, 139, nI 0, [10, 42, 18, 3]), none, none, some (.iload 5, 141, nI 0, [5]), none, some (.iaload, 142, nI 0, []), some (.ifCond .lt 58, 145, nI 0, [200]), none, none, some (.aload_n 0, 146, nI 0, [0]), some (.iload_n 1, 147, nI 0, [1]), some (.iload 4, 149, nI 0, [4]), none, some (.invokevirtual 153, 152, nI 0, [0, 105, 10, 3]), none, none, some (.ifCond .eq 6, 155, nI 0, [158]), none, none, some (.goto 45, 158, nI 0, [200]), none, none, some (.aload_n 0, 159, nI 0, [0]), some (.iload_n 1, 160, nI 0, [1]), some (.iload 4, 162, nI 0, [4]), none, some (.invokevirtual 143, 165, nI 0, [0, 106, 10, 3]), none, none, some (.istore 6, 167, nI 0, [6]), none, some (.aload_n 0, 168, nI 0, [0]), some (.iconst 3, 169, nI 3, []), some (.iload_n 1, 170, nI 0, [1]), some (.iload 6, 172, nI 0, [6]), none, some (.aload_n 0, 173, nI 0, [0]), some (.getfield 65, 176, nI 0, [10, 42, 19, 3]), none, none, some (.iload 5, 178, nI 0, [5]), none, some (.iaload, 179, nI 0, []), some (.iconst (-1), 180, (-1), []), some (.ixor, 181, nI 0, []), some (.iand, 182, nI 0, []), some (.aload_n 0, 183, nI 0, [0]), some (.getfield 50, 186, nI 0, [10, 42, 14, 3]), none, none, some (.iload_n 1, 187, nI 0, [1]), some (.iaload, 188, nI 0, []), some (.iload 4, 190, nI 0, [4]), none, some (.aload_n 0, 191, nI 0, [0]), some (.getfield 62, 194, nI 0, [10, 42, 18, 3]), none, none, some (.iload 5, 196, nI 0, [5]), none, some (.iaload, 197, nI 0, []), some (.invokevirtual 150, 200, nI 0, [0, 110, 10, 7]), none, none, some (.iinc 4 1, 203, nI 1, [4]), none, none, some (.goto (-92), 206, nI 0, [111]), none, none, some (.aload_n 0, 207, nI 0, [0]), some (.getfield 129, 210, nI 0, [10, 42, 21, 0]), none, none, some (.ireturn, 211, nI 0, [])]
/-- MajorityMapModel.begin(I)V -/
def x_T113 : List (Option xE) := [some (.iconst 5, 1, nI 5, []), some (.iload_n 1, 2, nI 0, [1]), some (.iadd, 3, nI 0, []), some (.istore_n 2, 4, nI 0, [2]), some (.iconst 0, 5, nI 0, []), some (.istore_n 3, 6, nI 0, [3]), some (.iload_n 3, 7, nI 0, [3]), some (.ldc 222, 9, nI 100000, []), none, some (.if_icmp .ge 22, 12, nI 0, [31]), none, none, some (.iload_n 2, 13, nI 0, [2]), some (.aload_n 0, 14, nI 0, [0]), some (.getfield 32, 17, nI 0, [10, 42, 8, 3]), none, none, some (.iload_n 1, 18, nI 0, [1]), some (.iaload, 19, nI 0, []), some (.if_icmp .gt 12, 22, nI 0, [31]), none, none, some (.iinc 2 5, 25, nI 5, [2]), none, none, some (.iinc 3 1, 28, nI 1, [3]), none, none, some (.goto (-22), 31, nI 0, [6]), none, none, some (.aload_n 0, 32, nI 0, [0]), some (.getfield 50, 35, nI 0, [10, 42, 14, 3]), none, none, some (.iload_n 1, 36, nI 0, [1]), some (.iload_n 2, 37, nI 0, [2]), some (.iastore, 38, nI 0, []), some (.aload_n 0, 39, nI 0, [0]), some (.getfield 32, 42, nI 0, [10, 42, 8, 3]), none, none, some (.iload_n 1, 43, nI 0, [1]), some (.iload_n 2, 44, nI 0, [2]), some (.iastore, 45, nI 0, []), some (.aload_n 0, 46, nI 0, [0]), some (.getfield 53, 49, nI 0, [10, 42, 15, 3]), none, none, some (.iload_n 1, 50, nI 0, [1]), some (.iconst 1, 51, nI 1, []), some (.iload_n 1, 52, nI 0, [1]), some (.ishl, 53, nI 0, []), some (.iastore, 54, nI 0, []), some (.bipush 25, 56, nI 25, []), none, some (.iload_n 1, 57, nI 0, [1]), some (.imul, 58, nI 0, []), some (.istore_n 3, 59, nI 0, [3]), some (.iload_n 3, 60, nI 0, [3]), some (.bipush 25, 62, nI 25, []), none, some (.iload_n 1, 63, nI 0, [1]), some (.imul, 64, nI 0, []), some (.bipush 25, 66, nI 25, []), none, some (.iadd, 67, nI 0, []), some (.if_icmp .ge 47, 70, nI 0, [114]), none, none, some (.aload_n 0, 71, nI 0, [0]), some (.getfield 56, 74, nI 0, [10, 42, 16, 3]), none, none, some (.iload_n 3, 75, nI 0, [3]), some (.aload_n 0, 76, nI 0, [0]), some (.getfield 44, 79, nI 0, [10, 42, 12, 3]), none, none, some (.iload_n 3, 80, nI 0, [3]), some (.iaload, 81, nI 0, []), some (.iastore, 82, nI 0, []), some (.aload_n 0, 83, nI 0, [0]), some (.getfield 59, 86, nI 0, [10, 42, 17, 3]), none, none, some (.iload_n 3, 87, nI 0, [3]), some (.aload_n 0, 88, nI 0, [0]), some (.getfield 47, 91, nI 0, [10, 42, 13, 3]), none, none, some (.iload_n 3, 92, nI 0, [3]), some (.iaload, 93, nI 0, []), some (.iastore, 94, nI 0, []), some (.aload_n 0, 95, nI 0, [0]), some (.getfield 62, 98, nI 0, [10, 42, 18, 3]), none, none, some (.iload_n 3, 99, nI 0, [3]), some (.iconst (-1), 100, (-1), []), some (.iastore, 101, nI 0, []), some (.aload_n 0, 102, nI 0, [0]), some (.getfield 65, 105, nI 0, [10, 42, 19, 3]), none, none, some (.iload_n 3, 106, nI 0, [3]), some (.iconst 0, 107, nI 0, []), some (.iastore, 108, nI 0, []), some (.iinc 3 1, 111, nI 1, [3]), none, none, some (.goto (-52), 114, nI 0, [59]), none, none, some (.return_, 115, nI 0, [])]
/-- MajorityMapModel.deliver(I)I -/
def x_T114 : List (Option xE) := [some (.iload_n 1, 1, nI 0, [1]), some (.ifCond .lt 11, 4, nI 0, [12]), none, none, some (.iload_n 1, 5, nI 0, [1]), some (.aload_n 0, 6, nI 0, [0]), some (.getfield 126, 9, nI 0, [10, 42, 20, 0]), none, none, some (.if_icmp .lt 5, 12, nI 0, [14]), none, none, some (.iconst (-1), 13, (-1), []), some (.ireturn, 14, nI 0, []), some (.aload_n 0, 15, nI 0, [0]), some (.getfield 74, 18, nI 0, [10, 42, 24, 3]), none, none, some (.iload_n 1, 19, nI 0, [1]), some (.iaload, 20, nI 0, []), some (.istore_n 2, 21, nI 0, [2]), some (.aload_n 0, 22, nI 0, [0]), some (.getfield 68, 25, nI 0, [10, 42, 22, 3]), none, none, some (.iload_n 1, 26, nI 0, [1]), some (.iaload, 27, nI 0, []), some (.istore_n 3, 28, nI 0, [3]), some (.aload_n 0, 29, nI 0, [0]), some (.aload_n 0, 30, nI 0, [0]), some (.getfield 71, 33, nI 0, [10, 42, 23, 3]), none, none, some (.iload_n 1, 34, nI 0, [1]), some (.iaload, 35, nI 0, []), some (.putfield 177, 38, nI 0, [10, 42, 31, 0]), none, none, some (.aload_n 0, 39, nI 0, [0]), some (.aload_n 0, 40, nI 0, [0]), some (.getfield 77, 43, nI 0, [10, 42, 25, 3]), none, none, some (.iload_n 1, 44, nI 0, [1]), some (.iaload, 45, nI 0, []), some (.putfield 189, 48, nI 0, [10, 42, 32, 0]), none, none, some (.aload_n 0, 49, nI 0, [0]), some (.aload_n 0, 50, nI 0, [0]), some (.getfield 80, 53, nI 0, [10, 42, 26, 3]), none, none, some (.iload_n 1, 54, nI 0, [1]), some (.iaload, 55, nI 0, []), some (.putfield 174, 58, nI 0, [10, 42, 33, 0]), none, none, some (.aload_n 0, 59, nI 0, [0]), some (.aload_n 0, 60, nI 0, [0]), some (.getfield 83, 63, nI 0, [10, 42, 27, 3]), none, none, some (.iload_n 1, 64, nI 0, [1]), some (.iaload, 65, nI 0, []), some (.putfield 192, 68, nI 0, [10, 42, 34, 0]), none, none, some (.aload_n 0, 69, nI 0, [0]), some (.aload_n 0, 70, nI 0, [0]), some (.getfield 86, 73, nI 0, [10, 42, 28, 3]), none, none, some (.iload_n 1, 74, nI 0, [1]), some (.iaload, 75, nI 0, []), some (.putfield 180, 78, nI 0, [10, 42, 35, 0]), none, none, some (.iconst 0, 79, nI 0, []), some (.istore 4, 81, nI 0, [4]), none, some (.iload 4, 83, nI 0, [4]), none, some (.bipush 25, 85, nI 25, []), none, some (.if_icmp .ge 47, 88, nI 0, [132]), none, none, some (.aload_n 0, 89, nI 0, [0]), some (.getfield 95, 92, nI 0, [10, 42, 36, 3]), none, none, some (.iload 4, 94, nI 0, [4]), none, some (.aload_n 0, 95, nI 0, [0]), some (.getfield 89, 98, nI 0, [10, 42, 29, 3]), none, none, some (.bipush 25, 100, nI 25, []), none, some (.iload_n 1, 101, nI 0, [1]), some (.imul, 102, nI 0, []), some (.iload 4, 104, nI 0, [4]), none, some (.iadd, 105, nI 0, []), some (.iaload, 106, nI 0, []), some (.iastore, 107, nI 0, []), some (.aload_n 0, 108, nI 0, [0]), some (.getfield 98, 111, nI 0, [10, 42, 37, 3]), none, none, some (.iload 4, 113, nI 0, [4]), none, some (.aload_n 0, 114, nI 0, [0]), some (.getfield 92, 117, nI 0, [10, 42, 30, 3]), none, none, some (.bipush 25, 119, nI 25, []), none, some (.iload_n 1, 120, nI 0, [1]), some (.imul, 121, nI 0, []), some (.iload 4, 123, nI 0, [4]), none, some (.iadd, 124, nI 0, []), some (.iaload, 125, nI 0, []), some (.iastore, 126, nI 0, []), some (.iinc 4 1, 129, nI 1, [4]), none, none, some (.goto (-48), 132, nI 0, [81]), none, none, some (.aload_n 0, 133, nI 0, [0]), some (.iload_n 1, 134, nI 0, [1]), some (.invokevirtual 223, 137, nI 0, [0, 115, 10, 2]), none, none, some (.aload_n 0, 138, nI 0, [0]), some (.iload_n 2, 139, nI 0, [2]), some (.invokevirtual 216, 142, nI 0, [0, 100, 10, 2]), none, none, some (.ifCond .ne 6, 145, nI 0, [148]), none, none, some (.bipush (-2), 147, (-2), []), none, some (.ireturn, 148, nI 0, []), some (.aload_n 0, 149, nI 0, [0]), some (.iconst 0, 150, nI 0, []), some (.putfield 129, 153, nI 0, [10, 42, 21, 0]), none, none, some (.aload_n 0, 154, nI 0, [0]), some (.iload_n 3, 155, nI 0, [3]), some (.iload_n 2, 156, nI 0, [2]), some (.invokevirtual 226, 159, nI 0, [0, 117, 10, 3]), none, none, some (.aload_n 0, 160, nI 0, [0]), some (.getfield 129, 163, nI 0, [10, 42, 21, 0]), none, none, some (.ireturn, 164, nI 0, [])]
/-- MajorityMapModel.remove(I)V -/
def x_T115 : List (Option xE) := [some (.iload_n 1, 1, nI 0, [1]), some (.iconst 1, 2, nI 1, []), some (.iadd, 3, nI 0, []), some (.istore_n 2, 4, nI 0, [2]), some (.iload_n 2, 5, nI 0, [2]), some (.aload_n 0, 6, nI 0, [0]), some (.getfield 126, 9, nI 0, [10, 42, 20, 0]), none, none, some (.if_icmp .ge 17, 12, nI 0, [26]), none, none, some (.aload_n 0, 13, nI 0, [0]), some (.iload_n 2, 14, nI 0, [2]), some (.iload_n 2, 15, nI 0, [2]), some (.iconst 1, 16, nI 1, []), some (.isub, 17, nI 0, []), some (.invokevirtual 136, 20, nI 0, [0, 116, 10, 3]), none, none, some (.iinc 2 1, 23, nI 1, [2]), none, none, some (.goto (-19), 26, nI 0, [4]), none, none, some (.aload_n 0, 27, nI 0, [0]), some (.dup, 28, nI 0, []), some (.getfield 126, 31, nI 0, [10, 42, 20, 0]), none, none, some (.iconst 1, 32, nI 1, []), some (.isub, 33, nI 0, []), some (.putfield 126, 36, nI 0, [10, 42, 20, 0]), none, none, some (.return_, 37, nI 0, [])]
/-- MajorityMapModel.move(II)V -/
def x_T116 : List (Option xE) := [some (.aload_n 0, 1, nI 0, [0]), some (.getfield 68, 4, nI 0, [10, 42, 22, 3]), none, none, some (.iload_n 2, 5, nI 0, [2]), some (.aload_n 0, 6, nI 0, [0]), some (.getfield 68, 9, nI 0, [10, 42, 22, 3]), none, none, some (.iload_n 1, 10, nI 0, [1]), some (.iaload, 11, nI 0, []), some (.iastore, 12, nI 0, []), some (.aload_n 0, 13, nI 0, [0]), some (.getfield 71, 16, nI 0, [10, 42, 23, 3]), none, none, some (.iload_n 2, 17, nI 0, [2]), some (.aload_n 0, 18, nI 0, [0]), some (.getfield 71, 21, nI 0, [10, 42, 23, 3]), none, none, some (.iload_n 1, 22, nI 0, [1]), some (.iaload, 23, nI 0, []), some (.iastore, 24, nI 0, []), some (.aload_n 0, 25, nI 0, [0]), some (.getfield 74, 28, nI 0, [10, 42, 24, 3]), none, none, some (.iload_n 2, 29, nI 0, [2]), some (.aload_n 0, 30, nI 0, [0]), some (.getfield 74, 33, nI 0, [10, 42, 24, 3]), none, none, some (.iload_n 1, 34, nI 0, [1]), some (.iaload, 35, nI 0, []), some (.iastore, 36, nI 0, []), some (.aload_n 0, 37, nI 0, [0]), some (.getfield 77, 40, nI 0, [10, 42, 25, 3]), none, none, some (.iload_n 2, 41, nI 0, [2]), some (.aload_n 0, 42, nI 0, [0]), some (.getfield 77, 45, nI 0, [10, 42, 25, 3]), none, none, some (.iload_n 1, 46, nI 0, [1]), some (.iaload, 47, nI 0, []), some (.iastore, 48, nI 0, []), some (.aload_n 0, 49, nI 0, [0]), some (.getfield 80, 52, nI 0, [10, 42, 26, 3]), none, none, some (.iload_n 2, 53, nI 0, [2]), some (.aload_n 0, 54, nI 0, [0]), some (.getfield 80, 57, nI 0, [10, 42, 26, 3]), none, none, some (.iload_n 1, 58, nI 0, [1]), some (.iaload, 59, nI 0, []), some (.iastore, 60, nI 0, []), some (.aload_n 0, 61, nI 0, [0]), some (.getfield 83, 64, nI 0, [10, 42, 27, 3]), none, none, some (.iload_n 2, 65, nI 0, [2]), some (.aload_n 0, 66, nI 0, [0]), some (.getfield 83, 69, nI 0, [10, 42, 27, 3]), none, none, some (.iload_n 1, 70, nI 0, [1]), some (.iaload, 71, nI 0, []), some (.iastore, 72, nI 0, []), some (.aload_n 0, 73, nI 0, [0]), some (.getfield 86, 76, nI 0, [10, 42, 28, 3]), none, none, some (.iload_n 2, 77, nI 0, [2]), some (.aload_n 0, 78, nI 0, [0]), some (.getfield 86, 81, nI 0, [10, 42, 28, 3]), none, none, some (.iload_n 1, 82, nI 0, [1]), some (.iaload, 83, nI 0, []), some (.iastore, 84, nI 0, []), some (.iconst 0, 85, nI 0, []), some (.istore_n 3, 86, nI 0, [3]), some (.iload_n 3, 87, nI 0, [3]), some (.bipush 25, 89, nI 25, []), none, some (.if_icmp .ge 53, 92, nI 0, [142]), none, none, some (.aload_n 0, 93, nI 0, [0]), some (.getfield 89, 96, nI 0, [10, 42, 29, 3]), none, none, some (.bipush 25, 98, nI 25, []), none, some (.iload_n 2, 99, nI 0, [2]), some (.imul, 100, nI 0, []), some (.iload_n 3, 101, nI 0, [3]), some (.iadd, 102, nI 0, []), some (.aload_n 0, 103, nI 0, [0]), some (.getfield 89, 106, nI 0, [10, 42, 29, 3]), none, none, some (.bipush 25, 108, nI 25, []), none, some (.iload_n 1, 109, nI 0, [1]), some (.imul, 110, nI 0, []), some (.iload_n 3, 111, nI 0, [3]), some (.iadd, 112, nI 0, []), some (.iaload, 113, nI 0, []), some (.iastore, 114, nI 0, []), some (.aload_n 0, 115, nI 0, [0]), some (.getfield 92, 118, nI 0, [10, 42, 30, 3]), none, none, some (.bipush 25, 120, nI 25, []), none, some (.iload_n 2, 121, nI 0, [2]), some (.imul, 122, nI 0, []), some (.iload_n 3, 123, nI 0, [3]), some (.iadd, 124, nI 0, []), some (.aload_n 0, 125, nI 0, [0]), some (.getfield 92, 128, nI 0, [10, 42, 30, 3]), none, none, some (.bipush 25, 130, nI 25, []), none, some (.iload_n 1, 131, nI 0, [1]), some (.imul, 132, nI 0, []), some (.iload_n 3, 133, nI 0, [3]), some (.iadd, 134, nI 0, []), some (.iaload, 135, nI 0, []), some (.iastore, 136, nI 0, []), some (.iinc 3 1, 139, nI 1, [3]), none, none, some (.goto (-53), 142, nI 0, [86]), none, none, some (.return_, 143, nI 0, [])]
/-- MajorityMapModel.receive(II)V -/
def x_T117 : List (Option xE) := [some (.iload_n 1, 1, nI 0, [1]), some (.tableswitch 153 1 7 #[43, 51, 59, 67, 75, 83, 118], 44, nI 0, [1, 154, 44, 52, 60, 68, 76, 84, 119]), none, none, none, none, none, none, none, none, none, none, none, none, none, none, none, none, none, none, none, none, none, none, none, none, none, none, none, none, none, none, none, none, none, none, none, none, none, none, none, none, none, none, some (.aload_n 0, 45, nI 0, [0]), some (.iload_n 2, 46, nI 0, [2]), some (.invokevirtual 195, 49, nI 0, [0, 118, 10, 2]), none, none, some (.goto 119, 52, nI 0, [168]), none, none, some (.aload_n 0, 53, nI 0, [0]), some (.iload_n 2, 54, nI 0, [2]), some (.invokevirtual 198, 57, nI 0, [0, 119, 10, 2]), none, none, some (.goto 111, 60, nI 0, [168]), none, none, some (.aload_n 0, 61, nI 0, [0]), some (.iload_n 2, 62, nI 0, [2]), some (.invokevirtual 201, 65, nI 0, [0, 124, 10, 2]), none, none, some (.goto 103, 68, nI 0, [168]), none, none, some (.aload_n 0, 69, nI 0, [0]), some (.iload_n 2, 70, nI 0, [2]), some (.invokevirtual 204, 73, nI 0, [0, 125, 10, 2]), none, none, some (.goto 95, 76, nI 0, [168]), none, none, some (.aload_n 0, 77, nI 0, [0]), some (.iload_n 2, 78, nI 0, [2]), some (.invokevirtual 207, 81, nI 0, [0, 126, 10, 2]), none, none, some (.goto 87, 84, nI 0, [168]), none, none, some (.aload_n 0, 85, nI 0, [0]), some (.getfield 32, 88, nI 0, [10, 42, 8, 3]), none, none, some (.iload_n 2, 89, nI 0, [2]), some (.aload_n 0, 90, nI 0, [0]), some (.getfield 174, 93, nI 0, [10, 42, 33, 0]), none, none, some (.aload_n 0, 94, nI 0, [0]), some (.getfield 32, 97, nI 0, [10, 42, 8, 3]), none, none, some (.iload_n 2, 98, nI 0, [2]), some (.iaload, 99, nI 0, []), some (.if_icmp .le 10, 102, nI 0, [109]), none, none, some (.aload_n 0, 103, nI 0, [0]), some (.getfield 174, 106, nI 0, [10, 42, 33, 0]), none, none, some (.goto 9, 109, nI 0, [115]), none, none, some (.aload_n 0, 110, nI 0, [0]), some (.getfield 32, 113, nI 0, [10, 42, 8, 3]), none, none, some (.iload_n 2, 114, nI 0, [2]), some (.iaload, 115, nI 0, []), some (.iastore, 116, nI 0, []), some (.goto 52, 119, nI 0, [168]), none, none, some (.aload_n 0, 120, nI 0, [0]), some (.getfield 38, 123, nI 0, [10, 42, 10, 3]), none, none, some (.iload_n 2, 124, nI 0, [2]), some (.iaload, 125, nI 0, []), some (.aload_n 0, 126, nI 0, [0]), some (.getfield 174, 129, nI 0, [10, 42, 33, 0]), none, none, some (.if_icmp .le 39, 132, nI 0, [168]), none, none, some (.aload_n 0, 133, nI 0, [0]), some (.bipush 8, 135, nI 8, []), none, some (.iload_n 2, 136, nI 0, [2]), some (.aload_n 0, 137, nI 0, [0]), some (.getfield 177, 140, nI 0, [10, 42, 31, 0]), none, none, some (.iconst 0, 141, nI 0, []), some (.aload_n 0, 142, nI 0, [0]), some (.getfield 38, 145, nI 0, [10, 42, 10, 3]), none, none, some (.iload_n 2, 146, nI 0, [2]), some (.iaload, 147, nI 0, []), some (.iconst 0, 148, nI 0, []), some (.invokevirtual 132, 151, nI 0, [0, 111, 10, 7]), none, none, some (.goto 17, 154, nI 0, [168]), none, none, some (.aload_n 0, 155, nI 0, [0]), some (.iload_n 2, 156, nI 0, [2]), some (.aload_n 0, 157, nI 0, [0]), some (.getfield 174, 160, nI 0, [10, 42, 33, 0]), none, none, some (.invokevirtual 183, 163, nI 0, [0, 120, 10, 3]), none, none, some (.aload_n 0, 164, nI 0, [0]), some (.iload_n 2, 165, nI 0, [2]), some (.invokevirtual 186, 168, nI 0, [0, 122, 10, 2]), none, none, some (.return_, 169, nI 0, [])]
/-- MajorityMapModel.onPrepare(I)V -/
def x_T118 : List (Option xE) := [some (.aload_n 0, 1, nI 0, [0]), some (.getfield 174, 4, nI 0, [10, 42, 33, 0]), none, none, some (.aload_n 0, 5, nI 0, [0]), some (.getfield 32, 8, nI 0, [10, 42, 8, 3]), none, none, some (.iload_n 1, 9, nI 0, [1]), some (.iaload, 10, nI 0, []), some (.if_icmp .ge 23, 13, nI 0, [33]), none, none, some (.aload_n 0, 14, nI 0, [0]), some (.bipush 6, 16, nI 6, []), none, some (.iload_n 1, 17, nI 0, [1]), some (.aload_n 0, 18, nI 0, [0]), some (.getfield 177, 21, nI 0, [10, 42, 31, 0]), none, none, some (.iconst 0, 22, nI 0, []), some (.aload_n 0, 23, nI 0, [0]), some (.getfield 32, 26, nI 0, [10, 42, 8, 3]), none, none, some (.iload_n 1, 27, nI 0, [1]), some (.iaload, 28, nI 0, []), some (.iconst 0, 29, nI 0, []), some (.invokevirtual 132, 32, nI 0, [0, 111, 10, 7]), none, none, some (.return_, 33, nI 0, []), some (.aload_n 0, 34, nI 0, [0]), some (.getfield 32, 37, nI 0, [10, 42, 8, 3]), none, none, some (.iload_n 1, 38, nI 0, [1]), some (.aload_n 0, 39, nI 0, [0]), some (.getfield 174, 42, nI 0, [10, 42, 33, 0]), none, none, some (.iastore, 43, nI 0, []), some (.aload_n 0, 44, nI 0, [0]), some (.iconst 2, 45, nI 2, []), some (.iload_n 1, 46, nI 0, [1]), some (.aload_n 0, 47, nI 0, [0]), some (.getfield 177, 50, nI 0, [10, 42, 31, 0]), none, none, some (.iconst 0, 51, nI 0, []), some (.aload_n 0, 52, nI 0, [0]), some (.getfield 174, 55, nI 0, [10, 42, 33, 0]), none, none, some (.iconst 0, 56, nI 0, []), some (.invokevirtual 132, 59, nI 0, [0, 111, 10, 7]), none, none, some (.return_, 60, nI 0, [])]
/-- MajorityMapModel.onPromise(I)V -/
def x_T119 : List (Option xE) := [some (.aload_n 0, 1, nI 0, [0]), some (.iload_n 1, 2, nI 0, [1]), some (.invokevirtual 157, 5, nI 0, [0, 104, 10, 2]), none, none, some (.ifCond .eq 16, 8, nI 0, [21]), none, none, some (.aload_n 0, 9, nI 0, [0]), some (.getfield 174, 12, nI 0, [10, 42, 33, 0]), none, none, some (.aload_n 0, 13, nI 0, [0]), some (.getfield 50, 16, nI 0, [10, 42, 14, 3]), none, none, some (.iload_n 1, 17, nI 0, [1]), some (.iaload, 18, nI 0, []), some (.if_icmp .eq 4, 21, nI 0, [22]), none, none, some (.return_, 22, nI 0, []), some (.aload_n 0, 23, nI 0, [0]), some (.iload_n 1, 24, nI 0, [1]), some (.aload_n 0, 25, nI 0, [0]), some (.getfield 180, 28, nI 0, [10, 42, 35, 0]), none, none, some (.invokevirtual 183, 31, nI 0, [0, 120, 10, 3]), none, none, some (.aload_n 0, 32, nI 0, [0]), some (.getfield 53, 35, nI 0, [10, 42, 15, 3]), none, none, some (.iload_n 1, 36, nI 0, [1]), some (.dup2, 37, nI 0, []), some (.iaload, 38, nI 0, []), some (.iconst 1, 39, nI 1, []), some (.aload_n 0, 40, nI 0, [0]), some (.getfield 177, 43, nI 0, [10, 42, 31, 0]), none, none, some (.ishl, 44, nI 0, []), some (.ior, 45, nI 0, []), some (.iastore, 46, nI 0, []), some (.iconst 1, 47, nI 1, []), some (.istore_n 2, 48, nI 0, [2]), some (.iload_n 2, 49, nI 0, [2]), some (.bipush 25, 51, nI 25, []), none, some (.if_icmp .ge 55, 54, nI 0, [106]), none, none, some (.bipush 25, 56, nI 25, []), none, some (.iload_n 1, 57, nI 0, [1]), some (.imul, 58, nI 0, []), some (.iload_n 2, 59, nI 0, [2]), some (.iadd, 60, nI 0, []), some (.istore_n 3, 61, nI 0, [3]), some (.aload_n 0, 62, nI 0, [0]), some (.getfield 95, 65, nI 0, [10, 42, 36, 3]), none, none, some (.iload_n 2, 66, nI 0, [2]), some (.iaload, 67, nI 0, []), some (.aload_n 0, 68, nI 0, [0]), some (.getfield 56, 71, nI 0, [10, 42, 16, 3]), none, none, some (.iload_n 3, 72, nI 0, [3]), some (.iaload, 73, nI 0, []), some (.if_icmp .le 27, 76, nI 0, [100]), none, none, some (.aload_n 0, 77, nI 0, [0]), some (.getfield 56, 80, nI 0, [10, 42, 16, 3]), none, none, some (.iload_n 3, 81, nI 0, [3]), some (.aload_n 0, 82, nI 0, [0]), some (.getfield 95, 85, nI 0, [10, 42, 36, 3]), none, none, some (.iload_n 2, 86, nI 0, [2]), some (.iaload, 87, nI 0, []), some (.iastore, 88, nI 0, []), some (.aload_n 0, 89, nI 0, [0]), some (.getfield 59, 92, nI 0, [10, 42, 17, 3]), none, none, some (.iload_n 3, 93, nI 0, [3]), some (.aload_n 0, 94, nI 0, [0]), some (.getfield 98, 97, nI 0, [10, 42, 37, 3]), none, none, some (.iload_n 2, 98, nI 0, [2]), some (.iaload, 99, nI 0, []), some (.iastore, 100, nI 0, []), some (.iinc 2 1, 103, nI 1, [2]), none, none, some (.goto (-55), 106, nI 0, [48]), none, none, some (.aload_n 0, 107, nI 0, [0]), some (.iload_n 1, 108, nI 0, [1]), some (.invokevirtual 186, 111, nI 0, [0, 122, 10, 2]), none, none, some (.return_, 112, nI 0, [])]
/-- MajorityMapModel.install(II)V -/
def x_T120 : List (Option xE) := [some (.iload_n 2, 1, nI 0, [2]), some (.aload_n 0, 2, nI 0, [0]), some (.getfield 38, 5, nI 0, [10, 42, 10, 3]), none, none, some (.iload_n 1, 6, nI 0, [1]), some (.iaload, 7, nI 0, []), some (.if_icmp .gt 4, 10, nI 0, [11]), none, none, some (.return_, 11, nI 0, []), some (.aload_n 0, 12, nI 0, [0]), some (.getfield 35, 15, nI 0, [10, 42, 9, 3]), none, none, some (.iload_n 1, 16, nI 0, [1]), some (.iload_n 2, 17, nI 0, [2]), some (.iastore, 18, nI 0, []), some (.aload_n 0, 19, nI 0, [0]), some (.getfield 38, 22, nI 0, [10, 42, 10, 3]), none, none, some (.iload_n 1, 23, nI 0, [1]), some (.iload_n 2, 24, nI 0, [2]), some (.iastore, 25, nI 0, []), some (.aload_n 0, 26, nI 0, [0]), some (.iload_n 1, 27, nI 0, [1]), some (.iload_n 2, 28, nI 0, [2]), some (.invokevirtual 140, 31, nI 0, [0, 121, 10, 3]), none, none, some (.pop, 32, nI 0, []), some (.return_, 33, nI 0, [])]
/-- MajorityMapModel.forget(II)I -/
def x_T121 : List (Option xE) := [some (.iconst 0, 1, nI 0, []), some (.istore_n 3, 2, nI 0, [3]), some (.iconst 1, 3, nI 1, []), some (.istore 4, 5, nI 0, [4]), none, some (.iload 4, 7, nI 0, [4]), none, some (.iload_n 2, 8, nI 0, [2]), some (.if_icmp .gt 73, 11, nI 0, [81]), none, none, some (.iload_n 3, 12, nI 0, [3]), some (.aload_n 0, 13, nI 0, [0]), some (.getfield 44, 16, nI 0, [10, 42, 12, 3]), none, none, some (.bipush 25, 18, nI 25, []), none, some (.iload_n 1, 19, nI 0, [1]), some (.imul, 20, nI 0, []), some (.iload 4, 22, nI 0, [4]), none, some (.iadd, 23, nI 0, []), some (.iaload, 24, nI 0, []), some (.ifCond .le 7, 27, nI 0, [31]), none, none, some (.iconst 1, 28, nI 1, []), some (.goto 4, 31, nI 0, [32]), none, none, some (.iconst 0, 32, nI 0, []), some (.iadd, 33, nI 0, []), some (.istore_n 3, 34, nI 0, [3]), some (.aload_n 0, 35, nI 0, [0]), some (.getfield 44, 38, nI 0, [10, 42, 12, 3]), none, none, some (.bipush 25, 40, nI 25, []), none, some (.iload_n 1, 41, nI 0, [1]), some (.imul, 42, nI 0, []), some (.iload 4, 44, nI 0, [4]), none, some (.iadd, 45, nI 0, []), some (.iconst 0, 46, nI 0, []), some (.iastore, 47, nI 0, []), some (.aload_n 0, 48, nI 0, [0]), some (.getfield 47, 51, nI 0, [10, 42, 13, 3]), none, none, some (.bipush 25, 53, nI 25, []), none, some (.iload_n 1, 54, nI 0, [1]), some (.imul, 55, nI 0, []), some (.iload 4, 57, nI 0, [4]), none, some (.iadd, 58, nI 0, []), some (.iconst 0, 59, nI 0, []), some (.iastore, 60, nI 0, []), some (.aload_n 0, 61, nI 0, [0]), some (.getfield 41, 64, nI 0, [10, 42, 11, 3]), none, none, some (.iload_n 1, 65, nI 0, [1]), some (.dup2, 66, nI 0, []), some (.iaload, 67, nI 0, []), some (.iconst 1, 68, nI 1, []), some (.iload 4, 70, nI 0, [4]), none, some (.ishl, 71, nI 0, []), some (.iconst (-1), 72, (-1), []), some (.ixor, 73, nI 0, []), some (.iand, 74, nI 0, []), some (.iastore, 75, nI 0, []), some (.iinc 4 1, 78, nI 1, [4]), none, none, some (.goto (-73), 81, nI 0, [5]), none, none, some (.iload_n 3, 82, nI 0, [3]), some (.ireturn, 83, nI 0, [])]
/-- MajorityMapModel.goOn(I)V -/
def x_T122 : List (Option xE) := [some (.aload_n 0, 1, nI 0, [0]), some (.getfield 38, 4, nI 0, [10, 42, 10, 3]), none, none, some (.iload_n 1, 5, nI 0, [1]), some (.iaload, 6, nI 0, []), some (.bipush 24, 8, nI 24, []), none, some (.if_icmp .ge 71, 11, nI 0, [79]), none, none, some (.aload_n 0, 12, nI 0, [0]), some (.iload_n 1, 13, nI 0, [1]), some (.aload_n 0, 14, nI 0, [0]), some (.getfield 38, 17, nI 0, [10, 42, 10, 3]), none, none, some (.iload_n 1, 18, nI 0, [1]), some (.iaload, 19, nI 0, []), some (.iconst 1, 20, nI 1, []), some (.iadd, 21, nI 0, []), some (.invokevirtual 153, 24, nI 0, [0, 105, 10, 3]), none, none, some (.ifCond .eq 55, 27, nI 0, [79]), none, none, some (.aload_n 0, 28, nI 0, [0]), some (.getfield 38, 31, nI 0, [10, 42, 10, 3]), none, none, some (.iload_n 1, 32, nI 0, [1]), some (.dup2, 33, nI 0, []), some (.iaload, 34, nI 0, []), some (.iconst 1, 35, nI 1, []), some (.iadd, 36, nI 0, []), some (.iastore, 37, nI 0, []), some (.aload_n 0, 38, nI 0, [0]), some (.getfield 25, 41, nI 0, [10, 42, 6, 3]), none, none, some (.aload_n 0, 42, nI 0, [0]), some (.getfield 38, 45, nI 0, [10, 42, 10, 3]), none, none, some (.iload_n 1, 46, nI 0, [1]), some (.iaload, 47, nI 0, []), some (.iaload, 48, nI 0, []), some (.istore_n 2, 49, nI 0, [2]), some (.aload_n 0, 50, nI 0, [0]), some (.aload_n 0, 51, nI 0, [0]), some (.getfield 38, 54, nI 0, [10, 42, 10, 3]), none, none, some (.iload_n 1, 55, nI 0, [1]), some (.iaload, 56, nI 0, []), some (.invokevirtual 118, 59, nI 0, [0, 101, 10, 2]), none, none, some (.iload_n 2, 60, nI 0, [2]), some (.ifCond .le 16, 63, nI 0, [76]), none, none, some (.aload_n 0, 64, nI 0, [0]), some (.iload_n 1, 65, nI 0, [1]), some (.invokevirtual 157, 68, nI 0, [0, 104, 10, 2]), none, none, some (.ifCond .eq 8, 71, nI 0, [76]), none, none, some (.aload_n 0, 72, nI 0, [0]), some (.iload_n 2, 73, nI 0, [2]), some (.invokevirtual 161, 76, nI 0, [0, 103, 10, 2]), none, none, some (.goto (-76), 79, nI 0, [0]), none, none, some (.aload_n 0, 80, nI 0, [0]), some (.iload_n 1, 81, nI 0, [1]), some (.invokevirtual 157, 84, nI 0, [0, 104, 10, 2]), none, none, some (.ifCond .ne 4, 87, nI 0, [88]), none, none, some (.return_, 88, nI 0, []), some (.aload_n 0, 89, nI 0, [0]), some (.getfield 38, 92, nI 0, [10, 42, 10, 3]), none, none, some (.iload_n 1, 93, nI 0, [1]), some (.iaload, 94, nI 0, []), some (.istore_n 2, 95, nI 0, [2]), some (.iload_n 2, 96, nI 0, [2]), some (.iconst 1, 97, nI 1, []), some (.iadd, 98, nI 0, []), some (.istore_n 3, 99, nI 0, [3]), some (.iload_n 3, 100, nI 0, [3]), some (.iload_n 2, 101, nI 0, [2]), some (.iconst 3, 102, nI 3, []), some (.iadd, 103, nI 0, []), some (.if_icmp .gt 105, 106, nI 0, [208]), none, none, some (.iload_n 3, 107, nI 0, [3]), some (.bipush 24, 109, nI 24, []), none, some (.if_icmp .gt 99, 112, nI 0, [208]), none, none, some (.bipush 25, 114, nI 25, []), none, some (.iload_n 1, 115, nI 0, [1]), some (.imul, 116, nI 0, []), some (.iload_n 3, 117, nI 0, [3]), some (.iadd, 118, nI 0, []), some (.istore 4, 120, nI 0, [4]), none, some (.aload_n 0, 121, nI 0, [0]), some (.iload_n 1, 122, nI 0, [1]), some (.iload_n 3, 123, nI 0, [3]), some (.invokevirtual 153, 126, nI 0, [0, 105, 10, 3]), none, none, some (.ifCond .ne 76, 129, nI 0, [202]), none, none, some (.aload_n 0, 130, nI 0, [0]), some (.getfield 62, 133, nI 0, [10, 42, 18, 3]), none, none, some (.iload 4, 135, nI 0, [4]), none, some (.iaload, 136, nI 0, []), some (.ifCond .ge 66, 139, nI 0, [202]), none, none, some (.aload_n 0, 140, nI 0, [0]), some (.getfield 53, 143, nI 0, [10, 42, 15, 3]), none, none, some (.iload_n 1, 144, nI 0, [1]), some (.iaload, 145, nI 0, []), some (.aload_n 0, 146, nI 0, [0]), some (.iload_n 1, 147, nI 0, [1]), some (.iload_n 3, 148, nI 0, [3]), some (.invokevirtual 143, 151, nI 0, [0, 106, 10, 3]), none, none, some (.invokestatic 164, 154, nI 0, [2, 107, 10, 2]), none, none, some (.ifCond .ne 6, 157, nI 0, [160]), none, none, some (.goto 45, 160, nI 0, [202]), none, none, some (.aload_n 0, 161, nI 0, [0]), some (.getfield 56, 164, nI 0, [10, 42, 16, 3]), none, none, some (.iload 4, 166, nI 0, [4]), none, some (.iaload, 167, nI 0, []), some (.ifCond .le 19, 170, nI 0, [186]), none, none, some (.aload_n 0, 171, nI 0, [0]), some (.iload_n 1, 172, nI 0, [1]), some (.iload_n 3, 173, nI 0, [3]), some (.aload_n 0, 174, nI 0, [0]), some (.getfield 59, 177, nI 0, [10, 42, 17, 3]), none, none, some (.iload 4, 179, nI 0, [4]), none, some (.iaload, 180, nI 0, []), some (.invokevirtual 167, 183, nI 0, [0, 108, 10, 4]), none, none, some (.goto 19, 186, nI 0, [202]), none, none, some (.aload_n 0, 187, nI 0, [0]), some (.iload_n 1, 188, nI 0, [1]), some (.iload_n 3, 189, nI 0, [3]), some (.invokevirtual 171, 192, nI 0, [0, 123, 10, 3]), none, none, some (.ifCond .eq 10, 195, nI 0, [202]), none, none, some (.aload_n 0, 196, nI 0, [0]), some (.iload_n 1, 197, nI 0, [1]), some (.iload_n 3, 198, nI 0, [3]), some (.iconst 0, 199, nI 0, []), some (.invokevirtual 167, 202, nI 0, [0, 108, 10, 4]), none, none, some (.iinc 3 1, 205, nI 1, [3]), none, none, some (.goto (-106), 208, nI 0, [99]), none, none, some (.return_, 209, nI 0, [])]
/-- MajorityMapModel.above(II)Z -/
def x_T123 : List (Option xE) := [some (.iconst 0, 1, nI 0, []), some (.istore_n 3, 2, nI 0, [3]), some (.iload_n 2, 3, nI 0, [2]), some (.iconst 1, 4, nI 1, []), some (.iadd, 5, nI 0, []), some (.istore 4, 7, nI 0, [4]), none, some (.iload 4, 9, nI 0, [4]), none, some (.bipush 25, 11, nI 25, []), none, some (.if_icmp .ge 44, 14, nI 0, [55]), none, none, some (.iload_n 3, 15, nI 0, [3]), some (.ifCond .ne 28, 18, nI 0, [43]), none, none, some (.aload_n 0, 19, nI 0, [0]), some (.iload_n 1, 20, nI 0, [1]), some (.iload 4, 22, nI 0, [4]), none, some (.invokevirtual 153, 25, nI 0, [0, 105, 10, 3]), none, none, some (.ifCond .ne 18, 28, nI 0, [43]), none, none, some (.aload_n 0, 29, nI 0, [0]), some (.getfield 56, 32, nI 0, [10, 42, 16, 3]), none, none, some (.bipush 25, 34, nI 25, []), none, some (.iload_n 1, 35, nI 0, [1]), some (.imul, 36, nI 0, []), some (.iload 4, 38, nI 0, [4]), none, some (.iadd, 39, nI 0, []), some (.iaload, 40, nI 0, []), some (.ifCond .le 7, 43, nI 0, [47]), none, none, some (.iconst 1, 44, nI 1, []), some (.goto 4, 47, nI 0, [48]), none, none, some (.iconst 0, 48, nI 0, []), some (.istore_n 3, 49, nI 0, [3]), some (.iinc 4 1, 52, nI 1, [4]), none, none, some (.goto (-45), 55, nI 0, [7]), none, none, some (.iload_n 3, 56, nI 0, [3]), some (.ireturn, 57, nI 0, [])]
/-- MajorityMapModel.onAccept(I)V -/
def x_T124 : List (Option xE) := [some (.aload_n 0, 1, nI 0, [0]), some (.getfield 189, 4, nI 0, [10, 42, 32, 0]), none, none, some (.aload_n 0, 5, nI 0, [0]), some (.getfield 32, 8, nI 0, [10, 42, 8, 3]), none, none, some (.iload_n 1, 9, nI 0, [1]), some (.iaload, 10, nI 0, []), some (.if_icmp .ge 23, 13, nI 0, [33]), none, none, some (.aload_n 0, 14, nI 0, [0]), some (.bipush 6, 16, nI 6, []), none, some (.iload_n 1, 17, nI 0, [1]), some (.aload_n 0, 18, nI 0, [0]), some (.getfield 177, 21, nI 0, [10, 42, 31, 0]), none, none, some (.iconst 0, 22, nI 0, []), some (.aload_n 0, 23, nI 0, [0]), some (.getfield 32, 26, nI 0, [10, 42, 8, 3]), none, none, some (.iload_n 1, 27, nI 0, [1]), some (.iaload, 28, nI 0, []), some (.iconst 0, 29, nI 0, []), some (.invokevirtual 132, 32, nI 0, [0, 111, 10, 7]), none, none, some (.return_, 33, nI 0, []), some (.aload_n 0, 34, nI 0, [0]), some (.getfield 32, 37, nI 0, [10, 42, 8, 3]), none, none, some (.iload_n 1, 38, nI 0, [1]), some (.aload_n 0, 39, nI 0, [0]), some (.getfield 189, 42, nI 0, [10, 42, 32, 0]), none, none, some (.iastore, 43, nI 0, []), some (.aload_n 0, 44, nI 0, [0]), some (.getfield 174, 47, nI 0, [10, 42, 33, 0]), none, none, some (.aload_n 0, 48, nI 0, [0]), some (.getfield 35, 51, nI 0, [10, 42, 9, 3]), none, none, some (.iload_n 1, 52, nI 0, [1]), some (.iaload, 53, nI 0, []), some (.if_icmp .gt 23, 56, nI 0, [76]), none, none, some (.aload_n 0, 57, nI 0, [0]), some (.bipush 8, 59, nI 8, []), none, some (.iload_n 1, 60, nI 0, [1]), some (.aload_n 0, 61, nI 0, [0]), some (.getfield 177, 64, nI 0, [10, 42, 31, 0]), none, none, some (.iconst 0, 65, nI 0, []), some (.aload_n 0, 66, nI 0, [0]), some (.getfield 35, 69, nI 0, [10, 42, 9, 3]), none, none, some (.iload_n 1, 70, nI 0, [1]), some (.iaload, 71, nI 0, []), some (.iconst 0, 72, nI 0, []), some (.invokevirtual 132, 75, nI 0, [0, 111, 10, 7]), none, none, some (.return_, 76, nI 0, []), some (.aload_n 0, 77, nI 0, [0]), some (.iload_n 1, 78, nI 0, [1]), some (.aload_n 0, 79, nI 0, [0]), some (.getfield 174, 82, nI 0, [10, 42, 33, 0]), none, none, some (.aload_n 0, 83, nI 0, [0]), some (.getfield 189, 86, nI 0, [10, 42, 32, 0]), none, none, some (.aload_n 0, 87, nI 0, [0]), some (.getfield 192, 90, nI 0, [10, 42, 34, 0]), none, none, some (.invokevirtual 146, 93, nI 0, [0, 109, 10, 5]), none, none, some (.aload_n 0, 94, nI 0, [0]), some (.iconst 4, 95, nI 4, []), some (.iload_n 1, 96, nI 0, [1]), some (.aload_n 0, 97, nI 0, [0]), some (.getfield 177, 100, nI 0, [10, 42, 31, 0]), none, none, some (.aload_n 0, 101, nI 0, [0]), some (.getfield 189, 104, nI 0, [10, 42, 32, 0]), none, none, some (.aload_n 0, 105, nI 0, [0]), some (.getfield 174, 108, nI 0, [10, 42, 33, 0]), none, none, some (.iconst 0, 109, nI 0, []), some (.invokevirtual 132, 112, nI 0, [0, 111, 10, 7]), none, none, some (.return_, 113, nI 0, [])]
/-- MajorityMapModel.onVoted(I)V -/
def x_T125 : List (Option xE) := [some (.aload_n 0, 1, nI 0, [0]), some (.getfield 174, 4, nI 0, [10, 42, 33, 0]), none, none, some (.istore_n 2, 5, nI 0, [2]), some (.bipush 25, 7, nI 25, []), none, some (.iload_n 1, 8, nI 0, [1]), some (.imul, 9, nI 0, []), some (.iload_n 2, 10, nI 0, [2]), some (.iadd, 11, nI 0, []), some (.istore_n 3, 12, nI 0, [3]), some (.aload_n 0, 13, nI 0, [0]), some (.iload_n 1, 14, nI 0, [1]), some (.invokevirtual 157, 17, nI 0, [0, 104, 10, 2]), none, none, some (.ifCond .eq 44, 20, nI 0, [61]), none, none, some (.aload_n 0, 21, nI 0, [0]), some (.getfield 189, 24, nI 0, [10, 42, 32, 0]), none, none, some (.aload_n 0, 25, nI 0, [0]), some (.getfield 50, 28, nI 0, [10, 42, 14, 3]), none, none, some (.iload_n 1, 29, nI 0, [1]), some (.iaload, 30, nI 0, []), some (.if_icmp .ne 31, 33, nI 0, [61]), none, none, some (.iload_n 2, 34, nI 0, [2]), some (.aload_n 0, 35, nI 0, [0]), some (.getfield 38, 38, nI 0, [10, 42, 10, 3]), none, none, some (.iload_n 1, 39, nI 0, [1]), some (.iaload, 40, nI 0, []), some (.if_icmp .le 21, 43, nI 0, [61]), none, none, some (.aload_n 0, 44, nI 0, [0]), some (.iload_n 1, 45, nI 0, [1]), some (.iload_n 2, 46, nI 0, [2]), some (.invokevirtual 153, 49, nI 0, [0, 105, 10, 3]), none, none, some (.ifCond .ne 12, 52, nI 0, [61]), none, none, some (.aload_n 0, 53, nI 0, [0]), some (.getfield 62, 56, nI 0, [10, 42, 18, 3]), none, none, some (.iload_n 3, 57, nI 0, [3]), some (.iaload, 58, nI 0, []), some (.ifCond .ge 4, 61, nI 0, [62]), none, none, some (.return_, 62, nI 0, []), some (.aload_n 0, 63, nI 0, [0]), some (.getfield 65, 66, nI 0, [10, 42, 19, 3]), none, none, some (.iload_n 3, 67, nI 0, [3]), some (.dup2, 68, nI 0, []), some (.iaload, 69, nI 0, []), some (.iconst 1, 70, nI 1, []), some (.aload_n 0, 71, nI 0, [0]), some (.getfield 177, 74, nI 0, [10, 42, 31, 0]), none, none, some (.ishl, 75, nI 0, []), some (.ior, 76, nI 0, []), some (.iastore, 77, nI 0, []), some (.aload_n 0, 78, nI 0, [0]), some (.iload_n 1, 79, nI 0, [1]), some (.iload_n 2, 80, nI 0, [2]), some (.invokevirtual 143, 83, nI 0, [0, 106, 10, 3]), none, none, some (.istore 4, 85, nI 0, [4]), none, some (.aload_n 0, 86, nI 0, [0]), some (.getfield 65, 89, nI 0, [10, 42, 19, 3]), none, none, some (.iload_n 3, 90, nI 0, [3]), some (.iaload, 91, nI 0, []), some (.iload 4, 93, nI 0, [4]), none, some (.invokestatic 164, 96, nI 0, [2, 107, 10, 2]), none, none, some (.ifCond .ne 4, 99, nI 0, [100]), none, none, some (.return_, 100, nI 0, []), some (.aload_n 0, 101, nI 0, [0]), some (.getfield 25, 104, nI 0, [10, 42, 6, 3]), none, none, some (.iload_n 2, 105, nI 0, [2]), some (.iaload, 106, nI 0, []), some (.ifCond .ge 15, 109, nI 0, [121]), none, none, some (.aload_n 0, 110, nI 0, [0]), some (.getfield 25, 113, nI 0, [10, 42, 6, 3]), none, none, some (.iload_n 2, 114, nI 0, [2]), some (.aload_n 0, 115, nI 0, [0]), some (.getfield 62, 118, nI 0, [10, 42, 18, 3]), none, none, some (.iload_n 3, 119, nI 0, [3]), some (.iaload, 120, nI 0, []), some (.iastore, 121, nI 0, []), some (.aload_n 0, 122, nI 0, [0]), some (.getfield 41, 125, nI 0, [10, 42, 11, 3]), none, none, some (.iload_n 1, 126, nI 0, [1]), some (.dup2, 127, nI 0, []), some (.iaload, 128, nI 0, []), some (.iconst 1, 129, nI 1, []), some (.iload_n 2, 130, nI 0, [2]), some (.ishl, 131, nI 0, []), some (.ior, 132, nI 0, []), some (.iastore, 133, nI 0, []), some (.aload_n 0, 134, nI 0, [0]), some (.iconst 5, 135, nI 5, []), some (.iload_n 1, 136, nI 0, [1]), some (.bipush 31, 138, nI 31, []), none, some (.iconst 0, 139, nI 0, []), some (.iload_n 2, 140, nI 0, [2]), some (.aload_n 0, 141, nI 0, [0]), some (.getfield 25, 144, nI 0, [10, 42, 6, 3]), none, none, some (.iload_n 2, 145, nI 0, [2]), some (.iaload, 146, nI 0, []), some (.invokevirtual 150, 149, nI 0, [0, 110, 10, 7]), none, none, some (.aload_n 0, 150, nI 0, [0]), some (.iload_n 1, 151, nI 0, [1]), some (.invokevirtual 186, 154, nI 0, [0, 122, 10, 2]), none, none, some (.return_, 155, nI 0, [])]
/-- MajorityMapModel.onLearn(I)V -/
def x_T126 : List (Option xE) := [some (.aload_n 0, 1, nI 0, [0]), some (.getfield 174, 4, nI 0, [10, 42, 33, 0]), none, none, some (.aload_n 0, 5, nI 0, [0]), some (.getfield 38, 8, nI 0, [10, 42, 10, 3]), none, none, some (.iload_n 1, 9, nI 0, [1]), some (.iaload, 10, nI 0, []), some (.if_icmp .le 15, 13, nI 0, [25]), none, none, some (.aload_n 0, 14, nI 0, [0]), some (.iload_n 1, 15, nI 0, [1]), some (.aload_n 0, 16, nI 0, [0]), some (.getfield 174, 19, nI 0, [10, 42, 33, 0]), none, none, some (.invokevirtual 153, 22, nI 0, [0, 105, 10, 3]), none, none, some (.ifCond .eq 4, 25, nI 0, [26]), none, none, some (.return_, 26, nI 0, []), some (.aload_n 0, 27, nI 0, [0]), some (.getfield 41, 30, nI 0, [10, 42, 11, 3]), none, none, some (.iload_n 1, 31, nI 0, [1]), some (.dup2, 32, nI 0, []), some (.iaload, 33, nI 0, []), some (.iconst 1, 34, nI 1, []), some (.aload_n 0, 35, nI 0, [0]), some (.getfield 174, 38, nI 0, [10, 42, 33, 0]), none, none, some (.ishl, 39, nI 0, []), some (.ior, 40, nI 0, []), some (.iastore, 41, nI 0, []), some (.aload_n 0, 42, nI 0, [0]), some (.iload_n 1, 43, nI 0, [1]), some (.invokevirtual 186, 46, nI 0, [0, 122, 10, 2]), none, none, some (.return_, 47, nI 0, [])]
/-- MajorityMapModel.drop(I)Z -/
def x_T127 : List (Option xE) := [some (.iload_n 1, 1, nI 0, [1]), some (.ifCond .lt 11, 4, nI 0, [12]), none, none, some (.iload_n 1, 5, nI 0, [1]), some (.aload_n 0, 6, nI 0, [0]), some (.getfield 126, 9, nI 0, [10, 42, 20, 0]), none, none, some (.if_icmp .lt 5, 12, nI 0, [14]), none, none, some (.iconst 0, 13, nI 0, []), some (.ireturn, 14, nI 0, []), some (.aload_n 0, 15, nI 0, [0]), some (.iload_n 1, 16, nI 0, [1]), some (.invokevirtual 223, 19, nI 0, [0, 115, 10, 2]), none, none, some (.iconst 1, 20, nI 1, []), some (.ireturn, 21, nI 0, [])]
/-- MajorityMapModel.copy(I)Z -/
def x_T128 : List (Option xE) := [some (.iload_n 1, 1, nI 0, [1]), some (.ifCond .lt 20, 4, nI 0, [21]), none, none, some (.iload_n 1, 5, nI 0, [1]), some (.aload_n 0, 6, nI 0, [0]), some (.getfield 126, 9, nI 0, [10, 42, 20, 0]), none, none, some (.if_icmp .ge 12, 12, nI 0, [21]), none, none, some (.aload_n 0, 13, nI 0, [0]), some (.getfield 126, 16, nI 0, [10, 42, 20, 0]), none, none, some (.bipush 32, 18, nI 32, []), none, some (.if_icmp .ne 5, 21, nI 0, [23]), none, none, some (.iconst 0, 22, nI 0, []), some (.ireturn, 23, nI 0, []), some (.aload_n 0, 24, nI 0, [0]), some (.iload_n 1, 25, nI 0, [1]), some (.aload_n 0, 26, nI 0, [0]), some (.getfield 126, 29, nI 0, [10, 42, 20, 0]), none, none, some (.invokevirtual 136, 32, nI 0, [0, 116, 10, 3]), none, none, some (.aload_n 0, 33, nI 0, [0]), some (.dup, 34, nI 0, []), some (.getfield 126, 37, nI 0, [10, 42, 20, 0]), none, none, some (.iconst 1, 38, nI 1, []), some (.iadd, 39, nI 0, []), some (.putfield 126, 42, nI 0, [10, 42, 20, 0]), none, none, some (.iconst 1, 43, nI 1, []), some (.ireturn, 44, nI 0, [])]
/-- MajorityMapModel.crash(I)Z -/
def x_T129 : List (Option xE) := [some (.aload_n 0, 1, nI 0, [0]), some (.iload_n 1, 2, nI 0, [1]), some (.invokevirtual 216, 5, nI 0, [0, 100, 10, 2]), none, none, some (.ifCond .ne 5, 8, nI 0, [10]), none, none, some (.iconst 0, 9, nI 0, []), some (.ireturn, 10, nI 0, []), some (.aload_n 0, 11, nI 0, [0]), some (.dup, 12, nI 0, []), some (.getfield 28, 15, nI 0, [10, 42, 7, 0]), none, none, some (.iconst 1, 16, nI 1, []), some (.iload_n 1, 17, nI 0, [1]), some (.ishl, 18, nI 0, []), some (.iconst (-1), 19, (-1), []), some (.ixor, 20, nI 0, []), some (.iand, 21, nI 0, []), some (.putfield 28, 24, nI 0, [10, 42, 7, 0]), none, none, some (.aload_n 0, 25, nI 0, [0]), some (.getfield 41, 28, nI 0, [10, 42, 11, 3]), none, none, some (.iload_n 1, 29, nI 0, [1]), some (.iconst 0, 30, nI 0, []), some (.iastore, 31, nI 0, []), some (.aload_n 0, 32, nI 0, [0]), some (.getfield 38, 35, nI 0, [10, 42, 10, 3]), none, none, some (.iload_n 1, 36, nI 0, [1]), some (.aload_n 0, 37, nI 0, [0]), some (.getfield 35, 40, nI 0, [10, 42, 9, 3]), none, none, some (.iload_n 1, 41, nI 0, [1]), some (.iaload, 42, nI 0, []), some (.iastore, 43, nI 0, []), some (.aload_n 0, 44, nI 0, [0]), some (.getfield 50, 47, nI 0, [10, 42, 14, 3]), none, none, some (.iload_n 1, 48, nI 0, [1]), some (.iconst 0, 49, nI 0, []), some (.iastore, 50, nI 0, []), some (.iconst 1, 51, nI 1, []), some (.ireturn, 52, nI 0, [])]
/-- MajorityMapModel.restart(I)Z -/
def x_T130 : List (Option xE) := [some (.iload_n 1, 1, nI 0, [1]), some (.invokestatic 210, 4, nI 0, [2, 99, 10, 1]), none, none, some (.ifCond .eq 11, 7, nI 0, [15]), none, none, some (.aload_n 0, 8, nI 0, [0]), some (.iload_n 1, 9, nI 0, [1]), some (.invokevirtual 216, 12, nI 0, [0, 100, 10, 2]), none, none, some (.ifCond .eq 5, 15, nI 0, [17]), none, none, some (.iconst 0, 16, nI 0, []), some (.ireturn, 17, nI 0, []), some (.aload_n 0, 18, nI 0, [0]), some (.dup, 19, nI 0, []), some (.getfield 28, 22, nI 0, [10, 42, 7, 0]), none, none, some (.iconst 1, 23, nI 1, []), some (.iload_n 1, 24, nI 0, [1]), some (.ishl, 25, nI 0, []), some (.ior, 26, nI 0, []), some (.putfield 28, 29, nI 0, [10, 42, 7, 0]), none, none, some (.iconst 1, 30, nI 1, []), some (.ireturn, 31, nI 0, [])]
/-- MajorityMapModel.cut(I)I -/
def x_T131 : List (Option xE) := [some (.aload_n 0, 1, nI 0, [0]), some (.iload_n 1, 2, nI 0, [1]), some (.invokevirtual 216, 5, nI 0, [0, 100, 10, 2]), none, none, some (.ifCond .ne 5, 8, nI 0, [10]), none, none, some (.iconst (-1), 9, (-1), []), some (.ireturn, 10, nI 0, []), some (.aload_n 0, 11, nI 0, [0]), some (.getfield 35, 14, nI 0, [10, 42, 9, 3]), none, none, some (.iload_n 1, 15, nI 0, [1]), some (.aload_n 0, 16, nI 0, [0]), some (.getfield 38, 19, nI 0, [10, 42, 10, 3]), none, none, some (.iload_n 1, 20, nI 0, [1]), some (.iaload, 21, nI 0, []), some (.iastore, 22, nI 0, []), some (.aload_n 0, 23, nI 0, [0]), some (.iload_n 1, 24, nI 0, [1]), some (.aload_n 0, 25, nI 0, [0]), some (.getfield 35, 28, nI 0, [10, 42, 9, 3]), none, none, some (.iload_n 1, 29, nI 0, [1]), some (.iaload, 30, nI 0, []), some (.invokevirtual 140, 33, nI 0, [0, 121, 10, 3]), none, none, some (.ireturn, 34, nI 0, [])]
/-- MajorityMapModel.fetch(II)Z -/
def x_T132 : List (Option xE) := [some (.aload_n 0, 1, nI 0, [0]), some (.iload_n 1, 2, nI 0, [1]), some (.invokevirtual 216, 5, nI 0, [0, 100, 10, 2]), none, none, some (.ifCond .eq 24, 8, nI 0, [29]), none, none, some (.iload_n 2, 9, nI 0, [2]), some (.invokestatic 210, 12, nI 0, [2, 99, 10, 1]), none, none, some (.ifCond .eq 17, 15, nI 0, [29]), none, none, some (.iload_n 1, 16, nI 0, [1]), some (.iload_n 2, 17, nI 0, [2]), some (.if_icmp .eq 12, 20, nI 0, [29]), none, none, some (.aload_n 0, 21, nI 0, [0]), some (.getfield 126, 24, nI 0, [10, 42, 20, 0]), none, none, some (.bipush 32, 26, nI 32, []), none, some (.if_icmp .ne 5, 29, nI 0, [31]), none, none, some (.iconst 0, 30, nI 0, []), some (.ireturn, 31, nI 0, []), some (.aload_n 0, 32, nI 0, [0]), some (.bipush 7, 34, nI 7, []), none, some (.iload_n 1, 35, nI 0, [1]), some (.iload_n 2, 36, nI 0, [2]), some (.iconst 0, 37, nI 0, []), some (.aload_n 0, 38, nI 0, [0]), some (.getfield 38, 41, nI 0, [10, 42, 10, 3]), none, none, some (.iload_n 1, 42, nI 0, [1]), some (.iaload, 43, nI 0, []), some (.iconst 0, 44, nI 0, []), some (.invokevirtual 132, 47, nI 0, [0, 111, 10, 7]), none, none, some (.iconst 1, 48, nI 1, []), some (.ireturn, 49, nI 0, [])]
/-- MajorityMapModel.waiting()I -/
def x_T133 : List (Option xE) := [some (.aload_n 0, 1, nI 0, [0]), some (.getfield 126, 4, nI 0, [10, 42, 20, 0]), none, none, some (.ireturn, 5, nI 0, [])]
/-- MajorityMapModel.message(II)I -/
def x_T134 : List (Option xE) := [some (.iload_n 1, 1, nI 0, [1]), some (.ifCond .lt 11, 4, nI 0, [12]), none, none, some (.iload_n 1, 5, nI 0, [1]), some (.aload_n 0, 6, nI 0, [0]), some (.getfield 126, 9, nI 0, [10, 42, 20, 0]), none, none, some (.if_icmp .lt 5, 12, nI 0, [14]), none, none, some (.iconst (-1), 13, (-1), []), some (.ireturn, 14, nI 0, []), some (.iload_n 2, 15, nI 0, [2]), some (.tableswitch 78 0 5 #[37, 44, 51, 58, 65, 71], 52, nI 0, [0, 93, 52, 59, 66, 73, 80, 86]), none, none, none, none, none, none, none, none, none, none, none, none, none, none, none, none, none, none, none, none, none, none, none, none, none, none, none, none, none, none, none, none, none, none, none, none, some (.aload_n 0, 53, nI 0, [0]), some (.getfield 68, 56, nI 0, [10, 42, 22, 3]), none, none, some (.iload_n 1, 57, nI 0, [1]), some (.iaload, 58, nI 0, []), some (.ireturn, 59, nI 0, []), some (.aload_n 0, 60, nI 0, [0]), some (.getfield 71, 63, nI 0, [10, 42, 23, 3]), none, none, some (.iload_n 1, 64, nI 0, [1]), some (.iaload, 65, nI 0, []), some (.ireturn, 66, nI 0, []), some (.aload_n 0, 67, nI 0, [0]), some (.getfield 74, 70, nI 0, [10, 42, 24, 3]), none, none, some (.iload_n 1, 71, nI 0, [1]), some (.iaload, 72, nI 0, []), some (.ireturn, 73, nI 0, []), some (.aload_n 0, 74, nI 0, [0]), some (.getfield 80, 77, nI 0, [10, 42, 26, 3]), none, none, some (.iload_n 1, 78, nI 0, [1]), some (.iaload, 79, nI 0, []), some (.ireturn, 80, nI 0, []), some (.aload_n 0, 81, nI 0, [0]), some (.iload_n 1, 82, nI 0, [1]), some (.invokevirtual 229, 85, nI 0, [0, 135, 10, 2]), none, none, some (.ireturn, 86, nI 0, []), some (.aload_n 0, 87, nI 0, [0]), some (.getfield 83, 90, nI 0, [10, 42, 27, 3]), none, none, some (.iload_n 1, 91, nI 0, [1]), some (.iaload, 92, nI 0, []), some (.ireturn, 93, nI 0, []), some (.iconst (-1), 94, (-1), []), some (.ireturn, 95, nI 0, [])]
/-- MajorityMapModel.load(I)I -/
def x_T135 : List (Option xE) := [some (.iconst 0, 1, nI 0, []), some (.istore_n 2, 2, nI 0, [2]), some (.aload_n 0, 3, nI 0, [0]), some (.getfield 68, 6, nI 0, [10, 42, 22, 3]), none, none, some (.iload_n 1, 7, nI 0, [1]), some (.iaload, 8, nI 0, []), some (.iconst 2, 9, nI 2, []), some (.if_icmp .ne 39, 12, nI 0, [48]), none, none, some (.iconst 0, 13, nI 0, []), some (.istore_n 3, 14, nI 0, [3]), some (.iload_n 3, 15, nI 0, [3]), some (.bipush 25, 17, nI 25, []), none, some (.if_icmp .ge 31, 20, nI 0, [48]), none, none, some (.iload_n 2, 21, nI 0, [2]), some (.aload_n 0, 22, nI 0, [0]), some (.getfield 89, 25, nI 0, [10, 42, 29, 3]), none, none, some (.bipush 25, 27, nI 25, []), none, some (.iload_n 1, 28, nI 0, [1]), some (.imul, 29, nI 0, []), some (.iload_n 3, 30, nI 0, [3]), some (.iadd, 31, nI 0, []), some (.iaload, 32, nI 0, []), some (.ifCond .le 7, 35, nI 0, [39]), none, none, some (.iconst 1, 36, nI 1, []), some (.goto 4, 39, nI 0, [40]), none, none, some (.iconst 0, 40, nI 0, []), some (.iadd, 41, nI 0, []), some (.istore_n 2, 42, nI 0, [2]), some (.iinc 3 1, 45, nI 1, [3]), none, none, some (.goto (-31), 48, nI 0, [14]), none, none, some (.aload_n 0, 49, nI 0, [0]), some (.getfield 68, 52, nI 0, [10, 42, 22, 3]), none, none, some (.iload_n 1, 53, nI 0, [1]), some (.iaload, 54, nI 0, []), some (.bipush 8, 56, nI 8, []), none, some (.if_icmp .ne 44, 59, nI 0, [100]), none, none, some (.aload_n 0, 60, nI 0, [0]), some (.aload_n 0, 61, nI 0, [0]), some (.getfield 80, 64, nI 0, [10, 42, 26, 3]), none, none, some (.iload_n 1, 65, nI 0, [1]), some (.iaload, 66, nI 0, []), some (.invokevirtual 118, 69, nI 0, [0, 101, 10, 2]), none, none, some (.iconst 0, 70, nI 0, []), some (.istore_n 3, 71, nI 0, [3]), some (.iload_n 3, 72, nI 0, [3]), some (.bipush 41, 74, nI 41, []), none, some (.if_icmp .ge 26, 77, nI 0, [100]), none, none, some (.iload_n 2, 78, nI 0, [2]), some (.aload_n 0, 79, nI 0, [0]), some (.getfield 104, 82, nI 0, [10, 42, 39, 3]), none, none, some (.iload_n 3, 83, nI 0, [3]), some (.baload, 84, nI 0, []), some (.ifCond .eq 7, 87, nI 0, [91]), none, none, some (.iconst 1, 88, nI 1, []), some (.goto 4, 91, nI 0, [92]), none, none, some (.iconst 0, 92, nI 0, []), some (.iadd, 93, nI 0, []), some (.istore_n 2, 94, nI 0, [2]), some (.iinc 3 1, 97, nI 1, [3]), none, none, some (.goto (-26), 100, nI 0, [71]), none, none, some (.iload_n 2, 101, nI 0, [2]), some (.ireturn, 102, nI 0, [])]
/-- MajorityMapModel.look(II)I -/
def x_T136 : List (Option xE) := [some (.iload_n 1, 1, nI 0, [1]), some (.invokestatic 210, 4, nI 0, [2, 99, 10, 1]), none, none, some (.ifCond .ne 5, 7, nI 0, [9]), none, none, some (.iconst (-1), 8, (-1), []), some (.ireturn, 9, nI 0, []), some (.aload_n 0, 10, nI 0, [0]), some (.iload_n 1, 11, nI 0, [1]), some (.invokevirtual 157, 14, nI 0, [0, 104, 10, 2]), none, none, some (.istore_n 3, 15, nI 0, [3]), some (.aload_n 0, 16, nI 0, [0]), some (.iload_n 1, 17, nI 0, [1]), some (.aload_n 0, 18, nI 0, [0]), some (.getfield 38, 21, nI 0, [10, 42, 10, 3]), none, none, some (.iload_n 1, 22, nI 0, [1]), some (.iaload, 23, nI 0, []), some (.iconst 1, 24, nI 1, []), some (.iadd, 25, nI 0, []), some (.invokevirtual 143, 28, nI 0, [0, 106, 10, 3]), none, none, some (.istore 4, 30, nI 0, [4]), none, some (.iload_n 2, 31, nI 0, [2]), some (.tableswitch 132 0 7 #[45, 54, 61, 68, 75, 90, 114, 117], 76, nI 0, [0, 163, 76, 85, 92, 99, 106, 121, 145, 148]), none, none, none, none, none, none, none, none, none, none, none, none, none, none, none, none, none, none, none, none, none, none, none, none, none, none, none, none, none, none, none, none, none, none, none, none, none, none, none, none, none, none, none, none, some (.aload_n 0, 77, nI 0, [0]), some (.getfield 28, 80, nI 0, [10, 42, 7, 0]), none, none, some (.iload_n 1, 81, nI 0, [1]), some (.ishr, 82, nI 0, []), some (.iconst 1, 83, nI 1, []), some (.iand, 84, nI 0, []), some (.ireturn, 85, nI 0, []), some (.aload_n 0, 86, nI 0, [0]), some (.getfield 32, 89, nI 0, [10, 42, 8, 3]), none, none, some (.iload_n 1, 90, nI 0, [1]), some (.iaload, 91, nI 0, []), some (.ireturn, 92, nI 0, []), some (.aload_n 0, 93, nI 0, [0]), some (.getfield 35, 96, nI 0, [10, 42, 9, 3]), none, none, some (.iload_n 1, 97, nI 0, [1]), some (.iaload, 98, nI 0, []), some (.ireturn, 99, nI 0, []), some (.aload_n 0, 100, nI 0, [0]), some (.getfield 38, 103, nI 0, [10, 42, 10, 3]), none, none, some (.iload_n 1, 104, nI 0, [1]), some (.iaload, 105, nI 0, []), some (.ireturn, 106, nI 0, []), some (.iload_n 3, 107, nI 0, [3]), some (.ifCond .eq 12, 110, nI 0, [119]), none, none, some (.aload_n 0, 111, nI 0, [0]), some (.getfield 50, 114, nI 0, [10, 42, 14, 3]), none, none, some (.iload_n 1, 115, nI 0, [1]), some (.iaload, 116, nI 0, []), some (.goto 4, 119, nI 0, [120]), none, none, some (.iconst 0, 120, nI 0, []), some (.ireturn, 121, nI 0, []), some (.iload_n 3, 122, nI 0, [3]), some (.ifCond .eq 21, 125, nI 0, [143]), none, none, some (.aload_n 0, 126, nI 0, [0]), some (.getfield 53, 129, nI 0, [10, 42, 15, 3]), none, none, some (.iload_n 1, 130, nI 0, [1]), some (.iaload, 131, nI 0, []), some (.iload 4, 133, nI 0, [4]), none, some (.invokestatic 164, 136, nI 0, [2, 107, 10, 2]), none, none, some (.ifCond .eq 7, 139, nI 0, [143]), none, none, some (.iconst 1, 140, nI 1, []), some (.goto 4, 143, nI 0, [144]), none, none, some (.iconst 0, 144, nI 0, []), some (.ireturn, 145, nI 0, []), some (.iload 4, 147, nI 0, [4]), none, some (.ireturn, 148, nI 0, []), some (.iload_n 3, 149, nI 0, [3]), some (.ifCond .eq 12, 152, nI 0, [161]), none, none, some (.aload_n 0, 153, nI 0, [0]), some (.getfield 53, 156, nI 0, [10, 42, 15, 3]), none, none, some (.iload_n 1, 157, nI 0, [1]), some (.iaload, 158, nI 0, []), some (.goto 4, 161, nI 0, [162]), none, none, some (.iconst 0, 162, nI 0, []), some (.ireturn, 163, nI 0, []), some (.iconst (-1), 164, (-1), []), some (.ireturn, 165, nI 0, [])]
/-- MajorityMapModel.value(II)I -/
def x_T137 : List (Option xE) := [some (.iload_n 1, 1, nI 0, [1]), some (.invokestatic 210, 4, nI 0, [2, 99, 10, 1]), none, none, some (.ifCond .eq 12, 7, nI 0, [16]), none, none, some (.iload_n 2, 8, nI 0, [2]), some (.ifCond .lt 8, 11, nI 0, [16]), none, none, some (.iload_n 2, 12, nI 0, [2]), some (.iconst 3, 13, nI 3, []), some (.if_icmp .le 5, 16, nI 0, [18]), none, none, some (.iconst 0, 17, nI 0, []), some (.ireturn, 18, nI 0, []), some (.aload_n 0, 19, nI 0, [0]), some (.aload_n 0, 20, nI 0, [0]), some (.getfield 38, 23, nI 0, [10, 42, 10, 3]), none, none, some (.iload_n 1, 24, nI 0, [1]), some (.iaload, 25, nI 0, []), some (.invokevirtual 118, 28, nI 0, [0, 101, 10, 2]), none, none, some (.aload_n 0, 29, nI 0, [0]), some (.getfield 101, 32, nI 0, [10, 42, 38, 3]), none, none, some (.iload_n 2, 33, nI 0, [2]), some (.iaload, 34, nI 0, []), some (.ireturn, 35, nI 0, [])]
/-- MajorityMapModel.vote(II)I -/
def x_T138 : List (Option xE) := [some (.iload_n 1, 1, nI 0, [1]), some (.invokestatic 210, 4, nI 0, [2, 99, 10, 1]), none, none, some (.ifCond .eq 14, 7, nI 0, [18]), none, none, some (.iload_n 2, 8, nI 0, [2]), some (.iconst 1, 9, nI 1, []), some (.if_icmp .lt 9, 12, nI 0, [18]), none, none, some (.iload_n 2, 13, nI 0, [2]), some (.bipush 24, 15, nI 24, []), none, some (.if_icmp .le 5, 18, nI 0, [20]), none, none, some (.iconst (-1), 19, (-1), []), some (.ireturn, 20, nI 0, []), some (.bipush 25, 22, nI 25, []), none, some (.iload_n 1, 23, nI 0, [1]), some (.imul, 24, nI 0, []), some (.iload_n 2, 25, nI 0, [2]), some (.iadd, 26, nI 0, []), some (.istore_n 3, 27, nI 0, [3]), some (.aload_n 0, 28, nI 0, [0]), some (.getfield 44, 31, nI 0, [10, 42, 12, 3]), none, none, some (.iload_n 3, 32, nI 0, [3]), some (.iaload, 33, nI 0, []), some (.ifCond .ne 7, 36, nI 0, [40]), none, none, some (.iconst 0, 37, nI 0, []), some (.goto 19, 40, nI 0, [56]), none, none, some (.bipush 64, 42, nI 64, []), none, some (.aload_n 0, 43, nI 0, [0]), some (.getfield 44, 46, nI 0, [10, 42, 12, 3]), none, none, some (.iload_n 3, 47, nI 0, [3]), some (.iaload, 48, nI 0, []), some (.imul, 49, nI 0, []), some (.aload_n 0, 50, nI 0, [0]), some (.getfield 47, 53, nI 0, [10, 42, 13, 3]), none, none, some (.iload_n 3, 54, nI 0, [3]), some (.iaload, 55, nI 0, []), some (.iadd, 56, nI 0, []), some (.ireturn, 57, nI 0, [])]
/-- MajorityMapModel.reply(I)I -/
def x_T139 : List (Option xE) := [some (.iload_n 1, 1, nI 0, [1]), some (.iconst 1, 2, nI 1, []), some (.if_icmp .lt 11, 5, nI 0, [13]), none, none, some (.iload_n 1, 6, nI 0, [1]), some (.aload_n 0, 7, nI 0, [0]), some (.getfield 213, 10, nI 0, [10, 42, 0, 0]), none, none, some (.if_icmp .le 7, 13, nI 0, [17]), none, none, some (.iconst 0, 14, nI 0, []), some (.goto 9, 17, nI 0, [23]), none, none, some (.aload_n 0, 18, nI 0, [0]), some (.getfield 22, 21, nI 0, [10, 42, 5, 3]), none, none, some (.iload_n 1, 22, nI 0, [1]), some (.iaload, 23, nI 0, []), some (.ireturn, 24, nI 0, [])]
/-- MajorityMapModel.heard(I)I -/
def x_T140 : List (Option xE) := [some (.iload_n 1, 1, nI 0, [1]), some (.iconst 1, 2, nI 1, []), some (.if_icmp .lt 11, 5, nI 0, [13]), none, none, some (.iload_n 1, 6, nI 0, [1]), some (.aload_n 0, 7, nI 0, [0]), some (.getfield 213, 10, nI 0, [10, 42, 0, 0]), none, none, some (.if_icmp .le 7, 13, nI 0, [17]), none, none, some (.iconst 0, 14, nI 0, []), some (.goto 9, 17, nI 0, [23]), none, none, some (.aload_n 0, 18, nI 0, [0]), some (.getfield 19, 21, nI 0, [10, 42, 4, 3]), none, none, some (.iload_n 1, 22, nI 0, [1]), some (.iaload, 23, nI 0, []), some (.ireturn, 24, nI 0, [])]
/-- java/lang/Integer.bitCount(I)I -/
def x_T141 : List (Option xE) := [some (.iload_n 0, 1, nI 0, [0]), some (.iload_n 0, 2, nI 0, [0]), some (.iconst 1, 3, nI 1, []), some (.iushr, 4, nI 0, []), some (.ldc_w 265, 7, nI 1431655765, []), none, none, some (.iand, 8, nI 0, []), some (.isub, 9, nI 0, []), some (.istore_n 0, 10, nI 0, [0]), some (.iload_n 0, 11, nI 0, [0]), some (.ldc_w 266, 14, nI 858993459, []), none, none, some (.iand, 15, nI 0, []), some (.iload_n 0, 16, nI 0, [0]), some (.iconst 2, 17, nI 2, []), some (.iushr, 18, nI 0, []), some (.ldc_w 266, 21, nI 858993459, []), none, none, some (.iand, 22, nI 0, []), some (.iadd, 23, nI 0, []), some (.istore_n 0, 24, nI 0, [0]), some (.iload_n 0, 25, nI 0, [0]), some (.iload_n 0, 26, nI 0, [0]), some (.iconst 4, 27, nI 4, []), some (.iushr, 28, nI 0, []), some (.iadd, 29, nI 0, []), some (.ldc_w 267, 32, nI 252645135, []), none, none, some (.iand, 33, nI 0, []), some (.istore_n 0, 34, nI 0, [0]), some (.iload_n 0, 35, nI 0, [0]), some (.iload_n 0, 36, nI 0, [0]), some (.bipush 8, 38, nI 8, []), none, some (.iushr, 39, nI 0, []), some (.iadd, 40, nI 0, []), some (.istore_n 0, 41, nI 0, [0]), some (.iload_n 0, 42, nI 0, [0]), some (.iload_n 0, 43, nI 0, [0]), some (.bipush 16, 45, nI 16, []), none, some (.iushr, 46, nI 0, []), some (.iadd, 47, nI 0, []), some (.istore_n 0, 48, nI 0, [0]), some (.iload_n 0, 49, nI 0, [0]), some (.bipush 63, 51, nI 63, []), none, some (.iand, 52, nI 0, []), some (.ireturn, 53, nI 0, [])]
def x_T142 : List (Option xE) := []
/-- java/lang/Math.floorDiv(II)I -/
def x_T143 : List (Option xE) := [some (.iload_n 0, 1, nI 0, [0]), some (.iload_n 1, 2, nI 0, [1]), some (.idiv, 3, nI 0, []), some (.istore_n 2, 4, nI 0, [2]), some (.iload_n 0, 5, nI 0, [0]), some (.iload_n 1, 6, nI 0, [1]), some (.ixor, 7, nI 0, []), some (.ifCond .ge 14, 10, nI 0, [21]), none, none, some (.iload_n 2, 11, nI 0, [2]), some (.iload_n 1, 12, nI 0, [1]), some (.imul, 13, nI 0, []), some (.iload_n 0, 14, nI 0, [0]), some (.if_icmp .eq 7, 17, nI 0, [21]), none, none, some (.iload_n 2, 18, nI 0, [2]), some (.iconst 1, 19, nI 1, []), some (.isub, 20, nI 0, []), some (.ireturn, 21, nI 0, []), some (.iload_n 2, 22, nI 0, [2]), some (.ireturn, 23, nI 0, [])]
/-- java/lang/Math.max(II)I -/
def x_T144 : List (Option xE) := [some (.iload_n 0, 1, nI 0, [0]), some (.iload_n 1, 2, nI 0, [1]), some (.if_icmp .lt 7, 5, nI 0, [9]), none, none, some (.iload_n 0, 6, nI 0, [0]), some (.goto 4, 9, nI 0, [10]), none, none, some (.iload_n 1, 10, nI 0, [1]), some (.ireturn, 11, nI 0, [])]
/-- java/util/Arrays.fill([II)V -/
def x_T145 : List (Option xE) := [some (.iconst 0, 1, nI 0, []), some (.istore_n 2, 2, nI 0, [2]), some (.aload_n 0, 3, nI 0, [0]), some (.arraylength, 4, nI 0, []), some (.istore_n 3, 5, nI 0, [3]), some (.iload_n 2, 6, nI 0, [2]), some (.iload_n 3, 7, nI 0, [3]), some (.if_icmp .ge 13, 10, nI 0, [20]), none, none, some (.aload_n 0, 11, nI 0, [0]), some (.iload_n 2, 12, nI 0, [2]), some (.iload_n 1, 13, nI 0, [1]), some (.iastore, 14, nI 0, []), some (.iinc 2 1, 17, nI 1, [2]), none, none, some (.goto (-12), 20, nI 0, [5]), none, none, some (.return_, 21, nI 0, [])]
def x_TL : List (List (Option xE)) := [x_T0, x_T1, x_T2, x_T3, x_T4, x_T5, x_T6, x_T7, x_T8, x_T9, x_T10, x_T11, x_T12, x_T13, x_T14, x_T15, x_T16, x_T17, x_T18, x_T19, x_T20, x_T21, x_T22, x_T23, x_T24, x_T25, x_T26, x_T27, x_T28, x_T29, x_T30, x_T31, x_T32, x_T33, x_T34, x_T35, x_T36, x_T37, x_T38, x_T39, x_T40, x_T41, x_T42, x_T43, x_T44, x_T45, x_T46, x_T47, x_T48, x_T49, x_T50, x_T51, x_T52, x_T53, x_T54, x_T55, x_T56, x_T57, x_T58, x_T59, x_T60, x_T61, x_T62, x_T63, x_T64, x_T65, x_T66, x_T67, x_T68, x_T69, x_T70, x_T71, x_T72, x_T73, x_T74, x_T75, x_T76, x_T77, x_T78, x_T79, x_T80, x_T81, x_T82, x_T83, x_T84, x_T85, x_T86, x_T87, x_T88, x_T89, x_T90, x_T91, x_T92, x_T93, x_T94, x_T95, x_T96, x_T97, x_T98, x_T99, x_T100, x_T101, x_T102, x_T103, x_T104, x_T105, x_T106, x_T107, x_T108, x_T109, x_T110, x_T111, x_T112, x_T113, x_T114, x_T115, x_T116, x_T117, x_T118, x_T119, x_T120, x_T121, x_T122, x_T123, x_T124, x_T125, x_T126, x_T127, x_T128, x_T129, x_T130, x_T131, x_T132, x_T133, x_T134, x_T135, x_T136, x_T137, x_T138, x_T139, x_T140, x_T141, x_T142, x_T143, x_T144, x_T145]
def x_P (k pc : Nat) : Option xE := (((x_TL[k]?).getD [])[pc]?).getD none
end
section
/-! the whole of it: x_go d n k M as: method k, calls at most d deep, n steps at most in a frame; Wp and Ev: it comes to an end, and Q holds there -/
def x_us (x : Int64) (y : Int32) : Int64 := (x.toUInt64 >>> (y.toInt64.toUInt64 &&& Int64.toUInt64 63)).toInt64
def x_bA (x : Int64) : Int64 := x - (x_us x 1 &&& 6148914691236517205)
def x_bB (a : Int64) : Int64 := (a &&& 3689348814741910323) + (x_us a 2 &&& 3689348814741910323)
def x_bC (b : Int64) : Int64 := (b + x_us b 4) &&& 1085102592571150095
def x_bD (c : Int64) : Int64 := c + x_us c 8
def x_bE (c : Int64) : Int64 := c + x_us c 16
def x_bF (c : Int64) : Int64 := c + x_us c 32
/-- Long.bitCount, as it is reckoned -/
def x_bc (x : Int64) : Int32 := (x_bF (x_bE (x_bD (x_bC (x_bB (x_bA x)))))).toInt32 &&& 127
def x_go : Nat → Nat → xCal
  | 0, _ => fun _ _ _ => none
  | d + 1, n => fun k M as => if k = x_kB then (match as with
      | [.long x] => some (M, some (.int (x_bc x)))
      | _ => none)
    else match x_en (x_nL k) as with
      | none => none
      | some ls => x_run x_ec d (x_P k) (x_rk k) (x_go d n) n (0, ls, [], M)
theorem x_go_mono : ∀ (d n n' k : Nat) (M : xM) (as : List Value) (r : xM × Option Value), n ≤ n' → x_go d n k M as = some r → x_go d n' k M as = some r := by
  intro d
  induction d with
  | zero => intro n n' k M as r _ h; simp [x_go] at h
  | succ d ih =>
    intro n n' k M as r hn h
    simp only [x_go] at h ⊢
    split at h
    · rename_i hk; rw [if_pos hk]; exact h
    · rename_i hk
      rw [if_neg hk]
      cases he : x_en (x_nL k) as with
      | none => rw [he] at h; simp at h
      | some ls =>
        rw [he] at h
        simp only at h ⊢
        exact x_run_mono (fun k M as r hq => ih n n' k M as r hn hq) n n' _ r hn h
theorem x_go_good : ∀ (d n : Nat), x_gC (x_go d n) := by
  intro d
  induction d with
  | zero => intro n k M as r _ _ h; simp [x_go] at h
  | succ d ih =>
    intro n k M as r hM ha h
    simp only [x_go] at h
    split at h
    · split at h
      · cases h
        exact ⟨hM, List.prefix_refl _, fun u hu => by cases hu; exact x_wV_int⟩
      · cases h
    · cases he : x_en (x_nL k) as with
      | none => rw [he] at h; simp at h
      | some ls =>
        rw [he] at h
        simp only at h
        exact x_run_good (ih n) n _ r (x_en_G he hM ha).1 h
def Wp (d k pc : Nat) (ls : xL) (st : List Value) (M : xM) (Q : xM → Option Value → Prop) : Prop := ∃ n M' v, x_run x_ec d (x_P k) (x_rk k) (x_go d n) n (pc, ls, st, M) = some (M', v) ∧ Q M' v
def Ev (d k : Nat) (M : xM) (as : List Value) (Q : xM → Option Value → Prop) : Prop := ∃ n M' v, x_go d n k M as = some (M', v) ∧ Q M' v
theorem Ev.imp {d k : Nat} {M : xM} {as : List Value} {Q Q' : xM → Option Value → Prop} (h : Ev d k M as Q) (hi : ∀ M' v, Q M' v → Q' M' v) : Ev d k M as Q' := by
  obtain ⟨n, M', v, h1, h2⟩ := h
  exact ⟨n, M', v, h1, hi _ _ h2⟩
theorem Wp.imp {d k pc : Nat} {ls : xL} {st : List Value} {M : xM} {Q Q' : xM → Option Value → Prop} (h : Wp d k pc ls st M Q) (hi : ∀ M' v, Q M' v → Q' M' v) : Wp d k pc ls st M Q' := by
  obtain ⟨n, M', v, h1, h2⟩ := h
  exact ⟨n, M', v, h1, hi _ _ h2⟩
theorem Ev.of {d k : Nat} {M : xM} {as : List Value} {Q : xM → Option Value → Prop} {ls : xL} (hk : (decide (k = x_kB)) = false) (he : x_en (x_nL k) as = some ls) (h : Wp d k 0 ls [] M Q) : Ev (d + 1) k M as Q := by
  obtain ⟨n, M', v, h1, h2⟩ := h
  refine ⟨n, M', v, ?_, h2⟩
  simp only [x_go]
  rw [if_neg (by simpa using hk), he]
  exact h1
section WPR
variable {d k pc pc' nx : Nat} {ls ls' : xL} {st st' : List Value} {M M' : xM} {Q : xM → Option Value → Prop} {e : xE}
theorem Wp.go (hp : x_P k pc = some e) (hs : x_st x_ec d e ls st M = some (pc', ls', st', M')) (h : Wp d k pc' ls' st' M' Q) : Wp d k pc ls st M Q := by
  obtain ⟨n, M1, v, h1, h2⟩ := h
  refine ⟨n + 1, M1, v, ?_, h2⟩
  simp only [x_run, hp, hs]
  exact x_run_mono (fun k M as r hq => x_go_mono d n (n + 1) k M as r (Nat.le_succ _) hq) n n _ _ (Nat.le_refl _) h1
theorem Wp.cl {k' : Nat} {as r : List Value} {Q' : xM → Option Value → Prop} (hp : x_P k pc = some e) (hs : x_st x_ec d e ls st M = none) (hc : x_cl e st M = some (k', as, r)) (he : Ev d k' M as Q') (h : ∀ M' v, Q' M' v → Wp d k e.2.1 ls (v.toList ++ r) M' Q) : Wp d k pc ls st M Q := by
  obtain ⟨n1, M1, v, h1, h2⟩ := he
  obtain ⟨n2, M2, v2, h3, h4⟩ := h M1 v h2
  refine ⟨max n1 n2 + 1, M2, v2, ?_, h4⟩
  simp only [x_run, hp, hs, hc, x_go_mono d n1 (max n1 n2 + 1) k' M as _ (by omega) h1]
  exact x_run_mono (fun k M as r hq => x_go_mono d n2 (max n1 n2 + 1) k M as r (by omega) hq) n2 _ _ _ (by omega) h3
theorem Wp.rt {v : Option Value} (hp : x_P k pc = some e) (hs : x_st x_ec d e ls st M = none) (hc : x_cl e st M = none) (hr : x_rt (x_rk k) e st = some v) (h : Q M v) : Wp d k pc ls st M Q := by
  refine ⟨1, M, v, ?_, h⟩
  simp only [x_run, hp, hs, hc, hr]
/-- a return of a boolean -/
theorem Wp.rz {nx : Nat} {c v : Int32} {xs : List Nat} (hp : x_P k pc = some (.ireturn, nx, c, xs)) (hr : x_rk k = 2) (hv : v = 0 ∨ v = 1) (h : Q M (some (.int v))) : Wp d k pc ls [.int v] M Q :=
  Wp.rt hp rfl rfl (by rw [hr]; exact if_pos hv) h
theorem Wp.br {c : Prop} [Decidable c] {a b : Nat} (h1 : c → Wp d k a ls st M Q) (h2 : ¬ c → Wp d k b ls st M Q) : Wp d k (if decide c = true then a else b) ls st M Q := by
  by_cases hc : c
  · rw [if_pos (by simpa using hc)]; exact h1 hc
  · rw [if_neg (by simpa using hc)]; exact h2 hc
theorem Wp.gi {ix ci n j a : Nat} {c : Int32} (hp : x_P k pc = some (.getfield ix, nx, c, [ci, n, j, 0])) (hk : M.1[a]? = some (false, ci, n)) (h : Wp d k nx ls (.int (M.2.1 a j) :: st) M Q) : Wp d k pc ls (.ref a :: st) M Q :=
  Wp.go hp (if_pos hk) h
theorem Wp.gz {ix ci n j a : Nat} {c : Int32} (hp : x_P k pc = some (.getfield ix, nx, c, [ci, n, j, 1])) (hk : M.1[a]? = some (false, ci, n)) (h : Wp d k nx ls (.int (M.2.1 a j) :: st) M Q) : Wp d k pc ls (.ref a :: st) M Q :=
  Wp.go hp (if_pos hk) h
theorem Wp.gl {ix ci n j a : Nat} {c : Int32} (hp : x_P k pc = some (.getfield ix, nx, c, [ci, n, j, 2])) (hk : M.1[a]? = some (false, ci, n)) (h : Wp d k nx ls (.long (M.2.2.1 a j) :: st) M Q) : Wp d k pc ls (.ref a :: st) M Q :=
  Wp.go hp (if_pos hk) h
theorem Wp.gr {ix ci n j a b : Nat} {c : Int32} (hp : x_P k pc = some (.getfield ix, nx, c, [ci, n, j, 3])) (hk : M.1[a]? = some (false, ci, n)) (hr : M.2.2.2 a j = some b) (h : Wp d k nx ls (.ref b :: st) M Q) : Wp d k pc ls (.ref a :: st) M Q :=
  Wp.go hp ((if_pos hk).trans (by show some (nx, ls, va_rf (M.2.2.2 a j) :: st, M) = _; rw [hr]; rfl)) h
theorem Wp.gn {ix ci n j a : Nat} {c : Int32} (hp : x_P k pc = some (.getfield ix, nx, c, [ci, n, j, 3])) (hk : M.1[a]? = some (false, ci, n)) (hr : M.2.2.2 a j = none) (h : Wp d k nx ls (.null :: st) M Q) : Wp d k pc ls (.ref a :: st) M Q :=
  Wp.go hp ((if_pos hk).trans (by show some (nx, ls, va_rf (M.2.2.2 a j) :: st, M) = _; rw [hr]; rfl)) h
theorem Wp.pi {ix ci n j a : Nat} {c x : Int32} (hp : x_P k pc = some (.putfield ix, nx, c, [ci, n, j, 0])) (hk : M.1[a]? = some (false, ci, n)) (h : Wp d k nx ls st (M.1, x_u M.2.1 a j x, M.2.2) Q) : Wp d k pc ls (.int x :: .ref a :: st) M Q :=
  Wp.go hp (if_pos hk) h
theorem Wp.pz {ix ci n j a : Nat} {c x : Int32} (hp : x_P k pc = some (.putfield ix, nx, c, [ci, n, j, 1])) (hk : M.1[a]? = some (false, ci, n)) (hx : x = 0 ∨ x = 1) (h : Wp d k nx ls st (M.1, x_u M.2.1 a j x, M.2.2) Q) : Wp d k pc ls (.int x :: .ref a :: st) M Q :=
  Wp.go hp ((if_pos hk).trans (by show Option.map _ (if x = 0 ∨ x = 1 then _ else _) = _; rw [if_pos hx]; rfl)) h
theorem Wp.pl {ix ci n j a : Nat} {c : Int32} {x : Int64} (hp : x_P k pc = some (.putfield ix, nx, c, [ci, n, j, 2])) (hk : M.1[a]? = some (false, ci, n)) (h : Wp d k nx ls st (M.1, M.2.1, x_u M.2.2.1 a j x, M.2.2.2) Q) : Wp d k pc ls (.long x :: .ref a :: st) M Q :=
  Wp.go hp (if_pos hk) h
theorem Wp.pr {ix ci n j a b : Nat} {c : Int32} (hp : x_P k pc = some (.putfield ix, nx, c, [ci, n, j, 3])) (hk : M.1[a]? = some (false, ci, n)) (h : Wp d k nx ls st (M.1, M.2.1, M.2.2.1, x_u M.2.2.2 a j (some b)) Q) : Wp d k pc ls (.ref b :: .ref a :: st) M Q :=
  Wp.go hp (if_pos hk) h
theorem Wp.pn {ix ci n j a : Nat} {c : Int32} (hp : x_P k pc = some (.putfield ix, nx, c, [ci, n, j, 3])) (hk : M.1[a]? = some (false, ci, n)) (h : Wp d k nx ls st (M.1, M.2.1, M.2.2.1, x_u M.2.2.2 a j none) Q) : Wp d k pc ls (.null :: .ref a :: st) M Q :=
  Wp.go hp (if_pos hk) h
theorem x_ix {i n : Nat} (hi : i < n) (hn : n ≤ 65536) : ¬ nI i < 0 ∧ (nI i).toNatClampNeg = i := ⟨nI_pos (by omega), nI_clamp (by omega)⟩
theorem Wp.ai {n a i : Nat} {c : Int32} {xs : List Nat} (hp : x_P k pc = some (.iaload, nx, c, xs)) (hk : M.1[a]? = some (true, 0, n)) (hi : i < n) (hn : n ≤ 65536) (h : Wp d k nx ls (.int (M.2.1 a i) :: st) M Q) : Wp d k pc ls (.int (nI i) :: .ref a :: st) M Q := by
  obtain ⟨h1, h2⟩ := x_ix hi hn
  refine Wp.go hp ?_ h
  simp [x_st, x_al, hk, h1, h2, hi]
theorem Wp.az {n a i : Nat} {c : Int32} {xs : List Nat} (hp : x_P k pc = some (.baload, nx, c, xs)) (hk : M.1[a]? = some (true, 1, n)) (hi : i < n) (hn : n ≤ 65536) (h : Wp d k nx ls (.int (M.2.1 a i) :: st) M Q) : Wp d k pc ls (.int (nI i) :: .ref a :: st) M Q := by
  obtain ⟨h1, h2⟩ := x_ix hi hn
  refine Wp.go hp ?_ h
  simp [x_st, x_al, hk, h1, h2, hi]
theorem Wp.aq {n a i t b : Nat} {c : Int32} {xs : List Nat} (hp : x_P k pc = some (.aaload, nx, c, xs)) (hk : M.1[a]? = some (true, t, n)) (ht : 2 ≤ t ∧ t < 5) (hi : i < n) (hn : n ≤ 65536) (hr : M.2.2.2 a i = some b) (h : Wp d k nx ls (.ref b :: st) M Q) : Wp d k pc ls (.int (nI i) :: .ref a :: st) M Q := by
  obtain ⟨h1, h2⟩ := x_ix hi hn
  refine Wp.go hp ?_ h
  simp [x_st, x_aq, hk, h1, h2, hi, ht, hr, va_rf]
theorem Wp.si {n a i : Nat} {c x : Int32} {xs : List Nat} (hp : x_P k pc = some (.iastore, nx, c, xs)) (hk : M.1[a]? = some (true, 0, n)) (hi : i < n) (hn : n ≤ 65536) (h : Wp d k nx ls st (M.1, x_u M.2.1 a i x, M.2.2) Q) : Wp d k pc ls (.int x :: .int (nI i) :: .ref a :: st) M Q := by
  obtain ⟨h1, h2⟩ := x_ix hi hn
  refine Wp.go hp ?_ h
  simp [x_st, x_as, hk, h1, h2, hi]
theorem Wp.sz {n a i : Nat} {c x : Int32} {xs : List Nat} (hp : x_P k pc = some (.bastore, nx, c, xs)) (hk : M.1[a]? = some (true, 1, n)) (hi : i < n) (hn : n ≤ 65536) (hx : x = 0 ∨ x = 1) (h : Wp d k nx ls st (M.1, x_u M.2.1 a i x, M.2.2) Q) : Wp d k pc ls (.int x :: .int (nI i) :: .ref a :: st) M Q := by
  obtain ⟨h1, h2⟩ := x_ix hi hn
  refine Wp.go hp ?_ h
  simp [x_st, x_as, hk, h1, h2, hi, hx]
theorem Wp.sq {n a i t b ci m : Nat} {c : Int32} {xs : List Nat} (hp : x_P k pc = some (.aastore, nx, c, xs)) (hk : M.1[a]? = some (true, t, n)) (ht : 2 ≤ t ∧ t < 5) (hb : M.1[b]? = some (false, ci, m)) (he : x_ec t = ci) (hi : i < n) (hn : n ≤ 65536) (h : Wp d k nx ls st (M.1, M.2.1, M.2.2.1, x_u M.2.2.2 a i (some b)) Q) : Wp d k pc ls (.ref b :: .int (nI i) :: .ref a :: st) M Q := by
  obtain ⟨h1, h2⟩ := x_ix hi hn
  refine Wp.go hp ?_ h
  simp [x_st, x_sq, hk, hb, h1, h2, hi, ht, he]
theorem Wp.sn {n a i t : Nat} {c : Int32} {xs : List Nat} (hp : x_P k pc = some (.aastore, nx, c, xs)) (hk : M.1[a]? = some (true, t, n)) (ht : 2 ≤ t ∧ t < 5) (hi : i < n) (hn : n ≤ 65536) (h : Wp d k nx ls st (M.1, M.2.1, M.2.2.1, x_u M.2.2.2 a i none) Q) : Wp d k pc ls (.null :: .int (nI i) :: .ref a :: st) M Q := by
  obtain ⟨h1, h2⟩ := x_ix hi hn
  refine Wp.go hp ?_ h
  simp [x_st, x_sq, hk, h1, h2, hi, ht]
theorem Wp.na {at' : ArrayType} {n t : Nat} {c : Int32} (hp : x_P k pc = some (.newarray at', nx, c, [t])) (hn : n ≤ 65536) (h : Wp d k nx ls (.ref M.1.length :: st) (x_new M (true, t, n)) Q) : Wp d k pc ls (.int (nI n) :: st) M Q := by
  have h1 : ¬ nI n < 0 := nI_pos (by omega)
  have h2 : (nI n).toNatClampNeg = n := nI_clamp (by omega)
  refine Wp.go hp ?_ h
  simp [x_st, x_na, h1, h2, hn]
theorem Wp.nq {ix n t : Nat} {c : Int32} (hp : x_P k pc = some (.anewarray ix, nx, c, [t])) (hn : n ≤ 65536) (h : Wp d k nx ls (.ref M.1.length :: st) (x_new M (true, t, n)) Q) : Wp d k pc ls (.int (nI n) :: st) M Q := by
  have h1 : ¬ nI n < 0 := nI_pos (by omega)
  have h2 : (nI n).toNatClampNeg = n := nI_clamp (by omega)
  refine Wp.go hp ?_ h
  simp [x_st, x_na, h1, h2, hn]
theorem Wp.ln {n a : Nat} {c : Int32} {xs : List Nat} (hp : x_P k pc = some (.arraylength, nx, c, xs)) (hk : M.1[a]? = some (true, 0, n)) (h : Wp d k nx ls (.int (nI n) :: st) M Q) : Wp d k pc ls (.ref a :: st) M Q := by
  refine Wp.go hp ?_ h
  simp [x_st, x_ln, hk]
/-- a call of a virtual method; the receiver's kind is in hand -/
theorem Wp.cv {ix k' ci na b m : Nat} {c : Int32} {as r : List Value} {Q' : xM → Option Value → Prop} (hp : x_P k pc = some (.invokevirtual ix, nx, c, [0, k', ci, na])) (hst : (st.take na).reverse = .ref b :: as) (hr : st.drop na = r) (hl : na ≤ st.length) (hk : M.1[b]? = some (false, ci, m)) (hc : (r.map fun v => v.category).sum ≤ 8)
    (he : Ev d k' M (.ref b :: as) Q') (h : ∀ M' v, Q' M' v → Wp d k nx ls (v.toList ++ r) M' Q) : Wp d k pc ls st M Q := by
  subst hr
  refine Wp.cl hp ?_ ?_ he h
  · cases d <;> simp [x_st, x_iv]
  · simp [x_cl, hl, hst, hk]
    rw [← List.map_drop]; exact hc
theorem Wp.cs {ix kd k' ci na : Nat} {c : Int32} {as r : List Value} {Q' : xM → Option Value → Prop} (hp : x_P k pc = some (.invokestatic ix, nx, c, [kd, k', ci, na])) (hst : (st.take na).reverse = as) (hr : st.drop na = r) (hl : na ≤ st.length) (hc : (r.map fun v => v.category).sum ≤ 8)
    (he : Ev d k' M as Q') (h : ∀ M' v, Q' M' v → Wp d k nx ls (v.toList ++ r) M' Q) : Wp d k pc ls st M Q := by
  subst hr
  subst hst
  refine Wp.cl hp ?_ ?_ he h
  · simp [x_st]
  · simp [x_cl, hl]
    rw [← List.map_drop]; exact hc
/-- a constructor: 3, or 6 where it's a nest mate's private one -/
theorem Wp.ci {ix kd k' ci na b : Nat} {c : Int32} {as r : List Value} {Q' : xM → Option Value → Prop} (hp : x_P k pc = some (.invokespecial ix, nx, c, [kd, k', ci, na])) (hkd : kd = 3 ∨ kd = 6) (hst : (st.take na).reverse = .ref b :: as) (hr : st.drop na = r) (hl : na ≤ st.length) (hc : (r.map fun v => v.category).sum ≤ 8)
    (he : Ev d k' M (.ref b :: as) Q') (h : ∀ M' v, Q' M' v → Wp d k nx ls (v.toList ++ r) M' Q) : Wp d k pc ls st M Q := by
  subst hr
  refine Wp.cl hp ?_ ?_ he h
  · cases d <;> rcases hkd with rfl | rfl <;> simp [x_st, x_iv]
  · simp [x_cl, hl, hst, hkd]
    rw [← List.map_drop]; exact hc
end WPR
end
section
/-! the words that the small machine rests on, each by its place in the tables (by program) -/
def x_ws : List Cond := lw_tbl.filter goodWord
theorem x_wi {w : Cond} (h : w ∈ lw_tbl) (hg : goodWord w = true) : w ∈ x_ws := List.mem_filter.mpr ⟨h, hg⟩
theorem x_tb {w : Cond} (h : w ∈ tables_1) : w ∈ lw_tbl := List.mem_append_right _ h
theorem x_e1 {w : Cond} (i : Nat) (h : tables_1_1[i]? = some w) : w ∈ lw_tbl := x_tb (List.mem_append_left _ (List.mem_of_getElem? h))
theorem x_e2 {w : Cond} (i : Nat) (h : tables_1_2[i]? = some w) : w ∈ lw_tbl := x_tb (List.mem_append_right _ (List.mem_append_left _ (List.mem_of_getElem? h)))
theorem x_e3 {w : Cond} (i : Nat) (h : tables_1_3[i]? = some w) : w ∈ lw_tbl := x_tb (List.mem_append_right _ (List.mem_append_right _ (List.mem_append_left _ (List.mem_of_getElem? h))))
theorem x_e4 {w : Cond} (i : Nat) (h : tables_1_4[i]? = some w) : w ∈ lw_tbl := x_tb (List.mem_append_right _ (List.mem_append_right _ (List.mem_append_right _ (List.mem_append_left _ (List.mem_of_getElem? h)))))
theorem x_e5 {w : Cond} (i : Nat) (h : tables_1_5[i]? = some w) : w ∈ lw_tbl := x_tb (List.mem_append_right _ (List.mem_append_right _ (List.mem_append_right _ (List.mem_append_right _ (List.mem_of_getElem? h)))))
theorem x_es {q : MethodName × Nat} (i : Nat) (h : lw_privs[i]? = some q) : Cond.selects q.1.cls q.1 q.1 ∈ lw_tbl := List.mem_append_left _ (List.mem_map.mpr ⟨q, List.mem_of_getElem? h, rfl⟩)
def x_fok (q : Nat × Nat × Nat × Nat × Nat × Nat) : Prop := Cond.fieldLink (xR q.1) q.2.1 (xT q.2.2.1 q.2.2.2.2.1).1 (xT q.2.2.1 q.2.2.2.2.1).2.1 (xT q.2.2.1 q.2.2.2.2.1).2.2.1 ∈ x_ws
def x_fT_0 : List (Nat × Nat × Nat × Nat × Nat × Nat) := [(0, 9, 0, 5, 0, 0), (0, 18, 0, 5, 2, 3), (0, 25, 0, 5, 3, 3), (0, 29, 0, 5, 4, 3), (0, 33, 0, 5, 1, 0), (1, 11, 1, 2, 0, 3), (1, 17, 1, 2, 1, 0), (1, 25, 6, 5, 3, 0), (1, 28, 6, 5, 4, 0), (2, 9, 2, 1, 0, 3), (3, 9, 3, 8, 0, 0), (3, 15, 3, 8, 1, 0), (3, 18, 3, 8, 2, 0), (3, 21, 3, 8, 3, 0), (3, 24, 3, 8, 4, 0), (3, 27, 3, 8, 5, 0), (3, 30, 3, 8, 6, 3), (3, 34, 3, 8, 7, 3), (3, 38, 7, 7, 0, 0), (4, 11, 4, 2, 0, 3)]
theorem x_fT_0_ok : ∀ q ∈ x_fT_0, x_fok q := List.forall_mem_cons.mpr ⟨x_wi (x_e1 130 rfl) rfl, List.forall_mem_cons.mpr ⟨x_wi (x_e1 136 rfl) rfl, List.forall_mem_cons.mpr ⟨x_wi (x_e1 138 rfl) rfl, List.forall_mem_cons.mpr ⟨x_wi (x_e1 140 rfl) rfl, List.forall_mem_cons.mpr ⟨x_wi (x_e1 133 rfl) rfl, List.forall_mem_cons.mpr ⟨x_wi (x_e1 32 rfl) rfl, List.forall_mem_cons.mpr ⟨x_wi (x_e1 33 rfl) rfl, List.forall_mem_cons.mpr ⟨x_wi (x_e1 224 rfl) rfl, List.forall_mem_cons.mpr ⟨x_wi (x_e1 226 rfl) rfl, List.forall_mem_cons.mpr ⟨x_wi (x_e1 116 rfl) rfl, List.forall_mem_cons.mpr ⟨x_wi (x_e2 107 rfl) rfl, List.forall_mem_cons.mpr ⟨x_wi (x_e2 110 rfl) rfl, List.forall_mem_cons.mpr ⟨x_wi (x_e2 113 rfl) rfl, List.forall_mem_cons.mpr ⟨x_wi (x_e2 115 rfl) rfl, List.forall_mem_cons.mpr ⟨x_wi (x_e2 117 rfl) rfl, List.forall_mem_cons.mpr ⟨x_wi (x_e2 119 rfl) rfl, List.forall_mem_cons.mpr ⟨x_wi (x_e2 122 rfl) rfl, List.forall_mem_cons.mpr ⟨x_wi (x_e2 124 rfl) rfl, List.forall_mem_cons.mpr ⟨x_wi (x_e1 63 rfl) rfl, List.forall_mem_cons.mpr ⟨x_wi (x_e1 47 rfl) rfl, fun _ h => absurd h List.not_mem_nil⟩⟩⟩⟩⟩⟩⟩⟩⟩⟩⟩⟩⟩⟩⟩⟩⟩⟩⟩⟩
def x_fT_1 : List (Nat × Nat × Nat × Nat × Nat × Nat) := [(4, 17, 4, 2, 1, 0), (5, 9, 5, 10, 3, 1), (5, 18, 5, 10, 5, 3), (5, 25, 5, 10, 8, 3), (5, 32, 5, 10, 9, 3), (5, 36, 5, 10, 0, 0), (5, 40, 5, 10, 1, 3), (5, 44, 5, 10, 2, 3), (5, 48, 5, 10, 6, 3), (5, 52, 5, 10, 7, 3), (5, 55, 0, 5, 0, 0), (5, 58, 5, 10, 4, 0), (5, 65, 7, 7, 0, 0), (5, 74, 0, 5, 1, 0), (5, 91, 0, 5, 3, 3), (5, 187, 3, 8, 0, 0), (5, 206, 3, 8, 3, 0), (5, 210, 3, 8, 7, 3), (5, 220, 3, 8, 1, 0), (5, 233, 3, 8, 6, 3)]
theorem x_fT_1_ok : ∀ q ∈ x_fT_1, x_fok q := List.forall_mem_cons.mpr ⟨x_wi (x_e1 48 rfl) rfl, List.forall_mem_cons.mpr ⟨x_wi (x_e1 155 rfl) rfl, List.forall_mem_cons.mpr ⟨x_wi (x_e1 159 rfl) rfl, List.forall_mem_cons.mpr ⟨x_wi (x_e1 165 rfl) rfl, List.forall_mem_cons.mpr ⟨x_wi (x_e1 166 rfl) rfl, List.forall_mem_cons.mpr ⟨x_wi (x_e1 152 rfl) rfl, List.forall_mem_cons.mpr ⟨x_wi (x_e1 153 rfl) rfl, List.forall_mem_cons.mpr ⟨x_wi (x_e1 154 rfl) rfl, List.forall_mem_cons.mpr ⟨x_wi (x_e1 161 rfl) rfl, List.forall_mem_cons.mpr ⟨x_wi (x_e1 163 rfl) rfl, List.forall_mem_cons.mpr ⟨x_wi (x_e1 131 rfl) rfl, List.forall_mem_cons.mpr ⟨x_wi (x_e1 157 rfl) rfl, List.forall_mem_cons.mpr ⟨x_wi (x_e1 64 rfl) rfl, List.forall_mem_cons.mpr ⟨x_wi (x_e1 134 rfl) rfl, List.forall_mem_cons.mpr ⟨x_wi (x_e1 139 rfl) rfl, List.forall_mem_cons.mpr ⟨x_wi (x_e2 109 rfl) rfl, List.forall_mem_cons.mpr ⟨x_wi (x_e2 116 rfl) rfl, List.forall_mem_cons.mpr ⟨x_wi (x_e2 125 rfl) rfl, List.forall_mem_cons.mpr ⟨x_wi (x_e2 112 rfl) rfl, List.forall_mem_cons.mpr ⟨x_wi (x_e2 123 rfl) rfl, fun _ h => absurd h List.not_mem_nil⟩⟩⟩⟩⟩⟩⟩⟩⟩⟩⟩⟩⟩⟩⟩⟩⟩⟩⟩⟩
def x_fT_2 : List (Nat × Nat × Nat × Nat × Nat × Nat) := [(5, 234, 0, 5, 2, 3), (5, 241, 3, 8, 4, 0), (5, 242, 3, 8, 5, 0), (6, 7, 6, 5, 0, 0), (6, 13, 6, 5, 1, 0), (6, 16, 6, 5, 2, 0), (7, 9, 7, 7, 0, 0), (7, 15, 7, 7, 1, 3), (7, 19, 7, 7, 2, 3), (7, 22, 7, 7, 4, 0), (7, 25, 7, 7, 5, 0), (7, 28, 7, 7, 6, 0), (7, 36, 7, 7, 3, 2), (7, 51, 6, 5, 1, 0), (7, 56, 6, 5, 0, 0), (7, 59, 6, 5, 2, 0), (8, 9, 8, 2, 0, 3), (8, 15, 8, 2, 1, 3), (9, 12, 9, 3, 0, 3), (9, 19, 9, 3, 1, 3)]
theorem x_fT_2_ok : ∀ q ∈ x_fT_2, x_fok q := List.forall_mem_cons.mpr ⟨x_wi (x_e1 137 rfl) rfl, List.forall_mem_cons.mpr ⟨x_wi (x_e2 118 rfl) rfl, List.forall_mem_cons.mpr ⟨x_wi (x_e2 121 rfl) rfl, List.forall_mem_cons.mpr ⟨x_wi (x_e1 218 rfl) rfl, List.forall_mem_cons.mpr ⟨x_wi (x_e1 220 rfl) rfl, List.forall_mem_cons.mpr ⟨x_wi (x_e1 222 rfl) rfl, List.forall_mem_cons.mpr ⟨x_wi (x_e1 62 rfl) rfl, List.forall_mem_cons.mpr ⟨x_wi (x_e1 66 rfl) rfl, List.forall_mem_cons.mpr ⟨x_wi (x_e1 68 rfl) rfl, List.forall_mem_cons.mpr ⟨x_wi (x_e1 70 rfl) rfl, List.forall_mem_cons.mpr ⟨x_wi (x_e1 71 rfl) rfl, List.forall_mem_cons.mpr ⟨x_wi (x_e1 72 rfl) rfl, List.forall_mem_cons.mpr ⟨x_wi (x_e1 69 rfl) rfl, List.forall_mem_cons.mpr ⟨x_wi (x_e1 221 rfl) rfl, List.forall_mem_cons.mpr ⟨x_wi (x_e1 219 rfl) rfl, List.forall_mem_cons.mpr ⟨x_wi (x_e1 223 rfl) rfl, List.forall_mem_cons.mpr ⟨x_wi (x_e1 100 rfl) rfl, List.forall_mem_cons.mpr ⟨x_wi (x_e1 101 rfl) rfl, List.forall_mem_cons.mpr ⟨x_wi (x_e1 189 rfl) rfl, List.forall_mem_cons.mpr ⟨x_wi (x_e1 190 rfl) rfl, fun _ h => absurd h List.not_mem_nil⟩⟩⟩⟩⟩⟩⟩⟩⟩⟩⟩⟩⟩⟩⟩⟩⟩⟩⟩⟩
def x_fT_3 : List (Nat × Nat × Nat × Nat × Nat × Nat) := [(9, 25, 9, 3, 2, 3), (9, 59, 5, 10, 3, 1), (9, 74, 3, 8, 2, 0), (9, 94, 5, 10, 7, 3), (9, 102, 7, 7, 0, 0), (9, 108, 3, 8, 0, 0), (9, 111, 3, 8, 1, 0), (9, 120, 3, 8, 5, 0), (9, 123, 5, 10, 4, 0), (9, 126, 5, 10, 6, 3), (9, 133, 5, 10, 9, 3), (9, 137, 0, 5, 0, 0), (9, 148, 0, 5, 1, 0), (9, 151, 7, 7, 1, 3), (9, 158, 5, 10, 5, 3), (9, 173, 6, 5, 3, 0), (9, 176, 6, 5, 4, 0), (10, 7, 10, 42, 1, 3), (10, 13, 10, 42, 2, 3), (10, 16, 10, 42, 3, 3)]
theorem x_fT_3_ok : ∀ q ∈ x_fT_3, x_fok q := List.forall_mem_cons.mpr ⟨x_wi (x_e1 191 rfl) rfl, List.forall_mem_cons.mpr ⟨x_wi (x_e1 156 rfl) rfl, List.forall_mem_cons.mpr ⟨x_wi (x_e2 114 rfl) rfl, List.forall_mem_cons.mpr ⟨x_wi (x_e1 164 rfl) rfl, List.forall_mem_cons.mpr ⟨x_wi (x_e1 65 rfl) rfl, List.forall_mem_cons.mpr ⟨x_wi (x_e2 108 rfl) rfl, List.forall_mem_cons.mpr ⟨x_wi (x_e2 111 rfl) rfl, List.forall_mem_cons.mpr ⟨x_wi (x_e2 120 rfl) rfl, List.forall_mem_cons.mpr ⟨x_wi (x_e1 158 rfl) rfl, List.forall_mem_cons.mpr ⟨x_wi (x_e1 162 rfl) rfl, List.forall_mem_cons.mpr ⟨x_wi (x_e1 167 rfl) rfl, List.forall_mem_cons.mpr ⟨x_wi (x_e1 132 rfl) rfl, List.forall_mem_cons.mpr ⟨x_wi (x_e1 135 rfl) rfl, List.forall_mem_cons.mpr ⟨x_wi (x_e1 67 rfl) rfl, List.forall_mem_cons.mpr ⟨x_wi (x_e1 160 rfl) rfl, List.forall_mem_cons.mpr ⟨x_wi (x_e1 225 rfl) rfl, List.forall_mem_cons.mpr ⟨x_wi (x_e1 227 rfl) rfl, List.forall_mem_cons.mpr ⟨x_wi (x_e3 185 rfl) rfl, List.forall_mem_cons.mpr ⟨x_wi (x_e3 186 rfl) rfl, List.forall_mem_cons.mpr ⟨x_wi (x_e3 187 rfl) rfl, fun _ h => absurd h List.not_mem_nil⟩⟩⟩⟩⟩⟩⟩⟩⟩⟩⟩⟩⟩⟩⟩⟩⟩⟩⟩⟩
def x_fT_4 : List (Nat × Nat × Nat × Nat × Nat × Nat) := [(10, 19, 10, 42, 4, 3), (10, 22, 10, 42, 5, 3), (10, 25, 10, 42, 6, 3), (10, 28, 10, 42, 7, 0), (10, 32, 10, 42, 8, 3), (10, 35, 10, 42, 9, 3), (10, 38, 10, 42, 10, 3), (10, 41, 10, 42, 11, 3), (10, 44, 10, 42, 12, 3), (10, 47, 10, 42, 13, 3), (10, 50, 10, 42, 14, 3), (10, 53, 10, 42, 15, 3), (10, 56, 10, 42, 16, 3), (10, 59, 10, 42, 17, 3), (10, 62, 10, 42, 18, 3), (10, 65, 10, 42, 19, 3), (10, 68, 10, 42, 22, 3), (10, 71, 10, 42, 23, 3), (10, 74, 10, 42, 24, 3), (10, 77, 10, 42, 25, 3)]
theorem x_fT_4_ok : ∀ q ∈ x_fT_4, x_fok q := List.forall_mem_cons.mpr ⟨x_wi (x_e3 188 rfl) rfl, List.forall_mem_cons.mpr ⟨x_wi (x_e3 189 rfl) rfl, List.forall_mem_cons.mpr ⟨x_wi (x_e3 190 rfl) rfl, List.forall_mem_cons.mpr ⟨x_wi (x_e3 191 rfl) rfl, List.forall_mem_cons.mpr ⟨x_wi (x_e3 192 rfl) rfl, List.forall_mem_cons.mpr ⟨x_wi (x_e3 193 rfl) rfl, List.forall_mem_cons.mpr ⟨x_wi (x_e3 194 rfl) rfl, List.forall_mem_cons.mpr ⟨x_wi (x_e3 195 rfl) rfl, List.forall_mem_cons.mpr ⟨x_wi (x_e3 196 rfl) rfl, List.forall_mem_cons.mpr ⟨x_wi (x_e3 197 rfl) rfl, List.forall_mem_cons.mpr ⟨x_wi (x_e3 198 rfl) rfl, List.forall_mem_cons.mpr ⟨x_wi (x_e3 199 rfl) rfl, List.forall_mem_cons.mpr ⟨x_wi (x_e3 200 rfl) rfl, List.forall_mem_cons.mpr ⟨x_wi (x_e3 201 rfl) rfl, List.forall_mem_cons.mpr ⟨x_wi (x_e3 202 rfl) rfl, List.forall_mem_cons.mpr ⟨x_wi (x_e3 203 rfl) rfl, List.forall_mem_cons.mpr ⟨x_wi (x_e3 206 rfl) rfl, List.forall_mem_cons.mpr ⟨x_wi (x_e3 207 rfl) rfl, List.forall_mem_cons.mpr ⟨x_wi (x_e3 208 rfl) rfl, List.forall_mem_cons.mpr ⟨x_wi (x_e3 209 rfl) rfl, fun _ h => absurd h List.not_mem_nil⟩⟩⟩⟩⟩⟩⟩⟩⟩⟩⟩⟩⟩⟩⟩⟩⟩⟩⟩⟩
def x_fT_5 : List (Nat × Nat × Nat × Nat × Nat × Nat) := [(10, 80, 10, 42, 26, 3), (10, 83, 10, 42, 27, 3), (10, 86, 10, 42, 28, 3), (10, 89, 10, 42, 29, 3), (10, 92, 10, 42, 30, 3), (10, 95, 10, 42, 36, 3), (10, 98, 10, 42, 37, 3), (10, 101, 10, 42, 38, 3), (10, 104, 10, 42, 39, 3), (10, 108, 10, 42, 40, 3), (10, 111, 10, 42, 41, 3), (10, 126, 10, 42, 20, 0), (10, 129, 10, 42, 21, 0), (10, 174, 10, 42, 33, 0), (10, 177, 10, 42, 31, 0), (10, 180, 10, 42, 35, 0), (10, 189, 10, 42, 32, 0), (10, 192, 10, 42, 34, 0), (10, 213, 10, 42, 0, 0)]
theorem x_fT_5_ok : ∀ q ∈ x_fT_5, x_fok q := List.forall_mem_cons.mpr ⟨x_wi (x_e3 210 rfl) rfl, List.forall_mem_cons.mpr ⟨x_wi (x_e3 211 rfl) rfl, List.forall_mem_cons.mpr ⟨x_wi (x_e3 212 rfl) rfl, List.forall_mem_cons.mpr ⟨x_wi (x_e3 213 rfl) rfl, List.forall_mem_cons.mpr ⟨x_wi (x_e3 214 rfl) rfl, List.forall_mem_cons.mpr ⟨x_wi (x_e3 220 rfl) rfl, List.forall_mem_cons.mpr ⟨x_wi (x_e3 221 rfl) rfl, List.forall_mem_cons.mpr ⟨x_wi (x_e3 222 rfl) rfl, List.forall_mem_cons.mpr ⟨x_wi (x_e3 223 rfl) rfl, List.forall_mem_cons.mpr ⟨x_wi (x_e3 224 rfl) rfl, List.forall_mem_cons.mpr ⟨x_wi (x_e3 225 rfl) rfl, List.forall_mem_cons.mpr ⟨x_wi (x_e3 204 rfl) rfl, List.forall_mem_cons.mpr ⟨x_wi (x_e3 205 rfl) rfl, List.forall_mem_cons.mpr ⟨x_wi (x_e3 217 rfl) rfl, List.forall_mem_cons.mpr ⟨x_wi (x_e3 215 rfl) rfl, List.forall_mem_cons.mpr ⟨x_wi (x_e3 219 rfl) rfl, List.forall_mem_cons.mpr ⟨x_wi (x_e3 216 rfl) rfl, List.forall_mem_cons.mpr ⟨x_wi (x_e3 218 rfl) rfl, List.forall_mem_cons.mpr ⟨x_wi (x_e3 184 rfl) rfl, fun _ h => absurd h List.not_mem_nil⟩⟩⟩⟩⟩⟩⟩⟩⟩⟩⟩⟩⟩⟩⟩⟩⟩⟩⟩
def x_fT : List (Nat × Nat × Nat × Nat × Nat × Nat) := x_fT_0 ++ (x_fT_1 ++ (x_fT_2 ++ (x_fT_3 ++ (x_fT_4 ++ (x_fT_5)))))
theorem x_fT_ok : ∀ q ∈ x_fT, x_fok q := List.forall_mem_append.mpr ⟨x_fT_0_ok, List.forall_mem_append.mpr ⟨x_fT_1_ok, List.forall_mem_append.mpr ⟨x_fT_2_ok, List.forall_mem_append.mpr ⟨x_fT_3_ok, List.forall_mem_append.mpr ⟨x_fT_4_ok, x_fT_5_ok⟩⟩⟩⟩⟩
def x_clok (c : Nat) : Prop := (∀ w ∈ u_ws (xR c) (xT c) (xN c), w ∈ x_ws) ∧ Cond.instantiable (xR c) (xN c) ∈ x_ws ∧ Cond.initialized (xR c) ∈ x_ws ∧ (∀ a, a < xN c → ∀ b, b < xN c → a ≠ b → (xT c a).2.1 ≠ (xT c b).2.1) ∧ ∀ k, k < xN c → parseFieldDescriptor (xT c k).2.2.1 = some (xy c k)
set_option maxRecDepth 20000 in
theorem x_clok0 : x_clok 0 := ⟨List.forall_mem_cons.mpr ⟨x_wi (x_e1 141 rfl) rfl, List.forall_mem_cons.mpr ⟨x_wi (x_e1 143 rfl) rfl, List.forall_mem_cons.mpr ⟨x_wi (x_e1 145 rfl) rfl, List.forall_mem_cons.mpr ⟨x_wi (x_e1 147 rfl) rfl, List.forall_mem_cons.mpr ⟨x_wi (x_e1 149 rfl) rfl, fun _ h => absurd h List.not_mem_nil⟩⟩⟩⟩⟩, x_wi (x_e1 121 rfl) rfl, x_wi (x_e1 9 rfl) rfl, by decide +kernel, by decide +kernel⟩
set_option maxRecDepth 20000 in
theorem x_clok1 : x_clok 1 := ⟨List.forall_mem_cons.mpr ⟨x_wi (x_e1 34 rfl) rfl, List.forall_mem_cons.mpr ⟨x_wi (x_e1 36 rfl) rfl, fun _ h => absurd h List.not_mem_nil⟩⟩, x_wi (x_e1 25 rfl) rfl, x_wi (x_e1 2 rfl) rfl, by decide +kernel, by decide +kernel⟩
set_option maxRecDepth 20000 in
theorem x_clok2 : x_clok 2 := ⟨List.forall_mem_cons.mpr ⟨x_wi (x_e1 117 rfl) rfl, fun _ h => absurd h List.not_mem_nil⟩, x_wi (x_e1 108 rfl) rfl, x_wi (x_e1 7 rfl) rfl, by decide +kernel, by decide +kernel⟩
set_option maxRecDepth 20000 in
theorem x_clok3 : x_clok 3 := ⟨List.forall_mem_cons.mpr ⟨x_wi (x_e2 126 rfl) rfl, List.forall_mem_cons.mpr ⟨x_wi (x_e2 128 rfl) rfl, List.forall_mem_cons.mpr ⟨x_wi (x_e2 130 rfl) rfl, List.forall_mem_cons.mpr ⟨x_wi (x_e2 132 rfl) rfl, List.forall_mem_cons.mpr ⟨x_wi (x_e2 134 rfl) rfl, List.forall_mem_cons.mpr ⟨x_wi (x_e2 136 rfl) rfl, List.forall_mem_cons.mpr ⟨x_wi (x_e2 138 rfl) rfl, List.forall_mem_cons.mpr ⟨x_wi (x_e2 140 rfl) rfl, fun _ h => absurd h List.not_mem_nil⟩⟩⟩⟩⟩⟩⟩⟩, x_wi (x_e2 102 rfl) rfl, x_wi (x_e1 13 rfl) rfl, by decide +kernel, by decide +kernel⟩
set_option maxRecDepth 20000 in
theorem x_clok4 : x_clok 4 := ⟨List.forall_mem_cons.mpr ⟨x_wi (x_e1 49 rfl) rfl, List.forall_mem_cons.mpr ⟨x_wi (x_e1 51 rfl) rfl, fun _ h => absurd h List.not_mem_nil⟩⟩, x_wi (x_e1 40 rfl) rfl, x_wi (x_e1 3 rfl) rfl, by decide +kernel, by decide +kernel⟩
set_option maxRecDepth 20000 in
theorem x_clok5 : x_clok 5 := ⟨List.forall_mem_cons.mpr ⟨x_wi (x_e1 168 rfl) rfl, List.forall_mem_cons.mpr ⟨x_wi (x_e1 170 rfl) rfl, List.forall_mem_cons.mpr ⟨x_wi (x_e1 172 rfl) rfl, List.forall_mem_cons.mpr ⟨x_wi (x_e1 174 rfl) rfl, List.forall_mem_cons.mpr ⟨x_wi (x_e1 176 rfl) rfl, List.forall_mem_cons.mpr ⟨x_wi (x_e1 178 rfl) rfl, List.forall_mem_cons.mpr ⟨x_wi (x_e1 180 rfl) rfl, List.forall_mem_cons.mpr ⟨x_wi (x_e1 182 rfl) rfl, List.forall_mem_cons.mpr ⟨x_wi (x_e1 184 rfl) rfl, List.forall_mem_cons.mpr ⟨x_wi (x_e1 186 rfl) rfl, fun _ h => absurd h List.not_mem_nil⟩⟩⟩⟩⟩⟩⟩⟩⟩⟩, x_wi (x_e1 89 rfl) rfl, x_wi (x_e1 5 rfl) rfl, by decide +kernel, by decide +kernel⟩
set_option maxRecDepth 20000 in
theorem x_clok6 : x_clok 6 := ⟨List.forall_mem_cons.mpr ⟨x_wi (x_e1 228 rfl) rfl, List.forall_mem_cons.mpr ⟨x_wi (x_e1 230 rfl) rfl, List.forall_mem_cons.mpr ⟨x_wi (x_e1 232 rfl) rfl, List.forall_mem_cons.mpr ⟨x_wi (x_e1 234 rfl) rfl, List.forall_mem_cons.mpr ⟨x_wi (x_e1 236 rfl) rfl, fun _ h => absurd h List.not_mem_nil⟩⟩⟩⟩⟩, x_wi (x_e1 213 rfl) rfl, x_wi (x_e1 12 rfl) rfl, by decide +kernel, by decide +kernel⟩
set_option maxRecDepth 20000 in
theorem x_clok7 : x_clok 7 := ⟨List.forall_mem_cons.mpr ⟨x_wi (x_e1 73 rfl) rfl, List.forall_mem_cons.mpr ⟨x_wi (x_e1 75 rfl) rfl, List.forall_mem_cons.mpr ⟨x_wi (x_e1 77 rfl) rfl, List.forall_mem_cons.mpr ⟨x_wi (x_e1 79 rfl) rfl, List.forall_mem_cons.mpr ⟨x_wi (x_e1 81 rfl) rfl, List.forall_mem_cons.mpr ⟨x_wi (x_e1 83 rfl) rfl, List.forall_mem_cons.mpr ⟨x_wi (x_e1 85 rfl) rfl, fun _ h => absurd h List.not_mem_nil⟩⟩⟩⟩⟩⟩⟩, x_wi (x_e1 57 rfl) rfl, x_wi (x_e1 4 rfl) rfl, by decide +kernel, by decide +kernel⟩
set_option maxRecDepth 20000 in
theorem x_clok8 : x_clok 8 := ⟨List.forall_mem_cons.mpr ⟨x_wi (x_e1 102 rfl) rfl, List.forall_mem_cons.mpr ⟨x_wi (x_e1 104 rfl) rfl, fun _ h => absurd h List.not_mem_nil⟩⟩, x_wi (x_e1 95 rfl) rfl, x_wi (x_e1 6 rfl) rfl, by decide +kernel, by decide +kernel⟩
set_option maxRecDepth 20000 in
theorem x_clok9 : x_clok 9 := ⟨List.forall_mem_cons.mpr ⟨x_wi (x_e1 192 rfl) rfl, List.forall_mem_cons.mpr ⟨x_wi (x_e1 194 rfl) rfl, List.forall_mem_cons.mpr ⟨x_wi (x_e1 196 rfl) rfl, fun _ h => absurd h List.not_mem_nil⟩⟩⟩, x_wi (x_e1 17 rfl) rfl, x_wi (x_e1 1 rfl) rfl, by decide +kernel, by decide +kernel⟩
set_option maxRecDepth 20000 in
theorem x_clok10 : x_clok 10 := ⟨List.forall_mem_cons.mpr ⟨x_wi (x_e3 226 rfl) rfl, List.forall_mem_cons.mpr ⟨x_wi (x_e3 228 rfl) rfl, List.forall_mem_cons.mpr ⟨x_wi (x_e3 230 rfl) rfl, List.forall_mem_cons.mpr ⟨x_wi (x_e3 232 rfl) rfl, List.forall_mem_cons.mpr ⟨x_wi (x_e3 234 rfl) rfl, List.forall_mem_cons.mpr ⟨x_wi (x_e3 236 rfl) rfl, List.forall_mem_cons.mpr ⟨x_wi (x_e3 238 rfl) rfl, List.forall_mem_cons.mpr ⟨x_wi (x_e4 0 rfl) rfl, List.forall_mem_cons.mpr ⟨x_wi (x_e4 2 rfl) rfl, List.forall_mem_cons.mpr ⟨x_wi (x_e4 4 rfl) rfl, List.forall_mem_cons.mpr ⟨x_wi (x_e4 6 rfl) rfl, List.forall_mem_cons.mpr ⟨x_wi (x_e4 8 rfl) rfl, List.forall_mem_cons.mpr ⟨x_wi (x_e4 10 rfl) rfl, List.forall_mem_cons.mpr ⟨x_wi (x_e4 12 rfl) rfl, List.forall_mem_cons.mpr ⟨x_wi (x_e4 14 rfl) rfl, List.forall_mem_cons.mpr ⟨x_wi (x_e4 16 rfl) rfl, List.forall_mem_cons.mpr ⟨x_wi (x_e4 18 rfl) rfl, List.forall_mem_cons.mpr ⟨x_wi (x_e4 20 rfl) rfl, List.forall_mem_cons.mpr ⟨x_wi (x_e4 22 rfl) rfl, List.forall_mem_cons.mpr ⟨x_wi (x_e4 24 rfl) rfl, List.forall_mem_cons.mpr ⟨x_wi (x_e4 26 rfl) rfl, List.forall_mem_cons.mpr ⟨x_wi (x_e4 28 rfl) rfl, List.forall_mem_cons.mpr ⟨x_wi (x_e4 30 rfl) rfl, List.forall_mem_cons.mpr ⟨x_wi (x_e4 32 rfl) rfl, List.forall_mem_cons.mpr ⟨x_wi (x_e4 34 rfl) rfl, List.forall_mem_cons.mpr ⟨x_wi (x_e4 36 rfl) rfl, List.forall_mem_cons.mpr ⟨x_wi (x_e4 38 rfl) rfl, List.forall_mem_cons.mpr ⟨x_wi (x_e4 40 rfl) rfl, List.forall_mem_cons.mpr ⟨x_wi (x_e4 42 rfl) rfl, List.forall_mem_cons.mpr ⟨x_wi (x_e4 44 rfl) rfl, List.forall_mem_cons.mpr ⟨x_wi (x_e4 46 rfl) rfl, List.forall_mem_cons.mpr ⟨x_wi (x_e4 48 rfl) rfl, List.forall_mem_cons.mpr ⟨x_wi (x_e4 50 rfl) rfl, List.forall_mem_cons.mpr ⟨x_wi (x_e4 52 rfl) rfl, List.forall_mem_cons.mpr ⟨x_wi (x_e4 54 rfl) rfl, List.forall_mem_cons.mpr ⟨x_wi (x_e4 56 rfl) rfl, List.forall_mem_cons.mpr ⟨x_wi (x_e4 58 rfl) rfl, List.forall_mem_cons.mpr ⟨x_wi (x_e4 60 rfl) rfl, List.forall_mem_cons.mpr ⟨x_wi (x_e4 62 rfl) rfl, List.forall_mem_cons.mpr ⟨x_wi (x_e4 64 rfl) rfl, List.forall_mem_cons.mpr ⟨x_wi (x_e4 66 rfl) rfl, List.forall_mem_cons.mpr ⟨x_wi (x_e4 68 rfl) rfl, fun _ h => absurd h List.not_mem_nil⟩⟩⟩⟩⟩⟩⟩⟩⟩⟩⟩⟩⟩⟩⟩⟩⟩⟩⟩⟩⟩⟩⟩⟩⟩⟩⟩⟩⟩⟩⟩⟩⟩⟩⟩⟩⟩⟩⟩⟩⟩⟩, x_wi (x_e3 179 rfl) rfl, x_wi (x_e1 10 rfl) rfl, by decide +kernel, by decide +kernel⟩
theorem x_cl_ok : ∀ c, c < 11 → x_clok c := by
  intro c hc
  match c, hc with
  | 0, _ => exact x_clok0
  | 1, _ => exact x_clok1
  | 2, _ => exact x_clok2
  | 3, _ => exact x_clok3
  | 4, _ => exact x_clok4
  | 5, _ => exact x_clok5
  | 6, _ => exact x_clok6
  | 7, _ => exact x_clok7
  | 8, _ => exact x_clok8
  | 9, _ => exact x_clok9
  | 10, _ => exact x_clok10
  | _ + 11, h => omega
/-- a method: its code, its class is initialised, it is static or an instance's, and a virtual call of it finds it -/
def x_sL : List Nat := [0, 0, 0, 0, 0, 0, 0, 0, 0, 0, 0, 0, 0, 0, 0, 0, 0, 0, 0, 0, 0, 0, 0, 0, 0, 0, 0, 0, 0, 0, 0, 0, 0, 0, 0, 0, 0, 0, 0, 0, 0, 0, 0, 0, 0, 0, 0, 0, 0, 0, 0, 0, 0, 0, 0, 0, 0, 0, 0, 0, 0, 0, 0, 0, 0, 0, 0, 0, 0, 0, 0, 0, 0, 0, 0, 1, 0, 1, 1, 1, 0, 0, 0, 0, 0, 0, 0, 0, 0, 0, 0, 0, 0, 0, 0, 0, 0, 1, 0, 1, 0, 0, 0, 0, 0, 0, 0, 1, 0, 0, 0, 0, 0, 0, 0, 0, 0, 0, 0, 0, 0, 0, 0, 0, 0, 0, 0, 0, 0, 0, 0, 0, 0, 0, 0, 0, 0, 0, 0, 0, 0, 1, 1, 1, 1, 1]
def x_mok (k : Nat) : Prop := Cond.code (x_m k).1 (x_b k) (x_nL k) (x_m k).2.2.1 ∈ x_ws ∧ Cond.initialized (xR (x_m k).2.2.2) ∈ x_ws ∧ (x_sL.getD k 0 = 1 → Cond.static (x_m k).1 ∈ x_ws) ∧ (x_sL.getD k 0 = 0 → Cond.instanceMethod (x_m k).1 ∈ x_ws ∧ ((x_m k).1.name = "<init>" ∨ Cond.selects (xR (x_m k).2.2.2) (x_m k).1 (x_m k).1 ∈ x_ws))
theorem x_mok0 : x_mok 0 := ⟨x_wi (x_e1 124 rfl) rfl, x_wi (x_e1 9 rfl) rfl, fun h => absurd h (by decide), fun _ => ⟨x_wi (x_e1 123 rfl) rfl, Or.inl rfl⟩⟩
theorem x_mok1 : x_mok 1 := ⟨x_wi (x_e2 78 rfl) rfl, x_wi (x_e1 9 rfl) rfl, fun h => absurd h (by decide), fun _ => ⟨x_wi (x_e2 76 rfl) rfl, Or.inr (x_wi (x_e2 77 rfl) rfl)⟩⟩
theorem x_mok2 : x_mok 2 := ⟨x_wi (x_e2 92 rfl) rfl, x_wi (x_e1 9 rfl) rfl, fun h => absurd h (by decide), fun _ => ⟨x_wi (x_e2 90 rfl) rfl, Or.inr (x_wi (x_e2 91 rfl) rfl)⟩⟩
theorem x_mok3 : x_mok 3 := ⟨x_wi (x_e2 170 rfl) rfl, x_wi (x_e1 9 rfl) rfl, fun h => absurd h (by decide), fun _ => ⟨x_wi (x_e2 168 rfl) rfl, Or.inr (x_wi (x_e2 169 rfl) rfl)⟩⟩
theorem x_mok4 : x_mok 4 := ⟨x_wi (x_e2 185 rfl) rfl, x_wi (x_e1 9 rfl) rfl, fun h => absurd h (by decide), fun _ => ⟨x_wi (x_e2 183 rfl) rfl, Or.inr (x_wi (x_e2 184 rfl) rfl)⟩⟩
theorem x_mok5 : x_mok 5 := ⟨x_wi (x_e3 105 rfl) rfl, x_wi (x_e1 9 rfl) rfl, fun h => absurd h (by decide), fun _ => ⟨x_wi (x_e3 103 rfl) rfl, Or.inr (x_wi (x_e3 104 rfl) rfl)⟩⟩
theorem x_mok6 : x_mok 6 := ⟨x_wi (x_e1 28 rfl) rfl, x_wi (x_e1 2 rfl) rfl, fun h => absurd h (by decide), fun _ => ⟨x_wi (x_e1 27 rfl) rfl, Or.inl rfl⟩⟩
theorem x_mok7 : x_mok 7 := ⟨x_wi (x_e2 2 rfl) rfl, x_wi (x_e1 2 rfl) rfl, fun h => absurd h (by decide), fun _ => ⟨x_wi (x_e2 0 rfl) rfl, Or.inr (x_wi (x_e2 1 rfl) rfl)⟩⟩
theorem x_mok8 : x_mok 8 := ⟨x_wi (x_e2 10 rfl) rfl, x_wi (x_e1 2 rfl) rfl, fun h => absurd h (by decide), fun _ => ⟨x_wi (x_e2 8 rfl) rfl, Or.inr (x_wi (x_e2 9 rfl) rfl)⟩⟩
theorem x_mok9 : x_mok 9 := ⟨x_wi (x_e2 30 rfl) rfl, x_wi (x_e1 2 rfl) rfl, fun h => absurd h (by decide), fun _ => ⟨x_wi (x_e2 28 rfl) rfl, Or.inr (x_wi (x_e2 29 rfl) rfl)⟩⟩
theorem x_mok10 : x_mok 10 := ⟨x_wi (x_e1 111 rfl) rfl, x_wi (x_e1 7 rfl) rfl, fun h => absurd h (by decide), fun _ => ⟨x_wi (x_e1 110 rfl) rfl, Or.inl rfl⟩⟩
theorem x_mok11 : x_mok 11 := ⟨x_wi (x_e2 39 rfl) rfl, x_wi (x_e1 7 rfl) rfl, fun h => absurd h (by decide), fun _ => ⟨x_wi (x_e2 37 rfl) rfl, Or.inr (x_wi (x_e2 38 rfl) rfl)⟩⟩
theorem x_mok12 : x_mok 12 := ⟨x_wi (x_e2 43 rfl) rfl, x_wi (x_e1 7 rfl) rfl, fun h => absurd h (by decide), fun _ => ⟨x_wi (x_e2 41 rfl) rfl, Or.inr (x_wi (x_e2 42 rfl) rfl)⟩⟩
theorem x_mok13 : x_mok 13 := ⟨x_wi (x_e2 59 rfl) rfl, x_wi (x_e1 7 rfl) rfl, fun h => absurd h (by decide), fun _ => ⟨x_wi (x_e2 57 rfl) rfl, Or.inr (x_wi (x_e2 58 rfl) rfl)⟩⟩
theorem x_mok14 : x_mok 14 := ⟨x_wi (x_e2 83 rfl) rfl, x_wi (x_e1 7 rfl) rfl, fun h => absurd h (by decide), fun _ => ⟨x_wi (x_e2 81 rfl) rfl, Or.inr (x_wi (x_e2 82 rfl) rfl)⟩⟩
theorem x_mok15 : x_mok 15 := ⟨x_wi (x_e2 210 rfl) rfl, x_wi (x_e1 7 rfl) rfl, fun h => absurd h (by decide), fun _ => ⟨x_wi (x_e2 208 rfl) rfl, Or.inr (x_wi (x_e2 209 rfl) rfl)⟩⟩
theorem x_mok16 : x_mok 16 := ⟨x_wi (x_e3 78 rfl) rfl, x_wi (x_e1 7 rfl) rfl, fun h => absurd h (by decide), fun _ => ⟨x_wi (x_e3 76 rfl) rfl, Or.inr (x_wi (x_e3 77 rfl) rfl)⟩⟩
theorem x_mok17 : x_mok 17 := ⟨x_wi (x_e2 105 rfl) rfl, x_wi (x_e1 13 rfl) rfl, fun h => absurd h (by decide), fun _ => ⟨x_wi (x_e2 104 rfl) rfl, Or.inl rfl⟩⟩
theorem x_mok18 : x_mok 18 := ⟨x_wi (x_e3 4 rfl) rfl, x_wi (x_e1 13 rfl) rfl, fun h => absurd h (by decide), fun _ => ⟨x_wi (x_e3 3 rfl) rfl, Or.inl rfl⟩⟩
theorem x_mok19 : x_mok 19 := ⟨x_wi (x_e3 132 rfl) rfl, x_wi (x_e1 13 rfl) rfl, fun h => absurd h (by decide), fun _ => ⟨x_wi (x_e3 130 rfl) rfl, Or.inr (x_wi (x_e3 131 rfl) rfl)⟩⟩
theorem x_mok20 : x_mok 20 := ⟨x_wi (x_e3 136 rfl) rfl, x_wi (x_e1 13 rfl) rfl, fun h => absurd h (by decide), fun _ => ⟨x_wi (x_e3 134 rfl) rfl, Or.inr (x_wi (x_e3 135 rfl) rfl)⟩⟩
theorem x_mok21 : x_mok 21 := ⟨x_wi (x_e1 43 rfl) rfl, x_wi (x_e1 3 rfl) rfl, fun h => absurd h (by decide), fun _ => ⟨x_wi (x_e1 42 rfl) rfl, Or.inl rfl⟩⟩
theorem x_mok22 : x_mok 22 := ⟨x_wi (x_e2 146 rfl) rfl, x_wi (x_e1 3 rfl) rfl, fun h => absurd h (by decide), fun _ => ⟨x_wi (x_e2 144 rfl) rfl, Or.inr (x_wi (x_e2 145 rfl) rfl)⟩⟩
theorem x_mok23 : x_mok 23 := ⟨x_wi (x_e2 154 rfl) rfl, x_wi (x_e1 3 rfl) rfl, fun h => absurd h (by decide), fun _ => ⟨x_wi (x_e2 152 rfl) rfl, Or.inr (x_wi (x_e2 153 rfl) rfl)⟩⟩
theorem x_mok24 : x_mok 24 := ⟨x_wi (x_e2 218 rfl) rfl, x_wi (x_e1 3 rfl) rfl, fun h => absurd h (by decide), fun _ => ⟨x_wi (x_e2 216 rfl) rfl, Or.inr (x_wi (x_e2 217 rfl) rfl)⟩⟩
theorem x_mok25 : x_mok 25 := ⟨x_wi (x_e2 222 rfl) rfl, x_wi (x_e1 3 rfl) rfl, fun h => absurd h (by decide), fun _ => ⟨x_wi (x_e2 220 rfl) rfl, Or.inr (x_wi (x_e2 221 rfl) rfl)⟩⟩
theorem x_mok26 : x_mok 26 := ⟨x_wi (x_e1 92 rfl) rfl, x_wi (x_e1 5 rfl) rfl, fun h => absurd h (by decide), fun _ => ⟨x_wi (x_e1 91 rfl) rfl, Or.inl rfl⟩⟩
theorem x_mok27 : x_mok 27 := ⟨x_wi (x_e2 17 rfl) rfl, x_wi (x_e1 5 rfl) rfl, fun h => absurd h (by decide), fun _ => ⟨x_wi (x_e2 15 rfl) rfl, Or.inr (x_wi (x_e2 16 rfl) rfl)⟩⟩
theorem x_mok28 : x_mok 28 := ⟨x_wi (x_e2 35 rfl) rfl, x_wi (x_e1 5 rfl) rfl, fun h => absurd h (by decide), fun _ => ⟨x_wi (x_e2 33 rfl) rfl, Or.inr (x_wi (x_e2 34 rfl) rfl)⟩⟩
theorem x_mok29 : x_mok 29 := ⟨x_wi (x_e2 50 rfl) rfl, x_wi (x_e1 5 rfl) rfl, fun h => absurd h (by decide), fun _ => ⟨x_wi (x_e2 49 rfl) rfl, Or.inr (x_wi (x_es 0 rfl) rfl)⟩⟩
theorem x_mok30 : x_mok 30 := ⟨x_wi (x_e2 54 rfl) rfl, x_wi (x_e1 5 rfl) rfl, fun h => absurd h (by decide), fun _ => ⟨x_wi (x_e2 53 rfl) rfl, Or.inr (x_wi (x_es 1 rfl) rfl)⟩⟩
theorem x_mok31 : x_mok 31 := ⟨x_wi (x_e2 63 rfl) rfl, x_wi (x_e1 5 rfl) rfl, fun h => absurd h (by decide), fun _ => ⟨x_wi (x_e2 62 rfl) rfl, Or.inr (x_wi (x_es 2 rfl) rfl)⟩⟩
theorem x_mok32 : x_mok 32 := ⟨x_wi (x_e2 74 rfl) rfl, x_wi (x_e1 5 rfl) rfl, fun h => absurd h (by decide), fun _ => ⟨x_wi (x_e2 73 rfl) rfl, Or.inr (x_wi (x_es 3 rfl) rfl)⟩⟩
theorem x_mok33 : x_mok 33 := ⟨x_wi (x_e2 96 rfl) rfl, x_wi (x_e1 5 rfl) rfl, fun h => absurd h (by decide), fun _ => ⟨x_wi (x_e2 95 rfl) rfl, Or.inr (x_wi (x_es 4 rfl) rfl)⟩⟩
theorem x_mok34 : x_mok 34 := ⟨x_wi (x_e2 100 rfl) rfl, x_wi (x_e1 5 rfl) rfl, fun h => absurd h (by decide), fun _ => ⟨x_wi (x_e2 99 rfl) rfl, Or.inr (x_wi (x_es 5 rfl) rfl)⟩⟩
theorem x_mok35 : x_mok 35 := ⟨x_wi (x_e2 158 rfl) rfl, x_wi (x_e1 5 rfl) rfl, fun h => absurd h (by decide), fun _ => ⟨x_wi (x_e2 156 rfl) rfl, Or.inr (x_wi (x_e2 157 rfl) rfl)⟩⟩
theorem x_mok36 : x_mok 36 := ⟨x_wi (x_e2 166 rfl) rfl, x_wi (x_e1 5 rfl) rfl, fun h => absurd h (by decide), fun _ => ⟨x_wi (x_e2 165 rfl) rfl, Or.inr (x_wi (x_es 6 rfl) rfl)⟩⟩
theorem x_mok37 : x_mok 37 := ⟨x_wi (x_e2 175 rfl) rfl, x_wi (x_e1 5 rfl) rfl, fun h => absurd h (by decide), fun _ => ⟨x_wi (x_e2 174 rfl) rfl, Or.inr (x_wi (x_es 7 rfl) rfl)⟩⟩
theorem x_mok38 : x_mok 38 := ⟨x_wi (x_e2 226 rfl) rfl, x_wi (x_e1 5 rfl) rfl, fun h => absurd h (by decide), fun _ => ⟨x_wi (x_e2 224 rfl) rfl, Or.inr (x_wi (x_e2 225 rfl) rfl)⟩⟩
theorem x_mok39 : x_mok 39 := ⟨x_wi (x_e2 230 rfl) rfl, x_wi (x_e1 5 rfl) rfl, fun h => absurd h (by decide), fun _ => ⟨x_wi (x_e2 229 rfl) rfl, Or.inr (x_wi (x_es 8 rfl) rfl)⟩⟩
theorem x_mok40 : x_mok 40 := ⟨x_wi (x_e2 234 rfl) rfl, x_wi (x_e1 5 rfl) rfl, fun h => absurd h (by decide), fun _ => ⟨x_wi (x_e2 233 rfl) rfl, Or.inr (x_wi (x_es 9 rfl) rfl)⟩⟩
theorem x_mok41 : x_mok 41 := ⟨x_wi (x_e3 8 rfl) rfl, x_wi (x_e1 5 rfl) rfl, fun h => absurd h (by decide), fun _ => ⟨x_wi (x_e3 7 rfl) rfl, Or.inr (x_wi (x_es 10 rfl) rfl)⟩⟩
theorem x_mok42 : x_mok 42 := ⟨x_wi (x_e3 12 rfl) rfl, x_wi (x_e1 5 rfl) rfl, fun h => absurd h (by decide), fun _ => ⟨x_wi (x_e3 11 rfl) rfl, Or.inr (x_wi (x_es 11 rfl) rfl)⟩⟩
theorem x_mok43 : x_mok 43 := ⟨x_wi (x_e3 16 rfl) rfl, x_wi (x_e1 5 rfl) rfl, fun h => absurd h (by decide), fun _ => ⟨x_wi (x_e3 14 rfl) rfl, Or.inr (x_wi (x_e3 15 rfl) rfl)⟩⟩
theorem x_mok44 : x_mok 44 := ⟨x_wi (x_e3 27 rfl) rfl, x_wi (x_e1 5 rfl) rfl, fun h => absurd h (by decide), fun _ => ⟨x_wi (x_e3 26 rfl) rfl, Or.inr (x_wi (x_es 12 rfl) rfl)⟩⟩
theorem x_mok45 : x_mok 45 := ⟨x_wi (x_e3 31 rfl) rfl, x_wi (x_e1 5 rfl) rfl, fun h => absurd h (by decide), fun _ => ⟨x_wi (x_e3 30 rfl) rfl, Or.inr (x_wi (x_es 13 rfl) rfl)⟩⟩
theorem x_mok46 : x_mok 46 := ⟨x_wi (x_e3 36 rfl) rfl, x_wi (x_e1 5 rfl) rfl, fun h => absurd h (by decide), fun _ => ⟨x_wi (x_e3 35 rfl) rfl, Or.inr (x_wi (x_es 14 rfl) rfl)⟩⟩
theorem x_mok47 : x_mok 47 := ⟨x_wi (x_e3 40 rfl) rfl, x_wi (x_e1 5 rfl) rfl, fun h => absurd h (by decide), fun _ => ⟨x_wi (x_e3 39 rfl) rfl, Or.inr (x_wi (x_es 15 rfl) rfl)⟩⟩
theorem x_mok48 : x_mok 48 := ⟨x_wi (x_e3 44 rfl) rfl, x_wi (x_e1 5 rfl) rfl, fun h => absurd h (by decide), fun _ => ⟨x_wi (x_e3 43 rfl) rfl, Or.inr (x_wi (x_es 16 rfl) rfl)⟩⟩
theorem x_mok49 : x_mok 49 := ⟨x_wi (x_e3 48 rfl) rfl, x_wi (x_e1 5 rfl) rfl, fun h => absurd h (by decide), fun _ => ⟨x_wi (x_e3 47 rfl) rfl, Or.inr (x_wi (x_es 17 rfl) rfl)⟩⟩
theorem x_mok50 : x_mok 50 := ⟨x_wi (x_e3 72 rfl) rfl, x_wi (x_e1 5 rfl) rfl, fun h => absurd h (by decide), fun _ => ⟨x_wi (x_e3 71 rfl) rfl, Or.inr (x_wi (x_es 19 rfl) rfl)⟩⟩
theorem x_mok51 : x_mok 51 := ⟨x_wi (x_e3 101 rfl) rfl, x_wi (x_e1 5 rfl) rfl, fun h => absurd h (by decide), fun _ => ⟨x_wi (x_e3 99 rfl) rfl, Or.inr (x_wi (x_e3 100 rfl) rfl)⟩⟩
theorem x_mok52 : x_mok 52 := ⟨x_wi (x_e3 156 rfl) rfl, x_wi (x_e1 5 rfl) rfl, fun h => absurd h (by decide), fun _ => ⟨x_wi (x_e3 154 rfl) rfl, Or.inr (x_wi (x_e3 155 rfl) rfl)⟩⟩
theorem x_mok53 : x_mok 53 := ⟨x_wi (x_e1 216 rfl) rfl, x_wi (x_e1 12 rfl) rfl, fun h => absurd h (by decide), fun _ => ⟨x_wi (x_e1 215 rfl) rfl, Or.inl rfl⟩⟩
theorem x_mok54 : x_mok 54 := ⟨x_wi (x_e1 60 rfl) rfl, x_wi (x_e1 4 rfl) rfl, fun h => absurd h (by decide), fun _ => ⟨x_wi (x_e1 59 rfl) rfl, Or.inl rfl⟩⟩
theorem x_mok55 : x_mok 55 := ⟨x_wi (x_e2 21 rfl) rfl, x_wi (x_e1 4 rfl) rfl, fun h => absurd h (by decide), fun _ => ⟨x_wi (x_e2 19 rfl) rfl, Or.inr (x_wi (x_e2 20 rfl) rfl)⟩⟩
theorem x_mok56 : x_mok 56 := ⟨x_wi (x_e2 25 rfl) rfl, x_wi (x_e1 4 rfl) rfl, fun h => absurd h (by decide), fun _ => ⟨x_wi (x_e2 23 rfl) rfl, Or.inr (x_wi (x_e2 24 rfl) rfl)⟩⟩
theorem x_mok57 : x_mok 57 := ⟨x_wi (x_e2 67 rfl) rfl, x_wi (x_e1 4 rfl) rfl, fun h => absurd h (by decide), fun _ => ⟨x_wi (x_e2 65 rfl) rfl, Or.inr (x_wi (x_e2 66 rfl) rfl)⟩⟩
theorem x_mok58 : x_mok 58 := ⟨x_wi (x_e2 162 rfl) rfl, x_wi (x_e1 4 rfl) rfl, fun h => absurd h (by decide), fun _ => ⟨x_wi (x_e2 160 rfl) rfl, Or.inr (x_wi (x_e2 161 rfl) rfl)⟩⟩
theorem x_mok59 : x_mok 59 := ⟨x_wi (x_e3 53 rfl) rfl, x_wi (x_e1 4 rfl) rfl, fun h => absurd h (by decide), fun _ => ⟨x_wi (x_e3 51 rfl) rfl, Or.inr (x_wi (x_e3 52 rfl) rfl)⟩⟩
theorem x_mok60 : x_mok 60 := ⟨x_wi (x_e3 57 rfl) rfl, x_wi (x_e1 4 rfl) rfl, fun h => absurd h (by decide), fun _ => ⟨x_wi (x_e3 56 rfl) rfl, Or.inl rfl⟩⟩
theorem x_mok61 : x_mok 61 := ⟨x_wi (x_e3 68 rfl) rfl, x_wi (x_e1 4 rfl) rfl, fun h => absurd h (by decide), fun _ => ⟨x_wi (x_e3 67 rfl) rfl, Or.inr (x_wi (x_es 18 rfl) rfl)⟩⟩
theorem x_mok62 : x_mok 62 := ⟨x_wi (x_e3 141 rfl) rfl, x_wi (x_e1 4 rfl) rfl, fun h => absurd h (by decide), fun _ => ⟨x_wi (x_e3 139 rfl) rfl, Or.inr (x_wi (x_e3 140 rfl) rfl)⟩⟩
theorem x_mok63 : x_mok 63 := ⟨x_wi (x_e1 98 rfl) rfl, x_wi (x_e1 6 rfl) rfl, fun h => absurd h (by decide), fun _ => ⟨x_wi (x_e1 97 rfl) rfl, Or.inl rfl⟩⟩
theorem x_mok64 : x_mok 64 := ⟨x_wi (x_e2 87 rfl) rfl, x_wi (x_e1 6 rfl) rfl, fun h => absurd h (by decide), fun _ => ⟨x_wi (x_e2 85 rfl) rfl, Or.inr (x_wi (x_e2 86 rfl) rfl)⟩⟩
theorem x_mok65 : x_mok 65 := ⟨x_wi (x_e2 189 rfl) rfl, x_wi (x_e1 6 rfl) rfl, fun h => absurd h (by decide), fun _ => ⟨x_wi (x_e2 187 rfl) rfl, Or.inr (x_wi (x_e2 188 rfl) rfl)⟩⟩
theorem x_mok66 : x_mok 66 := ⟨x_wi (x_e2 193 rfl) rfl, x_wi (x_e1 6 rfl) rfl, fun h => absurd h (by decide), fun _ => ⟨x_wi (x_e2 191 rfl) rfl, Or.inr (x_wi (x_e2 192 rfl) rfl)⟩⟩
theorem x_mok67 : x_mok 67 := ⟨x_wi (x_e2 197 rfl) rfl, x_wi (x_e1 6 rfl) rfl, fun h => absurd h (by decide), fun _ => ⟨x_wi (x_e2 195 rfl) rfl, Or.inr (x_wi (x_e2 196 rfl) rfl)⟩⟩
theorem x_mok68 : x_mok 68 := ⟨x_wi (x_e2 201 rfl) rfl, x_wi (x_e1 6 rfl) rfl, fun h => absurd h (by decide), fun _ => ⟨x_wi (x_e2 199 rfl) rfl, Or.inr (x_wi (x_e2 200 rfl) rfl)⟩⟩
theorem x_mok69 : x_mok 69 := ⟨x_wi (x_e2 205 rfl) rfl, x_wi (x_e1 6 rfl) rfl, fun h => absurd h (by decide), fun _ => ⟨x_wi (x_e2 203 rfl) rfl, Or.inr (x_wi (x_e2 204 rfl) rfl)⟩⟩
theorem x_mok70 : x_mok 70 := ⟨x_wi (x_e2 238 rfl) rfl, x_wi (x_e1 6 rfl) rfl, fun h => absurd h (by decide), fun _ => ⟨x_wi (x_e2 236 rfl) rfl, Or.inr (x_wi (x_e2 237 rfl) rfl)⟩⟩
theorem x_mok71 : x_mok 71 := ⟨x_wi (x_e3 20 rfl) rfl, x_wi (x_e1 6 rfl) rfl, fun h => absurd h (by decide), fun _ => ⟨x_wi (x_e3 18 rfl) rfl, Or.inr (x_wi (x_e3 19 rfl) rfl)⟩⟩
theorem x_mok72 : x_mok 72 := ⟨x_wi (x_e3 83 rfl) rfl, x_wi (x_e1 6 rfl) rfl, fun h => absurd h (by decide), fun _ => ⟨x_wi (x_e3 81 rfl) rfl, Or.inr (x_wi (x_e3 82 rfl) rfl)⟩⟩
theorem x_mok73 : x_mok 73 := ⟨x_wi (x_e1 20 rfl) rfl, x_wi (x_e1 1 rfl) rfl, fun h => absurd h (by decide), fun _ => ⟨x_wi (x_e1 19 rfl) rfl, Or.inl rfl⟩⟩
theorem x_mok74 : x_mok 74 := ⟨x_wi (x_e1 202 rfl) rfl, x_wi (x_e1 1 rfl) rfl, fun h => absurd h (by decide), fun _ => ⟨x_wi (x_e1 200 rfl) rfl, Or.inr (x_wi (x_e1 201 rfl) rfl)⟩⟩
theorem x_mok75 : x_mok 75 := ⟨x_wi (x_e1 205 rfl) rfl, x_wi (x_e1 1 rfl) rfl, fun _ => x_wi (x_e1 204 rfl) rfl, fun h => absurd h (by decide)⟩
theorem x_mok76 : x_mok 76 := ⟨x_wi (x_e2 6 rfl) rfl, x_wi (x_e1 1 rfl) rfl, fun h => absurd h (by decide), fun _ => ⟨x_wi (x_e2 4 rfl) rfl, Or.inr (x_wi (x_e2 5 rfl) rfl)⟩⟩
theorem x_mok77 : x_mok 77 := ⟨x_wi (x_e2 13 rfl) rfl, x_wi (x_e1 1 rfl) rfl, fun _ => x_wi (x_e2 12 rfl) rfl, fun h => absurd h (by decide)⟩
theorem x_mok78 : x_mok 78 := ⟨x_wi (x_e2 46 rfl) rfl, x_wi (x_e1 1 rfl) rfl, fun _ => x_wi (x_e2 45 rfl) rfl, fun h => absurd h (by decide)⟩
theorem x_mok79 : x_mok 79 := ⟨x_wi (x_e2 70 rfl) rfl, x_wi (x_e1 1 rfl) rfl, fun _ => x_wi (x_e2 69 rfl) rfl, fun h => absurd h (by decide)⟩
theorem x_mok80 : x_mok 80 := ⟨x_wi (x_e2 150 rfl) rfl, x_wi (x_e1 1 rfl) rfl, fun h => absurd h (by decide), fun _ => ⟨x_wi (x_e2 148 rfl) rfl, Or.inr (x_wi (x_e2 149 rfl) rfl)⟩⟩
theorem x_mok81 : x_mok 81 := ⟨x_wi (x_e2 214 rfl) rfl, x_wi (x_e1 1 rfl) rfl, fun h => absurd h (by decide), fun _ => ⟨x_wi (x_e2 212 rfl) rfl, Or.inr (x_wi (x_e2 213 rfl) rfl)⟩⟩
theorem x_mok82 : x_mok 82 := ⟨x_wi (x_e3 87 rfl) rfl, x_wi (x_e1 1 rfl) rfl, fun h => absurd h (by decide), fun _ => ⟨x_wi (x_e3 85 rfl) rfl, Or.inr (x_wi (x_e3 86 rfl) rfl)⟩⟩
theorem x_mok83 : x_mok 83 := ⟨x_wi (x_e3 91 rfl) rfl, x_wi (x_e1 1 rfl) rfl, fun h => absurd h (by decide), fun _ => ⟨x_wi (x_e3 89 rfl) rfl, Or.inr (x_wi (x_e3 90 rfl) rfl)⟩⟩
theorem x_mok84 : x_mok 84 := ⟨x_wi (x_e3 97 rfl) rfl, x_wi (x_e1 1 rfl) rfl, fun h => absurd h (by decide), fun _ => ⟨x_wi (x_e3 95 rfl) rfl, Or.inr (x_wi (x_e3 96 rfl) rfl)⟩⟩
theorem x_mok85 : x_mok 85 := ⟨x_wi (x_e3 109 rfl) rfl, x_wi (x_e1 1 rfl) rfl, fun h => absurd h (by decide), fun _ => ⟨x_wi (x_e3 107 rfl) rfl, Or.inr (x_wi (x_e3 108 rfl) rfl)⟩⟩
theorem x_mok86 : x_mok 86 := ⟨x_wi (x_e3 113 rfl) rfl, x_wi (x_e1 1 rfl) rfl, fun h => absurd h (by decide), fun _ => ⟨x_wi (x_e3 111 rfl) rfl, Or.inr (x_wi (x_e3 112 rfl) rfl)⟩⟩
theorem x_mok87 : x_mok 87 := ⟨x_wi (x_e3 118 rfl) rfl, x_wi (x_e1 1 rfl) rfl, fun h => absurd h (by decide), fun _ => ⟨x_wi (x_e3 116 rfl) rfl, Or.inr (x_wi (x_e3 117 rfl) rfl)⟩⟩
theorem x_mok88 : x_mok 88 := ⟨x_wi (x_e3 124 rfl) rfl, x_wi (x_e1 1 rfl) rfl, fun h => absurd h (by decide), fun _ => ⟨x_wi (x_e3 122 rfl) rfl, Or.inr (x_wi (x_e3 123 rfl) rfl)⟩⟩
theorem x_mok89 : x_mok 89 := ⟨x_wi (x_e3 128 rfl) rfl, x_wi (x_e1 1 rfl) rfl, fun h => absurd h (by decide), fun _ => ⟨x_wi (x_e3 126 rfl) rfl, Or.inr (x_wi (x_e3 127 rfl) rfl)⟩⟩
theorem x_mok90 : x_mok 90 := ⟨x_wi (x_e3 151 rfl) rfl, x_wi (x_e1 1 rfl) rfl, fun h => absurd h (by decide), fun _ => ⟨x_wi (x_e3 149 rfl) rfl, Or.inr (x_wi (x_e3 150 rfl) rfl)⟩⟩
theorem x_mok91 : x_mok 91 := ⟨x_wi (x_e3 161 rfl) rfl, x_wi (x_e1 1 rfl) rfl, fun h => absurd h (by decide), fun _ => ⟨x_wi (x_e3 159 rfl) rfl, Or.inr (x_wi (x_e3 160 rfl) rfl)⟩⟩
theorem x_mok92 : x_mok 92 := ⟨x_wi (x_e3 165 rfl) rfl, x_wi (x_e1 1 rfl) rfl, fun h => absurd h (by decide), fun _ => ⟨x_wi (x_e3 163 rfl) rfl, Or.inr (x_wi (x_e3 164 rfl) rfl)⟩⟩
theorem x_mok93 : x_mok 93 := ⟨x_wi (x_e3 173 rfl) rfl, x_wi (x_e1 1 rfl) rfl, fun h => absurd h (by decide), fun _ => ⟨x_wi (x_e3 171 rfl) rfl, Or.inr (x_wi (x_e3 172 rfl) rfl)⟩⟩
theorem x_mok94 : x_mok 94 := ⟨x_wi (x_e3 177 rfl) rfl, x_wi (x_e1 1 rfl) rfl, fun h => absurd h (by decide), fun _ => ⟨x_wi (x_e3 175 rfl) rfl, Or.inr (x_wi (x_e3 176 rfl) rfl)⟩⟩
theorem x_mok95 : x_mok 95 := ⟨x_wi (x_e3 182 rfl) rfl, x_wi (x_e1 10 rfl) rfl, fun h => absurd h (by decide), fun _ => ⟨x_wi (x_e3 181 rfl) rfl, Or.inl rfl⟩⟩
theorem x_mok96 : x_mok 96 := ⟨x_wi (x_e4 75 rfl) rfl, x_wi (x_e1 10 rfl) rfl, fun h => absurd h (by decide), fun _ => ⟨x_wi (x_e4 73 rfl) rfl, Or.inr (x_wi (x_e4 74 rfl) rfl)⟩⟩
theorem x_mok97 : x_mok 97 := ⟨x_wi (x_e4 78 rfl) rfl, x_wi (x_e1 10 rfl) rfl, fun _ => x_wi (x_e4 77 rfl) rfl, fun h => absurd h (by decide)⟩
theorem x_mok98 : x_mok 98 := ⟨x_wi (x_e4 82 rfl) rfl, x_wi (x_e1 10 rfl) rfl, fun h => absurd h (by decide), fun _ => ⟨x_wi (x_e4 80 rfl) rfl, Or.inr (x_wi (x_e4 81 rfl) rfl)⟩⟩
theorem x_mok99 : x_mok 99 := ⟨x_wi (x_e4 85 rfl) rfl, x_wi (x_e1 10 rfl) rfl, fun _ => x_wi (x_e4 84 rfl) rfl, fun h => absurd h (by decide)⟩
theorem x_mok100 : x_mok 100 := ⟨x_wi (x_e4 89 rfl) rfl, x_wi (x_e1 10 rfl) rfl, fun h => absurd h (by decide), fun _ => ⟨x_wi (x_e4 88 rfl) rfl, Or.inr (x_wi (x_es 20 rfl) rfl)⟩⟩
theorem x_mok101 : x_mok 101 := ⟨x_wi (x_e4 93 rfl) rfl, x_wi (x_e1 10 rfl) rfl, fun h => absurd h (by decide), fun _ => ⟨x_wi (x_e4 92 rfl) rfl, Or.inr (x_wi (x_es 21 rfl) rfl)⟩⟩
theorem x_mok102 : x_mok 102 := ⟨x_wi (x_e4 97 rfl) rfl, x_wi (x_e1 10 rfl) rfl, fun h => absurd h (by decide), fun _ => ⟨x_wi (x_e4 96 rfl) rfl, Or.inr (x_wi (x_es 22 rfl) rfl)⟩⟩
theorem x_mok103 : x_mok 103 := ⟨x_wi (x_e4 101 rfl) rfl, x_wi (x_e1 10 rfl) rfl, fun h => absurd h (by decide), fun _ => ⟨x_wi (x_e4 100 rfl) rfl, Or.inr (x_wi (x_es 23 rfl) rfl)⟩⟩
theorem x_mok104 : x_mok 104 := ⟨x_wi (x_e4 105 rfl) rfl, x_wi (x_e1 10 rfl) rfl, fun h => absurd h (by decide), fun _ => ⟨x_wi (x_e4 104 rfl) rfl, Or.inr (x_wi (x_es 24 rfl) rfl)⟩⟩
theorem x_mok105 : x_mok 105 := ⟨x_wi (x_e4 109 rfl) rfl, x_wi (x_e1 10 rfl) rfl, fun h => absurd h (by decide), fun _ => ⟨x_wi (x_e4 108 rfl) rfl, Or.inr (x_wi (x_es 25 rfl) rfl)⟩⟩
theorem x_mok106 : x_mok 106 := ⟨x_wi (x_e4 113 rfl) rfl, x_wi (x_e1 10 rfl) rfl, fun h => absurd h (by decide), fun _ => ⟨x_wi (x_e4 112 rfl) rfl, Or.inr (x_wi (x_es 26 rfl) rfl)⟩⟩
theorem x_mok107 : x_mok 107 := ⟨x_wi (x_e4 116 rfl) rfl, x_wi (x_e1 10 rfl) rfl, fun _ => x_wi (x_e4 115 rfl) rfl, fun h => absurd h (by decide)⟩
theorem x_mok108 : x_mok 108 := ⟨x_wi (x_e4 120 rfl) rfl, x_wi (x_e1 10 rfl) rfl, fun h => absurd h (by decide), fun _ => ⟨x_wi (x_e4 119 rfl) rfl, Or.inr (x_wi (x_es 27 rfl) rfl)⟩⟩
theorem x_mok109 : x_mok 109 := ⟨x_wi (x_e4 124 rfl) rfl, x_wi (x_e1 10 rfl) rfl, fun h => absurd h (by decide), fun _ => ⟨x_wi (x_e4 123 rfl) rfl, Or.inr (x_wi (x_es 28 rfl) rfl)⟩⟩
theorem x_mok110 : x_mok 110 := ⟨x_wi (x_e4 128 rfl) rfl, x_wi (x_e1 10 rfl) rfl, fun h => absurd h (by decide), fun _ => ⟨x_wi (x_e4 127 rfl) rfl, Or.inr (x_wi (x_es 29 rfl) rfl)⟩⟩
theorem x_mok111 : x_mok 111 := ⟨x_wi (x_e4 132 rfl) rfl, x_wi (x_e1 10 rfl) rfl, fun h => absurd h (by decide), fun _ => ⟨x_wi (x_e4 131 rfl) rfl, Or.inr (x_wi (x_es 30 rfl) rfl)⟩⟩
theorem x_mok112 : x_mok 112 := ⟨x_wi (x_e4 136 rfl) rfl, x_wi (x_e1 10 rfl) rfl, fun h => absurd h (by decide), fun _ => ⟨x_wi (x_e4 134 rfl) rfl, Or.inr (x_wi (x_e4 135 rfl) rfl)⟩⟩
theorem x_mok113 : x_mok 113 := ⟨x_wi (x_e4 140 rfl) rfl, x_wi (x_e1 10 rfl) rfl, fun h => absurd h (by decide), fun _ => ⟨x_wi (x_e4 139 rfl) rfl, Or.inr (x_wi (x_es 31 rfl) rfl)⟩⟩
theorem x_mok114 : x_mok 114 := ⟨x_wi (x_e4 145 rfl) rfl, x_wi (x_e1 10 rfl) rfl, fun h => absurd h (by decide), fun _ => ⟨x_wi (x_e4 143 rfl) rfl, Or.inr (x_wi (x_e4 144 rfl) rfl)⟩⟩
theorem x_mok115 : x_mok 115 := ⟨x_wi (x_e4 149 rfl) rfl, x_wi (x_e1 10 rfl) rfl, fun h => absurd h (by decide), fun _ => ⟨x_wi (x_e4 148 rfl) rfl, Or.inr (x_wi (x_es 32 rfl) rfl)⟩⟩
theorem x_mok116 : x_mok 116 := ⟨x_wi (x_e4 153 rfl) rfl, x_wi (x_e1 10 rfl) rfl, fun h => absurd h (by decide), fun _ => ⟨x_wi (x_e4 152 rfl) rfl, Or.inr (x_wi (x_es 33 rfl) rfl)⟩⟩
theorem x_mok117 : x_mok 117 := ⟨x_wi (x_e4 157 rfl) rfl, x_wi (x_e1 10 rfl) rfl, fun h => absurd h (by decide), fun _ => ⟨x_wi (x_e4 156 rfl) rfl, Or.inr (x_wi (x_es 34 rfl) rfl)⟩⟩
theorem x_mok118 : x_mok 118 := ⟨x_wi (x_e4 161 rfl) rfl, x_wi (x_e1 10 rfl) rfl, fun h => absurd h (by decide), fun _ => ⟨x_wi (x_e4 160 rfl) rfl, Or.inr (x_wi (x_es 35 rfl) rfl)⟩⟩
theorem x_mok119 : x_mok 119 := ⟨x_wi (x_e4 165 rfl) rfl, x_wi (x_e1 10 rfl) rfl, fun h => absurd h (by decide), fun _ => ⟨x_wi (x_e4 164 rfl) rfl, Or.inr (x_wi (x_es 36 rfl) rfl)⟩⟩
theorem x_mok120 : x_mok 120 := ⟨x_wi (x_e4 169 rfl) rfl, x_wi (x_e1 10 rfl) rfl, fun h => absurd h (by decide), fun _ => ⟨x_wi (x_e4 168 rfl) rfl, Or.inr (x_wi (x_es 37 rfl) rfl)⟩⟩
theorem x_mok121 : x_mok 121 := ⟨x_wi (x_e4 173 rfl) rfl, x_wi (x_e1 10 rfl) rfl, fun h => absurd h (by decide), fun _ => ⟨x_wi (x_e4 172 rfl) rfl, Or.inr (x_wi (x_es 38 rfl) rfl)⟩⟩
theorem x_mok122 : x_mok 122 := ⟨x_wi (x_e4 177 rfl) rfl, x_wi (x_e1 10 rfl) rfl, fun h => absurd h (by decide), fun _ => ⟨x_wi (x_e4 176 rfl) rfl, Or.inr (x_wi (x_es 39 rfl) rfl)⟩⟩
theorem x_mok123 : x_mok 123 := ⟨x_wi (x_e4 181 rfl) rfl, x_wi (x_e1 10 rfl) rfl, fun h => absurd h (by decide), fun _ => ⟨x_wi (x_e4 180 rfl) rfl, Or.inr (x_wi (x_es 40 rfl) rfl)⟩⟩
theorem x_mok124 : x_mok 124 := ⟨x_wi (x_e4 185 rfl) rfl, x_wi (x_e1 10 rfl) rfl, fun h => absurd h (by decide), fun _ => ⟨x_wi (x_e4 184 rfl) rfl, Or.inr (x_wi (x_es 41 rfl) rfl)⟩⟩
theorem x_mok125 : x_mok 125 := ⟨x_wi (x_e4 189 rfl) rfl, x_wi (x_e1 10 rfl) rfl, fun h => absurd h (by decide), fun _ => ⟨x_wi (x_e4 188 rfl) rfl, Or.inr (x_wi (x_es 42 rfl) rfl)⟩⟩
theorem x_mok126 : x_mok 126 := ⟨x_wi (x_e4 193 rfl) rfl, x_wi (x_e1 10 rfl) rfl, fun h => absurd h (by decide), fun _ => ⟨x_wi (x_e4 192 rfl) rfl, Or.inr (x_wi (x_es 43 rfl) rfl)⟩⟩
theorem x_mok127 : x_mok 127 := ⟨x_wi (x_e4 197 rfl) rfl, x_wi (x_e1 10 rfl) rfl, fun h => absurd h (by decide), fun _ => ⟨x_wi (x_e4 195 rfl) rfl, Or.inr (x_wi (x_e4 196 rfl) rfl)⟩⟩
theorem x_mok128 : x_mok 128 := ⟨x_wi (x_e4 201 rfl) rfl, x_wi (x_e1 10 rfl) rfl, fun h => absurd h (by decide), fun _ => ⟨x_wi (x_e4 199 rfl) rfl, Or.inr (x_wi (x_e4 200 rfl) rfl)⟩⟩
theorem x_mok129 : x_mok 129 := ⟨x_wi (x_e4 205 rfl) rfl, x_wi (x_e1 10 rfl) rfl, fun h => absurd h (by decide), fun _ => ⟨x_wi (x_e4 203 rfl) rfl, Or.inr (x_wi (x_e4 204 rfl) rfl)⟩⟩
theorem x_mok130 : x_mok 130 := ⟨x_wi (x_e4 209 rfl) rfl, x_wi (x_e1 10 rfl) rfl, fun h => absurd h (by decide), fun _ => ⟨x_wi (x_e4 207 rfl) rfl, Or.inr (x_wi (x_e4 208 rfl) rfl)⟩⟩
theorem x_mok131 : x_mok 131 := ⟨x_wi (x_e4 213 rfl) rfl, x_wi (x_e1 10 rfl) rfl, fun h => absurd h (by decide), fun _ => ⟨x_wi (x_e4 211 rfl) rfl, Or.inr (x_wi (x_e4 212 rfl) rfl)⟩⟩
theorem x_mok132 : x_mok 132 := ⟨x_wi (x_e4 217 rfl) rfl, x_wi (x_e1 10 rfl) rfl, fun h => absurd h (by decide), fun _ => ⟨x_wi (x_e4 215 rfl) rfl, Or.inr (x_wi (x_e4 216 rfl) rfl)⟩⟩
theorem x_mok133 : x_mok 133 := ⟨x_wi (x_e4 221 rfl) rfl, x_wi (x_e1 10 rfl) rfl, fun h => absurd h (by decide), fun _ => ⟨x_wi (x_e4 219 rfl) rfl, Or.inr (x_wi (x_e4 220 rfl) rfl)⟩⟩
theorem x_mok134 : x_mok 134 := ⟨x_wi (x_e4 225 rfl) rfl, x_wi (x_e1 10 rfl) rfl, fun h => absurd h (by decide), fun _ => ⟨x_wi (x_e4 223 rfl) rfl, Or.inr (x_wi (x_e4 224 rfl) rfl)⟩⟩
theorem x_mok135 : x_mok 135 := ⟨x_wi (x_e4 229 rfl) rfl, x_wi (x_e1 10 rfl) rfl, fun h => absurd h (by decide), fun _ => ⟨x_wi (x_e4 228 rfl) rfl, Or.inr (x_wi (x_es 44 rfl) rfl)⟩⟩
theorem x_mok136 : x_mok 136 := ⟨x_wi (x_e4 233 rfl) rfl, x_wi (x_e1 10 rfl) rfl, fun h => absurd h (by decide), fun _ => ⟨x_wi (x_e4 231 rfl) rfl, Or.inr (x_wi (x_e4 232 rfl) rfl)⟩⟩
theorem x_mok137 : x_mok 137 := ⟨x_wi (x_e4 237 rfl) rfl, x_wi (x_e1 10 rfl) rfl, fun h => absurd h (by decide), fun _ => ⟨x_wi (x_e4 235 rfl) rfl, Or.inr (x_wi (x_e4 236 rfl) rfl)⟩⟩
theorem x_mok138 : x_mok 138 := ⟨x_wi (x_e5 1 rfl) rfl, x_wi (x_e1 10 rfl) rfl, fun h => absurd h (by decide), fun _ => ⟨x_wi (x_e4 239 rfl) rfl, Or.inr (x_wi (x_e5 0 rfl) rfl)⟩⟩
theorem x_mok139 : x_mok 139 := ⟨x_wi (x_e5 5 rfl) rfl, x_wi (x_e1 10 rfl) rfl, fun h => absurd h (by decide), fun _ => ⟨x_wi (x_e5 3 rfl) rfl, Or.inr (x_wi (x_e5 4 rfl) rfl)⟩⟩
theorem x_mok140 : x_mok 140 := ⟨x_wi (x_e5 9 rfl) rfl, x_wi (x_e1 10 rfl) rfl, fun h => absurd h (by decide), fun _ => ⟨x_wi (x_e5 7 rfl) rfl, Or.inr (x_wi (x_e5 8 rfl) rfl)⟩⟩
theorem x_mok141 : x_mok 141 := ⟨x_wi (x_e1 208 rfl) rfl, x_wi (x_e1 11 rfl) rfl, fun _ => x_wi (x_e1 207 rfl) rfl, fun h => absurd h (by decide)⟩
theorem x_mok142 : x_mok 142 := ⟨x_wi (x_e3 144 rfl) rfl, x_wi (x_e1 15 rfl) rfl, fun _ => x_wi (x_e3 143 rfl) rfl, fun h => absurd h (by decide)⟩
theorem x_mok143 : x_mok 143 := ⟨x_wi (x_e2 178 rfl) rfl, x_wi (x_e1 14 rfl) rfl, fun _ => x_wi (x_e2 177 rfl) rfl, fun h => absurd h (by decide)⟩
theorem x_mok144 : x_mok 144 := ⟨x_wi (x_e2 181 rfl) rfl, x_wi (x_e1 14 rfl) rfl, fun _ => x_wi (x_e2 180 rfl) rfl, fun h => absurd h (by decide)⟩
theorem x_mok145 : x_mok 145 := ⟨x_wi (x_e1 115 rfl) rfl, x_wi (x_e1 8 rfl) rfl, fun _ => x_wi (x_e1 114 rfl) rfl, fun h => absurd h (by decide)⟩
theorem x_m_ok : ∀ k, k < 146 → x_mok k := by
  have h : ∀ q ∈ List.range 146, x_mok q := List.forall_mem_cons.mpr ⟨x_mok0, List.forall_mem_cons.mpr ⟨x_mok1, List.forall_mem_cons.mpr ⟨x_mok2, List.forall_mem_cons.mpr ⟨x_mok3, List.forall_mem_cons.mpr ⟨x_mok4, List.forall_mem_cons.mpr ⟨x_mok5, List.forall_mem_cons.mpr ⟨x_mok6, List.forall_mem_cons.mpr ⟨x_mok7, List.forall_mem_cons.mpr ⟨x_mok8, List.forall_mem_cons.mpr ⟨x_mok9, List.forall_mem_cons.mpr ⟨x_mok10, List.forall_mem_cons.mpr ⟨x_mok11, List.forall_mem_cons.mpr ⟨x_mok12, List.forall_mem_cons.mpr ⟨x_mok13, List.forall_mem_cons.mpr ⟨x_mok14, List.forall_mem_cons.mpr ⟨x_mok15, List.forall_mem_cons.mpr ⟨x_mok16, List.forall_mem_cons.mpr ⟨x_mok17, List.forall_mem_cons.mpr ⟨x_mok18, List.forall_mem_cons.mpr ⟨x_mok19, List.forall_mem_cons.mpr ⟨x_mok20, List.forall_mem_cons.mpr ⟨x_mok21, List.forall_mem_cons.mpr ⟨x_mok22, List.forall_mem_cons.mpr ⟨x_mok23, List.forall_mem_cons.mpr ⟨x_mok24, List.forall_mem_cons.mpr ⟨x_mok25, List.forall_mem_cons.mpr ⟨x_mok26, List.forall_mem_cons.mpr ⟨x_mok27, List.forall_mem_cons.mpr ⟨x_mok28, List.forall_mem_cons.mpr ⟨x_mok29, List.forall_mem_cons.mpr ⟨x_mok30, List.forall_mem_cons.mpr ⟨x_mok31, List.forall_mem_cons.mpr ⟨x_mok32, List.forall_mem_cons.mpr ⟨x_mok33, List.forall_mem_cons.mpr ⟨x_mok34, List.forall_mem_cons.mpr ⟨x_mok35, List.forall_mem_cons.mpr ⟨x_mok36, List.forall_mem_cons.mpr ⟨x_mok37, List.forall_mem_cons.mpr ⟨x_mok38, List.forall_mem_cons.mpr ⟨x_mok39, List.forall_mem_cons.mpr ⟨x_mok40, List.forall_mem_cons.mpr ⟨x_mok41, List.forall_mem_cons.mpr ⟨x_mok42, List.forall_mem_cons.mpr ⟨x_mok43, List.forall_mem_cons.mpr ⟨x_mok44, List.forall_mem_cons.mpr ⟨x_mok45, List.forall_mem_cons.mpr ⟨x_mok46, List.forall_mem_cons.mpr ⟨x_mok47, List.forall_mem_cons.mpr ⟨x_mok48, List.forall_mem_cons.mpr ⟨x_mok49, List.forall_mem_cons.mpr ⟨x_mok50, List.forall_mem_cons.mpr ⟨x_mok51, List.forall_mem_cons.mpr ⟨x_mok52, List.forall_mem_cons.mpr ⟨x_mok53, List.forall_mem_cons.mpr ⟨x_mok54, List.forall_mem_cons.mpr ⟨x_mok55, List.forall_mem_cons.mpr ⟨x_mok56, List.forall_mem_cons.mpr ⟨x_mok57, List.forall_mem_cons.mpr ⟨x_mok58, List.forall_mem_cons.mpr ⟨x_mok59, List.forall_mem_cons.mpr ⟨x_mok60, List.forall_mem_cons.mpr ⟨x_mok61, List.forall_mem_cons.mpr ⟨x_mok62, List.forall_mem_cons.mpr ⟨x_mok63, List.forall_mem_cons.mpr ⟨x_mok64, List.forall_mem_cons.mpr ⟨x_mok65, List.forall_mem_cons.mpr ⟨x_mok66, List.forall_mem_cons.mpr ⟨x_mok67, List.forall_mem_cons.mpr ⟨x_mok68, List.forall_mem_cons.mpr ⟨x_mok69, List.forall_mem_cons.mpr ⟨x_mok70, List.forall_mem_cons.mpr ⟨x_mok71, List.forall_mem_cons.mpr ⟨x_mok72, List.forall_mem_cons.mpr ⟨x_mok73, List.forall_mem_cons.mpr ⟨x_mok74, List.forall_mem_cons.mpr ⟨x_mok75, List.forall_mem_cons.mpr ⟨x_mok76, List.forall_mem_cons.mpr ⟨x_mok77, List.forall_mem_cons.mpr ⟨x_mok78, List.forall_mem_cons.mpr ⟨x_mok79, List.forall_mem_cons.mpr ⟨x_mok80, List.forall_mem_cons.mpr ⟨x_mok81, List.forall_mem_cons.mpr ⟨x_mok82, List.forall_mem_cons.mpr ⟨x_mok83, List.forall_mem_cons.mpr ⟨x_mok84, List.forall_mem_cons.mpr ⟨x_mok85, List.forall_mem_cons.mpr ⟨x_mok86, List.forall_mem_cons.mpr ⟨x_mok87, List.forall_mem_cons.mpr ⟨x_mok88, List.forall_mem_cons.mpr ⟨x_mok89, List.forall_mem_cons.mpr ⟨x_mok90, List.forall_mem_cons.mpr ⟨x_mok91, List.forall_mem_cons.mpr ⟨x_mok92, List.forall_mem_cons.mpr ⟨x_mok93, List.forall_mem_cons.mpr ⟨x_mok94, List.forall_mem_cons.mpr ⟨x_mok95, List.forall_mem_cons.mpr ⟨x_mok96, List.forall_mem_cons.mpr ⟨x_mok97, List.forall_mem_cons.mpr ⟨x_mok98, List.forall_mem_cons.mpr ⟨x_mok99, List.forall_mem_cons.mpr ⟨x_mok100, List.forall_mem_cons.mpr ⟨x_mok101, List.forall_mem_cons.mpr ⟨x_mok102, List.forall_mem_cons.mpr ⟨x_mok103, List.forall_mem_cons.mpr ⟨x_mok104, List.forall_mem_cons.mpr ⟨x_mok105, List.forall_mem_cons.mpr ⟨x_mok106, List.forall_mem_cons.mpr ⟨x_mok107, List.forall_mem_cons.mpr ⟨x_mok108, List.forall_mem_cons.mpr ⟨x_mok109, List.forall_mem_cons.mpr ⟨x_mok110, List.forall_mem_cons.mpr ⟨x_mok111, List.forall_mem_cons.mpr ⟨x_mok112, List.forall_mem_cons.mpr ⟨x_mok113, List.forall_mem_cons.mpr ⟨x_mok114, List.forall_mem_cons.mpr ⟨x_mok115, List.forall_mem_cons.mpr ⟨x_mok116, List.forall_mem_cons.mpr ⟨x_mok117, List.forall_mem_cons.mpr ⟨x_mok118, List.forall_mem_cons.mpr ⟨x_mok119, List.forall_mem_cons.mpr ⟨x_mok120, List.forall_mem_cons.mpr ⟨x_mok121, List.forall_mem_cons.mpr ⟨x_mok122, List.forall_mem_cons.mpr ⟨x_mok123, List.forall_mem_cons.mpr ⟨x_mok124, List.forall_mem_cons.mpr ⟨x_mok125, List.forall_mem_cons.mpr ⟨x_mok126, List.forall_mem_cons.mpr ⟨x_mok127, List.forall_mem_cons.mpr ⟨x_mok128, List.forall_mem_cons.mpr ⟨x_mok129, List.forall_mem_cons.mpr ⟨x_mok130, List.forall_mem_cons.mpr ⟨x_mok131, List.forall_mem_cons.mpr ⟨x_mok132, List.forall_mem_cons.mpr ⟨x_mok133, List.forall_mem_cons.mpr ⟨x_mok134, List.forall_mem_cons.mpr ⟨x_mok135, List.forall_mem_cons.mpr ⟨x_mok136, List.forall_mem_cons.mpr ⟨x_mok137, List.forall_mem_cons.mpr ⟨x_mok138, List.forall_mem_cons.mpr ⟨x_mok139, List.forall_mem_cons.mpr ⟨x_mok140, List.forall_mem_cons.mpr ⟨x_mok141, List.forall_mem_cons.mpr ⟨x_mok142, List.forall_mem_cons.mpr ⟨x_mok143, List.forall_mem_cons.mpr ⟨x_mok144, List.forall_mem_cons.mpr ⟨x_mok145, fun _ h => absurd h List.not_mem_nil⟩⟩⟩⟩⟩⟩⟩⟩⟩⟩⟩⟩⟩⟩⟩⟩⟩⟩⟩⟩⟩⟩⟩⟩⟩⟩⟩⟩⟩⟩⟩⟩⟩⟩⟩⟩⟩⟩⟩⟩⟩⟩⟩⟩⟩⟩⟩⟩⟩⟩⟩⟩⟩⟩⟩⟩⟩⟩⟩⟩⟩⟩⟩⟩⟩⟩⟩⟩⟩⟩⟩⟩⟩⟩⟩⟩⟩⟩⟩⟩⟩⟩⟩⟩⟩⟩⟩⟩⟩⟩⟩⟩⟩⟩⟩⟩⟩⟩⟩⟩⟩⟩⟩⟩⟩⟩⟩⟩⟩⟩⟩⟩⟩⟩⟩⟩⟩⟩⟩⟩⟩⟩⟩⟩⟩⟩⟩⟩⟩⟩⟩⟩⟩⟩⟩⟩⟩⟩⟩⟩⟩⟩⟩⟩⟩⟩
  exact fun k hk => h k (List.mem_range.mpr hk)
/-- words that no contract carries by itself: they go along in its start -/
def x_nl : List Cond := [.methodLinkNest (xR 9) 11 ⟨"MajorityMap$Client", "<init>", "()V"⟩ "MajorityMap", .methodLinkNest (xR 9) 18 ⟨"MajorityMap$Net", "<init>", "()V"⟩ "MajorityMap", .methodLinkNest (xR 0) 17 ⟨"MajorityMap$Votes", "<init>", "()V"⟩ "MajorityMap", .methodLinkNest (xR 0) 45 ⟨"MajorityMap", "isSlot", "(I)Z"⟩ "MajorityMap", .methodLinkNest (xR 2) 21 ⟨"MajorityMap", "isSlot", "(I)Z"⟩ "MajorityMap", .methodLinkNest (xR 5) 17 ⟨"MajorityMap$Votes", "<init>", "()V"⟩ "MajorityMap", .methodLinkNest (xR 5) 31 ⟨"MajorityMap$Campaign", "<init>", "()V"⟩ "MajorityMap", .methodLinkNest (xR 5) 81 ⟨"MajorityMap", "holdsMajority", "(II)Z"⟩ "MajorityMap", .methodLinkNest (xR 5) 85 ⟨"MajorityMap", "isSlot", "(I)Z"⟩ "MajorityMap", .methodLinkNest (xR 8) 18 ⟨"MajorityMap", "isSlot", "(I)Z"⟩ "MajorityMap", .arrayOver (.object (xR 6)), .arrayOver (.object (xR 3)), .arrayOver (.object (xR 5)), .castable "[I" "java/lang/Cloneable"]
theorem x_nl_in : ∀ w ∈ x_nl, w ∈ lw_tbl := List.forall_mem_cons.mpr ⟨x_e1 26 rfl, List.forall_mem_cons.mpr ⟨x_e1 41 rfl, List.forall_mem_cons.mpr ⟨x_e1 127 rfl, List.forall_mem_cons.mpr ⟨x_e2 79 rfl, List.forall_mem_cons.mpr ⟨x_e2 44 rfl, List.forall_mem_cons.mpr ⟨x_e1 96 rfl, List.forall_mem_cons.mpr ⟨x_e1 122 rfl, List.forall_mem_cons.mpr ⟨x_e2 68 rfl, List.forall_mem_cons.mpr ⟨x_e2 55 rfl, List.forall_mem_cons.mpr ⟨x_e2 88 rfl, List.forall_mem_cons.mpr ⟨x_e1 31 rfl, List.forall_mem_cons.mpr ⟨x_e1 46 rfl, List.forall_mem_cons.mpr ⟨x_e1 55 rfl, List.forall_mem_cons.mpr ⟨x_e3 63 rfl, fun _ h => absurd h List.not_mem_nil⟩⟩⟩⟩⟩⟩⟩⟩⟩⟩⟩⟩⟩⟩
def x_y (k : Nat) : MethodName := (x_m k).1
def x_cok (q : Nat × Nat × Nat × Nat) : Prop := if q.2.2.1 = 5 ∨ q.2.2.1 = 6 then Cond.methodLinkNest (xR q.1) q.2.1 (x_y q.2.2.2) "MajorityMap" ∈ x_nl else Cond.methodLink (xR q.1) q.2.1 (x_y q.2.2.2) ∈ x_ws
def x_cT_0 : List (Nat × Nat × Nat × Nat) := [(0, 17, 6, 63), (0, 24, 3, 10), (0, 36, 0, 65), (0, 40, 0, 66), (0, 44, 0, 15), (0, 45, 5, 78), (0, 49, 0, 14), (1, 21, 0, 8), (2, 15, 2, 145), (2, 21, 5, 78), (2, 25, 0, 13), (2, 28, 0, 12), (3, 41, 0, 71), (3, 47, 0, 62), (4, 21, 0, 25), (5, 17, 6, 63), (5, 24, 3, 10), (5, 31, 6, 0), (5, 61, 0, 28), (5, 70, 0, 31)]
theorem x_cT_0_ok : ∀ q ∈ x_cT_0, x_cok q := List.forall_mem_cons.mpr ⟨List.mem_of_getElem? (i := 2) rfl, List.forall_mem_cons.mpr ⟨x_wi (x_e1 129 rfl) rfl, List.forall_mem_cons.mpr ⟨x_wi (x_e2 186 rfl) rfl, List.forall_mem_cons.mpr ⟨x_wi (x_e2 190 rfl) rfl, List.forall_mem_cons.mpr ⟨x_wi (x_e2 207 rfl) rfl, List.forall_mem_cons.mpr ⟨List.mem_of_getElem? (i := 3) rfl, List.forall_mem_cons.mpr ⟨x_wi (x_e2 80 rfl) rfl, List.forall_mem_cons.mpr ⟨x_wi (x_e2 31 rfl) rfl, List.forall_mem_cons.mpr ⟨x_wi (x_e1 113 rfl) rfl, List.forall_mem_cons.mpr ⟨List.mem_of_getElem? (i := 4) rfl, List.forall_mem_cons.mpr ⟨x_wi (x_e3 79 rfl) rfl, List.forall_mem_cons.mpr ⟨x_wi (x_e2 40 rfl) rfl, List.forall_mem_cons.mpr ⟨x_wi (x_e3 137 rfl) rfl, List.forall_mem_cons.mpr ⟨x_wi (x_e3 138 rfl) rfl, List.forall_mem_cons.mpr ⟨x_wi (x_e2 219 rfl) rfl, List.forall_mem_cons.mpr ⟨List.mem_of_getElem? (i := 5) rfl, List.forall_mem_cons.mpr ⟨x_wi (x_e1 109 rfl) rfl, List.forall_mem_cons.mpr ⟨List.mem_of_getElem? (i := 6) rfl, List.forall_mem_cons.mpr ⟨x_wi (x_e2 32 rfl) rfl, List.forall_mem_cons.mpr ⟨x_wi (x_e2 60 rfl) rfl, fun _ h => absurd h List.not_mem_nil⟩⟩⟩⟩⟩⟩⟩⟩⟩⟩⟩⟩⟩⟩⟩⟩⟩⟩⟩⟩
def x_cT_1 : List (Nat × Nat × Nat × Nat) := [(5, 77, 0, 57), (5, 81, 5, 79), (5, 85, 5, 78), (5, 88, 0, 13), (5, 94, 0, 15), (5, 98, 0, 5), (5, 101, 0, 71), (5, 104, 0, 65), (5, 105, 0, 43), (5, 109, 0, 55), (5, 112, 0, 56), (5, 115, 0, 9), (5, 121, 0, 11), (5, 124, 0, 29), (5, 128, 0, 32), (5, 131, 0, 30), (5, 134, 0, 58), (5, 137, 0, 33), (5, 140, 0, 34), (5, 144, 0, 36)]
theorem x_cT_1_ok : ∀ q ∈ x_cT_1, x_cok q := List.forall_mem_cons.mpr ⟨x_wi (x_e2 64 rfl) rfl, List.forall_mem_cons.mpr ⟨List.mem_of_getElem? (i := 7) rfl, List.forall_mem_cons.mpr ⟨List.mem_of_getElem? (i := 8) rfl, List.forall_mem_cons.mpr ⟨x_wi (x_e2 56 rfl) rfl, List.forall_mem_cons.mpr ⟨x_wi (x_e3 22 rfl) rfl, List.forall_mem_cons.mpr ⟨x_wi (x_e3 102 rfl) rfl, List.forall_mem_cons.mpr ⟨x_wi (x_e3 17 rfl) rfl, List.forall_mem_cons.mpr ⟨x_wi (x_e3 21 rfl) rfl, List.forall_mem_cons.mpr ⟨x_wi (x_e3 13 rfl) rfl, List.forall_mem_cons.mpr ⟨x_wi (x_e2 18 rfl) rfl, List.forall_mem_cons.mpr ⟨x_wi (x_e2 22 rfl) rfl, List.forall_mem_cons.mpr ⟨x_wi (x_e2 27 rfl) rfl, List.forall_mem_cons.mpr ⟨x_wi (x_e2 36 rfl) rfl, List.forall_mem_cons.mpr ⟨x_wi (x_e2 47 rfl) rfl, List.forall_mem_cons.mpr ⟨x_wi (x_e2 71 rfl) rfl, List.forall_mem_cons.mpr ⟨x_wi (x_e2 51 rfl) rfl, List.forall_mem_cons.mpr ⟨x_wi (x_e2 159 rfl) rfl, List.forall_mem_cons.mpr ⟨x_wi (x_e2 93 rfl) rfl, List.forall_mem_cons.mpr ⟨x_wi (x_e2 97 rfl) rfl, List.forall_mem_cons.mpr ⟨x_wi (x_e2 163 rfl) rfl, fun _ h => absurd h List.not_mem_nil⟩⟩⟩⟩⟩⟩⟩⟩⟩⟩⟩⟩⟩⟩⟩⟩⟩⟩⟩⟩
def x_cT_2 : List (Nat × Nat × Nat × Nat) := [(5, 147, 0, 37), (5, 150, 0, 4), (5, 154, 2, 143), (5, 160, 2, 144), (5, 163, 0, 3), (5, 166, 0, 12), (5, 171, 3, 17), (5, 174, 0, 22), (5, 180, 0, 1), (5, 181, 0, 64), (5, 184, 0, 2), (5, 190, 0, 39), (5, 194, 0, 41), (5, 197, 0, 44), (5, 200, 0, 45), (5, 203, 0, 46), (5, 207, 0, 47), (5, 213, 0, 42), (5, 217, 0, 48), (5, 223, 0, 40)]
theorem x_cT_2_ok : ∀ q ∈ x_cT_2, x_cok q := List.forall_mem_cons.mpr ⟨x_wi (x_e2 172 rfl) rfl, List.forall_mem_cons.mpr ⟨x_wi (x_e2 182 rfl) rfl, List.forall_mem_cons.mpr ⟨x_wi (x_e2 176 rfl) rfl, List.forall_mem_cons.mpr ⟨x_wi (x_e2 179 rfl) rfl, List.forall_mem_cons.mpr ⟨x_wi (x_e2 167 rfl) rfl, List.forall_mem_cons.mpr ⟨x_wi (x_e2 171 rfl) rfl, List.forall_mem_cons.mpr ⟨x_wi (x_e2 103 rfl) rfl, List.forall_mem_cons.mpr ⟨x_wi (x_e2 143 rfl) rfl, List.forall_mem_cons.mpr ⟨x_wi (x_e2 75 rfl) rfl, List.forall_mem_cons.mpr ⟨x_wi (x_e2 84 rfl) rfl, List.forall_mem_cons.mpr ⟨x_wi (x_e2 89 rfl) rfl, List.forall_mem_cons.mpr ⟨x_wi (x_e2 227 rfl) rfl, List.forall_mem_cons.mpr ⟨x_wi (x_e3 5 rfl) rfl, List.forall_mem_cons.mpr ⟨x_wi (x_e3 24 rfl) rfl, List.forall_mem_cons.mpr ⟨x_wi (x_e3 28 rfl) rfl, List.forall_mem_cons.mpr ⟨x_wi (x_e3 33 rfl) rfl, List.forall_mem_cons.mpr ⟨x_wi (x_e3 37 rfl) rfl, List.forall_mem_cons.mpr ⟨x_wi (x_e3 9 rfl) rfl, List.forall_mem_cons.mpr ⟨x_wi (x_e3 41 rfl) rfl, List.forall_mem_cons.mpr ⟨x_wi (x_e2 231 rfl) rfl, fun _ h => absurd h List.not_mem_nil⟩⟩⟩⟩⟩⟩⟩⟩⟩⟩⟩⟩⟩⟩⟩⟩⟩⟩⟩⟩
def x_cT_3 : List (Nat × Nat × Nat × Nat) := [(5, 226, 0, 70), (5, 230, 3, 18), (5, 237, 0, 66), (5, 245, 0, 14), (5, 247, 0, 49), (5, 250, 0, 50), (5, 253, 0, 8), (5, 257, 0, 59), (5, 261, 0, 68), (5, 262, 0, 69), (5, 265, 0, 16), (5, 268, 0, 72), (7, 40, 3, 60), (7, 43, 0, 55), (7, 47, 0, 61), (7, 62, 2, 142), (8, 18, 5, 78), (8, 22, 0, 68), (8, 25, 0, 67), (8, 29, 0, 69)]
theorem x_cT_3_ok : ∀ q ∈ x_cT_3, x_cok q := List.forall_mem_cons.mpr ⟨x_wi (x_e2 235 rfl) rfl, List.forall_mem_cons.mpr ⟨x_wi (x_e3 2 rfl) rfl, List.forall_mem_cons.mpr ⟨x_wi (x_e3 23 rfl) rfl, List.forall_mem_cons.mpr ⟨x_wi (x_e3 32 rfl) rfl, List.forall_mem_cons.mpr ⟨x_wi (x_e3 45 rfl) rfl, List.forall_mem_cons.mpr ⟨x_wi (x_e3 69 rfl) rfl, List.forall_mem_cons.mpr ⟨x_wi (x_e3 49 rfl) rfl, List.forall_mem_cons.mpr ⟨x_wi (x_e3 50 rfl) rfl, List.forall_mem_cons.mpr ⟨x_wi (x_e3 73 rfl) rfl, List.forall_mem_cons.mpr ⟨x_wi (x_e3 74 rfl) rfl, List.forall_mem_cons.mpr ⟨x_wi (x_e3 75 rfl) rfl, List.forall_mem_cons.mpr ⟨x_wi (x_e3 80 rfl) rfl, List.forall_mem_cons.mpr ⟨x_wi (x_e3 55 rfl) rfl, List.forall_mem_cons.mpr ⟨x_wi (x_e2 26 rfl) rfl, List.forall_mem_cons.mpr ⟨x_wi (x_e3 65 rfl) rfl, List.forall_mem_cons.mpr ⟨x_wi (x_e3 142 rfl) rfl, List.forall_mem_cons.mpr ⟨List.mem_of_getElem? (i := 9) rfl, List.forall_mem_cons.mpr ⟨x_wi (x_e2 198 rfl) rfl, List.forall_mem_cons.mpr ⟨x_wi (x_e2 194 rfl) rfl, List.forall_mem_cons.mpr ⟨x_wi (x_e2 202 rfl) rfl, fun _ h => absurd h List.not_mem_nil⟩⟩⟩⟩⟩⟩⟩⟩⟩⟩⟩⟩⟩⟩⟩⟩⟩⟩⟩⟩
def x_cT_4 : List (Nat × Nat × Nat × Nat) := [(8, 32, 0, 64), (8, 36, 3, 63), (8, 37, 0, 66), (9, 11, 6, 6), (9, 18, 6, 21), (9, 31, 3, 54), (9, 32, 3, 26), (9, 35, 2, 75), (9, 41, 3, 53), (9, 44, 0, 7), (9, 48, 0, 8), (9, 52, 2, 77), (9, 55, 0, 27), (9, 63, 0, 23), (9, 67, 0, 35), (9, 70, 0, 24), (9, 80, 0, 38), (9, 84, 0, 25), (9, 87, 0, 22), (9, 91, 0, 51)]
theorem x_cT_4_ok : ∀ q ∈ x_cT_4, x_cok q := List.forall_mem_cons.mpr ⟨x_wi (x_e2 206 rfl) rfl, List.forall_mem_cons.mpr ⟨x_wi (x_e3 0 rfl) rfl, List.forall_mem_cons.mpr ⟨x_wi (x_e3 1 rfl) rfl, List.forall_mem_cons.mpr ⟨List.mem_of_getElem? (i := 0) rfl, List.forall_mem_cons.mpr ⟨List.mem_of_getElem? (i := 1) rfl, List.forall_mem_cons.mpr ⟨x_wi (x_e1 58 rfl) rfl, List.forall_mem_cons.mpr ⟨x_wi (x_e1 90 rfl) rfl, List.forall_mem_cons.mpr ⟨x_wi (x_e1 203 rfl) rfl, List.forall_mem_cons.mpr ⟨x_wi (x_e1 214 rfl) rfl, List.forall_mem_cons.mpr ⟨x_wi (x_e1 239 rfl) rfl, List.forall_mem_cons.mpr ⟨x_wi (x_e2 7 rfl) rfl, List.forall_mem_cons.mpr ⟨x_wi (x_e2 11 rfl) rfl, List.forall_mem_cons.mpr ⟨x_wi (x_e2 14 rfl) rfl, List.forall_mem_cons.mpr ⟨x_wi (x_e2 151 rfl) rfl, List.forall_mem_cons.mpr ⟨x_wi (x_e2 155 rfl) rfl, List.forall_mem_cons.mpr ⟨x_wi (x_e2 215 rfl) rfl, List.forall_mem_cons.mpr ⟨x_wi (x_e2 223 rfl) rfl, List.forall_mem_cons.mpr ⟨x_wi (x_e3 92 rfl) rfl, List.forall_mem_cons.mpr ⟨x_wi (x_e3 93 rfl) rfl, List.forall_mem_cons.mpr ⟨x_wi (x_e3 98 rfl) rfl, fun _ h => absurd h List.not_mem_nil⟩⟩⟩⟩⟩⟩⟩⟩⟩⟩⟩⟩⟩⟩⟩⟩⟩⟩⟩⟩
def x_cT_5 : List (Nat × Nat × Nat × Nat) := [(9, 98, 0, 43), (9, 105, 3, 17), (9, 114, 0, 19), (9, 117, 0, 20), (9, 129, 0, 28), (9, 142, 0, 52), (9, 145, 0, 57), (9, 155, 2, 78), (9, 162, 0, 68), (9, 167, 0, 67), (9, 170, 0, 69), (9, 179, 2, 141), (10, 114, 0, 102), (10, 118, 0, 101), (10, 122, 2, 97), (10, 132, 0, 111), (10, 136, 0, 116), (10, 140, 0, 121), (10, 143, 0, 106), (10, 146, 0, 109)]
theorem x_cT_5_ok : ∀ q ∈ x_cT_5, x_cok q := List.forall_mem_cons.mpr ⟨x_wi (x_e3 114 rfl) rfl, List.forall_mem_cons.mpr ⟨x_wi (x_e3 120 rfl) rfl, List.forall_mem_cons.mpr ⟨x_wi (x_e3 129 rfl) rfl, List.forall_mem_cons.mpr ⟨x_wi (x_e3 133 rfl) rfl, List.forall_mem_cons.mpr ⟨x_wi (x_e3 152 rfl) rfl, List.forall_mem_cons.mpr ⟨x_wi (x_e3 153 rfl) rfl, List.forall_mem_cons.mpr ⟨x_wi (x_e3 157 rfl) rfl, List.forall_mem_cons.mpr ⟨x_wi (x_e3 166 rfl) rfl, List.forall_mem_cons.mpr ⟨x_wi (x_e3 167 rfl) rfl, List.forall_mem_cons.mpr ⟨x_wi (x_e3 168 rfl) rfl, List.forall_mem_cons.mpr ⟨x_wi (x_e3 169 rfl) rfl, List.forall_mem_cons.mpr ⟨x_wi (x_e1 206 rfl) rfl, List.forall_mem_cons.mpr ⟨x_wi (x_e4 94 rfl) rfl, List.forall_mem_cons.mpr ⟨x_wi (x_e4 90 rfl) rfl, List.forall_mem_cons.mpr ⟨x_wi (x_e4 76 rfl) rfl, List.forall_mem_cons.mpr ⟨x_wi (x_e4 129 rfl) rfl, List.forall_mem_cons.mpr ⟨x_wi (x_e4 150 rfl) rfl, List.forall_mem_cons.mpr ⟨x_wi (x_e4 170 rfl) rfl, List.forall_mem_cons.mpr ⟨x_wi (x_e4 110 rfl) rfl, List.forall_mem_cons.mpr ⟨x_wi (x_e4 121 rfl) rfl, fun _ h => absurd h List.not_mem_nil⟩⟩⟩⟩⟩⟩⟩⟩⟩⟩⟩⟩⟩⟩⟩⟩⟩⟩⟩⟩
def x_cT_6 : List (Nat × Nat × Nat × Nat) := [(10, 150, 0, 110), (10, 153, 0, 105), (10, 157, 0, 104), (10, 161, 0, 103), (10, 164, 2, 107), (10, 167, 0, 108), (10, 171, 0, 123), (10, 183, 0, 120), (10, 186, 0, 122), (10, 195, 0, 118), (10, 198, 0, 119), (10, 201, 0, 124), (10, 204, 0, 125), (10, 207, 0, 126), (10, 210, 2, 99), (10, 216, 0, 100), (10, 219, 0, 113), (10, 223, 0, 115), (10, 226, 0, 117), (10, 229, 0, 135)]
theorem x_cT_6_ok : ∀ q ∈ x_cT_6, x_cok q := List.forall_mem_cons.mpr ⟨x_wi (x_e4 125 rfl) rfl, List.forall_mem_cons.mpr ⟨x_wi (x_e4 106 rfl) rfl, List.forall_mem_cons.mpr ⟨x_wi (x_e4 102 rfl) rfl, List.forall_mem_cons.mpr ⟨x_wi (x_e4 98 rfl) rfl, List.forall_mem_cons.mpr ⟨x_wi (x_e4 114 rfl) rfl, List.forall_mem_cons.mpr ⟨x_wi (x_e4 117 rfl) rfl, List.forall_mem_cons.mpr ⟨x_wi (x_e4 178 rfl) rfl, List.forall_mem_cons.mpr ⟨x_wi (x_e4 166 rfl) rfl, List.forall_mem_cons.mpr ⟨x_wi (x_e4 174 rfl) rfl, List.forall_mem_cons.mpr ⟨x_wi (x_e4 158 rfl) rfl, List.forall_mem_cons.mpr ⟨x_wi (x_e4 162 rfl) rfl, List.forall_mem_cons.mpr ⟨x_wi (x_e4 182 rfl) rfl, List.forall_mem_cons.mpr ⟨x_wi (x_e4 186 rfl) rfl, List.forall_mem_cons.mpr ⟨x_wi (x_e4 190 rfl) rfl, List.forall_mem_cons.mpr ⟨x_wi (x_e4 83 rfl) rfl, List.forall_mem_cons.mpr ⟨x_wi (x_e4 86 rfl) rfl, List.forall_mem_cons.mpr ⟨x_wi (x_e4 137 rfl) rfl, List.forall_mem_cons.mpr ⟨x_wi (x_e4 146 rfl) rfl, List.forall_mem_cons.mpr ⟨x_wi (x_e4 154 rfl) rfl, List.forall_mem_cons.mpr ⟨x_wi (x_e4 226 rfl) rfl, fun _ h => absurd h List.not_mem_nil⟩⟩⟩⟩⟩⟩⟩⟩⟩⟩⟩⟩⟩⟩⟩⟩⟩⟩⟩⟩
def x_cT : List (Nat × Nat × Nat × Nat) := x_cT_0 ++ (x_cT_1 ++ (x_cT_2 ++ (x_cT_3 ++ (x_cT_4 ++ (x_cT_5 ++ (x_cT_6))))))
theorem x_cT_ok : ∀ q ∈ x_cT, x_cok q := List.forall_mem_append.mpr ⟨x_cT_0_ok, List.forall_mem_append.mpr ⟨x_cT_1_ok, List.forall_mem_append.mpr ⟨x_cT_2_ok, List.forall_mem_append.mpr ⟨x_cT_3_ok, List.forall_mem_append.mpr ⟨x_cT_4_ok, List.forall_mem_append.mpr ⟨x_cT_5_ok, x_cT_6_ok⟩⟩⟩⟩⟩⟩
def x_ook (q : Nat × Nat) : Prop := Cond.methodLink (xR q.1) q.2 Lib.objectInit ∈ x_ws
def x_oT_0 : List (Nat × Nat) := [(0, 3), (1, 3), (2, 3), (3, 3), (4, 3), (5, 3), (6, 1), (7, 3), (8, 3), (9, 3), (10, 1)]
theorem x_oT_0_ok : ∀ q ∈ x_oT_0, x_ook q := List.forall_mem_cons.mpr ⟨x_wi (x_e1 125 rfl) rfl, List.forall_mem_cons.mpr ⟨x_wi (x_e1 29 rfl) rfl, List.forall_mem_cons.mpr ⟨x_wi (x_e1 112 rfl) rfl, List.forall_mem_cons.mpr ⟨x_wi (x_e2 106 rfl) rfl, List.forall_mem_cons.mpr ⟨x_wi (x_e1 44 rfl) rfl, List.forall_mem_cons.mpr ⟨x_wi (x_e1 93 rfl) rfl, List.forall_mem_cons.mpr ⟨x_wi (x_e1 217 rfl) rfl, List.forall_mem_cons.mpr ⟨x_wi (x_e1 61 rfl) rfl, List.forall_mem_cons.mpr ⟨x_wi (x_e1 99 rfl) rfl, List.forall_mem_cons.mpr ⟨x_wi (x_e1 21 rfl) rfl, List.forall_mem_cons.mpr ⟨x_wi (x_e3 183 rfl) rfl, fun _ h => absurd h List.not_mem_nil⟩⟩⟩⟩⟩⟩⟩⟩⟩⟩⟩
def x_oT : List (Nat × Nat) := x_oT_0
theorem x_oT_ok : ∀ q ∈ x_oT, x_ook q := x_oT_0_ok
theorem x_oi : Cond.instanceMethod Lib.objectInit ∈ x_ws := x_wi (x_e1 22 rfl) rfl
theorem x_oc : Cond.code Lib.objectInit ⟨#[0xb1]⟩ 1 none ∈ x_ws := x_wi (x_e1 23 rfl) rfl
def x_kok (q : Nat × Nat) : Prop := Cond.methodLink (xR q.1) q.2 ⟨"[I", "clone", "()Ljava/lang/Object;"⟩ ∈ x_ws
def x_kT_0 : List (Nat × Nat) := [(7, 31)]
theorem x_kT_0_ok : ∀ q ∈ x_kT_0, x_kok q := List.forall_mem_cons.mpr ⟨x_wi (x_e3 58 rfl) rfl, fun _ h => absurd h List.not_mem_nil⟩
def x_kT : List (Nat × Nat) := x_kT_0
theorem x_kT_ok : ∀ q ∈ x_kT, x_kok q := x_kT_0_ok
theorem x_k1 : Cond.sameMethod "[I" "java/lang/Object" "clone" "()Ljava/lang/Object;" ∈ x_ws := x_wi (x_e3 59 rfl) rfl
theorem x_k2 : Cond.native ⟨"java/lang/Object", "clone", "()Ljava/lang/Object;"⟩ ∈ x_ws := x_wi (x_e3 60 rfl) rfl
theorem x_k3 : Cond.instanceMethod ⟨"java/lang/Object", "clone", "()Ljava/lang/Object;"⟩ ∈ x_ws := x_wi (x_e3 61 rfl) rfl
theorem x_k4 : Cond.selects "[I" ⟨"[I", "clone", "()Ljava/lang/Object;"⟩ ⟨"java/lang/Object", "clone", "()Ljava/lang/Object;"⟩ ∈ x_ws := x_wi (x_e3 62 rfl) rfl
def x_nok (q : Nat × Nat × Nat × Nat) : Prop := Cond.classLink (xR q.1) q.2.1 (xR q.2.2.1) ∈ x_ws
def x_nT_0 : List (Nat × Nat × Nat × Nat) := [(0, 15, 8, 2), (0, 22, 2, 1), (5, 15, 8, 2), (5, 22, 2, 1), (5, 29, 0, 5), (5, 169, 3, 8), (7, 10, 7, 7), (8, 10, 8, 2), (9, 9, 1, 2), (9, 16, 4, 2), (9, 23, 5, 10), (9, 29, 7, 7), (9, 39, 6, 5), (9, 75, 3, 8)]
theorem x_nT_0_ok : ∀ q ∈ x_nT_0, x_nok q := List.forall_mem_cons.mpr ⟨x_wi (x_e1 126 rfl) rfl, List.forall_mem_cons.mpr ⟨x_wi (x_e1 128 rfl) rfl, List.forall_mem_cons.mpr ⟨x_wi (x_e1 94 rfl) rfl, List.forall_mem_cons.mpr ⟨x_wi (x_e1 107 rfl) rfl, List.forall_mem_cons.mpr ⟨x_wi (x_e1 120 rfl) rfl, List.forall_mem_cons.mpr ⟨x_wi (x_e2 101 rfl) rfl, List.forall_mem_cons.mpr ⟨x_wi (x_e3 54 rfl) rfl, List.forall_mem_cons.mpr ⟨x_wi (x_e2 239 rfl) rfl, List.forall_mem_cons.mpr ⟨x_wi (x_e1 24 rfl) rfl, List.forall_mem_cons.mpr ⟨x_wi (x_e1 39 rfl) rfl, List.forall_mem_cons.mpr ⟨x_wi (x_e1 54 rfl) rfl, List.forall_mem_cons.mpr ⟨x_wi (x_e1 56 rfl) rfl, List.forall_mem_cons.mpr ⟨x_wi (x_e1 212 rfl) rfl, List.forall_mem_cons.mpr ⟨x_wi (x_e3 119 rfl) rfl, fun _ h => absurd h List.not_mem_nil⟩⟩⟩⟩⟩⟩⟩⟩⟩⟩⟩⟩⟩⟩
def x_nT : List (Nat × Nat × Nat × Nat) := x_nT_0
theorem x_nT_ok : ∀ q ∈ x_nT, x_nok q := x_nT_0_ok
def x_qok (q : Nat × Nat × Nat) : Prop := Cond.classLink (xR q.1) q.2.1 (xR (x_ec q.2.2)) ∈ x_ws
def x_qT_0 : List (Nat × Nat × Nat) := [(1, 9, 2), (4, 9, 3), (9, 23, 4)]
theorem x_qT_0_ok : ∀ q ∈ x_qT_0, x_qok q := List.forall_mem_cons.mpr ⟨x_wi (x_e1 30 rfl) rfl, List.forall_mem_cons.mpr ⟨x_wi (x_e1 45 rfl) rfl, List.forall_mem_cons.mpr ⟨x_wi (x_e1 54 rfl) rfl, fun _ h => absurd h List.not_mem_nil⟩⟩⟩
def x_qT : List (Nat × Nat × Nat) := x_qT_0
theorem x_qT_ok : ∀ q ∈ x_qT, x_qok q := x_qT_0_ok
def x_hok (q : Nat × Nat) : Prop := Cond.classLink (xR q.1) q.2 "[I" ∈ x_ws
def x_hT_0 : List (Nat × Nat) := [(7, 32)]
theorem x_hT_0_ok : ∀ q ∈ x_hT_0, x_hok q := List.forall_mem_cons.mpr ⟨x_wi (x_e3 64 rfl) rfl, fun _ h => absurd h List.not_mem_nil⟩
def x_hT : List (Nat × Nat) := x_hT_0
theorem x_hT_ok : ∀ q ∈ x_hT, x_hok q := x_hT_0_ok
def x_lok (q : Nat × Nat × Int32) : Prop := Cond.constant (xR q.1) q.2.1 q.2.2 ∈ x_ws
def x_lT_0 : List (Nat × Nat × Int32) := [(10, 222, nI 100000), (11, 265, nI 1431655765), (11, 266, nI 858993459), (11, 267, nI 252645135)]
theorem x_lT_0_ok : ∀ q ∈ x_lT_0, x_lok q := List.forall_mem_cons.mpr ⟨x_wi (x_e4 141 rfl) rfl, List.forall_mem_cons.mpr ⟨x_wi (x_e1 209 rfl) rfl, List.forall_mem_cons.mpr ⟨x_wi (x_e1 210 rfl) rfl, List.forall_mem_cons.mpr ⟨x_wi (x_e1 211 rfl) rfl, fun _ h => absurd h List.not_mem_nil⟩⟩⟩⟩
def x_lT : List (Nat × Nat × Int32) := x_lT_0
theorem x_lT_ok : ∀ q ∈ x_lT, x_lok q := x_lT_0_ok
theorem x_a0 : Cond.arrayClass .int ∈ x_ws := x_wi (x_e1 88 rfl) rfl
theorem x_a1 : Cond.arrayClass .boolean ∈ x_ws := x_wi (x_e4 71 rfl) rfl
theorem x_L0 : Cond.constantLong (xR 12) 314 (6148914691236517205) ∈ x_ws := x_wi (x_e3 145 rfl) rfl
theorem x_L1 : Cond.constantLong (xR 12) 316 (3689348814741910323) ∈ x_ws := x_wi (x_e3 146 rfl) rfl
theorem x_L2 : Cond.constantLong (xR 12) 318 (1085102592571150095) ∈ x_ws := x_wi (x_e3 147 rfl) rfl
end
section
/-! each entry of the linked code is what the bytes say, and its numbers are the tables' (by program) -/
def x_nA : List Nat := [0, 2, 2, 1, 3, 0, 0, 1, 1, 2, 0, 2, 1, 1, 2, 1, 1, 6, 6, 0, 0, 0, 1, 0, 1, 1, 4, 1, 0, 0, 1, 1, 2, 0, 5, 0, 0, 1, 1, 1, 1, 1, 1, 1, 1, 1, 1, 1, 0, 1, 1, 0, 0, 3, 0, 1, 1, 1, 0, 2, 1, 2, 0, 0, 3, 1, 1, 1, 1, 1, 0, 1, 1, 0, 3, 1, 2, 1, 1, 2, 1, 1, 1, 1, 1, 1, 1, 2, 0, 2, 2, 2, 2, 1, 1, 0, 3, 1, 2, 1, 1, 1, 2, 1, 1, 2, 2, 2, 3, 4, 6, 6, 1, 1, 1, 1, 2, 2, 1, 1, 2, 2, 1, 2, 1, 1, 1, 1, 1, 1, 1, 1, 2, 0, 2, 1, 2, 2, 2, 1, 1, 1, 1, 2, 2, 2]
def x_iL : List Nat := [1, 0, 0, 0, 0, 0, 1, 0, 0, 0, 1, 0, 0, 0, 0, 0, 0, 1, 1, 0, 0, 1, 0, 0, 0, 0, 1, 0, 0, 0, 0, 0, 0, 0, 0, 0, 0, 0, 0, 0, 0, 0, 0, 0, 0, 0, 0, 0, 0, 0, 0, 0, 0, 1, 1, 0, 0, 0, 0, 0, 1, 0, 0, 1, 0, 0, 0, 0, 0, 0, 0, 0, 0, 1, 0, 0, 0, 0, 0, 0, 0, 0, 0, 0, 0, 0, 0, 0, 0, 0, 0, 0, 0, 0, 0, 1, 0, 0, 0, 0, 0, 0, 0, 0, 0, 0, 0, 0, 0, 0, 0, 0, 0, 0, 0, 0, 0, 0, 0, 0, 0, 0, 0, 0, 0, 0, 0, 0, 0, 0, 0, 0, 0, 0, 0, 0, 0, 0, 0, 0, 0, 0, 0, 0, 0, 0]
def x_len : Instr → Nat
  | .bipush _ => 2
  | .iload _ => 2
  | .aload _ => 2
  | .istore _ => 2
  | .astore _ => 2
  | .ldc _ => 2
  | .newarray _ => 2
  | .tableswitch _ _ _ _ => 0
  | .sipush _ => 3
  | .ldc_w _ => 3
  | .iinc _ _ => 3
  | .ifCond _ _ => 3
  | .if_icmp _ _ => 3
  | .goto _ => 3
  | .ifnull _ => 3
  | .ifnonnull _ => 3
  | .getfield _ => 3
  | .putfield _ => 3
  | .new _ => 3
  | .anewarray _ => 3
  | .checkcast _ => 3
  | .invokespecial _ => 3
  | .invokestatic _ => 3
  | .invokevirtual _ => 3
  | _ => 1
def x_okn (own nL k pc : Nat) (c : Int32) (ins : Instr) (xs : List Nat) : Bool := match ins, xs with
  | .iconst n, _ => decide (Int32.ofInt n = c)
  | .bipush n, _ => decide ((Int8.ofInt n).toInt32 = c)
  | .sipush n, _ => decide ((Int16.ofInt n).toInt32 = c)
  | .ldc i, _ => decide ((own, i, c) ∈ x_lT)
  | .ldc_w i, _ => decide ((own, i, c) ∈ x_lT)
  | .iload_n n, [i] => decide (n.val = i)
  | .aload_n n, [i] => decide (n.val = i)
  | .iload n, [i] => decide (n = i)
  | .aload n, [i] => decide (n = i)
  | .istore_n n, [i] => decide (n.val = i ∧ i < nL)
  | .astore_n n, [i] => decide (n.val = i ∧ i < nL)
  | .istore n, [i] => decide (n = i ∧ i < nL)
  | .astore n, [i] => decide (n = i ∧ i < nL)
  | .iinc n v, [i] => decide (n = i ∧ Int32.ofInt v = c ∧ i < nL)
  | .ifCond _ off, [t] => decide ((pc : Int) + off = (t : Int))
  | .if_icmp _ off, [t] => decide ((pc : Int) + off = (t : Int))
  | .goto off, [t] => decide ((pc : Int) + off = (t : Int))
  | .ifnull off, [t] => decide ((pc : Int) + off = (t : Int))
  | .ifnonnull off, [t] => decide ((pc : Int) + off = (t : Int))
  | .tableswitch d lo hi offs, l :: t :: ts => decide (lo = (l : Int) ∧ (pc : Int) + d = (t : Int) ∧ hi + 1 - lo = (ts.length : Int) ∧ offs.toList.map (fun o => (pc : Int) + o) = ts.map (fun (x : Nat) => (x : Int)))
  | .getfield i, [ci, n, j, ty] => decide ((own, i, ci, n, j, ty) ∈ x_fT)
  | .putfield i, [ci, n, j, ty] => decide ((own, i, ci, n, j, ty) ∈ x_fT ∧ ((xT ci j).2.2.2 = true → own = ci ∧ x_iL.getD k 0 = 1))
  | .new i, [ci, n] => decide ((own, i, ci, n) ∈ x_nT)
  | .newarray a, [t] => decide ((a = .int ∧ t = 0) ∨ (a = .boolean ∧ t = 1))
  | .anewarray i, [t] => decide ((own, i, t) ∈ x_qT)
  | .checkcast i, _ => decide ((own, i) ∈ x_hT)
  | .invokespecial i, [kd] => decide (kd = 8 ∧ (own, i) ∈ x_oT)
  | .invokevirtual i, [kd] => decide (kd = 9 ∧ (own, i) ∈ x_kT)
  | .invokevirtual i, [kd, k', ci, na] => decide (kd = 0 ∧ (own, i, kd, k') ∈ x_cT ∧ ci = (x_m k').2.2.2 ∧ na = x_nA.getD k' 0 + 1 ∧ x_sL.getD k' 0 = 0 ∧ x_iL.getD k' 0 = 0 ∧ ci < 11)
  | .invokestatic i, [kd, k', ci, na] => decide ((kd = 2 ∨ kd = 5) ∧ (own, i, kd, k') ∈ x_cT ∧ ci = (x_m k').2.2.2 ∧ na = x_nA.getD k' 0 ∧ x_sL.getD k' 0 = 1)
  | .invokespecial i, [kd, k', ci, na] => decide ((kd = 3 ∨ kd = 6) ∧ (own, i, kd, k') ∈ x_cT ∧ ci = (x_m k').2.2.2 ∧ na = x_nA.getD k' 0 + 1 ∧ x_sL.getD k' 0 = 0 ∧ x_iL.getD k' 0 = 1)
  | .aconst_null, _ => true
  | .lconst _, _ => true
  | .iadd, _ => true
  | .isub, _ => true
  | .imul, _ => true
  | .idiv, _ => true
  | .iand, _ => true
  | .ior, _ => true
  | .ixor, _ => true
  | .ishl, _ => true
  | .ishr, _ => true
  | .iushr, _ => true
  | .land, _ => true
  | .lor, _ => true
  | .lshl, _ => true
  | .lshr, _ => true
  | .lcmp, _ => true
  | .dup, _ => true
  | .dup2, _ => true
  | .pop, _ => true
  | .iaload, _ => true
  | .baload, _ => true
  | .aaload, _ => true
  | .iastore, _ => true
  | .bastore, _ => true
  | .aastore, _ => true
  | .arraylength, _ => true
  | .ireturn, _ => true
  | .areturn, _ => true
  | .return_, _ => true
  | _, _ => false
def x_okb (k pc : Nat) (e : xE) : Bool := decide (decode (x_b k) pc = .ok (e.1, e.2.1 - pc)) && decide (x_len e.1 = 0 ∨ e.2.1 = pc + x_len e.1) && x_okn (x_m k).2.2.2 (x_nL k) k pc e.2.2.1 e.1 e.2.2.2
def x_okT (k : Nat) : Nat → List (Option xE) → Bool
  | _, [] => true
  | pc, none :: l => x_okT k (pc + 1) l
  | pc, some e :: l => x_okb k pc e && x_okT k (pc + 1) l
theorem x_okT_at {k : Nat} : ∀ (l : List (Option xE)) (p i : Nat) (e : xE), x_okT k p l = true → l[i]? = some (some e) → x_okb k (p + i) e = true := by
  intro l
  induction l with
  | nil => intro p i e _ h; simp at h
  | cons o l ih =>
    intro p i e h hi
    cases i with
    | zero =>
      simp at hi
      subst hi
      simp only [x_okT, Bool.and_eq_true] at h
      exact h.1
    | succ i =>
      simp at hi
      cases o with
      | none => simp only [x_okT] at h; have := ih (p + 1) i e h hi; rwa [show p + 1 + i = p + (i + 1) by omega] at this
      | some e' => simp only [x_okT, Bool.and_eq_true] at h; have := ih (p + 1) i e h.2 hi; rwa [show p + 1 + i = p + (i + 1) by omega] at this
set_option maxRecDepth 20000 in
theorem x_ck0 : x_okT 0 0 x_T0 = true := by decide +kernel
set_option maxRecDepth 20000 in
theorem x_ck1 : x_okT 1 0 x_T1 = true := by decide +kernel
set_option maxRecDepth 20000 in
theorem x_ck2 : x_okT 2 0 x_T2 = true := by decide +kernel
set_option maxRecDepth 20000 in
theorem x_ck3 : x_okT 3 0 x_T3 = true := by decide +kernel
set_option maxRecDepth 20000 in
theorem x_ck4 : x_okT 4 0 x_T4 = true := by decide +kernel
set_option maxRecDepth 20000 in
theorem x_ck5 : x_okT 5 0 x_T5 = true := by decide +kernel
set_option maxRecDepth 20000 in
theorem x_ck6 : x_okT 6 0 x_T6 = true := by decide +kernel
set_option maxRecDepth 20000 in
theorem x_ck7 : x_okT 7 0 x_T7 = true := by decide +kernel
set_option maxRecDepth 20000 in
theorem x_ck8 : x_okT 8 0 x_T8 = true := by decide +kernel
set_option maxRecDepth 20000 in
theorem x_ck9 : x_okT 9 0 x_T9 = true := by decide +kernel
set_option maxRecDepth 20000 in
theorem x_ck10 : x_okT 10 0 x_T10 = true := by decide +kernel
set_option maxRecDepth 20000 in
theorem x_ck11 : x_okT 11 0 x_T11 = true := by decide +kernel
set_option maxRecDepth 20000 in
theorem x_ck12 : x_okT 12 0 x_T12 = true := by decide +kernel
set_option maxRecDepth 20000 in
theorem x_ck13 : x_okT 13 0 x_T13 = true := by decide +kernel
set_option maxRecDepth 20000 in
theorem x_ck14 : x_okT 14 0 x_T14 = true := by decide +kernel
set_option maxRecDepth 20000 in
theorem x_ck15 : x_okT 15 0 x_T15 = true := by decide +kernel
set_option maxRecDepth 20000 in
theorem x_ck16 : x_okT 16 0 x_T16 = true := by decide +kernel
set_option maxRecDepth 20000 in
theorem x_ck17 : x_okT 17 0 x_T17 = true := by decide +kernel
set_option maxRecDepth 20000 in
theorem x_ck18 : x_okT 18 0 x_T18 = true := by decide +kernel
set_option maxRecDepth 20000 in
theorem x_ck19 : x_okT 19 0 x_T19 = true := by decide +kernel
set_option maxRecDepth 20000 in
theorem x_ck20 : x_okT 20 0 x_T20 = true := by decide +kernel
set_option maxRecDepth 20000 in
theorem x_ck21 : x_okT 21 0 x_T21 = true := by decide +kernel
set_option maxRecDepth 20000 in
theorem x_ck22 : x_okT 22 0 x_T22 = true := by decide +kernel
set_option maxRecDepth 20000 in
theorem x_ck23 : x_okT 23 0 x_T23 = true := by decide +kernel
set_option maxRecDepth 20000 in
theorem x_ck24 : x_okT 24 0 x_T24 = true := by decide +kernel
set_option maxRecDepth 20000 in
theorem x_ck25 : x_okT 25 0 x_T25 = true := by decide +kernel
set_option maxRecDepth 20000 in
theorem x_ck26 : x_okT 26 0 x_T26 = true := by decide +kernel
set_option maxRecDepth 20000 in
theorem x_ck27 : x_okT 27 0 x_T27 = true := by decide +kernel
set_option maxRecDepth 20000 in
theorem x_ck28 : x_okT 28 0 x_T28 = true := by decide +kernel
set_option maxRecDepth 20000 in
theorem x_ck29 : x_okT 29 0 x_T29 = true := by decide +kernel
set_option maxRecDepth 20000 in
theorem x_ck30 : x_okT 30 0 x_T30 = true := by decide +kernel
set_option maxRecDepth 20000 in
theorem x_ck31 : x_okT 31 0 x_T31 = true := by decide +kernel
set_option maxRecDepth 20000 in
theorem x_ck32 : x_okT 32 0 x_T32 = true := by decide +kernel
set_option maxRecDepth 20000 in
theorem x_ck33 : x_okT 33 0 x_T33 = true := by decide +kernel
set_option maxRecDepth 20000 in
theorem x_ck34 : x_okT 34 0 x_T34 = true := by decide +kernel
set_option maxRecDepth 20000 in
theorem x_ck35 : x_okT 35 0 x_T35 = true := by decide +kernel
set_option maxRecDepth 20000 in
theorem x_ck36 : x_okT 36 0 x_T36 = true := by decide +kernel
set_option maxRecDepth 20000 in
theorem x_ck37 : x_okT 37 0 x_T37 = true := by decide +kernel
set_option maxRecDepth 20000 in
theorem x_ck38 : x_okT 38 0 x_T38 = true := by decide +kernel
set_option maxRecDepth 20000 in
theorem x_ck39 : x_okT 39 0 x_T39 = true := by decide +kernel
set_option maxRecDepth 20000 in
theorem x_ck40 : x_okT 40 0 x_T40 = true := by decide +kernel
set_option maxRecDepth 20000 in
theorem x_ck41 : x_okT 41 0 x_T41 = true := by decide +kernel
set_option maxRecDepth 20000 in
theorem x_ck42 : x_okT 42 0 x_T42 = true := by decide +kernel
set_option maxRecDepth 20000 in
theorem x_ck43 : x_okT 43 0 x_T43 = true := by decide +kernel
set_option maxRecDepth 20000 in
theorem x_ck44 : x_okT 44 0 x_T44 = true := by decide +kernel
set_option maxRecDepth 20000 in
theorem x_ck45 : x_okT 45 0 x_T45 = true := by decide +kernel
set_option maxRecDepth 20000 in
theorem x_ck46 : x_okT 46 0 x_T46 = true := by decide +kernel
set_option maxRecDepth 20000 in
theorem x_ck47 : x_okT 47 0 x_T47 = true := by decide +kernel
set_option maxRecDepth 20000 in
theorem x_ck48 : x_okT 48 0 x_T48 = true := by decide +kernel
set_option maxRecDepth 20000 in
theorem x_ck49 : x_okT 49 0 x_T49 = true := by decide +kernel
set_option maxRecDepth 20000 in
theorem x_ck50 : x_okT 50 0 x_T50 = true := by decide +kernel
set_option maxRecDepth 20000 in
theorem x_ck51 : x_okT 51 0 x_T51 = true := by decide +kernel
set_option maxRecDepth 20000 in
theorem x_ck52 : x_okT 52 0 x_T52 = true := by decide +kernel
set_option maxRecDepth 20000 in
theorem x_ck53 : x_okT 53 0 x_T53 = true := by decide +kernel
set_option maxRecDepth 20000 in
theorem x_ck54 : x_okT 54 0 x_T54 = true := by decide +kernel
set_option maxRecDepth 20000 in
theorem x_ck55 : x_okT 55 0 x_T55 = true := by decide +kernel
set_option maxRecDepth 20000 in
theorem x_ck56 : x_okT 56 0 x_T56 = true := by decide +kernel
set_option maxRecDepth 20000 in
theorem x_ck57 : x_okT 57 0 x_T57 = true := by decide +kernel
set_option maxRecDepth 20000 in
theorem x_ck58 : x_okT 58 0 x_T58 = true := by decide +kernel
set_option maxRecDepth 20000 in
theorem x_ck59 : x_okT 59 0 x_T59 = true := by decide +kernel
set_option maxRecDepth 20000 in
theorem x_ck60 : x_okT 60 0 x_T60 = true := by decide +kernel
set_option maxRecDepth 20000 in
theorem x_ck61 : x_okT 61 0 x_T61 = true := by decide +kernel
set_option maxRecDepth 20000 in
theorem x_ck62 : x_okT 62 0 x_T62 = true := by decide +kernel
set_option maxRecDepth 20000 in
theorem x_ck63 : x_okT 63 0 x_T63 = true := by decide +kernel
set_option maxRecDepth 20000 in
theorem x_ck64 : x_okT 64 0 x_T64 = true := by decide +kernel
set_option maxRecDepth 20000 in
theorem x_ck65 : x_okT 65 0 x_T65 = true := by decide +kernel
set_option maxRecDepth 20000 in
theorem x_ck66 : x_okT 66 0 x_T66 = true := by decide +kernel
set_option maxRecDepth 20000 in
theorem x_ck67 : x_okT 67 0 x_T67 = true := by decide +kernel
set_option maxRecDepth 20000 in
theorem x_ck68 : x_okT 68 0 x_T68 = true := by decide +kernel
set_option maxRecDepth 20000 in
theorem x_ck69 : x_okT 69 0 x_T69 = true := by decide +kernel
set_option maxRecDepth 20000 in
theorem x_ck70 : x_okT 70 0 x_T70 = true := by decide +kernel
set_option maxRecDepth 20000 in
theorem x_ck71 : x_okT 71 0 x_T71 = true := by decide +kernel
set_option maxRecDepth 20000 in
theorem x_ck72 : x_okT 72 0 x_T72 = true := by decide +kernel
set_option maxRecDepth 20000 in
theorem x_ck73 : x_okT 73 0 x_T73 = true := by decide +kernel
set_option maxRecDepth 20000 in
theorem x_ck74 : x_okT 74 0 x_T74 = true := by decide +kernel
set_option maxRecDepth 20000 in
theorem x_ck75 : x_okT 75 0 x_T75 = true := by decide +kernel
set_option maxRecDepth 20000 in
theorem x_ck76 : x_okT 76 0 x_T76 = true := by decide +kernel
set_option maxRecDepth 20000 in
theorem x_ck77 : x_okT 77 0 x_T77 = true := by decide +kernel
set_option maxRecDepth 20000 in
theorem x_ck78 : x_okT 78 0 x_T78 = true := by decide +kernel
set_option maxRecDepth 20000 in
theorem x_ck79 : x_okT 79 0 x_T79 = true := by decide +kernel
set_option maxRecDepth 20000 in
theorem x_ck80 : x_okT 80 0 x_T80 = true := by decide +kernel
set_option maxRecDepth 20000 in
theorem x_ck81 : x_okT 81 0 x_T81 = true := by decide +kernel
set_option maxRecDepth 20000 in
theorem x_ck82 : x_okT 82 0 x_T82 = true := by decide +kernel
set_option maxRecDepth 20000 in
theorem x_ck83 : x_okT 83 0 x_T83 = true := by decide +kernel
set_option maxRecDepth 20000 in
theorem x_ck84 : x_okT 84 0 x_T84 = true := by decide +kernel
set_option maxRecDepth 20000 in
theorem x_ck85 : x_okT 85 0 x_T85 = true := by decide +kernel
set_option maxRecDepth 20000 in
theorem x_ck86 : x_okT 86 0 x_T86 = true := by decide +kernel
set_option maxRecDepth 20000 in
theorem x_ck87 : x_okT 87 0 x_T87 = true := by decide +kernel
set_option maxRecDepth 20000 in
theorem x_ck88 : x_okT 88 0 x_T88 = true := by decide +kernel
set_option maxRecDepth 20000 in
theorem x_ck89 : x_okT 89 0 x_T89 = true := by decide +kernel
set_option maxRecDepth 20000 in
theorem x_ck90 : x_okT 90 0 x_T90 = true := by decide +kernel
set_option maxRecDepth 20000 in
theorem x_ck91 : x_okT 91 0 x_T91 = true := by decide +kernel
set_option maxRecDepth 20000 in
theorem x_ck92 : x_okT 92 0 x_T92 = true := by decide +kernel
set_option maxRecDepth 20000 in
theorem x_ck93 : x_okT 93 0 x_T93 = true := by decide +kernel
set_option maxRecDepth 20000 in
theorem x_ck94 : x_okT 94 0 x_T94 = true := by decide +kernel
set_option maxRecDepth 20000 in
theorem x_ck95 : x_okT 95 0 x_T95 = true := by decide +kernel
set_option maxRecDepth 20000 in
theorem x_ck96 : x_okT 96 0 x_T96 = true := by decide +kernel
set_option maxRecDepth 20000 in
theorem x_ck97 : x_okT 97 0 x_T97 = true := by decide +kernel
set_option maxRecDepth 20000 in
theorem x_ck98 : x_okT 98 0 x_T98 = true := by decide +kernel
set_option maxRecDepth 20000 in
theorem x_ck99 : x_okT 99 0 x_T99 = true := by decide +kernel
set_option maxRecDepth 20000 in
theorem x_ck100 : x_okT 100 0 x_T100 = true := by decide +kernel
set_option maxRecDepth 20000 in
theorem x_ck101 : x_okT 101 0 x_T101 = true := by decide +kernel
set_option maxRecDepth 20000 in
theorem x_ck102 : x_okT 102 0 x_T102 = true := by decide +kernel
set_option maxRecDepth 20000 in
theorem x_ck103 : x_okT 103 0 x_T103 = true := by decide +kernel
set_option maxRecDepth 20000 in
theorem x_ck104 : x_okT 104 0 x_T104 = true := by decide +kernel
set_option maxRecDepth 20000 in
theorem x_ck105 : x_okT 105 0 x_T105 = true := by decide +kernel
set_option maxRecDepth 20000 in
theorem x_ck106 : x_okT 106 0 x_T106 = true := by decide +kernel
set_option maxRecDepth 20000 in
theorem x_ck107 : x_okT 107 0 x_T107 = true := by decide +kernel
set_option maxRecDepth 20000 in
theorem x_ck108 : x_okT 108 0 x_T108 = true := by decide +kernel
set_option maxRecDepth 20000 in
theorem x_ck109 : x_okT 109 0 x_T109 = true := by decide +kernel
set_option maxRecDepth 20000 in
theorem x_ck110 : x_okT 110 0 x_T110 = true := by decide +kernel
set_option maxRecDepth 20000 in
theorem x_ck111 : x_okT 111 0 x_T111 = true := by decide +kernel
set_option maxRecDepth 20000 in
theorem x_ck112 : x_okT 112 0 x_T112 = true := by decide +kernel
set_option maxRecDepth 20000 in
theorem x_ck113 : x_okT 113 0 x_T113 = true := by decide +kernel
set_option maxRecDepth 20000 in
theorem x_ck114 : x_okT 114 0 x_T114 = true := by decide +kernel
set_option maxRecDepth 20000 in
theorem x_ck115 : x_okT 115 0 x_T115 = true := by decide +kernel
set_option maxRecDepth 20000 in
theorem x_ck116 : x_okT 116 0 x_T116 = true := by decide +kernel
set_option maxRecDepth 20000 in
theorem x_ck117 : x_okT 117 0 x_T117 = true := by decide +kernel
set_option maxRecDepth 20000 in
theorem x_ck118 : x_okT 118 0 x_T118 = true := by decide +kernel
set_option maxRecDepth 20000 in
theorem x_ck119 : x_okT 119 0 x_T119 = true := by decide +kernel
set_option maxRecDepth 20000 in
theorem x_ck120 : x_okT 120 0 x_T120 = true := by decide +kernel
set_option maxRecDepth 20000 in
theorem x_ck121 : x_okT 121 0 x_T121 = true := by decide +kernel
set_option maxRecDepth 20000 in
theorem x_ck122 : x_okT 122 0 x_T122 = true := by decide +kernel
set_option maxRecDepth 20000 in
theorem x_ck123 : x_okT 123 0 x_T123 = true := by decide +kernel
set_option maxRecDepth 20000 in
theorem x_ck124 : x_okT 124 0 x_T124 = true := by decide +kernel
set_option maxRecDepth 20000 in
theorem x_ck125 : x_okT 125 0 x_T125 = true := by decide +kernel
set_option maxRecDepth 20000 in
theorem x_ck126 : x_okT 126 0 x_T126 = true := by decide +kernel
set_option maxRecDepth 20000 in
theorem x_ck127 : x_okT 127 0 x_T127 = true := by decide +kernel
set_option maxRecDepth 20000 in
theorem x_ck128 : x_okT 128 0 x_T128 = true := by decide +kernel
set_option maxRecDepth 20000 in
theorem x_ck129 : x_okT 129 0 x_T129 = true := by decide +kernel
set_option maxRecDepth 20000 in
theorem x_ck130 : x_okT 130 0 x_T130 = true := by decide +kernel
set_option maxRecDepth 20000 in
theorem x_ck131 : x_okT 131 0 x_T131 = true := by decide +kernel
set_option maxRecDepth 20000 in
theorem x_ck132 : x_okT 132 0 x_T132 = true := by decide +kernel
set_option maxRecDepth 20000 in
theorem x_ck133 : x_okT 133 0 x_T133 = true := by decide +kernel
set_option maxRecDepth 20000 in
theorem x_ck134 : x_okT 134 0 x_T134 = true := by decide +kernel
set_option maxRecDepth 20000 in
theorem x_ck135 : x_okT 135 0 x_T135 = true := by decide +kernel
set_option maxRecDepth 20000 in
theorem x_ck136 : x_okT 136 0 x_T136 = true := by decide +kernel
set_option maxRecDepth 20000 in
theorem x_ck137 : x_okT 137 0 x_T137 = true := by decide +kernel
set_option maxRecDepth 20000 in
theorem x_ck138 : x_okT 138 0 x_T138 = true := by decide +kernel
set_option maxRecDepth 20000 in
theorem x_ck139 : x_okT 139 0 x_T139 = true := by decide +kernel
set_option maxRecDepth 20000 in
theorem x_ck140 : x_okT 140 0 x_T140 = true := by decide +kernel
set_option maxRecDepth 20000 in
theorem x_ck141 : x_okT 141 0 x_T141 = true := by decide +kernel
set_option maxRecDepth 20000 in
theorem x_ck142 : x_okT 142 0 x_T142 = true := by decide +kernel
set_option maxRecDepth 20000 in
theorem x_ck143 : x_okT 143 0 x_T143 = true := by decide +kernel
set_option maxRecDepth 20000 in
theorem x_ck144 : x_okT 144 0 x_T144 = true := by decide +kernel
set_option maxRecDepth 20000 in
theorem x_ck145 : x_okT 145 0 x_T145 = true := by decide +kernel
theorem x_ck : ∀ (k pc : Nat) (e : xE), x_P k pc = some e → x_okb k pc e = true ∧ k < 146 := by
  have h : ∀ q ∈ List.zip (List.range 146) x_TL, x_okT q.1 0 q.2 = true := List.forall_mem_cons.mpr ⟨x_ck0, List.forall_mem_cons.mpr ⟨x_ck1, List.forall_mem_cons.mpr ⟨x_ck2, List.forall_mem_cons.mpr ⟨x_ck3, List.forall_mem_cons.mpr ⟨x_ck4, List.forall_mem_cons.mpr ⟨x_ck5, List.forall_mem_cons.mpr ⟨x_ck6, List.forall_mem_cons.mpr ⟨x_ck7, List.forall_mem_cons.mpr ⟨x_ck8, List.forall_mem_cons.mpr ⟨x_ck9, List.forall_mem_cons.mpr ⟨x_ck10, List.forall_mem_cons.mpr ⟨x_ck11, List.forall_mem_cons.mpr ⟨x_ck12, List.forall_mem_cons.mpr ⟨x_ck13, List.forall_mem_cons.mpr ⟨x_ck14, List.forall_mem_cons.mpr ⟨x_ck15, List.forall_mem_cons.mpr ⟨x_ck16, List.forall_mem_cons.mpr ⟨x_ck17, List.forall_mem_cons.mpr ⟨x_ck18, List.forall_mem_cons.mpr ⟨x_ck19, List.forall_mem_cons.mpr ⟨x_ck20, List.forall_mem_cons.mpr ⟨x_ck21, List.forall_mem_cons.mpr ⟨x_ck22, List.forall_mem_cons.mpr ⟨x_ck23, List.forall_mem_cons.mpr ⟨x_ck24, List.forall_mem_cons.mpr ⟨x_ck25, List.forall_mem_cons.mpr ⟨x_ck26, List.forall_mem_cons.mpr ⟨x_ck27, List.forall_mem_cons.mpr ⟨x_ck28, List.forall_mem_cons.mpr ⟨x_ck29, List.forall_mem_cons.mpr ⟨x_ck30, List.forall_mem_cons.mpr ⟨x_ck31, List.forall_mem_cons.mpr ⟨x_ck32, List.forall_mem_cons.mpr ⟨x_ck33, List.forall_mem_cons.mpr ⟨x_ck34, List.forall_mem_cons.mpr ⟨x_ck35, List.forall_mem_cons.mpr ⟨x_ck36, List.forall_mem_cons.mpr ⟨x_ck37, List.forall_mem_cons.mpr ⟨x_ck38, List.forall_mem_cons.mpr ⟨x_ck39, List.forall_mem_cons.mpr ⟨x_ck40, List.forall_mem_cons.mpr ⟨x_ck41, List.forall_mem_cons.mpr ⟨x_ck42, List.forall_mem_cons.mpr ⟨x_ck43, List.forall_mem_cons.mpr ⟨x_ck44, List.forall_mem_cons.mpr ⟨x_ck45, List.forall_mem_cons.mpr ⟨x_ck46, List.forall_mem_cons.mpr ⟨x_ck47, List.forall_mem_cons.mpr ⟨x_ck48, List.forall_mem_cons.mpr ⟨x_ck49, List.forall_mem_cons.mpr ⟨x_ck50, List.forall_mem_cons.mpr ⟨x_ck51, List.forall_mem_cons.mpr ⟨x_ck52, List.forall_mem_cons.mpr ⟨x_ck53, List.forall_mem_cons.mpr ⟨x_ck54, List.forall_mem_cons.mpr ⟨x_ck55, List.forall_mem_cons.mpr ⟨x_ck56, List.forall_mem_cons.mpr ⟨x_ck57, List.forall_mem_cons.mpr ⟨x_ck58, List.forall_mem_cons.mpr ⟨x_ck59, List.forall_mem_cons.mpr ⟨x_ck60, List.forall_mem_cons.mpr ⟨x_ck61, List.forall_mem_cons.mpr ⟨x_ck62, List.forall_mem_cons.mpr ⟨x_ck63, List.forall_mem_cons.mpr ⟨x_ck64, List.forall_mem_cons.mpr ⟨x_ck65, List.forall_mem_cons.mpr ⟨x_ck66, List.forall_mem_cons.mpr ⟨x_ck67, List.forall_mem_cons.mpr ⟨x_ck68, List.forall_mem_cons.mpr ⟨x_ck69, List.forall_mem_cons.mpr ⟨x_ck70, List.forall_mem_cons.mpr ⟨x_ck71, List.forall_mem_cons.mpr ⟨x_ck72, List.forall_mem_cons.mpr ⟨x_ck73, List.forall_mem_cons.mpr ⟨x_ck74, List.forall_mem_cons.mpr ⟨x_ck75, List.forall_mem_cons.mpr ⟨x_ck76, List.forall_mem_cons.mpr ⟨x_ck77, List.forall_mem_cons.mpr ⟨x_ck78, List.forall_mem_cons.mpr ⟨x_ck79, List.forall_mem_cons.mpr ⟨x_ck80, List.forall_mem_cons.mpr ⟨x_ck81, List.forall_mem_cons.mpr ⟨x_ck82, List.forall_mem_cons.mpr ⟨x_ck83, List.forall_mem_cons.mpr ⟨x_ck84, List.forall_mem_cons.mpr ⟨x_ck85, List.forall_mem_cons.mpr ⟨x_ck86, List.forall_mem_cons.mpr ⟨x_ck87, List.forall_mem_cons.mpr ⟨x_ck88, List.forall_mem_cons.mpr ⟨x_ck89, List.forall_mem_cons.mpr ⟨x_ck90, List.forall_mem_cons.mpr ⟨x_ck91, List.forall_mem_cons.mpr ⟨x_ck92, List.forall_mem_cons.mpr ⟨x_ck93, List.forall_mem_cons.mpr ⟨x_ck94, List.forall_mem_cons.mpr ⟨x_ck95, List.forall_mem_cons.mpr ⟨x_ck96, List.forall_mem_cons.mpr ⟨x_ck97, List.forall_mem_cons.mpr ⟨x_ck98, List.forall_mem_cons.mpr ⟨x_ck99, List.forall_mem_cons.mpr ⟨x_ck100, List.forall_mem_cons.mpr ⟨x_ck101, List.forall_mem_cons.mpr ⟨x_ck102, List.forall_mem_cons.mpr ⟨x_ck103, List.forall_mem_cons.mpr ⟨x_ck104, List.forall_mem_cons.mpr ⟨x_ck105, List.forall_mem_cons.mpr ⟨x_ck106, List.forall_mem_cons.mpr ⟨x_ck107, List.forall_mem_cons.mpr ⟨x_ck108, List.forall_mem_cons.mpr ⟨x_ck109, List.forall_mem_cons.mpr ⟨x_ck110, List.forall_mem_cons.mpr ⟨x_ck111, List.forall_mem_cons.mpr ⟨x_ck112, List.forall_mem_cons.mpr ⟨x_ck113, List.forall_mem_cons.mpr ⟨x_ck114, List.forall_mem_cons.mpr ⟨x_ck115, List.forall_mem_cons.mpr ⟨x_ck116, List.forall_mem_cons.mpr ⟨x_ck117, List.forall_mem_cons.mpr ⟨x_ck118, List.forall_mem_cons.mpr ⟨x_ck119, List.forall_mem_cons.mpr ⟨x_ck120, List.forall_mem_cons.mpr ⟨x_ck121, List.forall_mem_cons.mpr ⟨x_ck122, List.forall_mem_cons.mpr ⟨x_ck123, List.forall_mem_cons.mpr ⟨x_ck124, List.forall_mem_cons.mpr ⟨x_ck125, List.forall_mem_cons.mpr ⟨x_ck126, List.forall_mem_cons.mpr ⟨x_ck127, List.forall_mem_cons.mpr ⟨x_ck128, List.forall_mem_cons.mpr ⟨x_ck129, List.forall_mem_cons.mpr ⟨x_ck130, List.forall_mem_cons.mpr ⟨x_ck131, List.forall_mem_cons.mpr ⟨x_ck132, List.forall_mem_cons.mpr ⟨x_ck133, List.forall_mem_cons.mpr ⟨x_ck134, List.forall_mem_cons.mpr ⟨x_ck135, List.forall_mem_cons.mpr ⟨x_ck136, List.forall_mem_cons.mpr ⟨x_ck137, List.forall_mem_cons.mpr ⟨x_ck138, List.forall_mem_cons.mpr ⟨x_ck139, List.forall_mem_cons.mpr ⟨x_ck140, List.forall_mem_cons.mpr ⟨x_ck141, List.forall_mem_cons.mpr ⟨x_ck142, List.forall_mem_cons.mpr ⟨x_ck143, List.forall_mem_cons.mpr ⟨x_ck144, List.forall_mem_cons.mpr ⟨x_ck145, fun _ h => absurd h List.not_mem_nil⟩⟩⟩⟩⟩⟩⟩⟩⟩⟩⟩⟩⟩⟩⟩⟩⟩⟩⟩⟩⟩⟩⟩⟩⟩⟩⟩⟩⟩⟩⟩⟩⟩⟩⟩⟩⟩⟩⟩⟩⟩⟩⟩⟩⟩⟩⟩⟩⟩⟩⟩⟩⟩⟩⟩⟩⟩⟩⟩⟩⟩⟩⟩⟩⟩⟩⟩⟩⟩⟩⟩⟩⟩⟩⟩⟩⟩⟩⟩⟩⟩⟩⟩⟩⟩⟩⟩⟩⟩⟩⟩⟩⟩⟩⟩⟩⟩⟩⟩⟩⟩⟩⟩⟩⟩⟩⟩⟩⟩⟩⟩⟩⟩⟩⟩⟩⟩⟩⟩⟩⟩⟩⟩⟩⟩⟩⟩⟩⟩⟩⟩⟩⟩⟩⟩⟩⟩⟩⟩⟩⟩⟩⟩⟩⟩⟩
  intro k pc e he
  unfold x_P at he
  cases hl : x_TL[k]? with
  | none => rw [hl] at he; simp at he
  | some l =>
    rw [hl] at he
    simp only [Option.getD_some] at he
    cases hq : l[pc]? with
    | none => rw [hq] at he; simp at he
    | some o =>
      rw [hq] at he
      simp only [Option.getD_some] at he
      subst he
      have hk : k < 146 := (List.getElem?_eq_some_iff.mp hl).1
      have h2 : (List.zip (List.range 146) x_TL)[k]? = some (k, l) := by
        rw [List.zip_eq_zipWith, List.getElem?_zipWith, hl]
        simp [hk]
      have h3 := x_okT_at l 0 pc e (h (k, l) (List.mem_of_getElem? h2)) hq
      rw [Nat.zero_add] at h3
      exact ⟨h3, hk⟩
/-- what is fixed of a method -/
def x_gok (k : Nat) : Prop := (x_m k).1.cls = xR (x_m k).2.2.2 ∧ plainFor (x_m k).1 = true ∧ ((x_m k).1.cls ≠ "java/lang/invoke/MethodHandle" ∧ (x_m k).1.cls ≠ "java/lang/invoke/VarHandle" ∧ (parseMethodDescriptor (x_m k).1.desc).map (fun d => d.parameters.length) = some (x_nA.getD k 0)) ∧ (x_iL.getD k 0 = 1 → (x_m k).1.name = "<init>" ∧ (x_m k).2.2.1 = none) ∧ (x_iL.getD k 0 = 0 → (x_m k).1.name ≠ "<init>") ∧ x_nL k ≤ 18 ∧ (x_rk k = 0 → (x_m k).2.2.1 = none) ∧ (x_rk k = 1 → (x_m k).2.2.1 = some .int) ∧ (x_rk k = 2 → (x_m k).2.2.1 = some .boolean) ∧ (x_rk k = 3 → ∃ s, (x_m k).2.2.1 = some (.object s))
theorem x_gok0 : x_gok 0 := ⟨rfl, by decide +kernel, ⟨by decide +kernel, by decide +kernel, by decide +kernel⟩, fun _ => ⟨rfl, rfl⟩, fun h => absurd h (by decide), by decide, fun _ => rfl, fun h => absurd h (by decide), fun h => absurd h (by decide), fun h => absurd h (by decide)⟩
theorem x_gok1 : x_gok 1 := ⟨rfl, by decide +kernel, ⟨by decide +kernel, by decide +kernel, by decide +kernel⟩, fun h => absurd h (by decide), fun _ => by decide +kernel, by decide, fun _ => rfl, fun h => absurd h (by decide), fun h => absurd h (by decide), fun h => absurd h (by decide)⟩
theorem x_gok2 : x_gok 2 := ⟨rfl, by decide +kernel, ⟨by decide +kernel, by decide +kernel, by decide +kernel⟩, fun h => absurd h (by decide), fun _ => by decide +kernel, by decide, fun _ => rfl, fun h => absurd h (by decide), fun h => absurd h (by decide), fun h => absurd h (by decide)⟩
theorem x_gok3 : x_gok 3 := ⟨rfl, by decide +kernel, ⟨by decide +kernel, by decide +kernel, by decide +kernel⟩, fun h => absurd h (by decide), fun _ => by decide +kernel, by decide, fun h => absurd h (by decide), fun _ => rfl, fun h => absurd h (by decide), fun h => absurd h (by decide)⟩
theorem x_gok4 : x_gok 4 := ⟨rfl, by decide +kernel, ⟨by decide +kernel, by decide +kernel, by decide +kernel⟩, fun h => absurd h (by decide), fun _ => by decide +kernel, by decide, fun _ => rfl, fun h => absurd h (by decide), fun h => absurd h (by decide), fun h => absurd h (by decide)⟩
theorem x_gok5 : x_gok 5 := ⟨rfl, by decide +kernel, ⟨by decide +kernel, by decide +kernel, by decide +kernel⟩, fun h => absurd h (by decide), fun _ => by decide +kernel, by decide, fun _ => rfl, fun h => absurd h (by decide), fun h => absurd h (by decide), fun h => absurd h (by decide)⟩
theorem x_gok6 : x_gok 6 := ⟨rfl, by decide +kernel, ⟨by decide +kernel, by decide +kernel, by decide +kernel⟩, fun _ => ⟨rfl, rfl⟩, fun h => absurd h (by decide), by decide, fun _ => rfl, fun h => absurd h (by decide), fun h => absurd h (by decide), fun h => absurd h (by decide)⟩
theorem x_gok7 : x_gok 7 := ⟨rfl, by decide +kernel, ⟨by decide +kernel, by decide +kernel, by decide +kernel⟩, fun h => absurd h (by decide), fun _ => by decide +kernel, by decide, fun h => absurd h (by decide), fun _ => rfl, fun h => absurd h (by decide), fun h => absurd h (by decide)⟩
theorem x_gok8 : x_gok 8 := ⟨rfl, by decide +kernel, ⟨by decide +kernel, by decide +kernel, by decide +kernel⟩, fun h => absurd h (by decide), fun _ => by decide +kernel, by decide, fun h => absurd h (by decide), fun h => absurd h (by decide), fun h => absurd h (by decide), fun _ => ⟨_, rfl⟩⟩
theorem x_gok9 : x_gok 9 := ⟨rfl, by decide +kernel, ⟨by decide +kernel, by decide +kernel, by decide +kernel⟩, fun h => absurd h (by decide), fun _ => by decide +kernel, by decide, fun _ => rfl, fun h => absurd h (by decide), fun h => absurd h (by decide), fun h => absurd h (by decide)⟩
theorem x_gok10 : x_gok 10 := ⟨rfl, by decide +kernel, ⟨by decide +kernel, by decide +kernel, by decide +kernel⟩, fun _ => ⟨rfl, rfl⟩, fun h => absurd h (by decide), by decide, fun _ => rfl, fun h => absurd h (by decide), fun h => absurd h (by decide), fun h => absurd h (by decide)⟩
theorem x_gok11 : x_gok 11 := ⟨rfl, by decide +kernel, ⟨by decide +kernel, by decide +kernel, by decide +kernel⟩, fun h => absurd h (by decide), fun _ => by decide +kernel, by decide, fun h => absurd h (by decide), fun h => absurd h (by decide), fun _ => rfl, fun h => absurd h (by decide)⟩
theorem x_gok12 : x_gok 12 := ⟨rfl, by decide +kernel, ⟨by decide +kernel, by decide +kernel, by decide +kernel⟩, fun h => absurd h (by decide), fun _ => by decide +kernel, by decide, fun h => absurd h (by decide), fun _ => rfl, fun h => absurd h (by decide), fun h => absurd h (by decide)⟩
theorem x_gok13 : x_gok 13 := ⟨rfl, by decide +kernel, ⟨by decide +kernel, by decide +kernel, by decide +kernel⟩, fun h => absurd h (by decide), fun _ => by decide +kernel, by decide, fun h => absurd h (by decide), fun h => absurd h (by decide), fun _ => rfl, fun h => absurd h (by decide)⟩
theorem x_gok14 : x_gok 14 := ⟨rfl, by decide +kernel, ⟨by decide +kernel, by decide +kernel, by decide +kernel⟩, fun h => absurd h (by decide), fun _ => by decide +kernel, by decide, fun _ => rfl, fun h => absurd h (by decide), fun h => absurd h (by decide), fun h => absurd h (by decide)⟩
theorem x_gok15 : x_gok 15 := ⟨rfl, by decide +kernel, ⟨by decide +kernel, by decide +kernel, by decide +kernel⟩, fun h => absurd h (by decide), fun _ => by decide +kernel, by decide, fun _ => rfl, fun h => absurd h (by decide), fun h => absurd h (by decide), fun h => absurd h (by decide)⟩
theorem x_gok16 : x_gok 16 := ⟨rfl, by decide +kernel, ⟨by decide +kernel, by decide +kernel, by decide +kernel⟩, fun h => absurd h (by decide), fun _ => by decide +kernel, by decide, fun h => absurd h (by decide), fun h => absurd h (by decide), fun _ => rfl, fun h => absurd h (by decide)⟩
theorem x_gok17 : x_gok 17 := ⟨rfl, by decide +kernel, ⟨by decide +kernel, by decide +kernel, by decide +kernel⟩, fun _ => ⟨rfl, rfl⟩, fun h => absurd h (by decide), by decide, fun _ => rfl, fun h => absurd h (by decide), fun h => absurd h (by decide), fun h => absurd h (by decide)⟩
theorem x_gok18 : x_gok 18 := ⟨rfl, by decide +kernel, ⟨by decide +kernel, by decide +kernel, by decide +kernel⟩, fun _ => ⟨rfl, rfl⟩, fun h => absurd h (by decide), by decide, fun _ => rfl, fun h => absurd h (by decide), fun h => absurd h (by decide), fun h => absurd h (by decide)⟩
theorem x_gok19 : x_gok 19 := ⟨rfl, by decide +kernel, ⟨by decide +kernel, by decide +kernel, by decide +kernel⟩, fun h => absurd h (by decide), fun _ => by decide +kernel, by decide, fun h => absurd h (by decide), fun _ => rfl, fun h => absurd h (by decide), fun h => absurd h (by decide)⟩
theorem x_gok20 : x_gok 20 := ⟨rfl, by decide +kernel, ⟨by decide +kernel, by decide +kernel, by decide +kernel⟩, fun h => absurd h (by decide), fun _ => by decide +kernel, by decide, fun h => absurd h (by decide), fun _ => rfl, fun h => absurd h (by decide), fun h => absurd h (by decide)⟩
theorem x_gok21 : x_gok 21 := ⟨rfl, by decide +kernel, ⟨by decide +kernel, by decide +kernel, by decide +kernel⟩, fun _ => ⟨rfl, rfl⟩, fun h => absurd h (by decide), by decide, fun _ => rfl, fun h => absurd h (by decide), fun h => absurd h (by decide), fun h => absurd h (by decide)⟩
theorem x_gok22 : x_gok 22 := ⟨rfl, by decide +kernel, ⟨by decide +kernel, by decide +kernel, by decide +kernel⟩, fun h => absurd h (by decide), fun _ => by decide +kernel, by decide, fun h => absurd h (by decide), fun h => absurd h (by decide), fun _ => rfl, fun h => absurd h (by decide)⟩
theorem x_gok23 : x_gok 23 := ⟨rfl, by decide +kernel, ⟨by decide +kernel, by decide +kernel, by decide +kernel⟩, fun h => absurd h (by decide), fun _ => by decide +kernel, by decide, fun h => absurd h (by decide), fun _ => rfl, fun h => absurd h (by decide), fun h => absurd h (by decide)⟩
theorem x_gok24 : x_gok 24 := ⟨rfl, by decide +kernel, ⟨by decide +kernel, by decide +kernel, by decide +kernel⟩, fun h => absurd h (by decide), fun _ => by decide +kernel, by decide, fun h => absurd h (by decide), fun h => absurd h (by decide), fun h => absurd h (by decide), fun _ => ⟨_, rfl⟩⟩
theorem x_gok25 : x_gok 25 := ⟨rfl, by decide +kernel, ⟨by decide +kernel, by decide +kernel, by decide +kernel⟩, fun h => absurd h (by decide), fun _ => by decide +kernel, by decide, fun h => absurd h (by decide), fun h => absurd h (by decide), fun h => absurd h (by decide), fun _ => ⟨_, rfl⟩⟩
theorem x_gok26 : x_gok 26 := ⟨rfl, by decide +kernel, ⟨by decide +kernel, by decide +kernel, by decide +kernel⟩, fun _ => ⟨rfl, rfl⟩, fun h => absurd h (by decide), by decide, fun _ => rfl, fun h => absurd h (by decide), fun h => absurd h (by decide), fun h => absurd h (by decide)⟩
theorem x_gok27 : x_gok 27 := ⟨rfl, by decide +kernel, ⟨by decide +kernel, by decide +kernel, by decide +kernel⟩, fun h => absurd h (by decide), fun _ => by decide +kernel, by decide, fun h => absurd h (by decide), fun _ => rfl, fun h => absurd h (by decide), fun h => absurd h (by decide)⟩
theorem x_gok28 : x_gok 28 := ⟨rfl, by decide +kernel, ⟨by decide +kernel, by decide +kernel, by decide +kernel⟩, fun h => absurd h (by decide), fun _ => by decide +kernel, by decide, fun h => absurd h (by decide), fun h => absurd h (by decide), fun _ => rfl, fun h => absurd h (by decide)⟩
theorem x_gok29 : x_gok 29 := ⟨rfl, by decide +kernel, ⟨by decide +kernel, by decide +kernel, by decide +kernel⟩, fun h => absurd h (by decide), fun _ => by decide +kernel, by decide, fun h => absurd h (by decide), fun _ => rfl, fun h => absurd h (by decide), fun h => absurd h (by decide)⟩
theorem x_gok30 : x_gok 30 := ⟨rfl, by decide +kernel, ⟨by decide +kernel, by decide +kernel, by decide +kernel⟩, fun h => absurd h (by decide), fun _ => by decide +kernel, by decide, fun h => absurd h (by decide), fun h => absurd h (by decide), fun _ => rfl, fun h => absurd h (by decide)⟩
theorem x_gok31 : x_gok 31 := ⟨rfl, by decide +kernel, ⟨by decide +kernel, by decide +kernel, by decide +kernel⟩, fun h => absurd h (by decide), fun _ => by decide +kernel, by decide, fun h => absurd h (by decide), fun h => absurd h (by decide), fun _ => rfl, fun h => absurd h (by decide)⟩
theorem x_gok32 : x_gok 32 := ⟨rfl, by decide +kernel, ⟨by decide +kernel, by decide +kernel, by decide +kernel⟩, fun h => absurd h (by decide), fun _ => by decide +kernel, by decide, fun _ => rfl, fun h => absurd h (by decide), fun h => absurd h (by decide), fun h => absurd h (by decide)⟩
theorem x_gok33 : x_gok 33 := ⟨rfl, by decide +kernel, ⟨by decide +kernel, by decide +kernel, by decide +kernel⟩, fun h => absurd h (by decide), fun _ => by decide +kernel, by decide, fun h => absurd h (by decide), fun _ => rfl, fun h => absurd h (by decide), fun h => absurd h (by decide)⟩
theorem x_gok34 : x_gok 34 := ⟨rfl, by decide +kernel, ⟨by decide +kernel, by decide +kernel, by decide +kernel⟩, fun h => absurd h (by decide), fun _ => by decide +kernel, by decide, fun _ => rfl, fun h => absurd h (by decide), fun h => absurd h (by decide), fun h => absurd h (by decide)⟩
theorem x_gok35 : x_gok 35 := ⟨rfl, by decide +kernel, ⟨by decide +kernel, by decide +kernel, by decide +kernel⟩, fun h => absurd h (by decide), fun _ => by decide +kernel, by decide, fun _ => rfl, fun h => absurd h (by decide), fun h => absurd h (by decide), fun h => absurd h (by decide)⟩
theorem x_gok36 : x_gok 36 := ⟨rfl, by decide +kernel, ⟨by decide +kernel, by decide +kernel, by decide +kernel⟩, fun h => absurd h (by decide), fun _ => by decide +kernel, by decide, fun _ => rfl, fun h => absurd h (by decide), fun h => absurd h (by decide), fun h => absurd h (by decide)⟩
theorem x_gok37 : x_gok 37 := ⟨rfl, by decide +kernel, ⟨by decide +kernel, by decide +kernel, by decide +kernel⟩, fun h => absurd h (by decide), fun _ => by decide +kernel, by decide, fun h => absurd h (by decide), fun _ => rfl, fun h => absurd h (by decide), fun h => absurd h (by decide)⟩
theorem x_gok38 : x_gok 38 := ⟨rfl, by decide +kernel, ⟨by decide +kernel, by decide +kernel, by decide +kernel⟩, fun h => absurd h (by decide), fun _ => by decide +kernel, by decide, fun _ => rfl, fun h => absurd h (by decide), fun h => absurd h (by decide), fun h => absurd h (by decide)⟩
theorem x_gok39 : x_gok 39 := ⟨rfl, by decide +kernel, ⟨by decide +kernel, by decide +kernel, by decide +kernel⟩, fun h => absurd h (by decide), fun _ => by decide +kernel, by decide, fun _ => rfl, fun h => absurd h (by decide), fun h => absurd h (by decide), fun h => absurd h (by decide)⟩
theorem x_gok40 : x_gok 40 := ⟨rfl, by decide +kernel, ⟨by decide +kernel, by decide +kernel, by decide +kernel⟩, fun h => absurd h (by decide), fun _ => by decide +kernel, by decide, fun _ => rfl, fun h => absurd h (by decide), fun h => absurd h (by decide), fun h => absurd h (by decide)⟩
theorem x_gok41 : x_gok 41 := ⟨rfl, by decide +kernel, ⟨by decide +kernel, by decide +kernel, by decide +kernel⟩, fun h => absurd h (by decide), fun _ => by decide +kernel, by decide, fun h => absurd h (by decide), fun h => absurd h (by decide), fun _ => rfl, fun h => absurd h (by decide)⟩
theorem x_gok42 : x_gok 42 := ⟨rfl, by decide +kernel, ⟨by decide +kernel, by decide +kernel, by decide +kernel⟩, fun h => absurd h (by decide), fun _ => by decide +kernel, by decide, fun _ => rfl, fun h => absurd h (by decide), fun h => absurd h (by decide), fun h => absurd h (by decide)⟩
theorem x_gok43 : x_gok 43 := ⟨rfl, by decide +kernel, ⟨by decide +kernel, by decide +kernel, by decide +kernel⟩, fun h => absurd h (by decide), fun _ => by decide +kernel, by decide, fun h => absurd h (by decide), fun _ => rfl, fun h => absurd h (by decide), fun h => absurd h (by decide)⟩
theorem x_gok44 : x_gok 44 := ⟨rfl, by decide +kernel, ⟨by decide +kernel, by decide +kernel, by decide +kernel⟩, fun h => absurd h (by decide), fun _ => by decide +kernel, by decide, fun _ => rfl, fun h => absurd h (by decide), fun h => absurd h (by decide), fun h => absurd h (by decide)⟩
theorem x_gok45 : x_gok 45 := ⟨rfl, by decide +kernel, ⟨by decide +kernel, by decide +kernel, by decide +kernel⟩, fun h => absurd h (by decide), fun _ => by decide +kernel, by decide, fun h => absurd h (by decide), fun h => absurd h (by decide), fun _ => rfl, fun h => absurd h (by decide)⟩
theorem x_gok46 : x_gok 46 := ⟨rfl, by decide +kernel, ⟨by decide +kernel, by decide +kernel, by decide +kernel⟩, fun h => absurd h (by decide), fun _ => by decide +kernel, by decide, fun h => absurd h (by decide), fun h => absurd h (by decide), fun _ => rfl, fun h => absurd h (by decide)⟩
theorem x_gok47 : x_gok 47 := ⟨rfl, by decide +kernel, ⟨by decide +kernel, by decide +kernel, by decide +kernel⟩, fun h => absurd h (by decide), fun _ => by decide +kernel, by decide, fun _ => rfl, fun h => absurd h (by decide), fun h => absurd h (by decide), fun h => absurd h (by decide)⟩
theorem x_gok48 : x_gok 48 := ⟨rfl, by decide +kernel, ⟨by decide +kernel, by decide +kernel, by decide +kernel⟩, fun h => absurd h (by decide), fun _ => by decide +kernel, by decide, fun _ => rfl, fun h => absurd h (by decide), fun h => absurd h (by decide), fun h => absurd h (by decide)⟩
theorem x_gok49 : x_gok 49 := ⟨rfl, by decide +kernel, ⟨by decide +kernel, by decide +kernel, by decide +kernel⟩, fun h => absurd h (by decide), fun _ => by decide +kernel, by decide, fun _ => rfl, fun h => absurd h (by decide), fun h => absurd h (by decide), fun h => absurd h (by decide)⟩
theorem x_gok50 : x_gok 50 := ⟨rfl, by decide +kernel, ⟨by decide +kernel, by decide +kernel, by decide +kernel⟩, fun h => absurd h (by decide), fun _ => by decide +kernel, by decide, fun h => absurd h (by decide), fun _ => rfl, fun h => absurd h (by decide), fun h => absurd h (by decide)⟩
theorem x_gok51 : x_gok 51 := ⟨rfl, by decide +kernel, ⟨by decide +kernel, by decide +kernel, by decide +kernel⟩, fun h => absurd h (by decide), fun _ => by decide +kernel, by decide, fun _ => rfl, fun h => absurd h (by decide), fun h => absurd h (by decide), fun h => absurd h (by decide)⟩
theorem x_gok52 : x_gok 52 := ⟨rfl, by decide +kernel, ⟨by decide +kernel, by decide +kernel, by decide +kernel⟩, fun h => absurd h (by decide), fun _ => by decide +kernel, by decide, fun h => absurd h (by decide), fun h => absurd h (by decide), fun _ => rfl, fun h => absurd h (by decide)⟩
theorem x_gok53 : x_gok 53 := ⟨rfl, by decide +kernel, ⟨by decide +kernel, by decide +kernel, by decide +kernel⟩, fun _ => ⟨rfl, rfl⟩, fun h => absurd h (by decide), by decide, fun _ => rfl, fun h => absurd h (by decide), fun h => absurd h (by decide), fun h => absurd h (by decide)⟩
theorem x_gok54 : x_gok 54 := ⟨rfl, by decide +kernel, ⟨by decide +kernel, by decide +kernel, by decide +kernel⟩, fun _ => ⟨rfl, rfl⟩, fun h => absurd h (by decide), by decide, fun _ => rfl, fun h => absurd h (by decide), fun h => absurd h (by decide), fun h => absurd h (by decide)⟩
theorem x_gok55 : x_gok 55 := ⟨rfl, by decide +kernel, ⟨by decide +kernel, by decide +kernel, by decide +kernel⟩, fun h => absurd h (by decide), fun _ => by decide +kernel, by decide, fun h => absurd h (by decide), fun h => absurd h (by decide), fun _ => rfl, fun h => absurd h (by decide)⟩
theorem x_gok56 : x_gok 56 := ⟨rfl, by decide +kernel, ⟨by decide +kernel, by decide +kernel, by decide +kernel⟩, fun h => absurd h (by decide), fun _ => by decide +kernel, by decide, fun h => absurd h (by decide), fun _ => rfl, fun h => absurd h (by decide), fun h => absurd h (by decide)⟩
theorem x_gok57 : x_gok 57 := ⟨rfl, by decide +kernel, ⟨by decide +kernel, by decide +kernel, by decide +kernel⟩, fun h => absurd h (by decide), fun _ => by decide +kernel, by decide, fun h => absurd h (by decide), fun _ => rfl, fun h => absurd h (by decide), fun h => absurd h (by decide)⟩
theorem x_gok58 : x_gok 58 := ⟨rfl, by decide +kernel, ⟨by decide +kernel, by decide +kernel, by decide +kernel⟩, fun h => absurd h (by decide), fun _ => by decide +kernel, by decide, fun h => absurd h (by decide), fun _ => rfl, fun h => absurd h (by decide), fun h => absurd h (by decide)⟩
theorem x_gok59 : x_gok 59 := ⟨rfl, by decide +kernel, ⟨by decide +kernel, by decide +kernel, by decide +kernel⟩, fun h => absurd h (by decide), fun _ => by decide +kernel, by decide, fun h => absurd h (by decide), fun h => absurd h (by decide), fun h => absurd h (by decide), fun _ => ⟨_, rfl⟩⟩
theorem x_gok60 : x_gok 60 := ⟨rfl, by decide +kernel, ⟨by decide +kernel, by decide +kernel, by decide +kernel⟩, fun _ => ⟨rfl, rfl⟩, fun h => absurd h (by decide), by decide, fun _ => rfl, fun h => absurd h (by decide), fun h => absurd h (by decide), fun h => absurd h (by decide)⟩
theorem x_gok61 : x_gok 61 := ⟨rfl, by decide +kernel, ⟨by decide +kernel, by decide +kernel, by decide +kernel⟩, fun h => absurd h (by decide), fun _ => by decide +kernel, by decide, fun _ => rfl, fun h => absurd h (by decide), fun h => absurd h (by decide), fun h => absurd h (by decide)⟩
theorem x_gok62 : x_gok 62 := ⟨rfl, by decide +kernel, ⟨by decide +kernel, by decide +kernel, by decide +kernel⟩, fun h => absurd h (by decide), fun _ => by decide +kernel, by decide, fun h => absurd h (by decide), fun _ => rfl, fun h => absurd h (by decide), fun h => absurd h (by decide)⟩
theorem x_gok63 : x_gok 63 := ⟨rfl, by decide +kernel, ⟨by decide +kernel, by decide +kernel, by decide +kernel⟩, fun _ => ⟨rfl, rfl⟩, fun h => absurd h (by decide), by decide, fun _ => rfl, fun h => absurd h (by decide), fun h => absurd h (by decide), fun h => absurd h (by decide)⟩
theorem x_gok64 : x_gok 64 := ⟨rfl, by decide +kernel, ⟨by decide +kernel, by decide +kernel, by decide +kernel⟩, fun h => absurd h (by decide), fun _ => by decide +kernel, by decide, fun _ => rfl, fun h => absurd h (by decide), fun h => absurd h (by decide), fun h => absurd h (by decide)⟩
theorem x_gok65 : x_gok 65 := ⟨rfl, by decide +kernel, ⟨by decide +kernel, by decide +kernel, by decide +kernel⟩, fun h => absurd h (by decide), fun _ => by decide +kernel, by decide, fun _ => rfl, fun h => absurd h (by decide), fun h => absurd h (by decide), fun h => absurd h (by decide)⟩
theorem x_gok66 : x_gok 66 := ⟨rfl, by decide +kernel, ⟨by decide +kernel, by decide +kernel, by decide +kernel⟩, fun h => absurd h (by decide), fun _ => by decide +kernel, by decide, fun _ => rfl, fun h => absurd h (by decide), fun h => absurd h (by decide), fun h => absurd h (by decide)⟩
theorem x_gok67 : x_gok 67 := ⟨rfl, by decide +kernel, ⟨by decide +kernel, by decide +kernel, by decide +kernel⟩, fun h => absurd h (by decide), fun _ => by decide +kernel, by decide, fun h => absurd h (by decide), fun _ => rfl, fun h => absurd h (by decide), fun h => absurd h (by decide)⟩
theorem x_gok68 : x_gok 68 := ⟨rfl, by decide +kernel, ⟨by decide +kernel, by decide +kernel, by decide +kernel⟩, fun h => absurd h (by decide), fun _ => by decide +kernel, by decide, fun h => absurd h (by decide), fun h => absurd h (by decide), fun _ => rfl, fun h => absurd h (by decide)⟩
theorem x_gok69 : x_gok 69 := ⟨rfl, by decide +kernel, ⟨by decide +kernel, by decide +kernel, by decide +kernel⟩, fun h => absurd h (by decide), fun _ => by decide +kernel, by decide, fun h => absurd h (by decide), fun _ => rfl, fun h => absurd h (by decide), fun h => absurd h (by decide)⟩
theorem x_gok70 : x_gok 70 := ⟨rfl, by decide +kernel, ⟨by decide +kernel, by decide +kernel, by decide +kernel⟩, fun h => absurd h (by decide), fun _ => by decide +kernel, by decide, fun h => absurd h (by decide), fun h => absurd h (by decide), fun h => absurd h (by decide), fun _ => ⟨_, rfl⟩⟩
theorem x_gok71 : x_gok 71 := ⟨rfl, by decide +kernel, ⟨by decide +kernel, by decide +kernel, by decide +kernel⟩, fun h => absurd h (by decide), fun _ => by decide +kernel, by decide, fun h => absurd h (by decide), fun _ => rfl, fun h => absurd h (by decide), fun h => absurd h (by decide)⟩
theorem x_gok72 : x_gok 72 := ⟨rfl, by decide +kernel, ⟨by decide +kernel, by decide +kernel, by decide +kernel⟩, fun h => absurd h (by decide), fun _ => by decide +kernel, by decide, fun h => absurd h (by decide), fun h => absurd h (by decide), fun _ => rfl, fun h => absurd h (by decide)⟩
theorem x_gok73 : x_gok 73 := ⟨rfl, by decide +kernel, ⟨by decide +kernel, by decide +kernel, by decide +kernel⟩, fun _ => ⟨rfl, rfl⟩, fun h => absurd h (by decide), by decide, fun _ => rfl, fun h => absurd h (by decide), fun h => absurd h (by decide), fun h => absurd h (by decide)⟩
theorem x_gok74 : x_gok 74 := ⟨rfl, by decide +kernel, ⟨by decide +kernel, by decide +kernel, by decide +kernel⟩, fun h => absurd h (by decide), fun _ => by decide +kernel, by decide, fun h => absurd h (by decide), fun _ => rfl, fun h => absurd h (by decide), fun h => absurd h (by decide)⟩
theorem x_gok75 : x_gok 75 := ⟨rfl, by decide +kernel, ⟨by decide +kernel, by decide +kernel, by decide +kernel⟩, fun h => absurd h (by decide), fun _ => by decide +kernel, by decide, fun h => absurd h (by decide), fun h => absurd h (by decide), fun _ => rfl, fun h => absurd h (by decide)⟩
theorem x_gok76 : x_gok 76 := ⟨rfl, by decide +kernel, ⟨by decide +kernel, by decide +kernel, by decide +kernel⟩, fun h => absurd h (by decide), fun _ => by decide +kernel, by decide, fun h => absurd h (by decide), fun _ => rfl, fun h => absurd h (by decide), fun h => absurd h (by decide)⟩
theorem x_gok77 : x_gok 77 := ⟨rfl, by decide +kernel, ⟨by decide +kernel, by decide +kernel, by decide +kernel⟩, fun h => absurd h (by decide), fun _ => by decide +kernel, by decide, fun h => absurd h (by decide), fun h => absurd h (by decide), fun _ => rfl, fun h => absurd h (by decide)⟩
theorem x_gok78 : x_gok 78 := ⟨rfl, by decide +kernel, ⟨by decide +kernel, by decide +kernel, by decide +kernel⟩, fun h => absurd h (by decide), fun _ => by decide +kernel, by decide, fun h => absurd h (by decide), fun h => absurd h (by decide), fun _ => rfl, fun h => absurd h (by decide)⟩
theorem x_gok79 : x_gok 79 := ⟨rfl, by decide +kernel, ⟨by decide +kernel, by decide +kernel, by decide +kernel⟩, fun h => absurd h (by decide), fun _ => by decide +kernel, by decide, fun h => absurd h (by decide), fun h => absurd h (by decide), fun _ => rfl, fun h => absurd h (by decide)⟩
theorem x_gok80 : x_gok 80 := ⟨rfl, by decide +kernel, ⟨by decide +kernel, by decide +kernel, by decide +kernel⟩, fun h => absurd h (by decide), fun _ => by decide +kernel, by decide, fun h => absurd h (by decide), fun _ => rfl, fun h => absurd h (by decide), fun h => absurd h (by decide)⟩
theorem x_gok81 : x_gok 81 := ⟨rfl, by decide +kernel, ⟨by decide +kernel, by decide +kernel, by decide +kernel⟩, fun h => absurd h (by decide), fun _ => by decide +kernel, by decide, fun h => absurd h (by decide), fun _ => rfl, fun h => absurd h (by decide), fun h => absurd h (by decide)⟩
theorem x_gok82 : x_gok 82 := ⟨rfl, by decide +kernel, ⟨by decide +kernel, by decide +kernel, by decide +kernel⟩, fun h => absurd h (by decide), fun _ => by decide +kernel, by decide, fun h => absurd h (by decide), fun h => absurd h (by decide), fun _ => rfl, fun h => absurd h (by decide)⟩
theorem x_gok83 : x_gok 83 := ⟨rfl, by decide +kernel, ⟨by decide +kernel, by decide +kernel, by decide +kernel⟩, fun h => absurd h (by decide), fun _ => by decide +kernel, by decide, fun h => absurd h (by decide), fun h => absurd h (by decide), fun _ => rfl, fun h => absurd h (by decide)⟩
theorem x_gok84 : x_gok 84 := ⟨rfl, by decide +kernel, ⟨by decide +kernel, by decide +kernel, by decide +kernel⟩, fun h => absurd h (by decide), fun _ => by decide +kernel, by decide, fun h => absurd h (by decide), fun h => absurd h (by decide), fun _ => rfl, fun h => absurd h (by decide)⟩
theorem x_gok85 : x_gok 85 := ⟨rfl, by decide +kernel, ⟨by decide +kernel, by decide +kernel, by decide +kernel⟩, fun h => absurd h (by decide), fun _ => by decide +kernel, by decide, fun h => absurd h (by decide), fun h => absurd h (by decide), fun _ => rfl, fun h => absurd h (by decide)⟩
theorem x_gok86 : x_gok 86 := ⟨rfl, by decide +kernel, ⟨by decide +kernel, by decide +kernel, by decide +kernel⟩, fun h => absurd h (by decide), fun _ => by decide +kernel, by decide, fun h => absurd h (by decide), fun _ => rfl, fun h => absurd h (by decide), fun h => absurd h (by decide)⟩
theorem x_gok87 : x_gok 87 := ⟨rfl, by decide +kernel, ⟨by decide +kernel, by decide +kernel, by decide +kernel⟩, fun h => absurd h (by decide), fun _ => by decide +kernel, by decide, fun h => absurd h (by decide), fun h => absurd h (by decide), fun _ => rfl, fun h => absurd h (by decide)⟩
theorem x_gok88 : x_gok 88 := ⟨rfl, by decide +kernel, ⟨by decide +kernel, by decide +kernel, by decide +kernel⟩, fun h => absurd h (by decide), fun _ => by decide +kernel, by decide, fun h => absurd h (by decide), fun _ => rfl, fun h => absurd h (by decide), fun h => absurd h (by decide)⟩
theorem x_gok89 : x_gok 89 := ⟨rfl, by decide +kernel, ⟨by decide +kernel, by decide +kernel, by decide +kernel⟩, fun h => absurd h (by decide), fun _ => by decide +kernel, by decide, fun h => absurd h (by decide), fun _ => rfl, fun h => absurd h (by decide), fun h => absurd h (by decide)⟩
theorem x_gok90 : x_gok 90 := ⟨rfl, by decide +kernel, ⟨by decide +kernel, by decide +kernel, by decide +kernel⟩, fun h => absurd h (by decide), fun _ => by decide +kernel, by decide, fun h => absurd h (by decide), fun _ => rfl, fun h => absurd h (by decide), fun h => absurd h (by decide)⟩
theorem x_gok91 : x_gok 91 := ⟨rfl, by decide +kernel, ⟨by decide +kernel, by decide +kernel, by decide +kernel⟩, fun h => absurd h (by decide), fun _ => by decide +kernel, by decide, fun h => absurd h (by decide), fun _ => rfl, fun h => absurd h (by decide), fun h => absurd h (by decide)⟩
theorem x_gok92 : x_gok 92 := ⟨rfl, by decide +kernel, ⟨by decide +kernel, by decide +kernel, by decide +kernel⟩, fun h => absurd h (by decide), fun _ => by decide +kernel, by decide, fun h => absurd h (by decide), fun _ => rfl, fun h => absurd h (by decide), fun h => absurd h (by decide)⟩
theorem x_gok93 : x_gok 93 := ⟨rfl, by decide +kernel, ⟨by decide +kernel, by decide +kernel, by decide +kernel⟩, fun h => absurd h (by decide), fun _ => by decide +kernel, by decide, fun h => absurd h (by decide), fun _ => rfl, fun h => absurd h (by decide), fun h => absurd h (by decide)⟩
theorem x_gok94 : x_gok 94 := ⟨rfl, by decide +kernel, ⟨by decide +kernel, by decide +kernel, by decide +kernel⟩, fun h => absurd h (by decide), fun _ => by decide +kernel, by decide, fun h => absurd h (by decide), fun _ => rfl, fun h => absurd h (by decide), fun h => absurd h (by decide)⟩
theorem x_gok95 : x_gok 95 := ⟨rfl, by decide +kernel, ⟨by decide +kernel, by decide +kernel, by decide +kernel⟩, fun _ => ⟨rfl, rfl⟩, fun h => absurd h (by decide), by decide, fun _ => rfl, fun h => absurd h (by decide), fun h => absurd h (by decide), fun h => absurd h (by decide)⟩
theorem x_gok96 : x_gok 96 := ⟨rfl, by decide +kernel, ⟨by decide +kernel, by decide +kernel, by decide +kernel⟩, fun h => absurd h (by decide), fun _ => by decide +kernel, by decide, fun h => absurd h (by decide), fun _ => rfl, fun h => absurd h (by decide), fun h => absurd h (by decide)⟩
theorem x_gok97 : x_gok 97 := ⟨rfl, by decide +kernel, ⟨by decide +kernel, by decide +kernel, by decide +kernel⟩, fun h => absurd h (by decide), fun _ => by decide +kernel, by decide, fun h => absurd h (by decide), fun _ => rfl, fun h => absurd h (by decide), fun h => absurd h (by decide)⟩
theorem x_gok98 : x_gok 98 := ⟨rfl, by decide +kernel, ⟨by decide +kernel, by decide +kernel, by decide +kernel⟩, fun h => absurd h (by decide), fun _ => by decide +kernel, by decide, fun h => absurd h (by decide), fun _ => rfl, fun h => absurd h (by decide), fun h => absurd h (by decide)⟩
theorem x_gok99 : x_gok 99 := ⟨rfl, by decide +kernel, ⟨by decide +kernel, by decide +kernel, by decide +kernel⟩, fun h => absurd h (by decide), fun _ => by decide +kernel, by decide, fun h => absurd h (by decide), fun h => absurd h (by decide), fun _ => rfl, fun h => absurd h (by decide)⟩
theorem x_gok100 : x_gok 100 := ⟨rfl, by decide +kernel, ⟨by decide +kernel, by decide +kernel, by decide +kernel⟩, fun h => absurd h (by decide), fun _ => by decide +kernel, by decide, fun h => absurd h (by decide), fun h => absurd h (by decide), fun _ => rfl, fun h => absurd h (by decide)⟩
theorem x_gok101 : x_gok 101 := ⟨rfl, by decide +kernel, ⟨by decide +kernel, by decide +kernel, by decide +kernel⟩, fun h => absurd h (by decide), fun _ => by decide +kernel, by decide, fun _ => rfl, fun h => absurd h (by decide), fun h => absurd h (by decide), fun h => absurd h (by decide)⟩
theorem x_gok102 : x_gok 102 := ⟨rfl, by decide +kernel, ⟨by decide +kernel, by decide +kernel, by decide +kernel⟩, fun h => absurd h (by decide), fun _ => by decide +kernel, by decide, fun h => absurd h (by decide), fun _ => rfl, fun h => absurd h (by decide), fun h => absurd h (by decide)⟩
theorem x_gok103 : x_gok 103 := ⟨rfl, by decide +kernel, ⟨by decide +kernel, by decide +kernel, by decide +kernel⟩, fun h => absurd h (by decide), fun _ => by decide +kernel, by decide, fun _ => rfl, fun h => absurd h (by decide), fun h => absurd h (by decide), fun h => absurd h (by decide)⟩
theorem x_gok104 : x_gok 104 := ⟨rfl, by decide +kernel, ⟨by decide +kernel, by decide +kernel, by decide +kernel⟩, fun h => absurd h (by decide), fun _ => by decide +kernel, by decide, fun h => absurd h (by decide), fun h => absurd h (by decide), fun _ => rfl, fun h => absurd h (by decide)⟩
theorem x_gok105 : x_gok 105 := ⟨rfl, by decide +kernel, ⟨by decide +kernel, by decide +kernel, by decide +kernel⟩, fun h => absurd h (by decide), fun _ => by decide +kernel, by decide, fun h => absurd h (by decide), fun h => absurd h (by decide), fun _ => rfl, fun h => absurd h (by decide)⟩
theorem x_gok106 : x_gok 106 := ⟨rfl, by decide +kernel, ⟨by decide +kernel, by decide +kernel, by decide +kernel⟩, fun h => absurd h (by decide), fun _ => by decide +kernel, by decide, fun h => absurd h (by decide), fun _ => rfl, fun h => absurd h (by decide), fun h => absurd h (by decide)⟩
theorem x_gok107 : x_gok 107 := ⟨rfl, by decide +kernel, ⟨by decide +kernel, by decide +kernel, by decide +kernel⟩, fun h => absurd h (by decide), fun _ => by decide +kernel, by decide, fun h => absurd h (by decide), fun h => absurd h (by decide), fun _ => rfl, fun h => absurd h (by decide)⟩
theorem x_gok108 : x_gok 108 := ⟨rfl, by decide +kernel, ⟨by decide +kernel, by decide +kernel, by decide +kernel⟩, fun h => absurd h (by decide), fun _ => by decide +kernel, by decide, fun _ => rfl, fun h => absurd h (by decide), fun h => absurd h (by decide), fun h => absurd h (by decide)⟩
theorem x_gok109 : x_gok 109 := ⟨rfl, by decide +kernel, ⟨by decide +kernel, by decide +kernel, by decide +kernel⟩, fun h => absurd h (by decide), fun _ => by decide +kernel, by decide, fun _ => rfl, fun h => absurd h (by decide), fun h => absurd h (by decide), fun h => absurd h (by decide)⟩
theorem x_gok110 : x_gok 110 := ⟨rfl, by decide +kernel, ⟨by decide +kernel, by decide +kernel, by decide +kernel⟩, fun h => absurd h (by decide), fun _ => by decide +kernel, by decide, fun _ => rfl, fun h => absurd h (by decide), fun h => absurd h (by decide), fun h => absurd h (by decide)⟩
theorem x_gok111 : x_gok 111 := ⟨rfl, by decide +kernel, ⟨by decide +kernel, by decide +kernel, by decide +kernel⟩, fun h => absurd h (by decide), fun _ => by decide +kernel, by decide, fun _ => rfl, fun h => absurd h (by decide), fun h => absurd h (by decide), fun h => absurd h (by decide)⟩
theorem x_gok112 : x_gok 112 := ⟨rfl, by decide +kernel, ⟨by decide +kernel, by decide +kernel, by decide +kernel⟩, fun h => absurd h (by decide), fun _ => by decide +kernel, by decide, fun h => absurd h (by decide), fun _ => rfl, fun h => absurd h (by decide), fun h => absurd h (by decide)⟩
theorem x_gok113 : x_gok 113 := ⟨rfl, by decide +kernel, ⟨by decide +kernel, by decide +kernel, by decide +kernel⟩, fun h => absurd h (by decide), fun _ => by decide +kernel, by decide, fun _ => rfl, fun h => absurd h (by decide), fun h => absurd h (by decide), fun h => absurd h (by decide)⟩
theorem x_gok114 : x_gok 114 := ⟨rfl, by decide +kernel, ⟨by decide +kernel, by decide +kernel, by decide +kernel⟩, fun h => absurd h (by decide), fun _ => by decide +kernel, by decide, fun h => absurd h (by decide), fun _ => rfl, fun h => absurd h (by decide), fun h => absurd h (by decide)⟩
theorem x_gok115 : x_gok 115 := ⟨rfl, by decide +kernel, ⟨by decide +kernel, by decide +kernel, by decide +kernel⟩, fun h => absurd h (by decide), fun _ => by decide +kernel, by decide, fun _ => rfl, fun h => absurd h (by decide), fun h => absurd h (by decide), fun h => absurd h (by decide)⟩
theorem x_gok116 : x_gok 116 := ⟨rfl, by decide +kernel, ⟨by decide +kernel, by decide +kernel, by decide +kernel⟩, fun h => absurd h (by decide), fun _ => by decide +kernel, by decide, fun _ => rfl, fun h => absurd h (by decide), fun h => absurd h (by decide), fun h => absurd h (by decide)⟩
theorem x_gok117 : x_gok 117 := ⟨rfl, by decide +kernel, ⟨by decide +kernel, by decide +kernel, by decide +kernel⟩, fun h => absurd h (by decide), fun _ => by decide +kernel, by decide, fun _ => rfl, fun h => absurd h (by decide), fun h => absurd h (by decide), fun h => absurd h (by decide)⟩
theorem x_gok118 : x_gok 118 := ⟨rfl, by decide +kernel, ⟨by decide +kernel, by decide +kernel, by decide +kernel⟩, fun h => absurd h (by decide), fun _ => by decide +kernel, by decide, fun _ => rfl, fun h => absurd h (by decide), fun h => absurd h (by decide), fun h => absurd h (by decide)⟩
theorem x_gok119 : x_gok 119 := ⟨rfl, by decide +kernel, ⟨by decide +kernel, by decide +kernel, by decide +kernel⟩, fun h => absurd h (by decide), fun _ => by decide +kernel, by decide, fun _ => rfl, fun h => absurd h (by decide), fun h => absurd h (by decide), fun h => absurd h (by decide)⟩
theorem x_gok120 : x_gok 120 := ⟨rfl, by decide +kernel, ⟨by decide +kernel, by decide +kernel, by decide +kernel⟩, fun h => absurd h (by decide), fun _ => by decide +kernel, by decide, fun _ => rfl, fun h => absurd h (by decide), fun h => absurd h (by decide), fun h => absurd h (by decide)⟩
theorem x_gok121 : x_gok 121 := ⟨rfl, by decide +kernel, ⟨by decide +kernel, by decide +kernel, by decide +kernel⟩, fun h => absurd h (by decide), fun _ => by decide +kernel, by decide, fun h => absurd h (by decide), fun _ => rfl, fun h => absurd h (by decide), fun h => absurd h (by decide)⟩
theorem x_gok122 : x_gok 122 := ⟨rfl, by decide +kernel, ⟨by decide +kernel, by decide +kernel, by decide +kernel⟩, fun h => absurd h (by decide), fun _ => by decide +kernel, by decide, fun _ => rfl, fun h => absurd h (by decide), fun h => absurd h (by decide), fun h => absurd h (by decide)⟩
theorem x_gok123 : x_gok 123 := ⟨rfl, by decide +kernel, ⟨by decide +kernel, by decide +kernel, by decide +kernel⟩, fun h => absurd h (by decide), fun _ => by decide +kernel, by decide, fun h => absurd h (by decide), fun h => absurd h (by decide), fun _ => rfl, fun h => absurd h (by decide)⟩
theorem x_gok124 : x_gok 124 := ⟨rfl, by decide +kernel, ⟨by decide +kernel, by decide +kernel, by decide +kernel⟩, fun h => absurd h (by decide), fun _ => by decide +kernel, by decide, fun _ => rfl, fun h => absurd h (by decide), fun h => absurd h (by decide), fun h => absurd h (by decide)⟩
theorem x_gok125 : x_gok 125 := ⟨rfl, by decide +kernel, ⟨by decide +kernel, by decide +kernel, by decide +kernel⟩, fun h => absurd h (by decide), fun _ => by decide +kernel, by decide, fun _ => rfl, fun h => absurd h (by decide), fun h => absurd h (by decide), fun h => absurd h (by decide)⟩
theorem x_gok126 : x_gok 126 := ⟨rfl, by decide +kernel, ⟨by decide +kernel, by decide +kernel, by decide +kernel⟩, fun h => absurd h (by decide), fun _ => by decide +kernel, by decide, fun _ => rfl, fun h => absurd h (by decide), fun h => absurd h (by decide), fun h => absurd h (by decide)⟩
theorem x_gok127 : x_gok 127 := ⟨rfl, by decide +kernel, ⟨by decide +kernel, by decide +kernel, by decide +kernel⟩, fun h => absurd h (by decide), fun _ => by decide +kernel, by decide, fun h => absurd h (by decide), fun h => absurd h (by decide), fun _ => rfl, fun h => absurd h (by decide)⟩
theorem x_gok128 : x_gok 128 := ⟨rfl, by decide +kernel, ⟨by decide +kernel, by decide +kernel, by decide +kernel⟩, fun h => absurd h (by decide), fun _ => by decide +kernel, by decide, fun h => absurd h (by decide), fun h => absurd h (by decide), fun _ => rfl, fun h => absurd h (by decide)⟩
theorem x_gok129 : x_gok 129 := ⟨rfl, by decide +kernel, ⟨by decide +kernel, by decide +kernel, by decide +kernel⟩, fun h => absurd h (by decide), fun _ => by decide +kernel, by decide, fun h => absurd h (by decide), fun h => absurd h (by decide), fun _ => rfl, fun h => absurd h (by decide)⟩
theorem x_gok130 : x_gok 130 := ⟨rfl, by decide +kernel, ⟨by decide +kernel, by decide +kernel, by decide +kernel⟩, fun h => absurd h (by decide), fun _ => by decide +kernel, by decide, fun h => absurd h (by decide), fun h => absurd h (by decide), fun _ => rfl, fun h => absurd h (by decide)⟩
theorem x_gok131 : x_gok 131 := ⟨rfl, by decide +kernel, ⟨by decide +kernel, by decide +kernel, by decide +kernel⟩, fun h => absurd h (by decide), fun _ => by decide +kernel, by decide, fun h => absurd h (by decide), fun _ => rfl, fun h => absurd h (by decide), fun h => absurd h (by decide)⟩
theorem x_gok132 : x_gok 132 := ⟨rfl, by decide +kernel, ⟨by decide +kernel, by decide +kernel, by decide +kernel⟩, fun h => absurd h (by decide), fun _ => by decide +kernel, by decide, fun h => absurd h (by decide), fun h => absurd h (by decide), fun _ => rfl, fun h => absurd h (by decide)⟩
theorem x_gok133 : x_gok 133 := ⟨rfl, by decide +kernel, ⟨by decide +kernel, by decide +kernel, by decide +kernel⟩, fun h => absurd h (by decide), fun _ => by decide +kernel, by decide, fun h => absurd h (by decide), fun _ => rfl, fun h => absurd h (by decide), fun h => absurd h (by decide)⟩
theorem x_gok134 : x_gok 134 := ⟨rfl, by decide +kernel, ⟨by decide +kernel, by decide +kernel, by decide +kernel⟩, fun h => absurd h (by decide), fun _ => by decide +kernel, by decide, fun h => absurd h (by decide), fun _ => rfl, fun h => absurd h (by decide), fun h => absurd h (by decide)⟩
theorem x_gok135 : x_gok 135 := ⟨rfl, by decide +kernel, ⟨by decide +kernel, by decide +kernel, by decide +kernel⟩, fun h => absurd h (by decide), fun _ => by decide +kernel, by decide, fun h => absurd h (by decide), fun _ => rfl, fun h => absurd h (by decide), fun h => absurd h (by decide)⟩
theorem x_gok136 : x_gok 136 := ⟨rfl, by decide +kernel, ⟨by decide +kernel, by decide +kernel, by decide +kernel⟩, fun h => absurd h (by decide), fun _ => by decide +kernel, by decide, fun h => absurd h (by decide), fun _ => rfl, fun h => absurd h (by decide), fun h => absurd h (by decide)⟩
theorem x_gok137 : x_gok 137 := ⟨rfl, by decide +kernel, ⟨by decide +kernel, by decide +kernel, by decide +kernel⟩, fun h => absurd h (by decide), fun _ => by decide +kernel, by decide, fun h => absurd h (by decide), fun _ => rfl, fun h => absurd h (by decide), fun h => absurd h (by decide)⟩
theorem x_gok138 : x_gok 138 := ⟨rfl, by decide +kernel, ⟨by decide +kernel, by decide +kernel, by decide +kernel⟩, fun h => absurd h (by decide), fun _ => by decide +kernel, by decide, fun h => absurd h (by decide), fun _ => rfl, fun h => absurd h (by decide), fun h => absurd h (by decide)⟩
theorem x_gok139 : x_gok 139 := ⟨rfl, by decide +kernel, ⟨by decide +kernel, by decide +kernel, by decide +kernel⟩, fun h => absurd h (by decide), fun _ => by decide +kernel, by decide, fun h => absurd h (by decide), fun _ => rfl, fun h => absurd h (by decide), fun h => absurd h (by decide)⟩
theorem x_gok140 : x_gok 140 := ⟨rfl, by decide +kernel, ⟨by decide +kernel, by decide +kernel, by decide +kernel⟩, fun h => absurd h (by decide), fun _ => by decide +kernel, by decide, fun h => absurd h (by decide), fun _ => rfl, fun h => absurd h (by decide), fun h => absurd h (by decide)⟩
theorem x_gok141 : x_gok 141 := ⟨rfl, by decide +kernel, ⟨by decide +kernel, by decide +kernel, by decide +kernel⟩, fun h => absurd h (by decide), fun _ => by decide +kernel, by decide, fun h => absurd h (by decide), fun _ => rfl, fun h => absurd h (by decide), fun h => absurd h (by decide)⟩
theorem x_gok142 : x_gok 142 := ⟨rfl, by decide +kernel, ⟨by decide +kernel, by decide +kernel, by decide +kernel⟩, fun h => absurd h (by decide), fun _ => by decide +kernel, by decide, fun h => absurd h (by decide), fun _ => rfl, fun h => absurd h (by decide), fun h => absurd h (by decide)⟩
theorem x_gok143 : x_gok 143 := ⟨rfl, by decide +kernel, ⟨by decide +kernel, by decide +kernel, by decide +kernel⟩, fun h => absurd h (by decide), fun _ => by decide +kernel, by decide, fun h => absurd h (by decide), fun _ => rfl, fun h => absurd h (by decide), fun h => absurd h (by decide)⟩
theorem x_gok144 : x_gok 144 := ⟨rfl, by decide +kernel, ⟨by decide +kernel, by decide +kernel, by decide +kernel⟩, fun h => absurd h (by decide), fun _ => by decide +kernel, by decide, fun h => absurd h (by decide), fun _ => rfl, fun h => absurd h (by decide), fun h => absurd h (by decide)⟩
theorem x_gok145 : x_gok 145 := ⟨rfl, by decide +kernel, ⟨by decide +kernel, by decide +kernel, by decide +kernel⟩, fun h => absurd h (by decide), fun _ => by decide +kernel, by decide, fun _ => rfl, fun h => absurd h (by decide), fun h => absurd h (by decide), fun h => absurd h (by decide)⟩
theorem x_g_ok : ∀ k, k < 146 → x_gok k := by
  have h : ∀ q ∈ List.range 146, x_gok q := List.forall_mem_cons.mpr ⟨x_gok0, List.forall_mem_cons.mpr ⟨x_gok1, List.forall_mem_cons.mpr ⟨x_gok2, List.forall_mem_cons.mpr ⟨x_gok3, List.forall_mem_cons.mpr ⟨x_gok4, List.forall_mem_cons.mpr ⟨x_gok5, List.forall_mem_cons.mpr ⟨x_gok6, List.forall_mem_cons.mpr ⟨x_gok7, List.forall_mem_cons.mpr ⟨x_gok8, List.forall_mem_cons.mpr ⟨x_gok9, List.forall_mem_cons.mpr ⟨x_gok10, List.forall_mem_cons.mpr ⟨x_gok11, List.forall_mem_cons.mpr ⟨x_gok12, List.forall_mem_cons.mpr ⟨x_gok13, List.forall_mem_cons.mpr ⟨x_gok14, List.forall_mem_cons.mpr ⟨x_gok15, List.forall_mem_cons.mpr ⟨x_gok16, List.forall_mem_cons.mpr ⟨x_gok17, List.forall_mem_cons.mpr ⟨x_gok18, List.forall_mem_cons.mpr ⟨x_gok19, List.forall_mem_cons.mpr ⟨x_gok20, List.forall_mem_cons.mpr ⟨x_gok21, List.forall_mem_cons.mpr ⟨x_gok22, List.forall_mem_cons.mpr ⟨x_gok23, List.forall_mem_cons.mpr ⟨x_gok24, List.forall_mem_cons.mpr ⟨x_gok25, List.forall_mem_cons.mpr ⟨x_gok26, List.forall_mem_cons.mpr ⟨x_gok27, List.forall_mem_cons.mpr ⟨x_gok28, List.forall_mem_cons.mpr ⟨x_gok29, List.forall_mem_cons.mpr ⟨x_gok30, List.forall_mem_cons.mpr ⟨x_gok31, List.forall_mem_cons.mpr ⟨x_gok32, List.forall_mem_cons.mpr ⟨x_gok33, List.forall_mem_cons.mpr ⟨x_gok34, List.forall_mem_cons.mpr ⟨x_gok35, List.forall_mem_cons.mpr ⟨x_gok36, List.forall_mem_cons.mpr ⟨x_gok37, List.forall_mem_cons.mpr ⟨x_gok38, List.forall_mem_cons.mpr ⟨x_gok39, List.forall_mem_cons.mpr ⟨x_gok40, List.forall_mem_cons.mpr ⟨x_gok41, List.forall_mem_cons.mpr ⟨x_gok42, List.forall_mem_cons.mpr ⟨x_gok43, List.forall_mem_cons.mpr ⟨x_gok44, List.forall_mem_cons.mpr ⟨x_gok45, List.forall_mem_cons.mpr ⟨x_gok46, List.forall_mem_cons.mpr ⟨x_gok47, List.forall_mem_cons.mpr ⟨x_gok48, List.forall_mem_cons.mpr ⟨x_gok49, List.forall_mem_cons.mpr ⟨x_gok50, List.forall_mem_cons.mpr ⟨x_gok51, List.forall_mem_cons.mpr ⟨x_gok52, List.forall_mem_cons.mpr ⟨x_gok53, List.forall_mem_cons.mpr ⟨x_gok54, List.forall_mem_cons.mpr ⟨x_gok55, List.forall_mem_cons.mpr ⟨x_gok56, List.forall_mem_cons.mpr ⟨x_gok57, List.forall_mem_cons.mpr ⟨x_gok58, List.forall_mem_cons.mpr ⟨x_gok59, List.forall_mem_cons.mpr ⟨x_gok60, List.forall_mem_cons.mpr ⟨x_gok61, List.forall_mem_cons.mpr ⟨x_gok62, List.forall_mem_cons.mpr ⟨x_gok63, List.forall_mem_cons.mpr ⟨x_gok64, List.forall_mem_cons.mpr ⟨x_gok65, List.forall_mem_cons.mpr ⟨x_gok66, List.forall_mem_cons.mpr ⟨x_gok67, List.forall_mem_cons.mpr ⟨x_gok68, List.forall_mem_cons.mpr ⟨x_gok69, List.forall_mem_cons.mpr ⟨x_gok70, List.forall_mem_cons.mpr ⟨x_gok71, List.forall_mem_cons.mpr ⟨x_gok72, List.forall_mem_cons.mpr ⟨x_gok73, List.forall_mem_cons.mpr ⟨x_gok74, List.forall_mem_cons.mpr ⟨x_gok75, List.forall_mem_cons.mpr ⟨x_gok76, List.forall_mem_cons.mpr ⟨x_gok77, List.forall_mem_cons.mpr ⟨x_gok78, List.forall_mem_cons.mpr ⟨x_gok79, List.forall_mem_cons.mpr ⟨x_gok80, List.forall_mem_cons.mpr ⟨x_gok81, List.forall_mem_cons.mpr ⟨x_gok82, List.forall_mem_cons.mpr ⟨x_gok83, List.forall_mem_cons.mpr ⟨x_gok84, List.forall_mem_cons.mpr ⟨x_gok85, List.forall_mem_cons.mpr ⟨x_gok86, List.forall_mem_cons.mpr ⟨x_gok87, List.forall_mem_cons.mpr ⟨x_gok88, List.forall_mem_cons.mpr ⟨x_gok89, List.forall_mem_cons.mpr ⟨x_gok90, List.forall_mem_cons.mpr ⟨x_gok91, List.forall_mem_cons.mpr ⟨x_gok92, List.forall_mem_cons.mpr ⟨x_gok93, List.forall_mem_cons.mpr ⟨x_gok94, List.forall_mem_cons.mpr ⟨x_gok95, List.forall_mem_cons.mpr ⟨x_gok96, List.forall_mem_cons.mpr ⟨x_gok97, List.forall_mem_cons.mpr ⟨x_gok98, List.forall_mem_cons.mpr ⟨x_gok99, List.forall_mem_cons.mpr ⟨x_gok100, List.forall_mem_cons.mpr ⟨x_gok101, List.forall_mem_cons.mpr ⟨x_gok102, List.forall_mem_cons.mpr ⟨x_gok103, List.forall_mem_cons.mpr ⟨x_gok104, List.forall_mem_cons.mpr ⟨x_gok105, List.forall_mem_cons.mpr ⟨x_gok106, List.forall_mem_cons.mpr ⟨x_gok107, List.forall_mem_cons.mpr ⟨x_gok108, List.forall_mem_cons.mpr ⟨x_gok109, List.forall_mem_cons.mpr ⟨x_gok110, List.forall_mem_cons.mpr ⟨x_gok111, List.forall_mem_cons.mpr ⟨x_gok112, List.forall_mem_cons.mpr ⟨x_gok113, List.forall_mem_cons.mpr ⟨x_gok114, List.forall_mem_cons.mpr ⟨x_gok115, List.forall_mem_cons.mpr ⟨x_gok116, List.forall_mem_cons.mpr ⟨x_gok117, List.forall_mem_cons.mpr ⟨x_gok118, List.forall_mem_cons.mpr ⟨x_gok119, List.forall_mem_cons.mpr ⟨x_gok120, List.forall_mem_cons.mpr ⟨x_gok121, List.forall_mem_cons.mpr ⟨x_gok122, List.forall_mem_cons.mpr ⟨x_gok123, List.forall_mem_cons.mpr ⟨x_gok124, List.forall_mem_cons.mpr ⟨x_gok125, List.forall_mem_cons.mpr ⟨x_gok126, List.forall_mem_cons.mpr ⟨x_gok127, List.forall_mem_cons.mpr ⟨x_gok128, List.forall_mem_cons.mpr ⟨x_gok129, List.forall_mem_cons.mpr ⟨x_gok130, List.forall_mem_cons.mpr ⟨x_gok131, List.forall_mem_cons.mpr ⟨x_gok132, List.forall_mem_cons.mpr ⟨x_gok133, List.forall_mem_cons.mpr ⟨x_gok134, List.forall_mem_cons.mpr ⟨x_gok135, List.forall_mem_cons.mpr ⟨x_gok136, List.forall_mem_cons.mpr ⟨x_gok137, List.forall_mem_cons.mpr ⟨x_gok138, List.forall_mem_cons.mpr ⟨x_gok139, List.forall_mem_cons.mpr ⟨x_gok140, List.forall_mem_cons.mpr ⟨x_gok141, List.forall_mem_cons.mpr ⟨x_gok142, List.forall_mem_cons.mpr ⟨x_gok143, List.forall_mem_cons.mpr ⟨x_gok144, List.forall_mem_cons.mpr ⟨x_gok145, fun _ h => absurd h List.not_mem_nil⟩⟩⟩⟩⟩⟩⟩⟩⟩⟩⟩⟩⟩⟩⟩⟩⟩⟩⟩⟩⟩⟩⟩⟩⟩⟩⟩⟩⟩⟩⟩⟩⟩⟩⟩⟩⟩⟩⟩⟩⟩⟩⟩⟩⟩⟩⟩⟩⟩⟩⟩⟩⟩⟩⟩⟩⟩⟩⟩⟩⟩⟩⟩⟩⟩⟩⟩⟩⟩⟩⟩⟩⟩⟩⟩⟩⟩⟩⟩⟩⟩⟩⟩⟩⟩⟩⟩⟩⟩⟩⟩⟩⟩⟩⟩⟩⟩⟩⟩⟩⟩⟩⟩⟩⟩⟩⟩⟩⟩⟩⟩⟩⟩⟩⟩⟩⟩⟩⟩⟩⟩⟩⟩⟩⟩⟩⟩⟩⟩⟩⟩⟩⟩⟩⟩⟩⟩⟩⟩⟩⟩⟩⟩⟩⟩⟩
  exact fun k hk => h k (List.mem_range.mpr hk)
end
section
/-! the small machine's memory as cells of the heap -/
def x_kt : FieldType → Nat
  | .int => 0
  | .boolean => 1
  | .long => 2
  | _ => 3
def x_V (ad : Nat → Nat) : Value → Value
  | .ref i => .ref (ad i)
  | v => v
def x_F (ad : Nat → Nat) (M : xM) (a ci n : Nat) : List Value := (List.range n).map (fun j => x_V ad (x_fv (x_kt (xy ci j)) M a j))
def x_O (ad : Nat → Nat) (tC : Nat → ClassId) (M : xM) (a : Nat) : xK → va_E
  | (true, t, n) => .inl (tC t, n, if t < 2 then .inl (M.2.1 a) else .inr (.inr (.inr (.inr (fun j => (M.2.2.2 a j).map ad)))))
  | (false, ci, n) => .inr (ci, x_F ad M a ci n)
def x_W (ad : Nat → Nat) (tC : Nat → ClassId) (M : xM) : va_W := M.1.mapIdx (fun a k => (ad a, x_O ad tC M a k))
theorem x_W_at {ad : Nat → Nat} {tC : Nat → ClassId} {M : xM} {a : Nat} {k : xK} (h : M.1[a]? = some k) : (x_W ad tC M)[a]? = some (ad a, x_O ad tC M a k) := by
  simp [x_W, List.getElem?_mapIdx, h]
theorem x_V_cat (ad : Nat → Nat) (v : Value) : (x_V ad v).category = v.category := by cases v <;> rfl
theorem x_V_rf (ad : Nat → Nat) (r : Option Nat) : x_V ad (va_rf r) = va_rf (r.map ad) := by cases r <;> rfl
/-- another memory, the same but at one cell -/
def x_but (a : Nat) (M M' : xM) : Prop := M'.1 = M.1 ∧ ∀ b i, b ≠ a → M'.2.1 b i = M.2.1 b i ∧ M'.2.2.1 b i = M.2.2.1 b i ∧ M'.2.2.2 b i = M.2.2.2 b i
theorem x_fv_eq {ty : Nat} {M M' : xM} {a j : Nat} (h1 : M'.2.1 a j = M.2.1 a j) (h2 : M'.2.2.1 a j = M.2.2.1 a j) (h3 : M'.2.2.2 a j = M.2.2.2 a j) : x_fv ty M' a j = x_fv ty M a j := by
  unfold x_fv
  split <;> simp [h1, h2, h3]
theorem x_O_eq {ad : Nat → Nat} {tC : Nat → ClassId} {M M' : xM} {a : Nat} (h : ∀ i, M'.2.1 a i = M.2.1 a i ∧ M'.2.2.1 a i = M.2.2.1 a i ∧ M'.2.2.2 a i = M.2.2.2 a i) (k : xK) : x_O ad tC M' a k = x_O ad tC M a k := by
  obtain ⟨b, t, n⟩ := k
  cases b with
  | true =>
    have h1 : M'.2.1 a = M.2.1 a := funext fun i => (h i).1
    have h3 : M'.2.2.2 a = M.2.2.2 a := funext fun i => (h i).2.2
    simp only [x_O, h1, h3]
  | false =>
    simp only [x_O, x_F]
    congr 2
    apply List.map_congr_left
    intro j _
    rw [x_fv_eq (h j).1 (h j).2.1 (h j).2.2]
theorem x_W_but {ad : Nat → Nat} {tC : Nat → ClassId} {M M' : xM} {a : Nat} {k : xK} (hk : M.1[a]? = some k) (h : x_but a M M') : x_W ad tC M' = (x_W ad tC M).set a (ad a, x_O ad tC M' a k) := by
  apply List.ext_getElem?
  intro b
  by_cases hb : b = a
  · subst hb
    have hl : b < (x_W ad tC M).length := x_lt (x_W_at hk)
    rw [x_W_at (k := k) (by rw [h.1]; exact hk), List.getElem?_set_self hl]
  · rw [List.getElem?_set_ne (Ne.symm hb)]
    cases hq : M.1[b]? with
    | none => simp [x_W, List.getElem?_mapIdx, h.1, hq]
    | some kb => rw [x_W_at hq, x_W_at (k := kb) (by rw [h.1]; exact hq), x_O_eq (fun i => h.2 b i hb)]
theorem x_F_set {ad : Nat → Nat} {M M' : xM} {a ci n j : Nat} {v : Value} (hj : j < n) (hv : x_fv (x_kt (xy ci j)) M' a j = v) (h : ∀ i, i ≠ j → x_fv (x_kt (xy ci i)) M' a i = x_fv (x_kt (xy ci i)) M a i) : x_F ad M' a ci n = (x_F ad M a ci n).set j (x_V ad v) := by
  apply List.ext_getElem?
  intro i
  by_cases hi : i = j
  · subst hi
    rw [List.getElem?_set_self (by simp [x_F]; exact hj)]
    simp [x_F, hj, hv]
  · rw [List.getElem?_set_ne (Ne.symm hi)]
    by_cases hq : i < n
    · simp [x_F, hq, h i hi]
    · simp [x_F, hq]
/-- a cell more -/
theorem x_W_push {ad : Nat → Nat} {tC : Nat → ClassId} {M M' : xM} {k : xK} {q : Nat} (hw : x_wM M) (hk : M'.1 = M.1 ++ [k]) (h : ∀ b i, b ≠ M.1.length → M'.2.1 b i = M.2.1 b i ∧ M'.2.2.1 b i = M.2.2.1 b i ∧ M'.2.2.2 b i = M.2.2.2 b i) :
    x_W (va_up ad M.1.length q) tC M' = x_W ad tC M ++ [(q, x_O (va_up ad M.1.length q) tC M' M.1.length k)] := by
  have hV : ∀ (b i : Nat), (M.2.2.2 b i).map (va_up ad M.1.length q) = (M.2.2.2 b i).map ad := by
    intro b i
    cases hr : M.2.2.2 b i with
    | none => rfl
    | some z =>
      have := hw b i z hr
      simp [va_up_ne ad q (show z ≠ M.1.length by omega)]
  apply List.ext_getElem?
  intro b
  have hlen : (x_W ad tC M).length = M.1.length := by simp [x_W]
  rcases Nat.lt_trichotomy b M.1.length with hb | hb | hb
  · rw [List.getElem?_append_left (by rw [hlen]; exact hb)]
    obtain ⟨kb, hkb⟩ : ∃ kb, M.1[b]? = some kb := ⟨M.1[b], List.getElem?_eq_getElem hb⟩
    rw [x_W_at hkb, x_W_at (M := M') (k := kb) (by rw [hk, List.getElem?_append_left hb]; exact hkb), va_up_ne ad q (Nat.ne_of_lt hb), x_O_eq (fun i => h b i (Nat.ne_of_lt hb))]
    congr 2
    obtain ⟨bb, t, n⟩ := kb
    cases bb with
    | true => simp only [x_O, hV]
    | false =>
      simp only [x_O, x_F]
      congr 2
      apply List.map_congr_left
      intro j _
      unfold x_fv
      split
      · rfl
      · rfl
      · rfl
      · rw [x_V_rf, x_V_rf, hV]
  · subst hb
    rw [List.getElem?_append_right (by rw [hlen]; exact Nat.le_refl _), hlen, Nat.sub_self, x_W_at (k := k) (by rw [hk]; simp), va_up_self]
    rfl
  · rw [List.getElem?_append_right (by rw [hlen]; exact Nat.le_of_lt hb), hlen]
    have h1 : M'.1[b]? = none := by rw [hk]; simp; omega
    have h2 : ([(q, x_O (va_up ad M.1.length q) tC M' M.1.length k)] : va_W)[b - M.1.length]? = none := by simp; omega
    rw [h2]
    simp [x_W, List.getElem?_mapIdx, h1]
theorem x_V_up {ad : Nat → Nat} {n q : Nat} {v : Value} (h : x_wV n v) : x_V (va_up ad n q) v = x_V ad v := by
  cases v with
  | ref i => have := h i rfl; simp [x_V, va_up_ne ad q (Nat.ne_of_lt this)]
  | _ => rfl
/-- the locals -/
def x_lr (ad : Nat → Nat) (arr : Array Slot) (nL : Nat) (ls : xL) : Prop := ls.length = nL ∧ lv_has arr nL [] ∧ ∀ (i : Nat) (v : Value), ls[i]? = some (some v) → arr[i]? = some (Slot.val (x_V ad v))
def x_ll (ad : Nat → Nat) (ls : xL) : List (Nat × Value) := (List.range ls.length).filterMap (fun i => match ls[i]? with
  | some (some v) => some (i, x_V ad v)
  | _ => none)
theorem x_ll_mem {ad : Nat → Nat} {ls : xL} {i : Nat} {v : Value} (h : ls[i]? = some (some v)) : (i, x_V ad v) ∈ x_ll ad ls := by
  refine List.mem_filterMap.mpr ⟨i, List.mem_range.mpr (x_lt h), ?_⟩
  simp [h]
theorem x_ll_of {ad : Nat → Nat} {ls : xL} {q : Nat × Value} (h : q ∈ x_ll ad ls) : ∃ v, ls[q.1]? = some (some v) ∧ q.2 = x_V ad v := by
  obtain ⟨i, -, hi⟩ := List.mem_filterMap.mp h
  split at hi
  · rename_i v hv
    cases hi
    exact ⟨v, hv, rfl⟩
  · cases hi
theorem x_lr.has {ad : Nat → Nat} {arr : Array Slot} {nL : Nat} {ls : xL} (h : x_lr ad arr nL ls) : lv_has arr nL (x_ll ad ls) :=
  ⟨h.2.1.1, h.2.1.2.1, fun q hq => by
    obtain ⟨v, h1, h2⟩ := x_ll_of hq
    rw [h2]
    exact h.2.2 _ _ h1⟩
theorem x_lr.store {ad : Nat → Nat} {arr' : Array Slot} {nL i : Nat} {ls : xL} {v : Value} {lv : List (Nat × Value)} (hl : ls.length = nL) (hi : i < nL) (hc : ∀ w, some w ∈ ls → w.category = 1) (hs : ∀ q ∈ x_ll ad ls, q ∈ lv)
    (h : lv_has arr' nL ((i, x_V ad v) :: lv.filter (fun q => !(q.1 == i) && !(q.1 + 1 == i && q.2.category == 2)))) : x_lr ad arr' nL (ls.set i (some v)) := by
  refine ⟨by simp [hl], ⟨h.1, h.2.1, fun q hq => by cases hq⟩, fun j w hj => ?_⟩
  by_cases hij : j = i
  · subst hij
    rw [List.getElem?_set_self (by rw [hl]; exact hi)] at hj
    cases hj
    exact h.2.2 _ List.mem_cons_self
  · rw [List.getElem?_set_ne (Ne.symm hij)] at hj
    refine h.2.2 (j, x_V ad w) (List.mem_cons_of_mem _ (List.mem_filter.mpr ⟨hs _ (x_ll_mem hj), ?_⟩))
    have hcw : (x_V ad w).category = 1 := by rw [x_V_cat]; exact hc w (List.mem_of_getElem? hj)
    simp [hij, hcw]
theorem x_lr.up {ad : Nat → Nat} {arr : Array Slot} {nL n q : Nat} {ls : xL} (h : x_lr ad arr nL ls) (hw : ∀ v, some v ∈ ls → x_wV n v) : x_lr (va_up ad n q) arr nL ls :=
  ⟨h.1, h.2.1, fun i v hv => by rw [x_V_up (hw v (List.mem_of_getElem? hv))]; exact h.2.2 i v hv⟩
/-- a frame's first locals -/
theorem x_en_lr {ad : Nat → Nat} {nL : Nat} {as : List Value} {ls : xL} (h : x_en nL as = some ls) (m : MethodId) : ∃ arr, entryFrame m (as.map (x_V ad)).toArray nL = F0 m 0 arr [] ∧ x_lr ad arr nL ls := by
  unfold x_en at h
  split at h
  · rename_i hc
    cases h
    have hsl : ∀ (vs : List Value), (∀ v ∈ vs, v.category = 1) → lg_sl (vs.map (x_V ad)) = vs.map (fun v => Slot.val (x_V ad v)) := by
      intro vs
      induction vs with
      | nil => intro _; rfl
      | cons v vs ih =>
        intro hv
        have h1 : (x_V ad v).category = 1 := by rw [x_V_cat]; exact hv v List.mem_cons_self
        have h2 := ih (fun w hw => hv w (List.mem_cons_of_mem _ hw))
        unfold lg_sl at h2 ⊢
        simp only [List.map_cons, List.flatMap_cons, h1, h2]
        rfl
    have hlen : (lg_sl (as.map (x_V ad))).length = as.length := by rw [hsl as hc.2]; simp
    have he := lv_entry (as.map (x_V ad)) (n := nL) (by rw [hlen]; exact hc.1)
    refine ⟨_, lg_entry_eq m (as.map (x_V ad)) nL, by simp; omega, ⟨he.1, he.2.1, fun q hq => by cases hq⟩, fun i v hv => ?_⟩
    have hi : i < as.length := by
      rcases Nat.lt_or_ge i as.length with h1 | h1
      · exact h1
      · rw [List.getElem?_append_right (by simpa using h1)] at hv
        exact absurd (List.eq_of_mem_replicate (List.mem_of_getElem? hv)) (by simp)
    rw [List.getElem?_append_left (by simpa using hi), List.getElem?_map] at hv
    have hv2 : as[i]? = some v := by
      cases hq : as[i]? with
      | none => rw [hq] at hv; simp at hv
      | some z => rw [hq] at hv; simp at hv; rw [hv]
    rw [List.getElem?_toArray, hsl as hc.2, List.getElem?_append_left (by simpa using hi), List.getElem?_map, hv2]
    rfl
  · cases h
def x_tys (tC : Nat → ClassId) : List (ClassId × FieldType) := [(tC 0, x_ty 0), (tC 1, x_ty 1), (tC 2, x_ty 2), (tC 3, x_ty 3), (tC 4, x_ty 4)]
def x_U (D : va_G) (tC : Nat → ClassId) (U : State) : Prop := va_K D xcl (x_tys tC) U ∧ ∀ w ∈ x_nl, va_Nw w U
theorem x_nl_warm {s U : State} (hW : s.WarmedH U.vm) : ∀ w ∈ x_nl, va_Nw w s → va_Nw w U := List.forall_mem_cons.mpr ⟨fun h => va_Nw.warmM hW h, List.forall_mem_cons.mpr ⟨fun h => va_Nw.warmM hW h, List.forall_mem_cons.mpr ⟨fun h => va_Nw.warmM hW h, List.forall_mem_cons.mpr ⟨fun h => va_Nw.warmM hW h, List.forall_mem_cons.mpr ⟨fun h => va_Nw.warmM hW h, List.forall_mem_cons.mpr ⟨fun h => va_Nw.warmM hW h, List.forall_mem_cons.mpr ⟨fun h => va_Nw.warmM hW h, List.forall_mem_cons.mpr ⟨fun h => va_Nw.warmM hW h, List.forall_mem_cons.mpr ⟨fun h => va_Nw.warmM hW h, List.forall_mem_cons.mpr ⟨fun h => va_Nw.warmM hW h, List.forall_mem_cons.mpr ⟨fun h => va_AO.moved hW.alike h, List.forall_mem_cons.mpr ⟨fun h => va_AO.moved hW.alike h, List.forall_mem_cons.mpr ⟨fun h => va_AO.moved hW.alike h, List.forall_mem_cons.mpr ⟨fun h => va_Nw.warmC hW h, fun _ h => absurd h List.not_mem_nil⟩⟩⟩⟩⟩⟩⟩⟩⟩⟩⟩⟩⟩⟩
theorem x_nl_call {U : State} {g : JFrame} {mk : MethodId} {a : Array Value} : ∀ w ∈ x_nl, va_Nw w U → va_Nw w (U.calling g mk a) := List.forall_mem_cons.mpr ⟨fun h => va_Nw.same (u := U) (U := U.calling g mk a) rfl rfl h, List.forall_mem_cons.mpr ⟨fun h => va_Nw.same (u := U) (U := U.calling g mk a) rfl rfl h, List.forall_mem_cons.mpr ⟨fun h => va_Nw.same (u := U) (U := U.calling g mk a) rfl rfl h, List.forall_mem_cons.mpr ⟨fun h => va_Nw.same (u := U) (U := U.calling g mk a) rfl rfl h, List.forall_mem_cons.mpr ⟨fun h => va_Nw.same (u := U) (U := U.calling g mk a) rfl rfl h, List.forall_mem_cons.mpr ⟨fun h => va_Nw.same (u := U) (U := U.calling g mk a) rfl rfl h, List.forall_mem_cons.mpr ⟨fun h => va_Nw.same (u := U) (U := U.calling g mk a) rfl rfl h, List.forall_mem_cons.mpr ⟨fun h => va_Nw.same (u := U) (U := U.calling g mk a) rfl rfl h, List.forall_mem_cons.mpr ⟨fun h => va_Nw.same (u := U) (U := U.calling g mk a) rfl rfl h, List.forall_mem_cons.mpr ⟨fun h => va_Nw.same (u := U) (U := U.calling g mk a) rfl rfl h, List.forall_mem_cons.mpr ⟨fun h => va_AO.moved (u := U) (U := U.calling g mk a) (Vm.Alike.refl U.vm) h, List.forall_mem_cons.mpr ⟨fun h => va_AO.moved (u := U) (U := U.calling g mk a) (Vm.Alike.refl U.vm) h, List.forall_mem_cons.mpr ⟨fun h => va_AO.moved (u := U) (U := U.calling g mk a) (Vm.Alike.refl U.vm) h, List.forall_mem_cons.mpr ⟨fun h => va_Nw.same (u := U) (U := U.calling g mk a) rfl rfl h, fun _ h => absurd h List.not_mem_nil⟩⟩⟩⟩⟩⟩⟩⟩⟩⟩⟩⟩⟩⟩
theorem x_U.warm {D : va_G} {tC : Nat → ClassId} {s U : State} (hW : s.WarmedH U.vm) (h : x_U D tC s) : x_U D tC U := ⟨va_K.moved hW.alike h.1, fun w hw => x_nl_warm hW w hw (h.2 w hw)⟩
theorem x_U.call {D : va_G} {tC : Nat → ClassId} {U : State} {g : JFrame} {mk : MethodId} {a : Array Value} (h : x_U D tC U) : x_U D tC (U.calling g mk a) :=
  ⟨va_K.moved (u := U) (U := U.calling g mk a) (Vm.Alike.refl U.vm) h.1, fun w hw => x_nl_call w hw (h.2 w hw)⟩
end
section
/-! a step of the small machine is a step of the JVM -/
def x_Fx (p : Program) (R : Room) (s : State) (m : MethodId) (args : Array Value) (meth : Method) (c : Code) (D : va_G) (tC : Nat → ClassId) (A : Nat → Prop) (d k : Nat) : Prop :=
  p.tables.exec = Jvm.exec ∧ c.code = x_b k ∧ c.maxLocals = x_nL k ∧ s.vm.findClass (xR (x_m k).2.2.2) = some m.cls ∧ (∀ w ∈ x_ws, w.before args s = true) ∧ x_U D tC s ∧ meth.sig.returnType = (x_m k).2.2.1 ∧ meth.locks = false ∧ (x_iL.getD k 0 = 1 → meth.name = "<init>") ∧ (∀ q, s.heap.size ≤ q → A q) ∧ d ≤ R.frames ∧ 37 * d ≤ R.locals
def x_sz (M : xM) : Nat := (M.1.map (fun k => k.2.2)).sum
def x_Dy (D : va_G) (tC : Nat → ClassId) (A : Nat → Prop) (H0 : Heap) (nL : Nat) (ad0 : Nat → Nat) (M0 : xM) (ad : Nat → Nat) (M : xM) (ls : xL) (st : List Value) (arr : Array Slot) (H : Heap) (locs : List Loc) (cells slots : Nat) : Prop :=
  x_G (0, ls, st, M) ∧ x_lr ad arr nL ls ∧ (∀ i, i < M0.1.length → ad i = ad0 i) ∧ va_P D xcl (x_W ad tC M) H ∧ va_D A (x_W ad tC M) ∧ va_S A H0 H locs ∧ cells + M0.1.length = M.1.length ∧ slots + x_sz M0 = x_sz M
theorem x_cl_at : ∀ ci, ci < 11 → xcl[ci]? = some (xR ci, xT ci, xN ci) := by
  intro ci h
  match ci, h with
  | 0, _ => rfl
  | 1, _ => rfl
  | 2, _ => rfl
  | 3, _ => rfl
  | 4, _ => rfl
  | 5, _ => rfl
  | 6, _ => rfl
  | 7, _ => rfl
  | 8, _ => rfl
  | 9, _ => rfl
  | 10, _ => rfl
  | _ + 11, h => omega
theorem x_fT_num : ∀ q ∈ x_fT, q.2.2.1 < 11 ∧ q.2.2.2.1 = xN q.2.2.1 ∧ q.2.2.2.2.1 < xN q.2.2.1 ∧ q.2.2.2.2.2 = x_kt (xy q.2.2.1 q.2.2.2.2.1) := by decide +kernel
theorem x_nT_num : ∀ q ∈ x_nT, q.2.2.1 < 11 ∧ q.2.2.2 = xN q.2.2.1 := by decide +kernel
theorem x_qT_num : ∀ q ∈ x_qT, 2 ≤ q.2.2 ∧ q.2.2 < 5 := by decide +kernel
def x_isr : FieldType → Bool
  | .object _ => true
  | .array _ => true
  | _ => false
theorem x_isr_ok : ∀ ci, ci < 11 → ∀ j, j < xN ci → x_kt (xy ci j) = 3 → x_isr (xy ci j) = true := by decide +kernel
theorem x_own_ok : ∀ ci, ci < 11 → ∀ j, j < xN ci → (xT ci j).1 = xR ci := by decide +kernel
def x_d0 : Nat → Value
  | 0 => .int 0
  | 1 => .int 0
  | 2 => .long 0
  | _ => .null
theorem x_d0_ok : ∀ ci, ci < 11 → ∀ j, j < xN ci → defaultValue (xy ci j) = x_d0 (x_kt (xy ci j)) := by decide +kernel
theorem x_pv_ok {ad : Nat → Nat} {ty : FieldType} (hty : x_kt ty = 3 → x_isr ty = true) {M M2 : xM} {a j : Nat} {v : Value} (h : x_pv (x_kt ty) M a j v = some M2) :
    x_but a M M2 ∧ x_fv (x_kt ty) M2 a j = v ∧ (∀ i, i ≠ j → ∀ t, x_fv t M2 a i = x_fv t M a i) ∧ narrow ty (x_V ad v) = x_V ad v ∧ fits ty (x_V ad v) = true := by
  have key : ∀ {I : Nat → Nat → Int32} {L : Nat → Nat → Int64} {r : Nat → Nat → Option Nat}, (∀ b i, ¬ (b = a ∧ i = j) → I b i = M.2.1 b i ∧ L b i = M.2.2.1 b i ∧ r b i = M.2.2.2 b i) → x_but a M (M.1, I, L, r) ∧ ∀ i, i ≠ j → ∀ t, x_fv t (M.1, I, L, r) a i = x_fv t M a i := by
    intro I L r hh
    refine ⟨⟨rfl, fun b i hb => hh b i (fun q => hb q.1)⟩, fun i hi t => ?_⟩
    obtain ⟨q1, q2, q3⟩ := hh a i (fun q => hi q.2)
    exact x_fv_eq q1 q2 q3
  have hu : ∀ {α : Type} (f : Nat → Nat → α) (x : α) b i, ¬ (b = a ∧ i = j) → x_u f a j x b i = f b i := fun f x b i q => by simp only [x_u]; rw [if_neg q]
  have hs : ∀ {α : Type} (f : Nat → Nat → α) (x : α), x_u f a j x a j = x := fun f x => by simp [x_u]
  cases ty <;> simp only [x_kt] at h hty ⊢
  case int =>
    cases v <;> simp only [x_pv] at h <;> try (cases h; done)
    cases h
    obtain ⟨k1, k2⟩ := key (I := x_u M.2.1 a j _) (L := M.2.2.1) (r := M.2.2.2) (fun b i q => ⟨hu _ _ b i q, rfl, rfl⟩)
    exact ⟨k1, by simp [x_fv, hs], k2, rfl, rfl⟩
  case boolean =>
    cases v <;> simp only [x_pv] at h <;> try (cases h; done)
    split at h
    · rename_i hx
      cases h
      obtain ⟨k1, k2⟩ := key (I := x_u M.2.1 a j _) (L := M.2.2.1) (r := M.2.2.2) (fun b i q => ⟨hu _ _ b i q, rfl, rfl⟩)
      refine ⟨k1, by simp [x_fv, hs], k2, ?_, ?_⟩
      · rcases hx with rfl | rfl <;> rfl
      · rcases hx with rfl | rfl <;> rfl
    · cases h
  case long =>
    cases v <;> simp only [x_pv] at h <;> try (cases h; done)
    cases h
    obtain ⟨k1, k2⟩ := key (I := M.2.1) (L := x_u M.2.2.1 a j _) (r := M.2.2.2) (fun b i q => ⟨rfl, hu _ _ b i q, rfl⟩)
    exact ⟨k1, by simp [x_fv, hs], k2, rfl, rfl⟩
  case object =>
    cases v <;> simp only [x_pv] at h <;> try (cases h; done)
    · cases h
      obtain ⟨k1, k2⟩ := key (I := M.2.1) (L := M.2.2.1) (r := x_u M.2.2.2 a j none) (fun b i q => ⟨rfl, rfl, hu _ _ b i q⟩)
      exact ⟨k1, by simp [x_fv, hs, va_rf], k2, rfl, rfl⟩
    · cases h
      obtain ⟨k1, k2⟩ := key (I := M.2.1) (L := M.2.2.1) (r := x_u M.2.2.2 a j (some _)) (fun b i q => ⟨rfl, rfl, hu _ _ b i q⟩)
      exact ⟨k1, by simp [x_fv, hs, va_rf], k2, rfl, rfl⟩
  case array =>
    cases v <;> simp only [x_pv] at h <;> try (cases h; done)
    · cases h
      obtain ⟨k1, k2⟩ := key (I := M.2.1) (L := M.2.2.1) (r := x_u M.2.2.2 a j none) (fun b i q => ⟨rfl, rfl, hu _ _ b i q⟩)
      exact ⟨k1, by simp [x_fv, hs, va_rf], k2, rfl, rfl⟩
    · cases h
      obtain ⟨k1, k2⟩ := key (I := M.2.1) (L := M.2.2.1) (r := x_u M.2.2.2 a j (some _)) (fun b i q => ⟨rfl, rfl, hu _ _ b i q⟩)
      exact ⟨k1, by simp [x_fv, hs, va_rf], k2, rfl, rfl⟩
  all_goals exact absurd (hty trivial) (by simp [x_isr])
theorem x_sz_eq {M M2 : xM} (h : M2.1 = M.1) : x_sz M2 = x_sz M := by simp [x_sz, h]
theorem x_sz_push {M M2 : xM} {k : xK} (h : M2.1 = M.1 ++ [k]) : x_sz M2 = x_sz M + k.2.2 := by simp [x_sz, h]
section XSIH
variable {p : Program} {l : Launch} {e : Env} {R : Room} {s : State} {m : MethodId} {args : Array Value} {below : List Frame} {meth : Method} {c : Code} {D : va_G} {tC : Nat → ClassId} {A : Nat → Prop} {d k : Nat}
variable {ad0 : Nat → Nat} {M0 : xM} {ad : Nat → Nat} {M : xM} {ls : xL} {st : List Value} {arr : Array Slot} {H : Heap} {locs : List Loc} {cells slots : Nat} {Q : State → Prop} {pc pc' nL : Nat} {M2 : xM} {r : List Value} {a : Nat}
theorem x_Dy.put {H' : Heap} {locs' : List Loc} {kd : xK} {H0 : Heap} (Y : x_Dy D tC A H0 nL ad0 M0 ad M ls st arr H locs cells slots) (hg : x_G (pc', ls, r, M2)) (hk : M.1[a]? = some kd) (hbut : x_but a M M2)
    (hP : va_P D xcl ((x_W ad tC M).set a (ad a, x_O ad tC M2 a kd)) H') (hD : va_D A ((x_W ad tC M).set a (ad a, x_O ad tC M2 a kd))) (hS : va_S A H0 H' locs') : x_Dy D tC A H0 nL ad0 M0 ad M2 ls r arr H' locs' cells slots := by
  rw [← x_W_but hk hbut] at hP hD
  exact ⟨hg, Y.2.1, Y.2.2.1, hP, hD, hS, by rw [hbut.1]; exact Y.2.2.2.2.2.2.1, by rw [x_sz_eq hbut.1]; exact Y.2.2.2.2.2.2.2⟩
theorem x_sim_put {ix ci j : Nat} {v : Value} (hx : p.tables.exec = Jvm.exec) (hb : c.code = x_b k) (hts : ∀ w ∈ x_ws, w.before args s = true) (hown : s.vm.findClass (xR (x_m k).2.2.2) = some m.cls) (hK : va_K D xcl (x_tys tC) s) (hini : x_iL.getD k 0 = 1 → meth.name = "<init>") (hfin : (xT ci j).2.2.2 = true → (x_m k).2.2.2 = ci ∧ x_iL.getD k 0 = 1) (c1 : ci < 11) (c3 : j < xN ci) (hn : ((x_m k).2.2.2, ix, ci, xN ci, j, x_kt (xy ci j)) ∈ x_fT) (hd : decode (x_b k) pc = .ok (.putfield ix, 3))
    (Y : x_Dy D tC A s.heap nL ad0 M0 ad M ls (v :: .ref a :: r) arr H locs cells slots) (hg : x_G (pc', ls, r, M2)) (hk : M.1[a]? = some (false, ci, xN ci)) (hpv : x_pv (x_kt (xy ci j)) M a j v = some M2)
    (kk : ∀ (H' : Heap) (locs' : List Loc), x_Dy D tC A s.heap nL ad0 M0 ad M2 ls r arr H' locs' cells slots → W p l e R s m args below meth c H' locs' cells slots Q (F0 m (pc + 3) arr (r.map (x_V ad)))) : W p l e R s m args below meth c H locs cells slots Q (F0 m pc arr ((v :: .ref a :: r).map (x_V ad))) := by
  obtain ⟨hbut, hv, hoth, hnar, hfit⟩ := x_pv_ok (ad := ad) (x_isr_ok ci c1 j c3) hpv
  have hO : x_O ad tC M2 a (false, ci, xN ci) = .inr (ci, (x_F ad M a ci (xN ci)).set j (x_V ad v)) := by
    simp only [x_O]
    rw [x_F_set c3 hv (fun i hi => hoth i hi _)]
  obtain ⟨w1, w2, w3, w4, w5⟩ := x_cl_ok ci c1
  have Y' := Y
  obtain ⟨hG, hlr, had, hP, hD, hS, hce, hsl⟩ := Y'
  have fin : ∀ (H' : Heap) (locs' : List Loc), va_P D xcl ((x_W ad tC M).set a (ad a, .inr (ci, (x_F ad M a ci (xN ci)).set j (x_V ad v)))) H' → va_D A ((x_W ad tC M).set a (ad a, .inr (ci, (x_F ad M a ci (xN ci)).set j (x_V ad v)))) → va_S A s.heap H' locs' → W p l e R s m args below meth c H' locs' cells slots Q (F0 m (pc + 3) arr (r.map (x_V ad))) := by
    intro H' locs' q1 q2 q3
    exact kk H' locs' (Y.put hg hk hbut (by rw [hO]; exact q1) (by rw [hO]; exact q2) q3)
  cases hf : (xT ci j).2.2.2 with
  | false => exact va_put (D := D) (ci := ci) (C := xR ci) (T := xT ci) (N := xN ci) (v := x_V ad v) (ty := xy ci j) hx hb hts w1 (xy ci) w5 w4 hown hK hP hD hS a (x_W_at hk) (x_cl_at ci c1) j c3 (hts _ (x_fT_ok _ hn)) (fun _ h9 => h9) hf (w5 j c3) hnar hfit (by simp [x_F]; exact c3) hd fin
  | true => exact va_putF (D := D) (ci := ci) (C := xR ci) (T := xT ci) (N := xN ci) (v := x_V ad v) (ty := xy ci j) hx hb hts w1 (xy ci) w5 w4 hown hK hP hD hS a (x_W_at hk) (x_cl_at ci c1) j c3 (hts _ (x_fT_ok _ hn)) (fun _ h9 => h9) hf (hini (hfin hf).2) (by rw [x_own_ok ci c1 j c3, (hfin hf).1]) (w5 j c3) hnar hfit (by simp [x_F]; exact c3) hd fin
theorem x_tys_at (tC : Nat → ClassId) {t : Nat} (h : t < 5) : (x_tys tC)[t]? = some (tC t, x_ty t) := by
  match t, h with
  | 0, _ => rfl
  | 1, _ => rfl
  | 2, _ => rfl
  | 3, _ => rfl
  | 4, _ => rfl
  | _ + 5, h => omega
theorem x_ty_obj {t : Nat} (h1 : 2 ≤ t) (h2 : t < 5) : x_ty t = .object (xR (x_ec t)) := by
  match t, h1, h2 with
  | 2, _, _ => rfl
  | 3, _, _ => rfl
  | 4, _, _ => rfl
theorem x_vin {i : Int32} {n : Nat} (h1 : ¬ i < 0) (h2 : i.toNatClampNeg < n) : vp_in i n := fun h => h.elim h1 (fun h => absurd h2 (Nat.not_lt.mpr h))
theorem x_O_ref {t n : Nat} (h : 2 ≤ t) : x_O ad tC M a (true, t, n) = .inl (tC t, n, .inr (.inr (.inr (.inr (fun j => (M.2.2.2 a j).map ad))))) := by
  simp only [x_O]
  rw [if_neg (by omega)]
theorem x_sim_aq {t n : Nat} {i : Int32} (hx : p.tables.exec = Jvm.exec) (hb : c.code = x_b k) (hK : va_K D xcl (x_tys tC) s) (hP : va_P D xcl (x_W ad tC M) H) (hk : M.1[a]? = some (true, t, n)) (h1 : 2 ≤ t) (h2 : t < 5) (h3 : ¬ i < 0) (h4 : i.toNatClampNeg < n) (hd : decode (x_b k) pc = .ok (.aaload, 1))
    (kk : W p l e R s m args below meth c H locs cells slots Q (F0 m (pc + 1) arr ((va_rf (M.2.2.2 a i.toNatClampNeg) :: r).map (x_V ad)))) : W p l e R s m args below meth c H locs cells slots Q (F0 m pc arr ((.int i :: .ref a :: r).map (x_V ad))) := by
  simp only [List.map_cons, x_V_rf] at kk
  exact va_aldq (D := D) (C := xR (x_ec t)) hx hb hK hP a t (by rw [x_W_at hk, x_O_ref h1]) (by rw [x_tys_at tC h2, x_ty_obj h1 h2]) (x_vin h3 h4) hd kk
theorem x_sim_as0 {n : Nat} {i x : Int32} (hx : p.tables.exec = Jvm.exec) (hb : c.code = x_b k) (hK : va_K D xcl (x_tys tC) s) (Y : x_Dy D tC A s.heap nL ad0 M0 ad M ls (.int x :: .int i :: .ref a :: r) arr H locs cells slots) (hg : x_G (pc', ls, r, (M.1, x_u M.2.1 a i.toNatClampNeg x, M.2.2))) (hk : M.1[a]? = some (true, 0, n)) (h3 : ¬ i < 0) (h4 : i.toNatClampNeg < n) (hd : decode (x_b k) pc = .ok (.iastore, 1))
    (kk : ∀ (H' : Heap) (locs' : List Loc), x_Dy D tC A s.heap nL ad0 M0 ad (M.1, x_u M.2.1 a i.toNatClampNeg x, M.2.2) ls r arr H' locs' cells slots → W p l e R s m args below meth c H' locs' cells slots Q (F0 m (pc + 1) arr (r.map (x_V ad)))) : W p l e R s m args below meth c H locs cells slots Q (F0 m pc arr ((.int x :: .int i :: .ref a :: r).map (x_V ad))) := by
  have hbut : x_but a M (M.1, x_u M.2.1 a i.toNatClampNeg x, M.2.2) := ⟨rfl, fun b j hb => ⟨by simp only [x_u]; rw [if_neg (fun q => hb q.1)], rfl, rfl⟩⟩
  have hO : x_O ad tC (M.1, x_u M.2.1 a i.toNatClampNeg x, M.2.2) a (true, 0, n) = .inl (tC 0, n, .inl (upd (M.2.1 a) i.toNatClampNeg x)) := by
    simp only [x_O]
    rw [if_pos (by omega)]
    congr 4
    funext j
    simp [x_u, upd]
  have Y' := Y
  obtain ⟨hG, hlr, had, hP, hD, hS, hce, hsl⟩ := Y'
  exact va_iast (D := D) hx hb hK hP hD hS a 0 (x_W_at hk) rfl (x_vin h3 h4) hd (fun H1 locs1 q1 q2 q3 => kk H1 locs1 (Y.put hg hk hbut (by rw [hO]; exact q1) (by rw [hO]; exact q2) q3))
theorem x_sim_as1 {n : Nat} {i x : Int32} (hx : p.tables.exec = Jvm.exec) (hb : c.code = x_b k) (hK : va_K D xcl (x_tys tC) s) (Y : x_Dy D tC A s.heap nL ad0 M0 ad M ls (.int x :: .int i :: .ref a :: r) arr H locs cells slots) (hg : x_G (pc', ls, r, (M.1, x_u M.2.1 a i.toNatClampNeg x, M.2.2))) (hk : M.1[a]? = some (true, 1, n)) (h3 : ¬ i < 0) (h4 : i.toNatClampNeg < n) (hx01 : x = 0 ∨ x = 1) (hd : decode (x_b k) pc = .ok (.bastore, 1))
    (kk : ∀ (H' : Heap) (locs' : List Loc), x_Dy D tC A s.heap nL ad0 M0 ad (M.1, x_u M.2.1 a i.toNatClampNeg x, M.2.2) ls r arr H' locs' cells slots → W p l e R s m args below meth c H' locs' cells slots Q (F0 m (pc + 1) arr (r.map (x_V ad)))) : W p l e R s m args below meth c H locs cells slots Q (F0 m pc arr ((.int x :: .int i :: .ref a :: r).map (x_V ad))) := by
  have hbut : x_but a M (M.1, x_u M.2.1 a i.toNatClampNeg x, M.2.2) := ⟨rfl, fun b j hb => ⟨by simp only [x_u]; rw [if_neg (fun q => hb q.1)], rfl, rfl⟩⟩
  have hnar : vp_nar .boolean x = x := by rcases hx01 with rfl | rfl <;> rfl
  have hO : x_O ad tC (M.1, x_u M.2.1 a i.toNatClampNeg x, M.2.2) a (true, 1, n) = .inl (tC 1, n, .inl (upd (M.2.1 a) i.toNatClampNeg x)) := by
    simp only [x_O]
    rw [if_pos (by omega)]
    congr 4
    funext j
    simp [x_u, upd]
  have Y' := Y
  obtain ⟨hG, hlr, had, hP, hD, hS, hce, hsl⟩ := Y'
  exact va_zast (D := D) hx hb hK hP hD hS a 1 (x_W_at hk) rfl (x_vin h3 h4) hd (fun H1 locs1 q1 q2 q3 => kk H1 locs1 (Y.put hg hk hbut (by rw [hO]; rw [hnar] at q1; exact q1) (by rw [hO]; rw [hnar] at q2; exact q2) q3))
theorem x_sim_sq {t n n2 ci v : Nat} {i : Int32} (hx : p.tables.exec = Jvm.exec) (hb : c.code = x_b k) (hK : va_K D xcl (x_tys tC) s) (Y : x_Dy D tC A s.heap nL ad0 M0 ad M ls (.ref v :: .int i :: .ref a :: r) arr H locs cells slots) (hg : x_G (pc', ls, r, (M.1, M.2.1, M.2.2.1, x_u M.2.2.2 a i.toNatClampNeg (some v)))) (hk : M.1[a]? = some (true, t, n)) (hk2 : M.1[v]? = some (false, ci, n2)) (h1 : 2 ≤ t) (h2 : t < 5) (hec : x_ec t = ci) (h3 : ¬ i < 0) (h4 : i.toNatClampNeg < n) (hd : decode (x_b k) pc = .ok (.aastore, 1))
    (kk : ∀ (H' : Heap) (locs' : List Loc), x_Dy D tC A s.heap nL ad0 M0 ad (M.1, M.2.1, M.2.2.1, x_u M.2.2.2 a i.toNatClampNeg (some v)) ls r arr H' locs' cells slots → W p l e R s m args below meth c H' locs' cells slots Q (F0 m (pc + 1) arr (r.map (x_V ad)))) : W p l e R s m args below meth c H locs cells slots Q (F0 m pc arr ((.ref v :: .int i :: .ref a :: r).map (x_V ad))) := by
  have hbut : x_but a M (M.1, M.2.1, M.2.2.1, x_u M.2.2.2 a i.toNatClampNeg (some v)) := ⟨rfl, fun b j hb => ⟨rfl, rfl, by simp only [x_u]; rw [if_neg (fun q => hb q.1)]⟩⟩
  have hO : x_O ad tC (M.1, M.2.1, M.2.2.1, x_u M.2.2.2 a i.toNatClampNeg (some v)) a (true, t, n) = .inl (tC t, n, .inr (.inr (.inr (.inr (va_up (fun j => (M.2.2.2 a j).map ad) i.toNatClampNeg (some (ad v))))))) := by
    rw [x_O_ref h1]
    congr 7
    funext j
    simp only [x_u, va_up, true_and]
    split <;> rfl
  have hci : ci < 11 := by subst hec; match t, h1, h2 with | 2, _, _ => decide | 3, _, _ => decide | 4, _, _ => decide
  subst hec
  have Y' := Y
  obtain ⟨hG, hlr, had, hP, hD, hS, hce, hsl⟩ := Y'
  exact va_astq (D := D) (r := (xR (x_ec t), xT (x_ec t), xN (x_ec t))) hx hb hK hP hD hS a t v (x_ec t) (by rw [x_W_at hk, x_O_ref h1]) (by rw [x_tys_at tC h2, x_ty_obj h1 h2]) (x_W_at hk2) (x_cl_at _ hci) (x_vin h3 h4) hd (fun H1 locs1 q1 q2 q3 => kk H1 locs1 (Y.put hg hk hbut (by rw [hO]; exact q1) (by rw [hO]; exact q2) q3))
theorem x_sim_sn {t n : Nat} {i : Int32} (hx : p.tables.exec = Jvm.exec) (hb : c.code = x_b k) (hK : va_K D xcl (x_tys tC) s) (Y : x_Dy D tC A s.heap nL ad0 M0 ad M ls (.null :: .int i :: .ref a :: r) arr H locs cells slots) (hg : x_G (pc', ls, r, (M.1, M.2.1, M.2.2.1, x_u M.2.2.2 a i.toNatClampNeg none))) (hk : M.1[a]? = some (true, t, n)) (h1 : 2 ≤ t) (h2 : t < 5) (h3 : ¬ i < 0) (h4 : i.toNatClampNeg < n) (hd : decode (x_b k) pc = .ok (.aastore, 1))
    (kk : ∀ (H' : Heap) (locs' : List Loc), x_Dy D tC A s.heap nL ad0 M0 ad (M.1, M.2.1, M.2.2.1, x_u M.2.2.2 a i.toNatClampNeg none) ls r arr H' locs' cells slots → W p l e R s m args below meth c H' locs' cells slots Q (F0 m (pc + 1) arr (r.map (x_V ad)))) : W p l e R s m args below meth c H locs cells slots Q (F0 m pc arr ((.null :: .int i :: .ref a :: r).map (x_V ad))) := by
  have hbut : x_but a M (M.1, M.2.1, M.2.2.1, x_u M.2.2.2 a i.toNatClampNeg none) := ⟨rfl, fun b j hb => ⟨rfl, rfl, by simp only [x_u]; rw [if_neg (fun q => hb q.1)]⟩⟩
  have hO : x_O ad tC (M.1, M.2.1, M.2.2.1, x_u M.2.2.2 a i.toNatClampNeg none) a (true, t, n) = .inl (tC t, n, .inr (.inr (.inr (.inr (va_up (fun j => (M.2.2.2 a j).map ad) i.toNatClampNeg none))))) := by
    rw [x_O_ref h1]
    congr 7
    funext j
    simp only [x_u, va_up, true_and]
    split <;> rfl
  have Y' := Y
  obtain ⟨hG, hlr, had, hP, hD, hS, hce, hsl⟩ := Y'
  exact va_astqN (D := D) (C := xR (x_ec t)) hx hb hK hP hD hS a t (by rw [x_W_at hk, x_O_ref h1]) (by rw [x_tys_at tC h2, x_ty_obj h1 h2]) (x_vin h3 h4) hd (fun H1 locs1 q1 q2 q3 => kk H1 locs1 (Y.put hg hk hbut (by rw [hO]; exact q1) (by rw [hO]; exact q2) q3))
theorem x_Dy.grow {q : Nat} {H' : Heap} {kd : xK} {H0 : Heap} (Y : x_Dy D tC A H0 nL ad0 M0 ad M ls st arr H locs cells slots) (hst : ∃ st9, st = st9 ++ r) (hk : M2.1 = M.1 ++ [kd]) (hb : ∀ b i, b ≠ M.1.length → M2.2.1 b i = M.2.1 b i ∧ M2.2.2.1 b i = M.2.2.1 b i ∧ M2.2.2.2 b i = M.2.2.2 b i) (hg : x_G (pc', ls, .ref M.1.length :: r, M2))
    (hP : va_P D xcl (x_W ad tC M ++ [(q, x_O (va_up ad M.1.length q) tC M2 M.1.length kd)]) H') (hD : va_D A (x_W ad tC M ++ [(q, x_O (va_up ad M.1.length q) tC M2 M.1.length kd)])) (hS : va_S A H0 H' locs) :
    x_Dy D tC A H0 nL ad0 M0 (va_up ad M.1.length q) M2 ls (.ref M.1.length :: r) arr H' locs (cells + 1) (slots + kd.2.2) ∧ (Value.ref M.1.length :: r).map (x_V (va_up ad M.1.length q)) = .ref q :: r.map (x_V ad) := by
  obtain ⟨st9, rfl⟩ := hst
  obtain ⟨hG, hlr, had, -, -, -, hce, hsl⟩ := Y
  rw [← x_W_push hG.1 hk hb] at hP hD
  refine ⟨⟨hg, hlr.up (fun v hv => (hG.2.2 v hv).1), fun i hi => ?_, hP, hD, hS, by rw [hk, List.length_append]; simp; omega, by rw [x_sz_push hk]; omega⟩, ?_⟩
  · rw [va_up_ne ad q (show i ≠ M.1.length by omega)]; exact had i hi
  · rw [List.map_cons]
    congr 1
    · simp [x_V, va_up_self]
    · exact List.map_congr_left (fun v hv => x_V_up (hG.2.1 v (List.mem_append_right _ hv)))
theorem x_new_but (M : xM) (kd : xK) : ∀ b i, b ≠ M.1.length → (x_new M kd).2.1 b i = M.2.1 b i ∧ (x_new M kd).2.2.1 b i = M.2.2.1 b i ∧ (x_new M kd).2.2.2 b i = M.2.2.2 b i := by
  intro b i h
  simp only [x_new, x_w]
  simp [h]
theorem x_sim_new {ix ci : Nat} (hx : p.tables.exec = Jvm.exec) (hb : c.code = x_b k) (hts : ∀ w ∈ x_ws, w.before args s = true) (hown : s.vm.findClass (xR (x_m k).2.2.2) = some m.cls) (hK : va_K D xcl (x_tys tC) s) (hA : ∀ q, s.heap.size ≤ q → A q) (c1 : ci < 11) (hn : ((x_m k).2.2.2, ix, ci, xN ci) ∈ x_nT) (hd : decode (x_b k) pc = .ok (.new ix, 3)) (Y : x_Dy D tC A s.heap nL ad0 M0 ad M ls st arr H locs cells slots) (hg : x_G (pc', ls, .ref M.1.length :: st, x_new M (false, ci, xN ci)))
    (hcap : (x_new M (false, ci, xN ci)).1.length ≤ M0.1.length + R.cells ∧ x_sz (x_new M (false, ci, xN ci)) ≤ x_sz M0 + R.slots)
    (kk : ∀ (ad' : Nat → Nat) (H' : Heap), x_Dy D tC A s.heap nL ad0 M0 ad' (x_new M (false, ci, xN ci)) ls (.ref M.1.length :: st) arr H' locs (cells + 1) (slots + xN ci) → W p l e R s m args below meth c H' locs (cells + 1) (slots + xN ci) Q (F0 m (pc + 3) arr ((Value.ref M.1.length :: st).map (x_V ad')))) : W p l e R s m args below meth c H locs cells slots Q (F0 m pc arr (st.map (x_V ad))) := by
  have hk1 : (x_new M (false, ci, xN ci)).1 = M.1 ++ [(false, ci, xN ci)] := rfl
  have hz := x_sz_push hk1
  rw [hk1, List.length_append, hz] at hcap
  obtain ⟨w1, w2, w3, w4, w5⟩ := x_cl_ok ci c1
  have Y' := Y
  obtain ⟨hG, hlr, had, hP, hD, hS, hce, hsl⟩ := Y'
  have hc1 : cells + 1 ≤ R.cells := by have := hcap.1; simp at this; omega
  have hc2 : slots + xN ci ≤ R.slots := by have := hcap.2; simp only at this; omega
  refine va_new (D := D) (ci := ci) (fs := (List.range (xN ci)).map (fun j => defaultValue (xy ci j))) (C := xR ci) (T := xT ci) (N := xN ci) hx hb hts w1 (xy ci) w5 hown (hts _ (x_nT_ok _ hn)) (hts _ w2) (hts _ w3) hK hP hD hS hA (x_cl_at ci c1) (fun j hj => ?_) hc1 hc2 hd (fun q H1 q1 q2 q3 => ?_)
  · simp [vp_V, hj]
  · have hO : x_O (va_up ad M.1.length q) tC (x_new M (false, ci, xN ci)) M.1.length (false, ci, xN ci) = .inr (ci, (List.range (xN ci)).map (fun j => defaultValue (xy ci j))) := by
      simp only [x_O, x_F]
      congr 2
      apply List.map_congr_left
      intro j hj
      rw [x_d0_ok ci c1 j (List.mem_range.mp hj)]
      generalize x_kt (xy ci j) = t9
      match t9 with
      | 0 => simp [x_fv, x_d0, x_V, x_new, x_w]
      | 1 => simp [x_fv, x_d0, x_V, x_new, x_w]
      | 2 => simp [x_fv, x_d0, x_V, x_new, x_w]
      | _ + 3 => simp [x_fv, x_d0, x_V, x_new, x_w, va_rf]
    obtain ⟨y, ey⟩ := Y.grow (q := q) (H' := H1) (r := st) ⟨[], rfl⟩ hk1 (x_new_but M _) hg (by rw [hO]; exact q1) (by rw [hO]; exact q2) q3
    have h9 := kk _ H1 y
    rw [ey] at h9
    exact h9
theorem x_sim_na {at9 : ArrayType} {t : Nat} {n : Int32} (hx : p.tables.exec = Jvm.exec) (hb : c.code = x_b k) (hts : ∀ w ∈ x_ws, w.before args s = true) (hK : va_K D xcl (x_tys tC) s) (hA : ∀ q, s.heap.size ≤ q → A q) (hn : (at9 = .int ∧ t = 0) ∨ (at9 = .boolean ∧ t = 1)) (h1 : ¬ n < 0) (h2 : n.toNatClampNeg ≤ 65536) (hd : decode (x_b k) pc = .ok (.newarray at9, 2)) (Y : x_Dy D tC A s.heap nL ad0 M0 ad M ls (.int n :: r) arr H locs cells slots) (hg : x_G (pc', ls, .ref M.1.length :: r, x_new M (true, t, n.toNatClampNeg)))
    (hcap : (x_new M (true, t, n.toNatClampNeg)).1.length ≤ M0.1.length + R.cells ∧ x_sz (x_new M (true, t, n.toNatClampNeg)) ≤ x_sz M0 + R.slots)
    (kk : ∀ (ad' : Nat → Nat) (H' : Heap), x_Dy D tC A s.heap nL ad0 M0 ad' (x_new M (true, t, n.toNatClampNeg)) ls (.ref M.1.length :: r) arr H' locs (cells + 1) (slots + n.toNatClampNeg) → W p l e R s m args below meth c H' locs (cells + 1) (slots + n.toNatClampNeg) Q (F0 m (pc + 2) arr ((Value.ref M.1.length :: r).map (x_V ad')))) : W p l e R s m args below meth c H locs cells slots Q (F0 m pc arr ((.int n :: r).map (x_V ad))) := by
  have hk1 : (x_new M (true, t, n.toNatClampNeg)).1 = M.1 ++ [(true, t, n.toNatClampNeg)] := rfl
  have hz := x_sz_push hk1
  rw [hk1, List.length_append, hz] at hcap
  have Y' := Y
  obtain ⟨hG, hlr, had, hP, hD, hS, hce, hsl⟩ := Y'
  have hc1 : cells + 1 ≤ R.cells := by have := hcap.1; simp at this; omega
  have hc2 : slots + n.toNatClampNeg ≤ R.slots := by have := hcap.2; simp only at this; omega
  have fin : ∀ (q : Nat) (cA : ClassId) (H1 : Heap), cA = tC t → t < 2 → va_P D xcl (x_W ad tC M ++ [(q, .inl (cA, n.toNatClampNeg, .inl (fun _ => 0)))]) H1 → va_D A (x_W ad tC M ++ [(q, .inl (cA, n.toNatClampNeg, .inl (fun _ => 0)))]) → va_S A s.heap H1 locs → W p l e R s m args below meth c H1 locs (cells + 1) (slots + n.toNatClampNeg) Q (F0 m (pc + 2) arr (.ref q :: r.map (x_V ad))) := by
    intro q cA H1 hc ht q1 q2 q3
    subst hc
    have hO : x_O (va_up ad M.1.length q) tC (x_new M (true, t, n.toNatClampNeg)) M.1.length (true, t, n.toNatClampNeg) = .inl (tC t, n.toNatClampNeg, .inl (fun _ => 0)) := by
      simp only [x_O]
      rw [if_pos ht]
      congr 4
      funext j
      simp [x_new, x_w]
    obtain ⟨y, ey⟩ := Y.grow (q := q) (H' := H1) (r := r) ⟨[.int n], rfl⟩ hk1 (x_new_but M _) hg (by rw [hO]; exact q1) (by rw [hO]; exact q2) q3
    have h9 := kk _ H1 y
    rw [ey] at h9
    exact h9
  rcases hn with ⟨rfl, rfl⟩ | ⟨rfl, rfl⟩
  · refine va_newa (D := D) (atype := .int) (ty := .int) (a0 := (n.toNatClampNeg, .inl (fun _ => 0))) hx hb (hts _ x_a0) rfl hK hP hD hS hA (fun _ => rfl) h1 rfl (by simp only [componentBytes]; omega) hc1 hc2 hd (fun q cA H1 qK q1 q2 q3 => fin q cA H1 ?_ (by omega) q1 q2 q3)
    have e1 := (qK.2 5 (cA, .int) rfl).2
    have e2 := (hK.2 0 _ rfl).2
    exact Option.some.inj (e1.symm.trans e2)
  · refine va_newa (D := D) (atype := .boolean) (ty := .boolean) (a0 := (n.toNatClampNeg, .inl (fun _ => 0))) hx hb (hts _ x_a1) rfl hK hP hD hS hA (fun _ => rfl) h1 rfl (by simp only [componentBytes]; omega) hc1 hc2 hd (fun q cA H1 qK q1 q2 q3 => fin q cA H1 ?_ (by omega) q1 q2 q3)
    have e1 := (qK.2 5 (cA, .boolean) rfl).2
    have e2 := (hK.2 1 _ rfl).2
    exact Option.some.inj (e1.symm.trans e2)
theorem x_sim_nq {ix t : Nat} {n : Int32} (hx : p.tables.exec = Jvm.exec) (hb : c.code = x_b k) (hts : ∀ w ∈ x_ws, w.before args s = true) (hown : s.vm.findClass (xR (x_m k).2.2.2) = some m.cls) (hU : x_U D tC s) (hA : ∀ q, s.heap.size ≤ q → A q) (hn : ((x_m k).2.2.2, ix, t) ∈ x_qT) (h1 : ¬ n < 0) (h2 : n.toNatClampNeg ≤ 65536) (hd : decode (x_b k) pc = .ok (.anewarray ix, 3)) (Y : x_Dy D tC A s.heap nL ad0 M0 ad M ls (.int n :: r) arr H locs cells slots) (hg : x_G (pc', ls, .ref M.1.length :: r, x_new M (true, t, n.toNatClampNeg)))
    (hcap : (x_new M (true, t, n.toNatClampNeg)).1.length ≤ M0.1.length + R.cells ∧ x_sz (x_new M (true, t, n.toNatClampNeg)) ≤ x_sz M0 + R.slots)
    (kk : ∀ (ad' : Nat → Nat) (H' : Heap), x_Dy D tC A s.heap nL ad0 M0 ad' (x_new M (true, t, n.toNatClampNeg)) ls (.ref M.1.length :: r) arr H' locs (cells + 1) (slots + n.toNatClampNeg) → W p l e R s m args below meth c H' locs (cells + 1) (slots + n.toNatClampNeg) Q (F0 m (pc + 3) arr ((Value.ref M.1.length :: r).map (x_V ad')))) : W p l e R s m args below meth c H locs cells slots Q (F0 m pc arr ((.int n :: r).map (x_V ad))) := by
  have hk1 : (x_new M (true, t, n.toNatClampNeg)).1 = M.1 ++ [(true, t, n.toNatClampNeg)] := rfl
  have hz := x_sz_push hk1
  rw [hk1, List.length_append, hz] at hcap
  obtain ⟨t1, t2⟩ := x_qT_num _ hn
  simp only at t1 t2
  have hover : va_AO (xR (x_ec t)) s := by
    match t, t1, t2 with
    | 2, _, _ => exact hU.2 _ (List.mem_of_getElem? (i := 10) rfl)
    | 3, _, _ => exact hU.2 _ (List.mem_of_getElem? (i := 11) rfl)
    | 4, _, _ => exact hU.2 _ (List.mem_of_getElem? (i := 12) rfl)
  have Y' := Y
  obtain ⟨hG, hlr, had, hP, hD, hS, hce, hsl⟩ := Y'
  have hc1 : cells + 1 ≤ R.cells := by have := hcap.1; simp at this; omega
  have hc2 : slots + n.toNatClampNeg ≤ R.slots := by have := hcap.2; simp only at this; omega
  refine va_newq (D := D) (C := xR (x_ec t)) hx hb hown (hts _ (x_qT_ok _ hn)) hover hU.1 hP hD hS hA h1 rfl (by omega) hc1 hc2 hd (fun q cA H1 qK q1 q2 q3 => ?_)
  have hc : cA = tC t := by
    have e1 := (qK.2 5 (cA, .object (xR (x_ec t))) rfl).2
    have e2 := (hU.1.2 t _ (x_tys_at tC t2)).2
    simp only [x_ty_obj t1 t2] at e2
    obtain ⟨_, _, _, _, _, f1⟩ := e1
    obtain ⟨_, _, _, _, _, f2⟩ := e2
    exact Option.some.inj (f1.symm.trans f2)
  subst hc
  have hO : x_O (va_up ad M.1.length q) tC (x_new M (true, t, n.toNatClampNeg)) M.1.length (true, t, n.toNatClampNeg) = .inl (tC t, n.toNatClampNeg, .inr (.inr (.inr (.inr (fun _ => none))))) := by
    rw [x_O_ref t1]
    congr 7
    funext j
    simp [x_new, x_w]
  obtain ⟨y, ey⟩ := Y.grow (q := q) (H' := H1) (r := r) ⟨[.int n], rfl⟩ hk1 (x_new_but M _) hg (by rw [hO]; exact q1) (by rw [hO]; exact q2) q3
  have h9 := kk _ H1 y
  rw [ey] at h9
  exact h9
theorem x_cat_map (ad : Nat → Nat) (r : List Value) : ((r.map (x_V ad)).map fun v => v.category) = r.map fun v => v.category := by
  rw [List.map_map]
  exact List.map_congr_left (fun v _ => x_V_cat ad v)
theorem x_sim_oi {ix b : Nat} (hx : p.tables.exec = Jvm.exec) (hb : c.code = x_b k) (hml : c.maxLocals = x_nL k) (hown : s.vm.findClass (xR (x_m k).2.2.2) = some m.cls) (hts : ∀ w ∈ x_ws, w.before args s = true) (hlr : x_lr ad arr (x_nL k) ls) (hn : ((x_m k).2.2.2, ix) ∈ x_oT) (hfr : 1 ≤ R.frames) (hlo : 37 ≤ R.locals) (hc : (r.map fun v => v.category).sum ≤ 8) (hd : decode (x_b k) pc = .ok (.invokespecial ix, 3))
    (kk : W p l e R s m args below meth c H locs cells slots Q (F0 m (pc + 3) arr (r.map (x_V ad)))) : W p l e R s m args below meth c H locs cells slots Q (F0 m pc arr ((.ref b :: r).map (x_V ad))) := by
  refine W.objInit hx hb hown (hts _ (x_oT_ok _ hn)) (hts _ x_oi) (hts _ x_oc) rfl (by rw [hml]; exact hlr.2.1.1) rfl hd hfr ?_ kk
  show 2 * 0 + ((r.map (x_V ad)).map fun v => v.category).sum + 12 ≤ R.locals
  rw [x_cat_map]
  omega
theorem x_sim_cn {ix n : Nat} (hx : p.tables.exec = Jvm.exec) (hb : c.code = x_b k) (hml : c.maxLocals = x_nL k) (hown : s.vm.findClass (xR (x_m k).2.2.2) = some m.cls) (hts : ∀ w ∈ x_ws, w.before args s = true) (hU : x_U D tC s) (hA : ∀ q, s.heap.size ≤ q → A q) (hn : ((x_m k).2.2.2, ix) ∈ x_kT) (hfr : 1 ≤ R.frames) (hlo : 37 ≤ R.locals) (hc : (r.map fun v => v.category).sum ≤ 8) (hd : decode (x_b k) pc = .ok (.invokevirtual ix, 3)) (Y : x_Dy D tC A s.heap (x_nL k) ad0 M0 ad M ls (.ref a :: r) arr H locs cells slots) (hg : x_G (pc', ls, .ref M.1.length :: r, x_dup M (true, 0, n) a)) (hk : M.1[a]? = some (true, 0, n))
    (hcap : (x_dup M (true, 0, n) a).1.length ≤ M0.1.length + R.cells ∧ x_sz (x_dup M (true, 0, n) a) ≤ x_sz M0 + R.slots)
    (kk : ∀ (ad' : Nat → Nat) (H' : Heap), x_Dy D tC A s.heap (x_nL k) ad0 M0 ad' (x_dup M (true, 0, n) a) ls (.ref M.1.length :: r) arr H' locs (cells + 1) (slots + n) → W p l e R s m args below meth c H' locs (cells + 1) (slots + n) Q (F0 m (pc + 3) arr ((Value.ref M.1.length :: r).map (x_V ad')))) : W p l e R s m args below meth c H locs cells slots Q (F0 m pc arr ((.ref a :: r).map (x_V ad))) := by
  have hk1 : (x_dup M (true, 0, n) a).1 = M.1 ++ [(true, 0, n)] := rfl
  have hz := x_sz_push hk1
  rw [hk1, List.length_append, hz] at hcap
  have Y' := Y
  obtain ⟨hG, hlr, had, hP, hD, hS, hce, hsl⟩ := Y'
  have hc1 : cells + 1 ≤ R.cells := by have := hcap.1; simp at this; omega
  have hc2 : slots + n ≤ R.slots := by have := hcap.2; simp only at this; omega
  have hbut : ∀ b i, b ≠ M.1.length → (x_dup M (true, 0, n) a).2.1 b i = M.2.1 b i ∧ (x_dup M (true, 0, n) a).2.2.1 b i = M.2.2.1 b i ∧ (x_dup M (true, 0, n) a).2.2.2 b i = M.2.2.2 b i := by
    intro b i h
    simp only [x_dup, x_w, x_c]
    simp [h]
  refine va_clone (D := D) (x := (n, .inl (M.2.1 a))) (ty := .int) hx hb (by rw [hml]; exact hlr.2.1.1.symm) hown (hts _ (x_kT_ok _ hn)) (hts _ x_k1) (hts _ x_k2) (hts _ x_k3) (hts _ x_k4) (hU.2 _ (List.mem_of_getElem? (i := 13) rfl)) hU.1 hP hD hS hA a 0 (x_W_at hk) rfl (hU.1.2 0 _ rfl).2 (fun i v hv => ?_) hfr ?_ hc1 hc2 hd (fun q H1 qK q1 q2 q3 => ?_)
  · have hi : i < n := by
      have := (Array.getElem?_eq_some_iff.mp hv).1
      rwa [vp_cell_i, arrV_size] at this
    rw [vp_cell_i, arrV_read _ _ hi] at hv
    cases hv
    rfl
  · rw [x_cat_map]; omega
  · have hO : x_O (va_up ad M.1.length q) tC (x_dup M (true, 0, n) a) M.1.length (true, 0, n) = .inl (tC 0, n, .inl (M.2.1 a)) := by
      simp only [x_O]
      rw [if_pos (by omega)]
      congr 4
      funext j
      simp [x_dup, x_c]
    obtain ⟨y, ey⟩ := Y.grow (q := q) (H' := H1) (r := r) ⟨[.ref a], rfl⟩ hk1 hbut hg (by rw [hO]; exact q1) (by rw [hO]; exact q2) q3
    have h9 := kk _ H1 y
    rw [ey] at h9
    exact h9
end XSIH
end
section
/-! a step of the small machine is a step of the JVM: all instructions -/
section XSIM
variable {p : Program} {l : Launch} {e : Env} {R : Room} {s : State} {m : MethodId} {args : Array Value} {below : List Frame} {meth : Method} {c : Code} {D : va_G} {tC : Nat → ClassId} {A : Nat → Prop} {d k : Nat}
variable {ad0 : Nat → Nat} {M0 : xM} {ad : Nat → Nat} {M : xM} {ls : xL} {st : List Value} {arr : Array Slot} {H : Heap} {locs : List Loc} {cells slots : Nat} {Q : State → Prop}
theorem x_Dy.same {nL : Nat} {H0 : Heap} {st' : List Value} {pc' : Nat} (Y : x_Dy D tC A H0 nL ad0 M0 ad M ls st arr H locs cells slots) (hg : x_G (pc', ls, st', M)) : x_Dy D tC A H0 nL ad0 M0 ad M ls st' arr H locs cells slots := ⟨hg, Y.2⟩
theorem x_Dy.loc {nL : Nat} {H0 : Heap} {st' : List Value} {ls' : xL} {arr' : Array Slot} {pc' : Nat} (Y : x_Dy D tC A H0 nL ad0 M0 ad M ls st arr H locs cells slots) (hg : x_G (pc', ls', st', M)) (hl : x_lr ad arr' nL ls') : x_Dy D tC A H0 nL ad0 M0 ad M ls' st' arr' H locs cells slots := ⟨hg, hl, Y.2.2⟩
set_option maxHeartbeats 4000000 in
theorem x_sim_st (F : x_Fx p R s m args meth c D tC A d k) (Y : x_Dy D tC A s.heap (x_nL k) ad0 M0 ad M ls st arr H locs cells slots) {pc : Nat} {e' : xE} (he : x_P k pc = some e') {pc' : Nat} {ls' : xL} {st' : List Value} {M' : xM} (hs : x_st x_ec d e' ls st M = some (pc', ls', st', M'))
    (hcap : M'.1.length ≤ M0.1.length + R.cells ∧ x_sz M' ≤ x_sz M0 + R.slots)
    (kk : ∀ (ad' : Nat → Nat) (arr' : Array Slot) (H' : Heap) (locs' : List Loc) (cells' slots' : Nat), x_Dy D tC A s.heap (x_nL k) ad0 M0 ad' M' ls' st' arr' H' locs' cells' slots' → W p l e R s m args below meth c H' locs' cells' slots' Q (F0 m pc' arr' (st'.map (x_V ad')))) :
    W p l e R s m args below meth c H locs cells slots Q (F0 m pc arr (st.map (x_V ad))) := by
  obtain ⟨hx, hb, hml, hown, hts, hU, hr, hlk, hini, hA, hfr, hlo⟩ := F
  have hok := (x_ck k pc e' he).1
  have hkp := x_kp_st (pc := 0) Y.1 hs
  obtain ⟨ins, nx, cn, xs⟩ := e'
  simp only [x_okb, Bool.and_eq_true, decide_eq_true_eq] at hok
  obtain ⟨⟨hd, hlen⟩, hn⟩ := hok
  have hg := hkp.1
  clear hkp
  have Y' := Y
  obtain ⟨hG, hlr, had, hP, hD, hS, hce, hsl⟩ := Y'
  unfold x_st at hs
  simp only at hs
  split at hs
  · -- iconst
    rename_i i
    have hnx : nx = pc + 1 := by
      rcases hlen with h | h
      · simp [x_len] at h
      · simpa [x_len] using h
    subst hnx
    rw [Nat.add_sub_cancel_left] at hd
    simp only [x_okn, decide_eq_true_eq] at hn
    unfold x_i1 at hs
    cases hs
    exact lv_iconst hx hb hd hn (kk ad arr H locs cells slots (Y.same hg))
  · -- bipush
    rename_i i
    have hnx : nx = pc + 2 := by
      rcases hlen with h | h
      · simp [x_len] at h
      · simpa [x_len] using h
    subst hnx
    rw [Nat.add_sub_cancel_left] at hd
    simp only [x_okn, decide_eq_true_eq] at hn
    unfold x_i1 at hs
    cases hs
    exact lv_bipush hx hb hd hn (kk ad arr H locs cells slots (Y.same hg))
  · -- sipush
    rename_i i
    have hnx : nx = pc + 3 := by
      rcases hlen with h | h
      · simp [x_len] at h
      · simpa [x_len] using h
    subst hnx
    rw [Nat.add_sub_cancel_left] at hd
    simp only [x_okn, decide_eq_true_eq] at hn
    unfold x_i1 at hs
    cases hs
    exact lv_sipush hx hb hd hn (kk ad arr H locs cells slots (Y.same hg))
  · -- ldc
    rename_i i
    have hnx : nx = pc + 2 := by
      rcases hlen with h | h
      · simp [x_len] at h
      · simpa [x_len] using h
    subst hnx
    rw [Nat.add_sub_cancel_left] at hd
    simp only [x_okn, decide_eq_true_eq] at hn
    unfold x_i1 at hs
    cases hs
    exact lv_ldc hx hb hown (hts _ (x_lT_ok _ hn)) hd (kk ad arr H locs cells slots (Y.same hg))
  · -- ldc_w
    rename_i i
    have hnx : nx = pc + 3 := by
      rcases hlen with h | h
      · simp [x_len] at h
      · simpa [x_len] using h
    subst hnx
    rw [Nat.add_sub_cancel_left] at hd
    simp only [x_okn, decide_eq_true_eq] at hn
    unfold x_i1 at hs
    cases hs
    exact lv_ldcw hx hb hown (hts _ (x_lT_ok _ hn)) hd (kk ad arr H locs cells slots (Y.same hg))
  · -- lconst
    rename_i i
    have hnx : nx = pc + 1 := by
      rcases hlen with h | h
      · simp [x_len] at h
      · simpa [x_len] using h
    subst hnx
    rw [Nat.add_sub_cancel_left] at hd
    unfold x_i1 at hs
    cases hs
    exact lv_lconst hx hb hd rfl (kk ad arr H locs cells slots (Y.same hg))
  · -- aconst_null
    have hnx : nx = pc + 1 := by
      rcases hlen with h | h
      · simp [x_len] at h
      · simpa [x_len] using h
    subst hnx
    rw [Nat.add_sub_cancel_left] at hd
    unfold x_i1 at hs
    cases hs
    exact lv_null hx hb hd (kk ad arr H locs cells slots (Y.same hg))
  · -- iload_n
    rename_i n i
    have hnx : nx = pc + 1 := by
      rcases hlen with h | h
      · simp [x_len] at h
      · simpa [x_len] using h
    subst hnx
    rw [Nat.add_sub_cancel_left] at hd
    simp only [x_okn, decide_eq_true_eq] at hn
    unfold x_ld at hs
    split at hs
    · rename_i x hv
      cases hs
      exact lv_iload_n hx hb hd hn (hlr.2.2 _ _ hv) (kk ad arr H locs cells slots (Y.same hg))
    · cases hs
  · -- iload
    rename_i n i
    have hnx : nx = pc + 2 := by
      rcases hlen with h | h
      · simp [x_len] at h
      · simpa [x_len] using h
    subst hnx
    rw [Nat.add_sub_cancel_left] at hd
    simp only [x_okn, decide_eq_true_eq] at hn
    subst hn
    unfold x_ld at hs
    split at hs
    · rename_i x hv
      cases hs
      exact lv_iload hx hb hd (hlr.2.2 _ _ hv) (kk ad arr H locs cells slots (Y.same hg))
    · cases hs
  · -- aload_n
    rename_i n i
    have hnx : nx = pc + 1 := by
      rcases hlen with h | h
      · simp [x_len] at h
      · simpa [x_len] using h
    subst hnx
    rw [Nat.add_sub_cancel_left] at hd
    simp only [x_okn, decide_eq_true_eq] at hn
    unfold x_la at hs
    split at hs
    · rename_i x hv
      cases hs
      exact lv_aload_n hx hb hd hn (hlr.2.2 _ _ hv) (kk ad arr H locs cells slots (Y.same hg))
    · rename_i hv
      cases hs
      exact lv_aload_nN hx hb hd hn (hlr.2.2 _ _ hv) (kk ad arr H locs cells slots (Y.same hg))
    · cases hs
  · -- aload
    rename_i n i
    have hnx : nx = pc + 2 := by
      rcases hlen with h | h
      · simp [x_len] at h
      · simpa [x_len] using h
    subst hnx
    rw [Nat.add_sub_cancel_left] at hd
    simp only [x_okn, decide_eq_true_eq] at hn
    subst hn
    unfold x_la at hs
    split at hs
    · rename_i x hv
      cases hs
      exact lv_aload hx hb hd (hlr.2.2 _ _ hv) (kk ad arr H locs cells slots (Y.same hg))
    · rename_i hv
      cases hs
      exact lv_aloadN hx hb hd (hlr.2.2 _ _ hv) (kk ad arr H locs cells slots (Y.same hg))
    · cases hs
  · -- istore_n
    rename_i n i
    have hnx : nx = pc + 1 := by
      rcases hlen with h | h
      · simp [x_len] at h
      · simpa [x_len] using h
    subst hnx
    rw [Nat.add_sub_cancel_left] at hd
    simp only [x_okn, decide_eq_true_eq] at hn
    unfold x_si at hs
    split at hs
    · rename_i x r
      cases hs
      refine lv_istore_n hx hb hd hn.1 hlr.has hn.2 rfl (fun arr' h' => kk ad arr' H locs cells slots (Y.loc hg (x_lr.store (v := .int x) hlr.1 hn.2 (fun w hw => (hG.2.2 w hw).2) (fun q hq => hq) h')))
    · cases hs
  · -- istore
    rename_i n i
    have hnx : nx = pc + 2 := by
      rcases hlen with h | h
      · simp [x_len] at h
      · simpa [x_len] using h
    subst hnx
    rw [Nat.add_sub_cancel_left] at hd
    simp only [x_okn, decide_eq_true_eq] at hn
    obtain ⟨rfl, hn2⟩ := hn
    have hn : True ∧ _ := ⟨trivial, hn2⟩
    unfold x_si at hs
    split at hs
    · rename_i x r
      cases hs
      refine lv_istore hx hb hd hlr.has hn.2 rfl (fun arr' h' => kk ad arr' H locs cells slots (Y.loc hg (x_lr.store (v := .int x) hlr.1 hn.2 (fun w hw => (hG.2.2 w hw).2) (fun q hq => hq) h')))
    · cases hs
  · -- astore_n
    rename_i n i
    have hnx : nx = pc + 1 := by
      rcases hlen with h | h
      · simp [x_len] at h
      · simpa [x_len] using h
    subst hnx
    rw [Nat.add_sub_cancel_left] at hd
    simp only [x_okn, decide_eq_true_eq] at hn
    unfold x_sa at hs
    split at hs
    · rename_i x r
      cases hs
      refine lv_astore_n hx hb hd hn.1 hlr.has hn.2 rfl (fun arr' h' => kk ad arr' H locs cells slots (Y.loc hg (x_lr.store (v := .ref x) hlr.1 hn.2 (fun w hw => (hG.2.2 w hw).2) (fun q hq => hq) h')))
    · rename_i r
      cases hs
      refine lv_astore_nN hx hb hd hn.1 hlr.has hn.2 rfl (fun arr' h' => kk ad arr' H locs cells slots (Y.loc hg (x_lr.store (v := .null) hlr.1 hn.2 (fun w hw => (hG.2.2 w hw).2) (fun q hq => hq) h')))
    · cases hs
  · -- astore
    rename_i n i
    have hnx : nx = pc + 2 := by
      rcases hlen with h | h
      · simp [x_len] at h
      · simpa [x_len] using h
    subst hnx
    rw [Nat.add_sub_cancel_left] at hd
    simp only [x_okn, decide_eq_true_eq] at hn
    obtain ⟨rfl, hn2⟩ := hn
    have hn : True ∧ _ := ⟨trivial, hn2⟩
    unfold x_sa at hs
    split at hs
    · rename_i x r
      cases hs
      refine lv_astore hx hb hd hlr.has hn.2 rfl (fun arr' h' => kk ad arr' H locs cells slots (Y.loc hg (x_lr.store (v := .ref x) hlr.1 hn.2 (fun w hw => (hG.2.2 w hw).2) (fun q hq => hq) h')))
    · rename_i r
      cases hs
      refine lv_astoreN hx hb hd hlr.has hn.2 rfl (fun arr' h' => kk ad arr' H locs cells slots (Y.loc hg (x_lr.store (v := .null) hlr.1 hn.2 (fun w hw => (hG.2.2 w hw).2) (fun q hq => hq) h')))
    · cases hs
  · -- iinc
    rename_i n v i
    have hnx : nx = pc + 3 := by
      rcases hlen with h | h
      · simp [x_len] at h
      · simpa [x_len] using h
    subst hnx
    rw [Nat.add_sub_cancel_left] at hd
    simp only [x_okn, decide_eq_true_eq] at hn
    obtain ⟨rfl, hn1, hn2⟩ := hn
    unfold x_in at hs
    split at hs
    · rename_i x hv
      cases hs
      refine lv_iinc (k := 0) (lv := (n, .int x) :: x_ll ad ls) hx hb hd ⟨hlr.has.1, hlr.has.2.1, fun q hq => ?_⟩ rfl (show x + Int32.ofInt v = x + cn by rw [hn1]) hn2 rfl (fun arr' h' => kk ad arr' H locs cells slots (Y.loc hg (x_lr.store (v := .int (x + cn)) hlr.1 hn2 (fun w hw => (hG.2.2 w hw).2) (fun q hq => List.mem_cons_of_mem _ hq) h')))
      rcases List.mem_cons.mp hq with rfl | hq
      · exact hlr.2.2 _ _ hv
      · exact hlr.has.2.2 q hq
    · cases hs
  · -- iadd
    have hnx : nx = pc + 1 := by
      rcases hlen with h | h
      · simp [x_len] at h
      · simpa [x_len] using h
    subst hnx
    rw [Nat.add_sub_cancel_left] at hd
    unfold x_i2 at hs
    split at hs
    · rename_i y x r
      cases hs
      exact lv_iadd hx hb hd (kk ad arr H locs cells slots (Y.same hg))
    · cases hs
  · -- isub
    have hnx : nx = pc + 1 := by
      rcases hlen with h | h
      · simp [x_len] at h
      · simpa [x_len] using h
    subst hnx
    rw [Nat.add_sub_cancel_left] at hd
    unfold x_i2 at hs
    split at hs
    · rename_i y x r
      cases hs
      exact lv_isub hx hb hd (kk ad arr H locs cells slots (Y.same hg))
    · cases hs
  · -- imul
    have hnx : nx = pc + 1 := by
      rcases hlen with h | h
      · simp [x_len] at h
      · simpa [x_len] using h
    subst hnx
    rw [Nat.add_sub_cancel_left] at hd
    unfold x_i2 at hs
    split at hs
    · rename_i y x r
      cases hs
      exact lv_imul hx hb hd (kk ad arr H locs cells slots (Y.same hg))
    · cases hs
  · -- iand
    have hnx : nx = pc + 1 := by
      rcases hlen with h | h
      · simp [x_len] at h
      · simpa [x_len] using h
    subst hnx
    rw [Nat.add_sub_cancel_left] at hd
    unfold x_i2 at hs
    split at hs
    · rename_i y x r
      cases hs
      exact lv_iand hx hb hd (kk ad arr H locs cells slots (Y.same hg))
    · cases hs
  · -- ior
    have hnx : nx = pc + 1 := by
      rcases hlen with h | h
      · simp [x_len] at h
      · simpa [x_len] using h
    subst hnx
    rw [Nat.add_sub_cancel_left] at hd
    unfold x_i2 at hs
    split at hs
    · rename_i y x r
      cases hs
      exact lv_ior hx hb hd (kk ad arr H locs cells slots (Y.same hg))
    · cases hs
  · -- ixor
    have hnx : nx = pc + 1 := by
      rcases hlen with h | h
      · simp [x_len] at h
      · simpa [x_len] using h
    subst hnx
    rw [Nat.add_sub_cancel_left] at hd
    unfold x_i2 at hs
    split at hs
    · rename_i y x r
      cases hs
      exact lv_ixor hx hb hd (kk ad arr H locs cells slots (Y.same hg))
    · cases hs
  · -- ishl
    have hnx : nx = pc + 1 := by
      rcases hlen with h | h
      · simp [x_len] at h
      · simpa [x_len] using h
    subst hnx
    rw [Nat.add_sub_cancel_left] at hd
    unfold x_i2 at hs
    split at hs
    · rename_i y x r
      cases hs
      exact lv_ishl hx hb hd (kk ad arr H locs cells slots (Y.same hg))
    · cases hs
  · -- ishr
    have hnx : nx = pc + 1 := by
      rcases hlen with h | h
      · simp [x_len] at h
      · simpa [x_len] using h
    subst hnx
    rw [Nat.add_sub_cancel_left] at hd
    unfold x_i2 at hs
    split at hs
    · rename_i y x r
      cases hs
      exact lv_ishr hx hb hd (kk ad arr H locs cells slots (Y.same hg))
    · cases hs
  · -- iushr
    have hnx : nx = pc + 1 := by
      rcases hlen with h | h
      · simp [x_len] at h
      · simpa [x_len] using h
    subst hnx
    rw [Nat.add_sub_cancel_left] at hd
    unfold x_i2 at hs
    split at hs
    · rename_i y x r
      cases hs
      exact lv_iushr hx hb hd rfl (kk ad arr H locs cells slots (Y.same hg))
    · cases hs
  · -- idiv
    have hnx : nx = pc + 1 := by
      rcases hlen with h | h
      · simp [x_len] at h
      · simpa [x_len] using h
    subst hnx
    rw [Nat.add_sub_cancel_left] at hd
    unfold x_dv at hs
    split at hs
    · rename_i y x r
      split at hs
      · cases hs
      · rename_i hne
        cases hs
        exact lv_idiv hx hb hd hne (kk ad arr H locs cells slots (Y.same hg))
    · cases hs
  · -- land
    have hnx : nx = pc + 1 := by
      rcases hlen with h | h
      · simp [x_len] at h
      · simpa [x_len] using h
    subst hnx
    rw [Nat.add_sub_cancel_left] at hd
    unfold x_l2 at hs
    split at hs
    · rename_i y x r
      cases hs
      exact lv_land hx hb hd (kk ad arr H locs cells slots (Y.same hg))
    · cases hs
  · -- lor
    have hnx : nx = pc + 1 := by
      rcases hlen with h | h
      · simp [x_len] at h
      · simpa [x_len] using h
    subst hnx
    rw [Nat.add_sub_cancel_left] at hd
    unfold x_l2 at hs
    split at hs
    · rename_i y x r
      cases hs
      exact lv_lor hx hb hd (kk ad arr H locs cells slots (Y.same hg))
    · cases hs
  · -- lshl
    have hnx : nx = pc + 1 := by
      rcases hlen with h | h
      · simp [x_len] at h
      · simpa [x_len] using h
    subst hnx
    rw [Nat.add_sub_cancel_left] at hd
    unfold x_ls at hs
    split at hs
    · rename_i y x r
      cases hs
      exact lv_lshl hx hb hd rfl (kk ad arr H locs cells slots (Y.same hg))
    · cases hs
  · -- lshr
    have hnx : nx = pc + 1 := by
      rcases hlen with h | h
      · simp [x_len] at h
      · simpa [x_len] using h
    subst hnx
    rw [Nat.add_sub_cancel_left] at hd
    unfold x_ls at hs
    split at hs
    · rename_i y x r
      cases hs
      exact lv_lshr hx hb hd rfl (kk ad arr H locs cells slots (Y.same hg))
    · cases hs
  · -- lcmp
    have hnx : nx = pc + 1 := by
      rcases hlen with h | h
      · simp [x_len] at h
      · simpa [x_len] using h
    subst hnx
    rw [Nat.add_sub_cancel_left] at hd
    unfold x_lc at hs
    split at hs
    · rename_i y x r
      cases hs
      exact W.lcmp hx hb hd (kk ad arr H locs cells slots (Y.same hg))
    · cases hs
  · -- if_eq
    rename_i off t
    have hnx : nx = pc + 3 := by
      rcases hlen with h | h
      · simp [x_len] at h
      · simpa [x_len] using h
    subst hnx
    rw [Nat.add_sub_cancel_left] at hd
    simp only [x_okn, decide_eq_true_eq] at hn
    unfold x_b1 at hs
    split at hs
    · rename_i x r
      cases hs
      exact lv_if_eq hx hb hd hn (fun h => by have h9 := kk ad arr H locs cells slots (Y.same hg); simp only [decide_eq_true_eq] at h9; rw [if_pos h] at h9; exact h9) (fun h => by have h9 := kk ad arr H locs cells slots (Y.same hg); simp only [decide_eq_true_eq] at h9; rw [if_neg h] at h9; exact h9)
    · cases hs
  · -- if_ne
    rename_i off t
    have hnx : nx = pc + 3 := by
      rcases hlen with h | h
      · simp [x_len] at h
      · simpa [x_len] using h
    subst hnx
    rw [Nat.add_sub_cancel_left] at hd
    simp only [x_okn, decide_eq_true_eq] at hn
    unfold x_b1 at hs
    split at hs
    · rename_i x r
      cases hs
      exact lv_if_ne hx hb hd hn (fun h => by have h9 := kk ad arr H locs cells slots (Y.same hg); simp only [decide_eq_true_eq] at h9; rw [if_pos h] at h9; exact h9) (fun h => by have h9 := kk ad arr H locs cells slots (Y.same hg); simp only [decide_eq_true_eq] at h9; rw [if_neg (fun q => q h)] at h9; exact h9)
    · cases hs
  · -- if_lt
    rename_i off t
    have hnx : nx = pc + 3 := by
      rcases hlen with h | h
      · simp [x_len] at h
      · simpa [x_len] using h
    subst hnx
    rw [Nat.add_sub_cancel_left] at hd
    simp only [x_okn, decide_eq_true_eq] at hn
    unfold x_b1 at hs
    split at hs
    · rename_i x r
      cases hs
      exact lv_if_lt hx hb hd hn (fun h => by have h9 := kk ad arr H locs cells slots (Y.same hg); simp only [decide_eq_true_eq] at h9; rw [if_pos h] at h9; exact h9) (fun h => by have h9 := kk ad arr H locs cells slots (Y.same hg); simp only [decide_eq_true_eq] at h9; rw [if_neg h] at h9; exact h9)
    · cases hs
  · -- if_ge
    rename_i off t
    have hnx : nx = pc + 3 := by
      rcases hlen with h | h
      · simp [x_len] at h
      · simpa [x_len] using h
    subst hnx
    rw [Nat.add_sub_cancel_left] at hd
    simp only [x_okn, decide_eq_true_eq] at hn
    unfold x_b1 at hs
    split at hs
    · rename_i x r
      cases hs
      exact lv_if_ge hx hb hd hn (fun h => by have h9 := kk ad arr H locs cells slots (Y.same hg); simp only [decide_eq_true_eq] at h9; rw [if_pos h] at h9; exact h9) (fun h => by have h9 := kk ad arr H locs cells slots (Y.same hg); simp only [decide_eq_true_eq] at h9; rw [if_neg h] at h9; exact h9)
    · cases hs
  · -- if_gt
    rename_i off t
    have hnx : nx = pc + 3 := by
      rcases hlen with h | h
      · simp [x_len] at h
      · simpa [x_len] using h
    subst hnx
    rw [Nat.add_sub_cancel_left] at hd
    simp only [x_okn, decide_eq_true_eq] at hn
    unfold x_b1 at hs
    split at hs
    · rename_i x r
      cases hs
      exact lv_if_gt hx hb hd hn (fun h => by have h9 := kk ad arr H locs cells slots (Y.same hg); simp only [decide_eq_true_eq] at h9; rw [if_pos h] at h9; exact h9) (fun h => by have h9 := kk ad arr H locs cells slots (Y.same hg); simp only [decide_eq_true_eq] at h9; rw [if_neg h] at h9; exact h9)
    · cases hs
  · -- if_le
    rename_i off t
    have hnx : nx = pc + 3 := by
      rcases hlen with h | h
      · simp [x_len] at h
      · simpa [x_len] using h
    subst hnx
    rw [Nat.add_sub_cancel_left] at hd
    simp only [x_okn, decide_eq_true_eq] at hn
    unfold x_b1 at hs
    split at hs
    · rename_i x r
      cases hs
      exact lv_if_le hx hb hd hn (fun h => by have h9 := kk ad arr H locs cells slots (Y.same hg); simp only [decide_eq_true_eq] at h9; rw [if_pos h] at h9; exact h9) (fun h => by have h9 := kk ad arr H locs cells slots (Y.same hg); simp only [decide_eq_true_eq] at h9; rw [if_neg h] at h9; exact h9)
    · cases hs
  · -- icmp_eq
    rename_i off t
    have hnx : nx = pc + 3 := by
      rcases hlen with h | h
      · simp [x_len] at h
      · simpa [x_len] using h
    subst hnx
    rw [Nat.add_sub_cancel_left] at hd
    simp only [x_okn, decide_eq_true_eq] at hn
    unfold x_b2 at hs
    split at hs
    · rename_i y x r
      cases hs
      exact lv_icmp_eq hx hb hd hn (fun h => by have h9 := kk ad arr H locs cells slots (Y.same hg); simp only [decide_eq_true_eq] at h9; rw [if_pos h] at h9; exact h9) (fun h => by have h9 := kk ad arr H locs cells slots (Y.same hg); simp only [decide_eq_true_eq] at h9; rw [if_neg h] at h9; exact h9)
    · cases hs
  · -- icmp_ne
    rename_i off t
    have hnx : nx = pc + 3 := by
      rcases hlen with h | h
      · simp [x_len] at h
      · simpa [x_len] using h
    subst hnx
    rw [Nat.add_sub_cancel_left] at hd
    simp only [x_okn, decide_eq_true_eq] at hn
    unfold x_b2 at hs
    split at hs
    · rename_i y x r
      cases hs
      exact lv_icmp_ne hx hb hd hn (fun h => by have h9 := kk ad arr H locs cells slots (Y.same hg); simp only [decide_eq_true_eq] at h9; rw [if_pos h] at h9; exact h9) (fun h => by have h9 := kk ad arr H locs cells slots (Y.same hg); simp only [decide_eq_true_eq] at h9; rw [if_neg (fun q => q h)] at h9; exact h9)
    · cases hs
  · -- icmp_lt
    rename_i off t
    have hnx : nx = pc + 3 := by
      rcases hlen with h | h
      · simp [x_len] at h
      · simpa [x_len] using h
    subst hnx
    rw [Nat.add_sub_cancel_left] at hd
    simp only [x_okn, decide_eq_true_eq] at hn
    unfold x_b2 at hs
    split at hs
    · rename_i y x r
      cases hs
      exact lv_icmp_lt hx hb hd hn (fun h => by have h9 := kk ad arr H locs cells slots (Y.same hg); simp only [decide_eq_true_eq] at h9; rw [if_pos h] at h9; exact h9) (fun h => by have h9 := kk ad arr H locs cells slots (Y.same hg); simp only [decide_eq_true_eq] at h9; rw [if_neg h] at h9; exact h9)
    · cases hs
  · -- icmp_ge
    rename_i off t
    have hnx : nx = pc + 3 := by
      rcases hlen with h | h
      · simp [x_len] at h
      · simpa [x_len] using h
    subst hnx
    rw [Nat.add_sub_cancel_left] at hd
    simp only [x_okn, decide_eq_true_eq] at hn
    unfold x_b2 at hs
    split at hs
    · rename_i y x r
      cases hs
      exact lv_icmp_ge hx hb hd hn (fun h => by have h9 := kk ad arr H locs cells slots (Y.same hg); simp only [decide_eq_true_eq] at h9; rw [if_pos h] at h9; exact h9) (fun h => by have h9 := kk ad arr H locs cells slots (Y.same hg); simp only [decide_eq_true_eq] at h9; rw [if_neg h] at h9; exact h9)
    · cases hs
  · -- icmp_gt
    rename_i off t
    have hnx : nx = pc + 3 := by
      rcases hlen with h | h
      · simp [x_len] at h
      · simpa [x_len] using h
    subst hnx
    rw [Nat.add_sub_cancel_left] at hd
    simp only [x_okn, decide_eq_true_eq] at hn
    unfold x_b2 at hs
    split at hs
    · rename_i y x r
      cases hs
      exact lv_icmp_gt hx hb hd hn (fun h => by have h9 := kk ad arr H locs cells slots (Y.same hg); simp only [decide_eq_true_eq] at h9; rw [if_pos h] at h9; exact h9) (fun h => by have h9 := kk ad arr H locs cells slots (Y.same hg); simp only [decide_eq_true_eq] at h9; rw [if_neg h] at h9; exact h9)
    · cases hs
  · -- icmp_le
    rename_i off t
    have hnx : nx = pc + 3 := by
      rcases hlen with h | h
      · simp [x_len] at h
      · simpa [x_len] using h
    subst hnx
    rw [Nat.add_sub_cancel_left] at hd
    simp only [x_okn, decide_eq_true_eq] at hn
    unfold x_b2 at hs
    split at hs
    · rename_i y x r
      cases hs
      exact lv_icmp_le hx hb hd hn (fun h => by have h9 := kk ad arr H locs cells slots (Y.same hg); simp only [decide_eq_true_eq] at h9; rw [if_pos h] at h9; exact h9) (fun h => by have h9 := kk ad arr H locs cells slots (Y.same hg); simp only [decide_eq_true_eq] at h9; rw [if_neg h] at h9; exact h9)
    · cases hs
  · -- goto
    rename_i off t
    have hnx : nx = pc + 3 := by
      rcases hlen with h | h
      · simp [x_len] at h
      · simpa [x_len] using h
    subst hnx
    rw [Nat.add_sub_cancel_left] at hd
    simp only [x_okn, decide_eq_true_eq] at hn
    cases hs
    exact lv_goto hx hb hd hn (kk ad arr H locs cells slots (Y.same hg))
  · -- ifnull
    rename_i off t
    have hnx : nx = pc + 3 := by
      rcases hlen with h | h
      · simp [x_len] at h
      · simpa [x_len] using h
    subst hnx
    rw [Nat.add_sub_cancel_left] at hd
    simp only [x_okn, decide_eq_true_eq] at hn
    unfold x_nu at hs
    split at hs
    · cases hs
      exact lv_ifnull hx hb hd (kk ad arr H locs cells slots (Y.same hg))
    · cases hs
      exact lv_ifnullN hx hb hd hn (kk ad arr H locs cells slots (Y.same hg))
    · cases hs
  · -- ifnonnull
    rename_i off t
    have hnx : nx = pc + 3 := by
      rcases hlen with h | h
      · simp [x_len] at h
      · simpa [x_len] using h
    subst hnx
    rw [Nat.add_sub_cancel_left] at hd
    simp only [x_okn, decide_eq_true_eq] at hn
    unfold x_nn at hs
    split at hs
    · cases hs
      exact lv_ifnonnull hx hb hd hn (kk ad arr H locs cells slots (Y.same hg))
    · cases hs
      exact lv_ifnonnullN hx hb hd (kk ad arr H locs cells slots (Y.same hg))
    · cases hs
  · -- tableswitch
    rename_i df lo hi offs lo2 t ts
    simp only [x_okn, decide_eq_true_eq] at hn
    obtain ⟨rfl, h2, h3, h4⟩ := hn
    unfold x_ts at hs
    split at hs
    · rename_i x r
      cases hs
      have h9 := kk ad arr H locs cells slots (Y.same hg)
      by_cases q1 : x.toInt < (lo2 : Int)
      · rw [if_pos q1] at h9
        exact lv_tableOut hx hb hd (Or.inl q1) h2 h9
      · rw [if_neg q1] at h9
        by_cases q2 : hi < x.toInt
        · rw [List.getD_eq_getElem?_getD, List.getElem?_eq_none (by omega)] at h9
          simp only [Option.getD_none] at h9
          exact lv_tableOut hx hb hd (Or.inr q2) h2 h9
        · have hj : (x.toInt - (lo2 : Int)).toNat < ts.length := by omega
          have hlen2 : offs.toList.length = ts.length := by have := congrArg List.length h4; simpa using this
          obtain ⟨off, ho⟩ : ∃ off, offs.toList[(x.toInt - (lo2 : Int)).toNat]? = some off := ⟨_, List.getElem?_eq_getElem (by rw [hlen2]; exact hj)⟩
          have h5 : (ts.map (fun (x : Nat) => (x : Int)))[(x.toInt - (lo2 : Int)).toNat]? = some ((pc : Int) + off) := by rw [← h4, List.getElem?_map, ho]; rfl
          rw [List.getElem?_map, List.getElem?_eq_getElem hj] at h5
          have h6 : (pc : Int) + off = ((ts[(x.toInt - (lo2 : Int)).toNat] : Nat) : Int) := by simpa using h5.symm
          rw [List.getD_eq_getElem?_getD, List.getElem?_eq_getElem hj] at h9
          simp only [Option.getD_some] at h9
          exact lv_tableIn hx hb hd q1 q2 (by rw [← Array.getElem?_toList]; exact ho) h6 h9
    · cases hs
  · -- dup
    have hnx : nx = pc + 1 := by
      rcases hlen with h | h
      · simp [x_len] at h
      · simpa [x_len] using h
    subst hnx
    rw [Nat.add_sub_cancel_left] at hd
    unfold x_d1 at hs
    split at hs
    · rename_i v r
      split at hs
      · rename_i hc
        cases hs
        exact lv_dup hx hb hd (by rw [x_V_cat]; exact hc) (kk ad arr H locs cells slots (Y.same hg))
      · cases hs
    · cases hs
  · -- dup2
    have hnx : nx = pc + 1 := by
      rcases hlen with h | h
      · simp [x_len] at h
      · simpa [x_len] using h
    subst hnx
    rw [Nat.add_sub_cancel_left] at hd
    unfold x_d2 at hs
    split at hs
    · rename_i v w r
      split at hs
      · rename_i hc
        cases hs
        exact lv_dup2_11 hx hb hd (by rw [x_V_cat]; exact hc.1) (by rw [x_V_cat]; exact hc.2) (kk ad arr H locs cells slots (Y.same hg))
      · cases hs
    · cases hs
  · -- pop
    have hnx : nx = pc + 1 := by
      rcases hlen with h | h
      · simp [x_len] at h
      · simpa [x_len] using h
    subst hnx
    rw [Nat.add_sub_cancel_left] at hd
    unfold x_po at hs
    split at hs
    · rename_i v r
      split at hs
      · rename_i hc
        cases hs
        exact lv_pop hx hb hd (by rw [x_V_cat]; exact hc) (kk ad arr H locs cells slots (Y.same hg))
      · cases hs
    · cases hs
  · -- getfield
    rename_i ix ci n j ty
    have hnx : nx = pc + 3 := by
      rcases hlen with h | h
      · simp [x_len] at h
      · simpa [x_len] using h
    subst hnx
    rw [Nat.add_sub_cancel_left] at hd
    simp only [x_okn, decide_eq_true_eq] at hn
    obtain ⟨c1, c2, c3, c4⟩ := x_fT_num _ hn
    simp only at c1 c2 c3 c4
    subst c2
    subst c4
    unfold x_gf at hs
    split at hs
    · rename_i a r
      split at hs
      · rename_i hk
        cases hs
        refine va_get (D := D) (ci := ci) (C := xR ci) (T := xT ci) (N := xN ci) (v := x_V ad (x_fv (x_kt (xy ci j)) M a j)) hx hb hts (x_cl_ok ci c1).1 hown hU.1 hP a (x_W_at hk) (x_cl_at ci c1) j c3 (hts _ (x_fT_ok _ hn)) (fun _ h9 => h9) ?_ hd (kk ad arr H locs cells slots (Y.same hg))
        simp [x_F, c3]
      · cases hs
    · cases hs
  · -- putfield
    rename_i ix ci n j ty
    have hnx : nx = pc + 3 := by
      rcases hlen with h | h
      · simp [x_len] at h
      · simpa [x_len] using h
    subst hnx
    rw [Nat.add_sub_cancel_left] at hd
    simp only [x_okn, decide_eq_true_eq] at hn
    obtain ⟨hn, hfin⟩ := hn
    obtain ⟨c1, c2, c3, c4⟩ := x_fT_num _ hn
    simp only at c1 c2 c3 c4
    subst c2
    subst c4
    unfold x_pf at hs
    split at hs
    · rename_i v a r
      split at hs
      · rename_i hk
        cases hpv : x_pv (x_kt (xy ci j)) M a j v with
        | none => rw [hpv] at hs; cases hs
        | some M2 =>
          rw [hpv] at hs
          cases hs
          exact x_sim_put hx hb hts hown hU.1 hini hfin c1 c3 hn hd Y hg hk hpv (fun H' locs' y => kk ad arr H' locs' cells slots y)
      · cases hs
    · cases hs
  · -- iaload
    have hnx : nx = pc + 1 := by
      rcases hlen with h | h
      · simp [x_len] at h
      · simpa [x_len] using h
    subst hnx
    rw [Nat.add_sub_cancel_left] at hd
    unfold x_al at hs
    split at hs
    · rename_i i a r
      split at hs
      · rename_i t' n hk
        split at hs
        · rename_i hc
          obtain ⟨rfl, hc1, hc2⟩ := hc
          cases hs
          exact va_iald (D := D) hx hb hU.1 hP a 0 (x_W_at hk) rfl (fun h => h.elim hc1 (fun h => absurd hc2 (Nat.not_lt.mpr h))) hd (kk ad arr H locs cells slots (Y.same hg))
        · cases hs
      · cases hs
    · cases hs
  · -- baload
    have hnx : nx = pc + 1 := by
      rcases hlen with h | h
      · simp [x_len] at h
      · simpa [x_len] using h
    subst hnx
    rw [Nat.add_sub_cancel_left] at hd
    unfold x_al at hs
    split at hs
    · rename_i i a r
      split at hs
      · rename_i t' n hk
        split at hs
        · rename_i hc
          obtain ⟨rfl, hc1, hc2⟩ := hc
          cases hs
          exact va_zald (D := D) hx hb hU.1 hP a 1 (x_W_at hk) rfl (fun h => h.elim hc1 (fun h => absurd hc2 (Nat.not_lt.mpr h))) hd (kk ad arr H locs cells slots (Y.same hg))
        · cases hs
      · cases hs
    · cases hs
  · -- aaload
    have hnx : nx = pc + 1 := by
      rcases hlen with h | h
      · simp [x_len] at h
      · simpa [x_len] using h
    subst hnx
    rw [Nat.add_sub_cancel_left] at hd
    unfold x_aq at hs
    split at hs
    · rename_i i a r
      split at hs
      · rename_i t' n hk
        split at hs
        · rename_i hc
          obtain ⟨ht1, ht2, hc1, hc2⟩ := hc
          cases hs
          exact x_sim_aq hx hb hU.1 hP hk ht1 ht2 hc1 hc2 hd (kk ad arr H locs cells slots (Y.same hg))
        · cases hs
      · cases hs
    · cases hs
  · -- iastore
    have hnx : nx = pc + 1 := by
      rcases hlen with h | h
      · simp [x_len] at h
      · simpa [x_len] using h
    subst hnx
    rw [Nat.add_sub_cancel_left] at hd
    unfold x_as at hs
    split at hs
    · rename_i x i a r
      split at hs
      · rename_i t' n hk
        split at hs
        · rename_i hc
          obtain ⟨rfl, hc1, hc2, hc3⟩ := hc
          cases hs
          exact x_sim_as0 hx hb hU.1 Y hg hk hc1 hc2 hd (fun H' locs' y => kk ad arr H' locs' cells slots y)
        · cases hs
      · cases hs
    · cases hs
  · -- bastore
    have hnx : nx = pc + 1 := by
      rcases hlen with h | h
      · simp [x_len] at h
      · simpa [x_len] using h
    subst hnx
    rw [Nat.add_sub_cancel_left] at hd
    unfold x_as at hs
    split at hs
    · rename_i x i a r
      split at hs
      · rename_i t' n hk
        split at hs
        · rename_i hc
          obtain ⟨rfl, hc1, hc2, hc3⟩ := hc
          cases hs
          exact x_sim_as1 hx hb hU.1 Y hg hk hc1 hc2 (by simpa using hc3) hd (fun H' locs' y => kk ad arr H' locs' cells slots y)
        · cases hs
      · cases hs
    · cases hs
  · -- aastore
    have hnx : nx = pc + 1 := by
      rcases hlen with h | h
      · simp [x_len] at h
      · simpa [x_len] using h
    subst hnx
    rw [Nat.add_sub_cancel_left] at hd
    unfold x_sq at hs
    split at hs
    · rename_i v i a r
      split at hs
      · rename_i t' n ci n2 hk hk2
        split at hs
        · rename_i hc
          obtain ⟨ht1, ht2, hec, hc1, hc2⟩ := hc
          cases hs
          exact x_sim_sq hx hb hU.1 Y hg hk hk2 ht1 ht2 hec hc1 hc2 hd (fun H' locs' y => kk ad arr H' locs' cells slots y)
        · cases hs
      · cases hs
    · rename_i i a r
      split at hs
      · rename_i t' n hk
        split at hs
        · rename_i hc
          obtain ⟨ht1, ht2, hc1, hc2⟩ := hc
          cases hs
          exact x_sim_sn hx hb hU.1 Y hg hk ht1 ht2 hc1 hc2 hd (fun H' locs' y => kk ad arr H' locs' cells slots y)
        · cases hs
      · cases hs
    · cases hs
  · -- arraylength
    have hnx : nx = pc + 1 := by
      rcases hlen with h | h
      · simp [x_len] at h
      · simpa [x_len] using h
    subst hnx
    rw [Nat.add_sub_cancel_left] at hd
    unfold x_ln at hs
    split at hs
    · rename_i a r
      split at hs
      · rename_i n hk
        cases hs
        exact va_alen (D := D) hx hb hU.1 hP a 0 (x_W_at hk) (ty := .int) rfl rfl hd (kk ad arr H locs cells slots (Y.same hg))
      · cases hs
    · cases hs
  · -- new
    rename_i ix ci n
    have hnx : nx = pc + 3 := by
      rcases hlen with h | h
      · simp [x_len] at h
      · simpa [x_len] using h
    subst hnx
    rw [Nat.add_sub_cancel_left] at hd
    simp only [x_okn, decide_eq_true_eq] at hn
    obtain ⟨c1, c2⟩ := x_nT_num _ hn
    simp only at c1 c2
    subst c2
    unfold x_nw at hs
    cases hs
    exact x_sim_new hx hb hts hown hU.1 hA c1 hn hd Y hg hcap (fun ad' H' y => kk ad' arr H' locs (cells + 1) (slots + xN ci) y)
  · -- newarray
    rename_i at9 t
    have hnx : nx = pc + 2 := by
      rcases hlen with h | h
      · simp [x_len] at h
      · simpa [x_len] using h
    subst hnx
    rw [Nat.add_sub_cancel_left] at hd
    simp only [x_okn, decide_eq_true_eq] at hn
    unfold x_na at hs
    split at hs
    · rename_i n r
      split at hs
      · rename_i hc
        cases hs
        exact x_sim_na hx hb hts hU.1 hA hn hc.1 hc.2 hd Y hg hcap (fun ad' H' y => kk ad' arr H' locs (cells + 1) (slots + n.toNatClampNeg) y)
      · cases hs
    · cases hs
  · -- anewarray
    rename_i ix t
    have hnx : nx = pc + 3 := by
      rcases hlen with h | h
      · simp [x_len] at h
      · simpa [x_len] using h
    subst hnx
    rw [Nat.add_sub_cancel_left] at hd
    simp only [x_okn, decide_eq_true_eq] at hn
    unfold x_na at hs
    split at hs
    · rename_i n r
      split at hs
      · rename_i hc
        cases hs
        exact x_sim_nq hx hb hts hown hU hA hn hc.1 hc.2 hd Y hg hcap (fun ad' H' y => kk ad' arr H' locs (cells + 1) (slots + n.toNatClampNeg) y)
      · cases hs
    · cases hs
  · -- checkcast
    rename_i ix
    have hnx : nx = pc + 3 := by
      rcases hlen with h | h
      · simp [x_len] at h
      · simpa [x_len] using h
    subst hnx
    rw [Nat.add_sub_cancel_left] at hd
    simp only [x_okn, decide_eq_true_eq] at hn
    unfold x_cc at hs
    split at hs
    · rename_i a r
      split at hs
      · rename_i n hk
        cases hs
        exact va_castA (D := D) hx hb hown (hts _ (x_hT_ok _ hn)) hP a (x_W_at hk) (hU.1.2 0 _ rfl).2 hd (kk ad arr H locs cells slots (Y.same hg))
      · cases hs
    · cases hs
  · -- invokespecial
    rename_i ix kd
    have hnx : nx = pc + 3 := by
      rcases hlen with h | h
      · simp [x_len] at h
      · simpa [x_len] using h
    subst hnx
    rw [Nat.add_sub_cancel_left] at hd
    simp only [x_okn, decide_eq_true_eq] at hn
    obtain ⟨rfl, hn⟩ := hn
    unfold x_iv at hs
    split at hs
    · rename_i d9 k9 s9 d1 a r
      split at hs
      · rename_i hc
        cases hs
        exact x_sim_oi hx hb hml hown hts hlr hn (by omega) (by omega) hc hd (kk ad arr H locs cells slots (Y.same hg))
      · cases hs
    · exfalso
      first | omega | contradiction | simp_all
    · cases hs
  · -- invokevirtual
    rename_i ix kd
    have hnx : nx = pc + 3 := by
      rcases hlen with h | h
      · simp [x_len] at h
      · simpa [x_len] using h
    subst hnx
    rw [Nat.add_sub_cancel_left] at hd
    simp only [x_okn, decide_eq_true_eq] at hn
    obtain ⟨rfl, hn⟩ := hn
    unfold x_iv at hs
    split at hs
    · exfalso
      first | omega | contradiction | simp_all
    · rename_i d9 k9 s9 d1 a r
      split at hs
      · rename_i n hk
        split at hs
        · rename_i hc
          cases hs
          exact x_sim_cn hx hb hml hown hts hU hA hn (by omega) (by omega) hc hd Y hg hk hcap (fun ad' H' y => kk ad' arr H' locs (cells + 1) (slots + n) y)
        · cases hs
      · cases hs
    · cases hs
  · -- rest
    cases hs
end XSIM
end
section
/-! SOUND: what the small machine does, the JVM does: a contract for each run of it -/
def x_wk (k : Nat) : List Cond := Cond.code (x_m k).1 (x_b k) (x_nL k) (x_m k).2.2.1 :: x_ws
def x_rm (d : Nat) (M M' : xM) : Room := { frames := d, cells := M'.1.length - M.1.length, slots := x_sz M' - x_sz M, locals := 37 * d }
def x_Pc (D : va_G) (tC : Nat → ClassId) (ad : Nat → Nat) (M : xM) (as : List Value) (sz : Nat) : Array Value → State → Prop := va_Pc (as.map (x_V ad)) (fun U => U.heap.size = sz ∧ va_P D xcl (x_W ad tC M) U.heap ∧ x_U D tC U ∧ va_D (fun _ => True) (x_W ad tC M))
def x_Qc (D : va_G) (tC : Nat → ClassId) (ad : Nat → Nat) (M M' : xM) (v : Option Value) (A : Nat → Prop) : Array Value → State → Outcome → State → Prop := fun _ st oc t =>
  ∃ ad' : Nat → Nat, (∀ i, i < M.1.length → ad' i = ad i) ∧ oc = .returned (v.map (x_V ad')) ∧ va_P D xcl (x_W ad' tC M') t.heap ∧ va_D A (x_W ad' tC M') ∧ va_F A st t
def x_MetP (l : Launch) (D : va_G) (tC : Nat → ClassId) (d k : Nat) (M : xM) (as : List Value) (M' : xM) (v : Option Value) : Prop :=
  ∀ (ad : Nat → Nat) (sz : Nat), Met l (x_m k).1 (x_wk k) (x_rm d M M') (x_Pc D tC ad M as sz) (x_Qc D tC ad M M' v (va_A (x_W ad tC M) sz)) (M'.1.length - M.1.length) (x_sz M' - x_sz M) (va_A (x_W ad tC M) sz)
theorem x_sz_le {M M' : xM} (h : M.1 <+: M'.1) : x_sz M ≤ x_sz M' := by
  obtain ⟨t, ht⟩ := h
  simp only [x_sz, ← ht, List.map_append, List.sum_append]
  omega
theorem x_V_ag {ad ad1 : Nat → Nat} {n : Nat} {v : Value} (h : ∀ i, i < n → ad1 i = ad i) (hv : x_wV n v) : x_V ad1 v = x_V ad v := by
  cases v with
  | ref i => simp only [x_V]; rw [h i (hv i rfl)]
  | _ => rfl
theorem x_gi {ws : List Cond} (hm : ∀ w ∈ ws, w ∈ x_ws) : GoodIn x_ws ws := fun w h => ⟨hm w h, good_of_word (List.mem_filter.mp (hm w h)).2⟩
theorem x_blind {D : va_G} {tC : Nat → ClassId} {ad : Nat → Nat} {M : xM} {as : List Value} {sz : Nat} : FrameBlind (x_Pc D tC ad M as sz) := by
  intro a U g mk q
  obtain ⟨q0, q1, q2, q3, q4⟩ := q
  exact ⟨q0, q1, q2, q3.call, q4⟩
section XSND
variable {p : Program} {l : Launch} {e : Env} {R : Room} {s : State} {m : MethodId} {args : Array Value} {below : List Frame} {meth : Method} {c : Code} {D : va_G} {tC : Nat → ClassId} {A : Nat → Prop} {d k : Nat}
variable {ad0 : Nat → Nat} {M0 : xM} {ad : Nat → Nat} {M : xM} {ls : xL} {st : List Value} {arr : Array Slot} {H : Heap} {locs : List Loc} {cells slots : Nat} {Q : State → Prop} {pc : Nat} {M1 : xM} {v1 : Option Value} {r : List Value}
/-- behind a call -/
theorem x_after {mc ms : Nat} {st0 rest : List Value} {a9 : Array Value} (hr : va_Run p l e R s m args below meth c H locs cells slots mc ms (F0 m pc arr st0) rest (x_Qc D tC ad M M1 v1 (va_A (x_W ad tC M) H.size) a9) (va_A (x_W ad tC M) H.size)) (hS : va_S A s.heap H locs) (hD : va_D A (x_W ad tC M)) (hA : ∀ q, s.heap.size ≤ q → A q)
    (kk : ∀ (ad1 : Nat → Nat) (H1 : Heap) (locs1 : List Loc), (∀ i, i < M.1.length → ad1 i = ad i) → va_P D xcl (x_W ad1 tC M1) H1 → va_D A (x_W ad1 tC M1) → va_S A s.heap H1 locs1 → W p l e R s m args below meth c H1 locs1 (cells + mc) (slots + ms) Q (F0 m (pc + 3) arr ((v1.map (x_V ad1)).toList ++ rest))) : W p l e R s m args below meth c H locs cells slots Q (F0 m pc arr st0) := by
  have hAA : ∀ q, va_A (x_W ad tC M) H.size q → A q := by
    intro q h
    rcases h with ⟨i, e9, h⟩ | h
    · exact hD.2 i _ h
    · exact hA q (Nat.le_trans hS.1 h)
  intro T hT X
  obtain ⟨v, st₀, t, T', L, h0, X', hL, e1, e2, ⟨ad1, hag, hv, hP1, hD1, hz, hk⟩, st2⟩ := hr T hT X
  cases hv
  rw [h0] at hz hk
  obtain ⟨t2, a1, b1⟩ := kk ad1 T'.heap (locs ++ L) hag (by rw [e1]; exact hP1) (hD1.weaken (fun i q _ h => hAA q.1 h))
    ⟨Nat.le_trans hS.1 (by rw [e1]; exact hz), fun q h1 h2 => by rw [e1, hk q (Nat.lt_of_lt_of_le h1 hS.1) (fun z => h2 (hAA q z))]; exact hS.2.1 q h1 h2, fun q hq => by
      rcases List.mem_append.mp hq with h | h
      · exact hS.2.2 q h
      · exact hAA _ (hL q h)⟩ T' rfl X'
  exact ⟨t2, st2 t2 a1, b1⟩
theorem x_Dy.ret {H1 : Heap} {locs1 : List Loc} {ad1 : Nat → Nat} {H0 : Heap} {nL mc ms : Nat} (Y : x_Dy D tC A H0 nL ad0 M0 ad M ls st arr H locs cells slots) (hg : x_gR M (M1, v1)) (hr : ∀ v ∈ r, v ∈ st) (hag : ∀ i, i < M.1.length → ad1 i = ad i) (hmc : mc = M1.1.length - M.1.length) (hms : ms = x_sz M1 - x_sz M) (hP : va_P D xcl (x_W ad1 tC M1) H1) (hD : va_D A (x_W ad1 tC M1)) (hS : va_S A H0 H1 locs1) :
    x_Dy D tC A H0 nL ad0 M0 ad1 M1 ls (v1.toList ++ r) arr H1 locs1 (cells + mc) (slots + ms) ∧ (v1.toList ++ r).map (x_V ad1) = (v1.map (x_V ad1)).toList ++ r.map (x_V ad) := by
  obtain ⟨hG, hlr, had, -, -, -, hce, hsl⟩ := Y
  obtain ⟨g1, g2, g3⟩ := hg
  have hle : M.1.length ≤ M1.1.length := g2.length_le
  have hsz : x_sz M ≤ x_sz M1 := x_sz_le g2
  refine ⟨⟨⟨g1, fun u hu => ?_, fun u hu => ⟨(hG.2.2 u hu).1.le hle, (hG.2.2 u hu).2⟩⟩, ⟨hlr.1, hlr.2.1, fun i v hv => ?_⟩, fun i hi => ?_, hP, hD, hS, by omega, by omega⟩, ?_⟩
  · rcases List.mem_append.mp hu with h1 | h1
    · exact g3 u (by cases v1 <;> simp_all)
    · exact (hG.2.1 u (hr u h1)).le hle
  · rw [x_V_ag hag (hG.2.2 v (List.mem_of_getElem? hv)).1]; exact hlr.2.2 i v hv
  · rw [hag i (by omega)]; exact had i hi
  · rw [List.map_append]
    congr 1
    · cases v1 <;> rfl
    · exact List.map_congr_left (fun v hv => x_V_ag hag (hG.2.1 v (hr v hv)))
set_option maxHeartbeats 4000000 in
theorem x_sim_cl (F : x_Fx p R s m args meth c D tC A d k) (Y : x_Dy D tC A s.heap (x_nL k) ad0 M0 ad M ls st arr H locs cells slots) {e' : xE} (he : x_P k pc = some e') {k' : Nat} {as : List Value} (hcl : x_cl e' st M = some (k', as, r)) {d' : Nat} (hdd : d = d' + 1) (hM : x_MetP l D tC d' k' M as M1 v1) (hg : x_gR M (M1, v1)) (hk' : k' < 146)
    (hcap : M1.1.length ≤ M0.1.length + R.cells ∧ x_sz M1 ≤ x_sz M0 + R.slots)
    (kk : ∀ (ad' : Nat → Nat) (H' : Heap) (locs' : List Loc) (cells' slots' : Nat), x_Dy D tC A s.heap (x_nL k) ad0 M0 ad' M1 ls (v1.toList ++ r) arr H' locs' cells' slots' → W p l e R s m args below meth c H' locs' cells' slots' Q (F0 m e'.2.1 arr ((v1.toList ++ r).map (x_V ad')))) :
    W p l e R s m args below meth c H locs cells slots Q (F0 m pc arr (st.map (x_V ad))) := by
  obtain ⟨hx, hb, hml, hown, hts, hU, hr, hlk, hini, hA, hfr, hlo⟩ := F
  have hok := (x_ck k pc e' he).1
  obtain ⟨ins, nx, cn, xs⟩ := e'
  simp only [x_okb, Bool.and_eq_true, decide_eq_true_eq] at hok
  obtain ⟨⟨hd, hlen⟩, hn⟩ := hok
  obtain ⟨na, has, hrr, hna, hcat⟩ := x_cl_eq hcl
  obtain ⟨m1, m2⟩ := x_cl_mem hcl
  have Y' := Y
  obtain ⟨hG, hlr, had, hP, hD, hS, hce, hsl⟩ := Y'
  obtain ⟨f1, f2, f3, f4⟩ := x_m_ok k' hk'
  obtain ⟨g1, g2, ⟨g3, g4, g5⟩, g6, g7, g8, -⟩ := x_g_ok k' hk'
  have hle : M.1.length ≤ M1.1.length := hg.2.1.length_le
  have hsz : x_sz M ≤ x_sz M1 := x_sz_le hg.2.1
  have hstk : st.map (x_V ad) = (as.map (x_V ad)).reverse ++ r.map (x_V ad) := by
    rw [← List.map_reverse, ← List.map_append, has, List.reverse_reverse, hrr, List.take_append_drop]
  have hcat2 : 2 * (F0 m pc arr (st.map (x_V ad))).monitorRoom + ((r.map (x_V ad)).map fun v => v.category).sum ≤ 8 := by
    rw [x_cat_map]; show 2 * 0 + _ ≤ 8; omega
  have hf : cells + (M1.1.length - M.1.length) ≤ R.cells ∧ slots + (x_sz M1 - x_sz M) ≤ R.slots := ⟨by omega, by omega⟩
  have hR : (x_rm d' M M1).frames + 1 ≤ R.frames ∧ 8 + (x_nL k' + 11) + (x_rm d' M M1).locals ≤ R.locals := by
    constructor
    · show d' + 1 ≤ R.frames; omega
    · show 8 + (x_nL k' + 11) + 37 * d' ≤ R.locals; omega
  have hPc : ∀ U : State, U.heap = H → s.WarmedH U.vm → x_Pc D tC ad M as H.size (as.map (x_V ad)).toArray U := fun U hU' hW => ⟨rfl, by rw [hU'], by rw [hU']; exact hP, hU.warm hW, ⟨hD.1, fun _ _ _ => trivial⟩⟩
  have hM9 := hM ad H.size
  have fin : nx = pc + 3 → ∀ {a9 : Array Value}, va_Run p l e R s m args below meth c H locs cells slots (M1.1.length - M.1.length) (x_sz M1 - x_sz M) (F0 m pc arr (st.map (x_V ad))) (r.map (x_V ad)) (x_Qc D tC ad M M1 v1 (va_A (x_W ad tC M) H.size) a9) (va_A (x_W ad tC M) H.size) → W p l e R s m args below meth c H locs cells slots Q (F0 m pc arr (st.map (x_V ad))) := by
    intro hnx a9 hrun
    subst hnx
    refine x_after hrun hS hD hA (fun ad1 H1 locs1 hag q1 q2 q3 => ?_)
    obtain ⟨y, ey⟩ := Y.ret hg m2 hag rfl rfl q1 q2 q3
    have h9 := kk ad1 H1 locs1 _ _ y
    rw [ey] at h9
    exact h9
  unfold x_cl at hcl
  simp only at hcl
  split at hcl
  · -- virtual
    rename_i ix k2 ci n
    simp only [x_okn, decide_eq_true_eq] at hn
    obtain ⟨-, hn1, hn2, hn3, hn4, hn5, hn6⟩ := hn
    have hnx : nx = pc + 3 := by
      rcases hlen with h | h
      · simp [x_len] at h
      · simpa [x_len] using h
    have hd3 : decode (x_b k) pc = .ok (.invokevirtual ix, 3) := by rw [hnx, Nat.add_sub_cancel_left] at hd; exact hd
    split at hcl
    · rename_i hl
      split at hcl
      · rename_i a as2 hrev
        split at hcl
        · rename_i ci2 n2 hk2
          split at hcl
          · rename_i hc2
            obtain ⟨hc1, hc3⟩ := hc2
            subst hc1
            simp only [Option.some.injEq, Prod.mk.injEq] at hcl
            obtain ⟨rfl, rfl, -⟩ := hcl
            have hlink := x_cT_ok _ hn1
            simp only [x_cok] at hlink
            rw [if_neg (by decide)] at hlink
            obtain ⟨i1, i2⟩ := f4 hn4
            have i3 := i2.resolve_left (g7 hn5)
            have hcw : CallW R s args (xR (x_m k).2.2.2) (xR ci2) ix (x_m k2).1 (x_b k2) (x_nL k2) (x_m k2).2.2.1 (x_wk k2) (x_rm d' M M1) (M1.1.length - M.1.length) (x_sz M1 - x_sz M) (x_nA.getD k2 0) := by
              subst hn2
              refine cwV (Ts := x_ws) (ws' := x_ws) _ hts (x_gi (fun w hw => ?_)) rfl rfl rfl ⟨g1, g3, g4, g5⟩ hR
              rcases List.mem_append.mp hw with h | h
              · simp only [List.mem_cons, List.not_mem_nil, or_false] at h
                rcases h with rfl | rfl | rfl | rfl
                · exact hlink
                · exact i1
                · exact i3
                · exact f2
              · rcases List.mem_cons.mp h with rfl | h
                · exact f1
                · exact h
            refine fin hnx (va_runV (Ts := x_ws) (own := xR (x_m k).2.2.2) (b := ad a) (As := as2.map (x_V ad)) ⟨hx, hb, hml, hown, hts⟩ hM9 hcw ⟨x_blind, va_recv hU.1 hP (x_cl_at ci2 hn6) (x_W_at hk2), hPc⟩ rfl ?_ hlr.2.1.1 ?_ hcat2 hd3 hf)
            · have := congrArg List.length hrev
              rw [List.length_reverse, List.length_take, List.length_cons] at this
              rw [List.length_map]
              omega
            · show st.map (x_V ad) = _
              rw [hstk]
              simp [x_V]
          · cases hcl
        · cases hcl
      · cases hcl
    · cases hcl
  · -- static
    rename_i ix kd k2 ci n
    simp only [x_okn, decide_eq_true_eq] at hn
    obtain ⟨hkd, hn1, hn2, hn3, hn4⟩ := hn
    have hnx : nx = pc + 3 := by
      rcases hlen with h | h
      · simp [x_len] at h
      · simpa [x_len] using h
    have hd3 : decode (x_b k) pc = .ok (.invokestatic ix, 3) := by rw [hnx, Nat.add_sub_cancel_left] at hd; exact hd
    split at hcl
    · rename_i hl
      simp only [Option.some.injEq, Prod.mk.injEq] at hcl
      obtain ⟨rfl, rfl, -⟩ := hcl
      have hlink := x_cT_ok _ hn1
      simp only [x_cok] at hlink
      have i1 := f3 hn4
      have hlen9 : ((st.take n).reverse.map (x_V ad)).length = x_nA.getD k2 0 := by rw [List.length_map, List.length_reverse, List.length_take]; omega
      rcases hkd with rfl | rfl
      · rw [if_neg (by decide)] at hlink
        have hcw : CallB R s args (xR (x_m k).2.2.2) ix (x_m k2).1 (x_b k2) (x_nL k2) (x_m k2).2.2.1 (x_wk k2) (x_rm d' M M1) (M1.1.length - M.1.length) (x_sz M1 - x_sz M) (x_nA.getD k2 0) ∧ (Cond.static (x_m k2).1).before args s = true := by
          refine va_cwS (Ts := x_ws) (ws' := x_ws) _ hts (x_gi (fun w hw => ?_)) rfl rfl rfl ⟨g3, g4, g5⟩ hR
          rcases List.mem_append.mp hw with h | h
          · simp only [List.mem_cons, List.not_mem_nil, or_false] at h
            rcases h with rfl | rfl | rfl
            · exact hlink
            · exact i1
            · rw [g1]; exact f2
          · rcases List.mem_cons.mp h with rfl | h
            · exact f1
            · exact h
        exact fin hnx (va_runS (Ts := x_ws) (own := xR (x_m k).2.2.2) (As := ((st.take n).reverse).map (x_V ad)) ⟨hx, hb, hml, hown, hts⟩ hM9 hcw ⟨x_blind, hPc⟩ rfl hlen9 hlr.2.1.1 hstk hcat2 hd3 hf)
      · rw [if_pos (by decide)] at hlink
        have hcw : va_CN R s args (xR (x_m k).2.2.2) ix (x_m k2).1 "MajorityMap" (x_b k2) (x_nL k2) (x_m k2).2.2.1 (x_wk k2) (x_rm d' M M1) (M1.1.length - M.1.length) (x_sz M1 - x_sz M) (x_nA.getD k2 0) := by
          refine va_cnB (Ts := x_ws) (ws' := x_ws) _ hts (x_gi (fun w hw => ?_)) rfl rfl rfl (hU.2 _ hlink) (by rw [g1]; exact hts _ f2) ⟨g3, g4, g5⟩ hR
          rcases List.mem_cons.mp hw with rfl | h
          · exact f1
          · exact h
        exact fin hnx (va_runSN (Ts := x_ws) (own := xR (x_m k).2.2.2) (As := ((st.take n).reverse).map (x_V ad)) ⟨hx, hb, hml, hown, hts⟩ hM9 ⟨hcw, hts _ i1, trivial⟩ ⟨x_blind, hPc⟩ rfl hlen9 hlr.2.1.1 hstk hcat2 hd3 hf)
    · cases hcl
  · -- a constructor
    rename_i ix kd k2 ci n
    simp only [x_okn, decide_eq_true_eq] at hn
    obtain ⟨hkd, hn1, hn2, hn3, hn4, hn5⟩ := hn
    have hnx : nx = pc + 3 := by
      rcases hlen with h | h
      · simp [x_len] at h
      · simpa [x_len] using h
    have hd3 : decode (x_b k) pc = .ok (.invokespecial ix, 3) := by rw [hnx, Nat.add_sub_cancel_left] at hd; exact hd
    split at hcl
    · rename_i hl
      split at hcl
      · rename_i a as2 hrev
        split at hcl
        · simp only [Option.some.injEq, Prod.mk.injEq] at hcl
          obtain ⟨rfl, rfl, -⟩ := hcl
          have hlink := x_cT_ok _ hn1
          simp only [x_cok] at hlink
          obtain ⟨i1, -⟩ := f4 hn4
          obtain ⟨j1, j2⟩ := g6 hn5
          have hwk : x_wk k2 = Cond.code (x_m k2).1 (x_b k2) (x_nL k2) none :: x_ws := by unfold x_wk; rw [j2]
          have hG9 : GoodIn x_ws (x_wk k2) := x_gi (fun w hw => by
            rcases List.mem_cons.mp hw with rfl | h
            · exact f1
            · exact h)
          have hlen9 : (as2.map (x_V ad)).length = x_nA.getD k2 0 := by
            have := congrArg List.length hrev
            rw [List.length_reverse, List.length_take, List.length_cons] at this
            rw [List.length_map]
            omega
          have hstk9 : (F0 m pc arr (st.map (x_V ad))).stack = (as2.map (x_V ad)).reverse ++ .ref (ad a) :: r.map (x_V ad) := by
            show st.map (x_V ad) = _
            rw [hstk]
            simp [x_V]
          rcases hkd with rfl | rfl
          · rw [if_neg (by decide)] at hlink
            have hcw := cwI (R := R) (s := s) (args := args) (own := xR (x_m k).2.2.2) (index := ix) (mc := M1.1.length - M.1.length) (ms := x_sz M1 - x_sz M) (rm := x_rm d' M M1) (x_nA.getD k2 0) hts hG9 hwk rfl rfl (by rw [g1]; exact hts _ f2) (hts _ hlink) (hts _ i1) j1 ⟨g3, g4, g5⟩ hR
            exact fin hnx (va_runI (Ts := x_ws) (own := xR (x_m k).2.2.2) (b := ad a) (As := as2.map (x_V ad)) ⟨hx, hb, hml, hown, hts⟩ hM9 hcw ⟨x_blind, hPc⟩ rfl hlen9 hlr.2.1.1 hstk9 hcat2 hd3 hf)
          · rw [if_pos (by decide)] at hlink
            have hcw : va_CN R s args (xR (x_m k).2.2.2) ix (x_m k2).1 "MajorityMap" (x_b k2) (x_nL k2) none (x_wk k2) (x_rm d' M M1) (M1.1.length - M.1.length) (x_sz M1 - x_sz M) (x_nA.getD k2 0) :=
              va_cnB (Ts := x_ws) (ws' := x_ws) _ hts hG9 hwk rfl rfl (hU.2 _ hlink) (by rw [g1]; exact hts _ f2) ⟨g3, g4, g5⟩ hR
            exact fin hnx (va_runIN (Ts := x_ws) (own := xR (x_m k).2.2.2) (b := ad a) (As := as2.map (x_V ad)) ⟨hx, hb, hml, hown, hts⟩ hM9 ⟨hcw, j1, hts _ i1⟩ ⟨x_blind, hPc⟩ rfl hlen9 hlr.2.1.1 hstk9 hcat2 hd3 hf)
        · cases hcl
      · cases hcl
    · cases hcl
  · cases hcl
/-- the end of a frame -/
theorem x_sim_rt (F : x_Fx p R s m args meth c D tC A d k) (Y : x_Dy D tC A s.heap (x_nL k) ad0 M0 ad M ls st arr H locs cells slots) {e' : xE} (he : x_P k pc = some e') {v : Option Value} (hrt : x_rt (x_rk k) e' st = some v) :
    W p l e R s m args below meth c H locs cells slots (MQ below (x_Qc D tC ad0 M0 M v A) args s (M.1.length - M0.1.length) (x_sz M - x_sz M0) A) (F0 m pc arr (st.map (x_V ad))) := by
  obtain ⟨hx, hb, hml, hown, hts, hU, hr, hlk, hini, hA, hfr, hlo⟩ := F
  obtain ⟨hok, hk⟩ := x_ck k pc e' he
  obtain ⟨ins, nx, cn, xs⟩ := e'
  simp only [x_okb, Bool.and_eq_true, decide_eq_true_eq] at hok
  obtain ⟨⟨hd, hlen⟩, -⟩ := hok
  obtain ⟨hG, hlr, had, hP, hD, hS, hce, hsl⟩ := Y
  have e1 : M.1.length - M0.1.length = cells := by omega
  have e2 : x_sz M - x_sz M0 = slots := by omega
  rw [e1, e2]
  obtain ⟨-, -, -, -, -, -, r0, r1, r2, r3⟩ := x_g_ok k hk
  have hq : ∀ t : State, t.heap = H → s.WarmedH t.vm → x_Qc D tC ad0 M0 M v A args s (.returned (v.map (x_V ad))) t := fun t ht _ => ⟨ad, had, rfl, by rw [ht]; exact hP, hD, hS.F ht⟩
  have hd1 : ∀ {i : Instr}, ins = i → x_len i = 1 → decode (x_b k) pc = .ok (i, 1) := by
    intro i hi h1
    subst hi
    rcases hlen with h | h
    · omega
    · rw [h, h1, Nat.add_sub_cancel_left] at hd; exact hd
  unfold x_rt at hrt
  simp only at hrt
  generalize hrk : x_rk k = rk at hrt
  split at hrt
  · cases hrt
    exact W.vret hx hb (by rw [hr]; exact r0 hrk) hq hS.2.2 (hd1 rfl rfl) hlk
  · cases hrt
    exact W.iret hx hb (by rw [hr]; exact r1 hrk) hq hS.2.2 (hd1 rfl rfl) hlk
  · split at hrt
    · rename_i hv
      cases hrt
      exact W.zret hx hb (by rw [hr]; exact r2 hrk) (by rcases hv with rfl | rfl <;> rfl) hq hS.2.2 (hd1 rfl rfl) hlk
    · cases hrt
  · cases hrt
    obtain ⟨sn, hsn⟩ := r3 hrk
    exact W.aret hx hb (by rw [hr]; exact hsn) (Or.inl ⟨sn, rfl⟩) (Or.inr ⟨_, rfl⟩) hq hS.2.2 (hd1 rfl rfl) hlk
  · cases hrt
    obtain ⟨sn, hsn⟩ := r3 hrk
    exact W.aret hx hb (by rw [hr]; exact hsn) (Or.inl ⟨sn, rfl⟩) (Or.inl rfl) hq hS.2.2 (hd1 rfl rfl) hlk
  · cases hrt
/-- the whole frame -/
theorem x_sim_run {n0 : Nat} {M' : xM} {v : Option Value} (hc : ∀ k M as M1 v1, x_wM M → (∀ a ∈ as, x_wV M.1.length a) → x_go d n0 k M as = some (M1, v1) → k < 146 ∧ ∃ d', d = d' + 1 ∧ x_MetP l D tC d' k M as M1 v1)
    (F : x_Fx p R s m args meth c D tC A d k) (hM0 : M0.1 <+: M'.1) (hRc : R.cells = M'.1.length - M0.1.length) (hRs : R.slots = x_sz M' - x_sz M0) :
    ∀ (n : Nat) (pc : Nat) (ls : xL) (st : List Value) (M : xM) (ad : Nat → Nat) (arr : Array Slot) (H : Heap) (locs : List Loc) (cells slots : Nat), x_run x_ec d (x_P k) (x_rk k) (x_go d n0) n (pc, ls, st, M) = some (M', v) → x_Dy D tC A s.heap (x_nL k) ad0 M0 ad M ls st arr H locs cells slots →
      W p l e R s m args below meth c H locs cells slots (MQ below (x_Qc D tC ad0 M0 M' v A) args s (M'.1.length - M0.1.length) (x_sz M' - x_sz M0) A) (F0 m pc arr (st.map (x_V ad))) := by
  have hl0 : M0.1.length ≤ M'.1.length := hM0.length_le
  have hs0 : x_sz M0 ≤ x_sz M' := x_sz_le hM0
  have cap : ∀ M1 : xM, M1.1 <+: M'.1 → M1.1.length ≤ M0.1.length + R.cells ∧ x_sz M1 ≤ x_sz M0 + R.slots := by
    intro M1 h1
    have := h1.length_le
    have h2 : x_sz M1 ≤ x_sz M' := x_sz_le h1
    exact ⟨by omega, by omega⟩
  intro n
  induction n with
  | zero => intro pc ls st M ad arr H locs cells slots h; simp [x_run] at h
  | succ n ih =>
    intro pc ls st M ad arr H locs cells slots h Y
    simp only [x_run] at h
    cases hp : x_P k pc with
    | none => rw [hp] at h; simp at h
    | some e' =>
      rw [hp] at h
      simp only at h
      cases hs : x_st x_ec d e' ls st M with
      | some cf =>
        rw [hs] at h
        simp only at h
        obtain ⟨pc', ls', st', M1⟩ := cf
        have hkp := x_kp_st (pc := 0) Y.1 hs
        have hgood := x_run_good (x_go_good d n0) n _ _ hkp.1 h
        exact x_sim_st F Y hp hs (cap M1 hgood.2.1) (fun ad' arr' H' locs' cells' slots' y => ih pc' ls' st' M1 ad' arr' H' locs' cells' slots' h y)
      | none =>
        rw [hs] at h
        simp only at h
        cases hk : x_cl e' st M with
        | some q =>
          obtain ⟨k', as, r⟩ := q
          rw [hk] at h
          simp only at h
          cases hq : x_go d n0 k' M as with
          | none => rw [hq] at h; simp at h
          | some q =>
            obtain ⟨M1, v1⟩ := q
            rw [hq] at h
            simp only at h
            obtain ⟨m1, m2⟩ := x_cl_mem hk
            have hgR : x_gR M (M1, v1) := x_go_good d n0 k' M as (M1, v1) Y.1.1 (fun u hu => Y.1.2.1 u (m1 u hu)) hq
            obtain ⟨hk', d', hdd, hMet⟩ := hc k' M as M1 v1 Y.1.1 (fun u hu => Y.1.2.1 u (m1 u hu)) hq
            have hle : M.1.length ≤ M1.1.length := hgR.2.1.length_le
            have hgood := x_run_good (x_go_good d n0) n (e'.2.1, ls, v1.toList ++ r, M1) _ ⟨hgR.1, fun u hu => by
              rcases List.mem_append.mp hu with h1 | h1
              · exact hgR.2.2 u (by cases v1 <;> simp_all)
              · exact (Y.1.2.1 u (m2 u h1)).le hle, fun u hu => ⟨(Y.1.2.2 u hu).1.le hle, (Y.1.2.2 u hu).2⟩⟩ h
            exact x_sim_cl F Y hp hk hdd hMet hgR hk' (cap M1 hgood.2.1) (fun ad' H' locs' cells' slots' y => ih e'.2.1 ls (v1.toList ++ r) M1 ad' arr H' locs' cells' slots' h y)
        | none =>
          rw [hk] at h
          simp only at h
          cases hr : x_rt (x_rk k) e' st with
          | none => rw [hr] at h; simp at h
          | some u =>
            rw [hr] at h
            cases h
            exact x_sim_rt F Y hp hr
end XSND
set_option maxHeartbeats 4000000 in
theorem x_sound1 {l : Launch} {D : va_G} {tC : Nat → ClassId} {d : Nat} (hB : ∀ M x, x_wM M → x_MetP l D tC d x_kB M [.long x] M (some (.int (x_bc x))))
    (hc : ∀ n k M as M1 v1, x_wM M → (∀ a ∈ as, x_wV M.1.length a) → x_go d n k M as = some (M1, v1) → k < 146 ∧ ∃ d', d = d' + 1 ∧ x_MetP l D tC d' k M as M1 v1) :
    ∀ n k M as M1 v1, x_wM M → (∀ a ∈ as, x_wV M.1.length a) → x_go (d + 1) n k M as = some (M1, v1) → k < 146 ∧ x_MetP l D tC d k M as M1 v1 := by
  intro n k M as M1 v1 hM has hgo
  have hgood := x_go_good (d + 1) n k M as (M1, v1) hM has hgo
  simp only [x_go] at hgo
  split at hgo
  · rename_i hk
    subst hk
    split at hgo
    · cases hgo
      exact ⟨by decide, hB _ _ hM⟩
    · cases hgo
  · cases hen : x_en (x_nL k) as with
    | none => rw [hen] at hgo; simp at hgo
    | some ls =>
      rw [hen] at hgo
      simp only at hgo
      have hk : k < 146 := by
        cases n with
        | zero => simp [x_run] at hgo
        | succ n =>
          simp only [x_run] at hgo
          cases hp : x_P k 0 with
          | none => rw [hp] at hgo; simp at hgo
          | some e' => exact (x_ck k 0 e' hp).2
      refine ⟨hk, fun ad sz => ?_⟩
      obtain ⟨g1, g2, -, g6, -⟩ := x_g_ok k hk
      refine va_MetF (cc := x_b k) (maxL := x_nL k) (ret := (x_m k).2.2.1) g2 rfl ?_
      intro p e s m args below meth c s₁ B hml hv
      obtain ⟨rfl, hsz, hP, hU, hD0⟩ := hv
      subst hsz
      have hts0 := atoms_spec (ws := x_wk k) B.pre
      have hts : ∀ w ∈ x_ws, w.before (as.map (x_V ad)).toArray s = true := fun w hw => hts0 w (List.mem_cons_of_mem _ hw)
      have hown : s.vm.findClass (xR (x_m k).2.2.2) = some m.cls := by rw [← g1]; exact findClass_of_methodNamed B.named
      have hin : x_iL.getD k 0 = 1 → meth.name = "<init>" := fun h => by
        have h1 : meth.name = (x_m k).1.name := (name_of_methodNamed B.named B.method).1
        rw [h1]; exact (g6 h).1
      obtain ⟨arr, he, hlr⟩ := x_en_lr (ad := ad) hen m
      rw [he]
      have hAA : ∀ q, s.heap.size ≤ q → va_A (x_W ad tC M) s.heap.size q := fun q h => Or.inr h
      exact x_sim_run (R := x_rm d M M1) (ad0 := ad) (M0 := M) (hc n) ⟨B.exec, B.bytes, hml, hown, hts, hU, B.returns, B.notSynchronized, hin, hAA, Nat.le_refl _, Nat.le_refl _⟩ hgood.2.1 rfl rfl n 0 ls [] M ad arr s.heap [] 0 0 hgo
        ⟨(x_en_G (pc := 0) hen hM has).1, hlr, fun _ _ => rfl, hP, hD0.self, va_S.rf, by omega, by omega⟩
/-- what the small machine does, the JVM does -/
theorem x_sound {l : Launch} {D : va_G} {tC : Nat → ClassId} (hB : ∀ d M x, x_wM M → x_MetP l D tC d x_kB M [.long x] M (some (.int (x_bc x)))) :
    ∀ d n k M as M1 v1, x_wM M → (∀ a ∈ as, x_wV M.1.length a) → x_go (d + 1) n k M as = some (M1, v1) → k < 146 ∧ x_MetP l D tC d k M as M1 v1 := by
  intro d
  induction d with
  | zero => exact x_sound1 (hB 0) (fun n k M as M1 v1 _ _ h => by simp [x_go] at h)
  | succ d ih => exact x_sound1 (hB (d + 1)) (fun n k M as M1 v1 h1 h2 h3 => ⟨(ih n k M as M1 v1 h1 h2 h3).1, d, rfl, (ih n k M as M1 v1 h1 h2 h3).2⟩)
end
section
/-! Long.bitCount, by the rows of the kit -/
theorem x_lb0 : decode (x_b 142) 0 = .ok (.lload_n 0, 1) := by decide +kernel
theorem x_lb1 : decode (x_b 142) 1 = .ok (.lload_n 0, 1) := by decide +kernel
theorem x_lb2 : decode (x_b 142) 2 = .ok (.iconst 1, 1) := by decide +kernel
theorem x_lb3 : decode (x_b 142) 3 = .ok (.lushr, 1) := by decide +kernel
theorem x_lb4 : decode (x_b 142) 4 = .ok (.ldc2_w 314, 3) := by decide +kernel
theorem x_lb7 : decode (x_b 142) 7 = .ok (.land, 1) := by decide +kernel
theorem x_lb8 : decode (x_b 142) 8 = .ok (.lsub, 1) := by decide +kernel
theorem x_lb9 : decode (x_b 142) 9 = .ok (.lstore_n 0, 1) := by decide +kernel
theorem x_lb10 : decode (x_b 142) 10 = .ok (.lload_n 0, 1) := by decide +kernel
theorem x_lb11 : decode (x_b 142) 11 = .ok (.ldc2_w 316, 3) := by decide +kernel
theorem x_lb14 : decode (x_b 142) 14 = .ok (.land, 1) := by decide +kernel
theorem x_lb15 : decode (x_b 142) 15 = .ok (.lload_n 0, 1) := by decide +kernel
theorem x_lb16 : decode (x_b 142) 16 = .ok (.iconst 2, 1) := by decide +kernel
theorem x_lb17 : decode (x_b 142) 17 = .ok (.lushr, 1) := by decide +kernel
theorem x_lb18 : decode (x_b 142) 18 = .ok (.ldc2_w 316, 3) := by decide +kernel
theorem x_lb21 : decode (x_b 142) 21 = .ok (.land, 1) := by decide +kernel
theorem x_lb22 : decode (x_b 142) 22 = .ok (.ladd, 1) := by decide +kernel
theorem x_lb23 : decode (x_b 142) 23 = .ok (.lstore_n 0, 1) := by decide +kernel
theorem x_lb24 : decode (x_b 142) 24 = .ok (.lload_n 0, 1) := by decide +kernel
theorem x_lb25 : decode (x_b 142) 25 = .ok (.lload_n 0, 1) := by decide +kernel
theorem x_lb26 : decode (x_b 142) 26 = .ok (.iconst 4, 1) := by decide +kernel
theorem x_lb27 : decode (x_b 142) 27 = .ok (.lushr, 1) := by decide +kernel
theorem x_lb28 : decode (x_b 142) 28 = .ok (.ladd, 1) := by decide +kernel
theorem x_lb29 : decode (x_b 142) 29 = .ok (.ldc2_w 318, 3) := by decide +kernel
theorem x_lb32 : decode (x_b 142) 32 = .ok (.land, 1) := by decide +kernel
theorem x_lb33 : decode (x_b 142) 33 = .ok (.lstore_n 0, 1) := by decide +kernel
theorem x_lb34 : decode (x_b 142) 34 = .ok (.lload_n 0, 1) := by decide +kernel
theorem x_lb35 : decode (x_b 142) 35 = .ok (.lload_n 0, 1) := by decide +kernel
theorem x_lb36 : decode (x_b 142) 36 = .ok (.bipush 8, 2) := by decide +kernel
theorem x_lb38 : decode (x_b 142) 38 = .ok (.lushr, 1) := by decide +kernel
theorem x_lb39 : decode (x_b 142) 39 = .ok (.ladd, 1) := by decide +kernel
theorem x_lb40 : decode (x_b 142) 40 = .ok (.lstore_n 0, 1) := by decide +kernel
theorem x_lb41 : decode (x_b 142) 41 = .ok (.lload_n 0, 1) := by decide +kernel
theorem x_lb42 : decode (x_b 142) 42 = .ok (.lload_n 0, 1) := by decide +kernel
theorem x_lb43 : decode (x_b 142) 43 = .ok (.bipush 16, 2) := by decide +kernel
theorem x_lb45 : decode (x_b 142) 45 = .ok (.lushr, 1) := by decide +kernel
theorem x_lb46 : decode (x_b 142) 46 = .ok (.ladd, 1) := by decide +kernel
theorem x_lb47 : decode (x_b 142) 47 = .ok (.lstore_n 0, 1) := by decide +kernel
theorem x_lb48 : decode (x_b 142) 48 = .ok (.lload_n 0, 1) := by decide +kernel
theorem x_lb49 : decode (x_b 142) 49 = .ok (.lload_n 0, 1) := by decide +kernel
theorem x_lb50 : decode (x_b 142) 50 = .ok (.bipush 32, 2) := by decide +kernel
theorem x_lb52 : decode (x_b 142) 52 = .ok (.lushr, 1) := by decide +kernel
theorem x_lb53 : decode (x_b 142) 53 = .ok (.ladd, 1) := by decide +kernel
theorem x_lb54 : decode (x_b 142) 54 = .ok (.lstore_n 0, 1) := by decide +kernel
theorem x_lb55 : decode (x_b 142) 55 = .ok (.lload_n 0, 1) := by decide +kernel
theorem x_lb56 : decode (x_b 142) 56 = .ok (.l2i, 1) := by decide +kernel
theorem x_lb57 : decode (x_b 142) 57 = .ok (.bipush 127, 2) := by decide +kernel
theorem x_lb59 : decode (x_b 142) 59 = .ok (.iand, 1) := by decide +kernel
theorem x_lb60 : decode (x_b 142) 60 = .ok (.ireturn, 1) := by decide +kernel
set_option maxHeartbeats 4000000 in
set_option maxRecDepth 100000 in
theorem x_metB {l : Launch} {D : va_G} {tC : Nat → ClassId} (d : Nat) (M : xM) (x : Int64) : x_MetP l D tC d x_kB M [.long x] M (some (.int (x_bc x))) := by
  intro ad sz
  obtain ⟨g1, g2, -⟩ := x_g_ok 142 (by decide)
  refine va_MetF (cc := x_b 142) (maxL := 2) (ret := some .int) g2 rfl ?_
  intro p e s m args below meth c s₁ B hml hv
  obtain ⟨rfl, hsz, hP, hU, hD0⟩ := hv
  subst hsz
  have hx := B.exec
  have hb := B.bytes
  have hr := B.returns
  have hlocks := B.notSynchronized
  have hts0 := atoms_spec (ws := x_wk 142) B.pre
  have hts : ∀ w ∈ x_ws, w.before ([Value.long x].map (x_V ad)).toArray s = true := fun w hw => hts0 w (List.mem_cons_of_mem _ hw)
  have hown : s.vm.findClass (xR 12) = some m.cls := findClass_of_methodNamed B.named
  have hl := lv_entry ([.long x]) (n := 2) (Nat.le_of_ble_eq_true rfl)
  show W p l e _ s m _ below meth c s.heap [] 0 0 _ (entryFrame m ([.long x] : List Value).toArray 2)
  rw [lg_entry_eq]
  generalize (lg_sl ([.long x]) ++ List.replicate (2 - (lg_sl ([.long x])).length) Slot.unset).toArray = ls at hl ⊢
  have hl : lv_has ls 2 [(0, .long x)] := hl
  refine lv_lload_n hx hb x_lb0 rfl (lv_at hl 0 rfl) ?_
  refine lv_lload_n hx hb x_lb1 rfl (lv_at hl 0 rfl) ?_
  refine lv_iconst (v := 1) hx hb x_lb2 (by decide) ?_
  refine lv_lushr hx hb x_lb3 rfl ?_
  refine lv_ldc2 hx hb hown (hts _ x_L0) x_lb4 ?_
  refine lv_land hx hb x_lb7 ?_
  refine lv_lsub hx hb x_lb8 ?_
  refine lv_topl (fun a ea => ?_)
  have ea : a = x_bA x := ea
  refine lv_lstore_n hx hb x_lb9 rfl hl (by decide) rfl (fun ls hl => ?_)
  have hl : lv_has ls 2 [(0, .long a)] := hl
  refine lv_lload_n hx hb x_lb10 rfl (lv_at hl 0 rfl) ?_
  refine lv_ldc2 hx hb hown (hts _ x_L1) x_lb11 ?_
  refine lv_land hx hb x_lb14 ?_
  refine lv_lload_n hx hb x_lb15 rfl (lv_at hl 0 rfl) ?_
  refine lv_iconst (v := 2) hx hb x_lb16 (by decide) ?_
  refine lv_lushr hx hb x_lb17 rfl ?_
  refine lv_ldc2 hx hb hown (hts _ x_L1) x_lb18 ?_
  refine lv_land hx hb x_lb21 ?_
  refine lv_ladd hx hb x_lb22 ?_
  refine lv_topl (fun b eb => ?_)
  have eb : b = x_bB a := eb
  refine lv_lstore_n hx hb x_lb23 rfl hl (by decide) rfl (fun ls hl => ?_)
  have hl : lv_has ls 2 [(0, .long b)] := hl
  refine lv_lload_n hx hb x_lb24 rfl (lv_at hl 0 rfl) ?_
  refine lv_lload_n hx hb x_lb25 rfl (lv_at hl 0 rfl) ?_
  refine lv_iconst (v := 4) hx hb x_lb26 (by decide) ?_
  refine lv_lushr hx hb x_lb27 rfl ?_
  refine lv_ladd hx hb x_lb28 ?_
  refine lv_ldc2 hx hb hown (hts _ x_L2) x_lb29 ?_
  refine lv_land hx hb x_lb32 ?_
  refine lv_topl (fun cc ecc => ?_)
  have ecc : cc = x_bC b := ecc
  refine lv_lstore_n hx hb x_lb33 rfl hl (by decide) rfl (fun ls hl => ?_)
  have hl : lv_has ls 2 [(0, .long cc)] := hl
  refine lv_lload_n hx hb x_lb34 rfl (lv_at hl 0 rfl) ?_
  refine lv_lload_n hx hb x_lb35 rfl (lv_at hl 0 rfl) ?_
  refine lv_bipush (v := 8) hx hb x_lb36 (by decide) ?_
  refine lv_lushr hx hb x_lb38 rfl ?_
  refine lv_ladd hx hb x_lb39 ?_
  refine lv_topl (fun dd edd => ?_)
  have edd : dd = x_bD cc := edd
  refine lv_lstore_n hx hb x_lb40 rfl hl (by decide) rfl (fun ls hl => ?_)
  have hl : lv_has ls 2 [(0, .long dd)] := hl
  refine lv_lload_n hx hb x_lb41 rfl (lv_at hl 0 rfl) ?_
  refine lv_lload_n hx hb x_lb42 rfl (lv_at hl 0 rfl) ?_
  refine lv_bipush (v := 16) hx hb x_lb43 (by decide) ?_
  refine lv_lushr hx hb x_lb45 rfl ?_
  refine lv_ladd hx hb x_lb46 ?_
  refine lv_topl (fun ee eee => ?_)
  have eee : ee = x_bE dd := eee
  refine lv_lstore_n hx hb x_lb47 rfl hl (by decide) rfl (fun ls hl => ?_)
  have hl : lv_has ls 2 [(0, .long ee)] := hl
  refine lv_lload_n hx hb x_lb48 rfl (lv_at hl 0 rfl) ?_
  refine lv_lload_n hx hb x_lb49 rfl (lv_at hl 0 rfl) ?_
  refine lv_bipush (v := 32) hx hb x_lb50 (by decide) ?_
  refine lv_lushr hx hb x_lb52 rfl ?_
  refine lv_ladd hx hb x_lb53 ?_
  refine lv_topl (fun ff eff => ?_)
  have eff : ff = x_bF ee := eff
  refine lv_lstore_n hx hb x_lb54 rfl hl (by decide) rfl (fun ls hl => ?_)
  have hl : lv_has ls 2 [(0, .long ff)] := hl
  refine lv_lload_n hx hb x_lb55 rfl (lv_at hl 0 rfl) ?_
  refine lv_l2i hx hb x_lb56 rfl ?_
  refine lv_bipush (v := 127) hx hb x_lb57 (by decide) ?_
  refine lv_iand hx hb x_lb59 ?_
  have hcs : ∀ n : Nat, n - n = 0 := fun n => Nat.sub_self n
  have hfin : ff.toInt32 &&& 127 = x_bc x := by rw [eff, eee, edd, ecc, eb, ea]; rfl
  rw [hcs, hcs, hfin]
  exact W.iret (v := x_bc x) hx hb hr (fun t ht _ => ⟨ad, fun _ _ => rfl, rfl, by rw [ht]; exact hP, hD0.self, va_S.rf.F ht⟩) (fun _ h => by cases h) x_lb60
theorem x_snd {l : Launch} {D : va_G} {tC : Nat → ClassId} : ∀ d n k M as M1 v1, x_wM M → (∀ a ∈ as, x_wV M.1.length a) → x_go (d + 1) n k M as = some (M1, v1) → k < 146 ∧ x_MetP l D tC d k M as M1 v1 := x_sound (fun d M x _ => x_metB d M x)
end
section
/-! calls, by how many values they take -/
section XRL
variable {d k pc nx : Nat} {ls : xL} {M : xM} {Q Q' : xM → Option Value → Prop} {r : List Value} {c : Int32} {M1 : xM}
theorem Wp.S0 {ix kd k' ci : Nat} (hp : x_P k pc = some (.invokestatic ix, nx, c, [kd, k', ci, 0])) (hc : Nat.ble (r.map fun v => v.category).sum 8 = true) (he : Ev d k' M [] Q') (h : ∀ M' v, Q' M' v → Wp d k nx ls (v.toList ++ r) M' Q) : Wp d k pc ls (r) M Q := Wp.cs hp rfl rfl (Nat.le_of_ble_eq_true rfl) (Nat.le_of_ble_eq_true hc) he h
theorem Wp.S0i {ix kd k' ci : Nat} {w : Value} (hp : x_P k pc = some (.invokestatic ix, nx, c, [kd, k', ci, 0])) (hc : Nat.ble (r.map fun v => v.category).sum 8 = true) (he : Ev d k' M [] (fun M' v => M' = M1 ∧ v = some w)) (h : Wp d k nx ls (w :: r) M1 Q) : Wp d k pc ls (r) M Q := Wp.S0 hp hc he (fun M' v hq => by obtain ⟨rfl, rfl⟩ := hq; exact h)
theorem Wp.S0v {ix kd k' ci : Nat} (hp : x_P k pc = some (.invokestatic ix, nx, c, [kd, k', ci, 0])) (hc : Nat.ble (r.map fun v => v.category).sum 8 = true) (he : Ev d k' M [] (fun M' v => M' = M1 ∧ v = none)) (h : Wp d k nx ls r M1 Q) : Wp d k pc ls (r) M Q := Wp.S0 hp hc he (fun M' v hq => by obtain ⟨rfl, rfl⟩ := hq; exact h)
theorem Wp.V0 {ix k' ci b m : Nat} (hp : x_P k pc = some (.invokevirtual ix, nx, c, [0, k', ci, 1])) (hk : M.1[b]? = some (false, ci, m)) (hc : Nat.ble (r.map fun v => v.category).sum 8 = true) (he : Ev d k' M [.ref b] Q') (h : ∀ M' v, Q' M' v → Wp d k nx ls (v.toList ++ r) M' Q) : Wp d k pc ls (.ref b :: r) M Q := Wp.cv hp rfl rfl (Nat.le_of_ble_eq_true rfl) hk (Nat.le_of_ble_eq_true hc) he h
theorem Wp.V0i {ix k' ci b m : Nat} {w : Value} (hp : x_P k pc = some (.invokevirtual ix, nx, c, [0, k', ci, 1])) (hk : M.1[b]? = some (false, ci, m)) (hc : Nat.ble (r.map fun v => v.category).sum 8 = true) (he : Ev d k' M [.ref b] (fun M' v => M' = M1 ∧ v = some w)) (h : Wp d k nx ls (w :: r) M1 Q) : Wp d k pc ls (.ref b :: r) M Q := Wp.V0 hp hk hc he (fun M' v hq => by obtain ⟨rfl, rfl⟩ := hq; exact h)
theorem Wp.V0v {ix k' ci b m : Nat} (hp : x_P k pc = some (.invokevirtual ix, nx, c, [0, k', ci, 1])) (hk : M.1[b]? = some (false, ci, m)) (hc : Nat.ble (r.map fun v => v.category).sum 8 = true) (he : Ev d k' M [.ref b] (fun M' v => M' = M1 ∧ v = none)) (h : Wp d k nx ls r M1 Q) : Wp d k pc ls (.ref b :: r) M Q := Wp.V0 hp hk hc he (fun M' v hq => by obtain ⟨rfl, rfl⟩ := hq; exact h)
theorem Wp.I0 {ix kd k' ci b : Nat} (hp : x_P k pc = some (.invokespecial ix, nx, c, [kd, k', ci, 1])) (hkd : kd = 3 ∨ kd = 6) (hc : Nat.ble (r.map fun v => v.category).sum 8 = true) (he : Ev d k' M [.ref b] Q') (h : ∀ M' v, Q' M' v → Wp d k nx ls (v.toList ++ r) M' Q) : Wp d k pc ls (.ref b :: r) M Q := Wp.ci hp hkd rfl rfl (Nat.le_of_ble_eq_true rfl) (Nat.le_of_ble_eq_true hc) he h
theorem Wp.I0v {ix kd k' ci b : Nat} (hp : x_P k pc = some (.invokespecial ix, nx, c, [kd, k', ci, 1])) (hkd : kd = 3 ∨ kd = 6) (hc : Nat.ble (r.map fun v => v.category).sum 8 = true) (he : Ev d k' M [.ref b] (fun M' v => M' = M1 ∧ v = none)) (h : Wp d k nx ls r M1 Q) : Wp d k pc ls (.ref b :: r) M Q := Wp.I0 hp hkd hc he (fun M' v hq => by obtain ⟨rfl, rfl⟩ := hq; exact h)
theorem Wp.S1 {ix kd k' ci : Nat} {a1 : Value} (hp : x_P k pc = some (.invokestatic ix, nx, c, [kd, k', ci, 1])) (hc : Nat.ble (r.map fun v => v.category).sum 8 = true) (he : Ev d k' M [a1] Q') (h : ∀ M' v, Q' M' v → Wp d k nx ls (v.toList ++ r) M' Q) : Wp d k pc ls (a1 :: r) M Q := Wp.cs hp rfl rfl (Nat.le_of_ble_eq_true rfl) (Nat.le_of_ble_eq_true hc) he h
theorem Wp.S1i {ix kd k' ci : Nat} {a1 : Value} {w : Value} (hp : x_P k pc = some (.invokestatic ix, nx, c, [kd, k', ci, 1])) (hc : Nat.ble (r.map fun v => v.category).sum 8 = true) (he : Ev d k' M [a1] (fun M' v => M' = M1 ∧ v = some w)) (h : Wp d k nx ls (w :: r) M1 Q) : Wp d k pc ls (a1 :: r) M Q := Wp.S1 hp hc he (fun M' v hq => by obtain ⟨rfl, rfl⟩ := hq; exact h)
theorem Wp.S1v {ix kd k' ci : Nat} {a1 : Value} (hp : x_P k pc = some (.invokestatic ix, nx, c, [kd, k', ci, 1])) (hc : Nat.ble (r.map fun v => v.category).sum 8 = true) (he : Ev d k' M [a1] (fun M' v => M' = M1 ∧ v = none)) (h : Wp d k nx ls r M1 Q) : Wp d k pc ls (a1 :: r) M Q := Wp.S1 hp hc he (fun M' v hq => by obtain ⟨rfl, rfl⟩ := hq; exact h)
theorem Wp.V1 {ix k' ci b m : Nat} {a1 : Value} (hp : x_P k pc = some (.invokevirtual ix, nx, c, [0, k', ci, 2])) (hk : M.1[b]? = some (false, ci, m)) (hc : Nat.ble (r.map fun v => v.category).sum 8 = true) (he : Ev d k' M [.ref b, a1] Q') (h : ∀ M' v, Q' M' v → Wp d k nx ls (v.toList ++ r) M' Q) : Wp d k pc ls (a1 :: .ref b :: r) M Q := Wp.cv hp rfl rfl (Nat.le_of_ble_eq_true rfl) hk (Nat.le_of_ble_eq_true hc) he h
theorem Wp.V1i {ix k' ci b m : Nat} {a1 : Value} {w : Value} (hp : x_P k pc = some (.invokevirtual ix, nx, c, [0, k', ci, 2])) (hk : M.1[b]? = some (false, ci, m)) (hc : Nat.ble (r.map fun v => v.category).sum 8 = true) (he : Ev d k' M [.ref b, a1] (fun M' v => M' = M1 ∧ v = some w)) (h : Wp d k nx ls (w :: r) M1 Q) : Wp d k pc ls (a1 :: .ref b :: r) M Q := Wp.V1 hp hk hc he (fun M' v hq => by obtain ⟨rfl, rfl⟩ := hq; exact h)
theorem Wp.V1v {ix k' ci b m : Nat} {a1 : Value} (hp : x_P k pc = some (.invokevirtual ix, nx, c, [0, k', ci, 2])) (hk : M.1[b]? = some (false, ci, m)) (hc : Nat.ble (r.map fun v => v.category).sum 8 = true) (he : Ev d k' M [.ref b, a1] (fun M' v => M' = M1 ∧ v = none)) (h : Wp d k nx ls r M1 Q) : Wp d k pc ls (a1 :: .ref b :: r) M Q := Wp.V1 hp hk hc he (fun M' v hq => by obtain ⟨rfl, rfl⟩ := hq; exact h)
theorem Wp.I1 {ix kd k' ci b : Nat} {a1 : Value} (hp : x_P k pc = some (.invokespecial ix, nx, c, [kd, k', ci, 2])) (hkd : kd = 3 ∨ kd = 6) (hc : Nat.ble (r.map fun v => v.category).sum 8 = true) (he : Ev d k' M [.ref b, a1] Q') (h : ∀ M' v, Q' M' v → Wp d k nx ls (v.toList ++ r) M' Q) : Wp d k pc ls (a1 :: .ref b :: r) M Q := Wp.ci hp hkd rfl rfl (Nat.le_of_ble_eq_true rfl) (Nat.le_of_ble_eq_true hc) he h
theorem Wp.I1v {ix kd k' ci b : Nat} {a1 : Value} (hp : x_P k pc = some (.invokespecial ix, nx, c, [kd, k', ci, 2])) (hkd : kd = 3 ∨ kd = 6) (hc : Nat.ble (r.map fun v => v.category).sum 8 = true) (he : Ev d k' M [.ref b, a1] (fun M' v => M' = M1 ∧ v = none)) (h : Wp d k nx ls r M1 Q) : Wp d k pc ls (a1 :: .ref b :: r) M Q := Wp.I1 hp hkd hc he (fun M' v hq => by obtain ⟨rfl, rfl⟩ := hq; exact h)
theorem Wp.S2 {ix kd k' ci : Nat} {a1 a2 : Value} (hp : x_P k pc = some (.invokestatic ix, nx, c, [kd, k', ci, 2])) (hc : Nat.ble (r.map fun v => v.category).sum 8 = true) (he : Ev d k' M [a1, a2] Q') (h : ∀ M' v, Q' M' v → Wp d k nx ls (v.toList ++ r) M' Q) : Wp d k pc ls (a2 :: a1 :: r) M Q := Wp.cs hp rfl rfl (Nat.le_of_ble_eq_true rfl) (Nat.le_of_ble_eq_true hc) he h
theorem Wp.S2i {ix kd k' ci : Nat} {a1 a2 : Value} {w : Value} (hp : x_P k pc = some (.invokestatic ix, nx, c, [kd, k', ci, 2])) (hc : Nat.ble (r.map fun v => v.category).sum 8 = true) (he : Ev d k' M [a1, a2] (fun M' v => M' = M1 ∧ v = some w)) (h : Wp d k nx ls (w :: r) M1 Q) : Wp d k pc ls (a2 :: a1 :: r) M Q := Wp.S2 hp hc he (fun M' v hq => by obtain ⟨rfl, rfl⟩ := hq; exact h)
theorem Wp.S2v {ix kd k' ci : Nat} {a1 a2 : Value} (hp : x_P k pc = some (.invokestatic ix, nx, c, [kd, k', ci, 2])) (hc : Nat.ble (r.map fun v => v.category).sum 8 = true) (he : Ev d k' M [a1, a2] (fun M' v => M' = M1 ∧ v = none)) (h : Wp d k nx ls r M1 Q) : Wp d k pc ls (a2 :: a1 :: r) M Q := Wp.S2 hp hc he (fun M' v hq => by obtain ⟨rfl, rfl⟩ := hq; exact h)
theorem Wp.V2 {ix k' ci b m : Nat} {a1 a2 : Value} (hp : x_P k pc = some (.invokevirtual ix, nx, c, [0, k', ci, 3])) (hk : M.1[b]? = some (false, ci, m)) (hc : Nat.ble (r.map fun v => v.category).sum 8 = true) (he : Ev d k' M [.ref b, a1, a2] Q') (h : ∀ M' v, Q' M' v → Wp d k nx ls (v.toList ++ r) M' Q) : Wp d k pc ls (a2 :: a1 :: .ref b :: r) M Q := Wp.cv hp rfl rfl (Nat.le_of_ble_eq_true rfl) hk (Nat.le_of_ble_eq_true hc) he h
theorem Wp.V2i {ix k' ci b m : Nat} {a1 a2 : Value} {w : Value} (hp : x_P k pc = some (.invokevirtual ix, nx, c, [0, k', ci, 3])) (hk : M.1[b]? = some (false, ci, m)) (hc : Nat.ble (r.map fun v => v.category).sum 8 = true) (he : Ev d k' M [.ref b, a1, a2] (fun M' v => M' = M1 ∧ v = some w)) (h : Wp d k nx ls (w :: r) M1 Q) : Wp d k pc ls (a2 :: a1 :: .ref b :: r) M Q := Wp.V2 hp hk hc he (fun M' v hq => by obtain ⟨rfl, rfl⟩ := hq; exact h)
theorem Wp.V2v {ix k' ci b m : Nat} {a1 a2 : Value} (hp : x_P k pc = some (.invokevirtual ix, nx, c, [0, k', ci, 3])) (hk : M.1[b]? = some (false, ci, m)) (hc : Nat.ble (r.map fun v => v.category).sum 8 = true) (he : Ev d k' M [.ref b, a1, a2] (fun M' v => M' = M1 ∧ v = none)) (h : Wp d k nx ls r M1 Q) : Wp d k pc ls (a2 :: a1 :: .ref b :: r) M Q := Wp.V2 hp hk hc he (fun M' v hq => by obtain ⟨rfl, rfl⟩ := hq; exact h)
theorem Wp.I2 {ix kd k' ci b : Nat} {a1 a2 : Value} (hp : x_P k pc = some (.invokespecial ix, nx, c, [kd, k', ci, 3])) (hkd : kd = 3 ∨ kd = 6) (hc : Nat.ble (r.map fun v => v.category).sum 8 = true) (he : Ev d k' M [.ref b, a1, a2] Q') (h : ∀ M' v, Q' M' v → Wp d k nx ls (v.toList ++ r) M' Q) : Wp d k pc ls (a2 :: a1 :: .ref b :: r) M Q := Wp.ci hp hkd rfl rfl (Nat.le_of_ble_eq_true rfl) (Nat.le_of_ble_eq_true hc) he h
theorem Wp.I2v {ix kd k' ci b : Nat} {a1 a2 : Value} (hp : x_P k pc = some (.invokespecial ix, nx, c, [kd, k', ci, 3])) (hkd : kd = 3 ∨ kd = 6) (hc : Nat.ble (r.map fun v => v.category).sum 8 = true) (he : Ev d k' M [.ref b, a1, a2] (fun M' v => M' = M1 ∧ v = none)) (h : Wp d k nx ls r M1 Q) : Wp d k pc ls (a2 :: a1 :: .ref b :: r) M Q := Wp.I2 hp hkd hc he (fun M' v hq => by obtain ⟨rfl, rfl⟩ := hq; exact h)
theorem Wp.S3 {ix kd k' ci : Nat} {a1 a2 a3 : Value} (hp : x_P k pc = some (.invokestatic ix, nx, c, [kd, k', ci, 3])) (hc : Nat.ble (r.map fun v => v.category).sum 8 = true) (he : Ev d k' M [a1, a2, a3] Q') (h : ∀ M' v, Q' M' v → Wp d k nx ls (v.toList ++ r) M' Q) : Wp d k pc ls (a3 :: a2 :: a1 :: r) M Q := Wp.cs hp rfl rfl (Nat.le_of_ble_eq_true rfl) (Nat.le_of_ble_eq_true hc) he h
theorem Wp.S3i {ix kd k' ci : Nat} {a1 a2 a3 : Value} {w : Value} (hp : x_P k pc = some (.invokestatic ix, nx, c, [kd, k', ci, 3])) (hc : Nat.ble (r.map fun v => v.category).sum 8 = true) (he : Ev d k' M [a1, a2, a3] (fun M' v => M' = M1 ∧ v = some w)) (h : Wp d k nx ls (w :: r) M1 Q) : Wp d k pc ls (a3 :: a2 :: a1 :: r) M Q := Wp.S3 hp hc he (fun M' v hq => by obtain ⟨rfl, rfl⟩ := hq; exact h)
theorem Wp.S3v {ix kd k' ci : Nat} {a1 a2 a3 : Value} (hp : x_P k pc = some (.invokestatic ix, nx, c, [kd, k', ci, 3])) (hc : Nat.ble (r.map fun v => v.category).sum 8 = true) (he : Ev d k' M [a1, a2, a3] (fun M' v => M' = M1 ∧ v = none)) (h : Wp d k nx ls r M1 Q) : Wp d k pc ls (a3 :: a2 :: a1 :: r) M Q := Wp.S3 hp hc he (fun M' v hq => by obtain ⟨rfl, rfl⟩ := hq; exact h)
theorem Wp.V3 {ix k' ci b m : Nat} {a1 a2 a3 : Value} (hp : x_P k pc = some (.invokevirtual ix, nx, c, [0, k', ci, 4])) (hk : M.1[b]? = some (false, ci, m)) (hc : Nat.ble (r.map fun v => v.category).sum 8 = true) (he : Ev d k' M [.ref b, a1, a2, a3] Q') (h : ∀ M' v, Q' M' v → Wp d k nx ls (v.toList ++ r) M' Q) : Wp d k pc ls (a3 :: a2 :: a1 :: .ref b :: r) M Q := Wp.cv hp rfl rfl (Nat.le_of_ble_eq_true rfl) hk (Nat.le_of_ble_eq_true hc) he h
theorem Wp.V3i {ix k' ci b m : Nat} {a1 a2 a3 : Value} {w : Value} (hp : x_P k pc = some (.invokevirtual ix, nx, c, [0, k', ci, 4])) (hk : M.1[b]? = some (false, ci, m)) (hc : Nat.ble (r.map fun v => v.category).sum 8 = true) (he : Ev d k' M [.ref b, a1, a2, a3] (fun M' v => M' = M1 ∧ v = some w)) (h : Wp d k nx ls (w :: r) M1 Q) : Wp d k pc ls (a3 :: a2 :: a1 :: .ref b :: r) M Q := Wp.V3 hp hk hc he (fun M' v hq => by obtain ⟨rfl, rfl⟩ := hq; exact h)
theorem Wp.V3v {ix k' ci b m : Nat} {a1 a2 a3 : Value} (hp : x_P k pc = some (.invokevirtual ix, nx, c, [0, k', ci, 4])) (hk : M.1[b]? = some (false, ci, m)) (hc : Nat.ble (r.map fun v => v.category).sum 8 = true) (he : Ev d k' M [.ref b, a1, a2, a3] (fun M' v => M' = M1 ∧ v = none)) (h : Wp d k nx ls r M1 Q) : Wp d k pc ls (a3 :: a2 :: a1 :: .ref b :: r) M Q := Wp.V3 hp hk hc he (fun M' v hq => by obtain ⟨rfl, rfl⟩ := hq; exact h)
theorem Wp.I3 {ix kd k' ci b : Nat} {a1 a2 a3 : Value} (hp : x_P k pc = some (.invokespecial ix, nx, c, [kd, k', ci, 4])) (hkd : kd = 3 ∨ kd = 6) (hc : Nat.ble (r.map fun v => v.category).sum 8 = true) (he : Ev d k' M [.ref b, a1, a2, a3] Q') (h : ∀ M' v, Q' M' v → Wp d k nx ls (v.toList ++ r) M' Q) : Wp d k pc ls (a3 :: a2 :: a1 :: .ref b :: r) M Q := Wp.ci hp hkd rfl rfl (Nat.le_of_ble_eq_true rfl) (Nat.le_of_ble_eq_true hc) he h
theorem Wp.I3v {ix kd k' ci b : Nat} {a1 a2 a3 : Value} (hp : x_P k pc = some (.invokespecial ix, nx, c, [kd, k', ci, 4])) (hkd : kd = 3 ∨ kd = 6) (hc : Nat.ble (r.map fun v => v.category).sum 8 = true) (he : Ev d k' M [.ref b, a1, a2, a3] (fun M' v => M' = M1 ∧ v = none)) (h : Wp d k nx ls r M1 Q) : Wp d k pc ls (a3 :: a2 :: a1 :: .ref b :: r) M Q := Wp.I3 hp hkd hc he (fun M' v hq => by obtain ⟨rfl, rfl⟩ := hq; exact h)
theorem Wp.S4 {ix kd k' ci : Nat} {a1 a2 a3 a4 : Value} (hp : x_P k pc = some (.invokestatic ix, nx, c, [kd, k', ci, 4])) (hc : Nat.ble (r.map fun v => v.category).sum 8 = true) (he : Ev d k' M [a1, a2, a3, a4] Q') (h : ∀ M' v, Q' M' v → Wp d k nx ls (v.toList ++ r) M' Q) : Wp d k pc ls (a4 :: a3 :: a2 :: a1 :: r) M Q := Wp.cs hp rfl rfl (Nat.le_of_ble_eq_true rfl) (Nat.le_of_ble_eq_true hc) he h
theorem Wp.S4i {ix kd k' ci : Nat} {a1 a2 a3 a4 : Value} {w : Value} (hp : x_P k pc = some (.invokestatic ix, nx, c, [kd, k', ci, 4])) (hc : Nat.ble (r.map fun v => v.category).sum 8 = true) (he : Ev d k' M [a1, a2, a3, a4] (fun M' v => M' = M1 ∧ v = some w)) (h : Wp d k nx ls (w :: r) M1 Q) : Wp d k pc ls (a4 :: a3 :: a2 :: a1 :: r) M Q := Wp.S4 hp hc he (fun M' v hq => by obtain ⟨rfl, rfl⟩ := hq; exact h)
theorem Wp.S4v {ix kd k' ci : Nat} {a1 a2 a3 a4 : Value} (hp : x_P k pc = some (.invokestatic ix, nx, c, [kd, k', ci, 4])) (hc : Nat.ble (r.map fun v => v.category).sum 8 = true) (he : Ev d k' M [a1, a2, a3, a4] (fun M' v => M' = M1 ∧ v = none)) (h : Wp d k nx ls r M1 Q) : Wp d k pc ls (a4 :: a3 :: a2 :: a1 :: r) M Q := Wp.S4 hp hc he (fun M' v hq => by obtain ⟨rfl, rfl⟩ := hq; exact h)
theorem Wp.V4 {ix k' ci b m : Nat} {a1 a2 a3 a4 : Value} (hp : x_P k pc = some (.invokevirtual ix, nx, c, [0, k', ci, 5])) (hk : M.1[b]? = some (false, ci, m)) (hc : Nat.ble (r.map fun v => v.category).sum 8 = true) (he : Ev d k' M [.ref b, a1, a2, a3, a4] Q') (h : ∀ M' v, Q' M' v → Wp d k nx ls (v.toList ++ r) M' Q) : Wp d k pc ls (a4 :: a3 :: a2 :: a1 :: .ref b :: r) M Q := Wp.cv hp rfl rfl (Nat.le_of_ble_eq_true rfl) hk (Nat.le_of_ble_eq_true hc) he h
theorem Wp.V4i {ix k' ci b m : Nat} {a1 a2 a3 a4 : Value} {w : Value} (hp : x_P k pc = some (.invokevirtual ix, nx, c, [0, k', ci, 5])) (hk : M.1[b]? = some (false, ci, m)) (hc : Nat.ble (r.map fun v => v.category).sum 8 = true) (he : Ev d k' M [.ref b, a1, a2, a3, a4] (fun M' v => M' = M1 ∧ v = some w)) (h : Wp d k nx ls (w :: r) M1 Q) : Wp d k pc ls (a4 :: a3 :: a2 :: a1 :: .ref b :: r) M Q := Wp.V4 hp hk hc he (fun M' v hq => by obtain ⟨rfl, rfl⟩ := hq; exact h)
theorem Wp.V4v {ix k' ci b m : Nat} {a1 a2 a3 a4 : Value} (hp : x_P k pc = some (.invokevirtual ix, nx, c, [0, k', ci, 5])) (hk : M.1[b]? = some (false, ci, m)) (hc : Nat.ble (r.map fun v => v.category).sum 8 = true) (he : Ev d k' M [.ref b, a1, a2, a3, a4] (fun M' v => M' = M1 ∧ v = none)) (h : Wp d k nx ls r M1 Q) : Wp d k pc ls (a4 :: a3 :: a2 :: a1 :: .ref b :: r) M Q := Wp.V4 hp hk hc he (fun M' v hq => by obtain ⟨rfl, rfl⟩ := hq; exact h)
theorem Wp.I4 {ix kd k' ci b : Nat} {a1 a2 a3 a4 : Value} (hp : x_P k pc = some (.invokespecial ix, nx, c, [kd, k', ci, 5])) (hkd : kd = 3 ∨ kd = 6) (hc : Nat.ble (r.map fun v => v.category).sum 8 = true) (he : Ev d k' M [.ref b, a1, a2, a3, a4] Q') (h : ∀ M' v, Q' M' v → Wp d k nx ls (v.toList ++ r) M' Q) : Wp d k pc ls (a4 :: a3 :: a2 :: a1 :: .ref b :: r) M Q := Wp.ci hp hkd rfl rfl (Nat.le_of_ble_eq_true rfl) (Nat.le_of_ble_eq_true hc) he h
theorem Wp.I4v {ix kd k' ci b : Nat} {a1 a2 a3 a4 : Value} (hp : x_P k pc = some (.invokespecial ix, nx, c, [kd, k', ci, 5])) (hkd : kd = 3 ∨ kd = 6) (hc : Nat.ble (r.map fun v => v.category).sum 8 = true) (he : Ev d k' M [.ref b, a1, a2, a3, a4] (fun M' v => M' = M1 ∧ v = none)) (h : Wp d k nx ls r M1 Q) : Wp d k pc ls (a4 :: a3 :: a2 :: a1 :: .ref b :: r) M Q := Wp.I4 hp hkd hc he (fun M' v hq => by obtain ⟨rfl, rfl⟩ := hq; exact h)
theorem Wp.V5 {ix k' ci b m : Nat} {a1 a2 a3 a4 a5 : Value} (hp : x_P k pc = some (.invokevirtual ix, nx, c, [0, k', ci, 6])) (hk : M.1[b]? = some (false, ci, m)) (hc : Nat.ble (r.map fun v => v.category).sum 8 = true) (he : Ev d k' M [.ref b, a1, a2, a3, a4, a5] Q') (h : ∀ M' v, Q' M' v → Wp d k nx ls (v.toList ++ r) M' Q) : Wp d k pc ls (a5 :: a4 :: a3 :: a2 :: a1 :: .ref b :: r) M Q := Wp.cv hp rfl rfl (Nat.le_of_ble_eq_true rfl) hk (Nat.le_of_ble_eq_true hc) he h
theorem Wp.V5i {ix k' ci b m : Nat} {a1 a2 a3 a4 a5 : Value} {w : Value} (hp : x_P k pc = some (.invokevirtual ix, nx, c, [0, k', ci, 6])) (hk : M.1[b]? = some (false, ci, m)) (hc : Nat.ble (r.map fun v => v.category).sum 8 = true) (he : Ev d k' M [.ref b, a1, a2, a3, a4, a5] (fun M' v => M' = M1 ∧ v = some w)) (h : Wp d k nx ls (w :: r) M1 Q) : Wp d k pc ls (a5 :: a4 :: a3 :: a2 :: a1 :: .ref b :: r) M Q := Wp.V5 hp hk hc he (fun M' v hq => by obtain ⟨rfl, rfl⟩ := hq; exact h)
theorem Wp.V5v {ix k' ci b m : Nat} {a1 a2 a3 a4 a5 : Value} (hp : x_P k pc = some (.invokevirtual ix, nx, c, [0, k', ci, 6])) (hk : M.1[b]? = some (false, ci, m)) (hc : Nat.ble (r.map fun v => v.category).sum 8 = true) (he : Ev d k' M [.ref b, a1, a2, a3, a4, a5] (fun M' v => M' = M1 ∧ v = none)) (h : Wp d k nx ls r M1 Q) : Wp d k pc ls (a5 :: a4 :: a3 :: a2 :: a1 :: .ref b :: r) M Q := Wp.V5 hp hk hc he (fun M' v hq => by obtain ⟨rfl, rfl⟩ := hq; exact h)
theorem Wp.I5 {ix kd k' ci b : Nat} {a1 a2 a3 a4 a5 : Value} (hp : x_P k pc = some (.invokespecial ix, nx, c, [kd, k', ci, 6])) (hkd : kd = 3 ∨ kd = 6) (hc : Nat.ble (r.map fun v => v.category).sum 8 = true) (he : Ev d k' M [.ref b, a1, a2, a3, a4, a5] Q') (h : ∀ M' v, Q' M' v → Wp d k nx ls (v.toList ++ r) M' Q) : Wp d k pc ls (a5 :: a4 :: a3 :: a2 :: a1 :: .ref b :: r) M Q := Wp.ci hp hkd rfl rfl (Nat.le_of_ble_eq_true rfl) (Nat.le_of_ble_eq_true hc) he h
theorem Wp.I5v {ix kd k' ci b : Nat} {a1 a2 a3 a4 a5 : Value} (hp : x_P k pc = some (.invokespecial ix, nx, c, [kd, k', ci, 6])) (hkd : kd = 3 ∨ kd = 6) (hc : Nat.ble (r.map fun v => v.category).sum 8 = true) (he : Ev d k' M [.ref b, a1, a2, a3, a4, a5] (fun M' v => M' = M1 ∧ v = none)) (h : Wp d k nx ls r M1 Q) : Wp d k pc ls (a5 :: a4 :: a3 :: a2 :: a1 :: .ref b :: r) M Q := Wp.I5 hp hkd hc he (fun M' v hq => by obtain ⟨rfl, rfl⟩ := hq; exact h)
theorem Wp.V6 {ix k' ci b m : Nat} {a1 a2 a3 a4 a5 a6 : Value} (hp : x_P k pc = some (.invokevirtual ix, nx, c, [0, k', ci, 7])) (hk : M.1[b]? = some (false, ci, m)) (hc : Nat.ble (r.map fun v => v.category).sum 8 = true) (he : Ev d k' M [.ref b, a1, a2, a3, a4, a5, a6] Q') (h : ∀ M' v, Q' M' v → Wp d k nx ls (v.toList ++ r) M' Q) : Wp d k pc ls (a6 :: a5 :: a4 :: a3 :: a2 :: a1 :: .ref b :: r) M Q := Wp.cv hp rfl rfl (Nat.le_of_ble_eq_true rfl) hk (Nat.le_of_ble_eq_true hc) he h
theorem Wp.V6i {ix k' ci b m : Nat} {a1 a2 a3 a4 a5 a6 : Value} {w : Value} (hp : x_P k pc = some (.invokevirtual ix, nx, c, [0, k', ci, 7])) (hk : M.1[b]? = some (false, ci, m)) (hc : Nat.ble (r.map fun v => v.category).sum 8 = true) (he : Ev d k' M [.ref b, a1, a2, a3, a4, a5, a6] (fun M' v => M' = M1 ∧ v = some w)) (h : Wp d k nx ls (w :: r) M1 Q) : Wp d k pc ls (a6 :: a5 :: a4 :: a3 :: a2 :: a1 :: .ref b :: r) M Q := Wp.V6 hp hk hc he (fun M' v hq => by obtain ⟨rfl, rfl⟩ := hq; exact h)
theorem Wp.V6v {ix k' ci b m : Nat} {a1 a2 a3 a4 a5 a6 : Value} (hp : x_P k pc = some (.invokevirtual ix, nx, c, [0, k', ci, 7])) (hk : M.1[b]? = some (false, ci, m)) (hc : Nat.ble (r.map fun v => v.category).sum 8 = true) (he : Ev d k' M [.ref b, a1, a2, a3, a4, a5, a6] (fun M' v => M' = M1 ∧ v = none)) (h : Wp d k nx ls r M1 Q) : Wp d k pc ls (a6 :: a5 :: a4 :: a3 :: a2 :: a1 :: .ref b :: r) M Q := Wp.V6 hp hk hc he (fun M' v hq => by obtain ⟨rfl, rfl⟩ := hq; exact h)
theorem Wp.I6 {ix kd k' ci b : Nat} {a1 a2 a3 a4 a5 a6 : Value} (hp : x_P k pc = some (.invokespecial ix, nx, c, [kd, k', ci, 7])) (hkd : kd = 3 ∨ kd = 6) (hc : Nat.ble (r.map fun v => v.category).sum 8 = true) (he : Ev d k' M [.ref b, a1, a2, a3, a4, a5, a6] Q') (h : ∀ M' v, Q' M' v → Wp d k nx ls (v.toList ++ r) M' Q) : Wp d k pc ls (a6 :: a5 :: a4 :: a3 :: a2 :: a1 :: .ref b :: r) M Q := Wp.ci hp hkd rfl rfl (Nat.le_of_ble_eq_true rfl) (Nat.le_of_ble_eq_true hc) he h
theorem Wp.I6v {ix kd k' ci b : Nat} {a1 a2 a3 a4 a5 a6 : Value} (hp : x_P k pc = some (.invokespecial ix, nx, c, [kd, k', ci, 7])) (hkd : kd = 3 ∨ kd = 6) (hc : Nat.ble (r.map fun v => v.category).sum 8 = true) (he : Ev d k' M [.ref b, a1, a2, a3, a4, a5, a6] (fun M' v => M' = M1 ∧ v = none)) (h : Wp d k nx ls r M1 Q) : Wp d k pc ls (a6 :: a5 :: a4 :: a3 :: a2 :: a1 :: .ref b :: r) M Q := Wp.I6 hp hkd hc he (fun M' v hq => by obtain ⟨rfl, rfl⟩ := hq; exact h)
theorem Wp.V7 {ix k' ci b m : Nat} {a1 a2 a3 a4 a5 a6 a7 : Value} (hp : x_P k pc = some (.invokevirtual ix, nx, c, [0, k', ci, 8])) (hk : M.1[b]? = some (false, ci, m)) (hc : Nat.ble (r.map fun v => v.category).sum 8 = true) (he : Ev d k' M [.ref b, a1, a2, a3, a4, a5, a6, a7] Q') (h : ∀ M' v, Q' M' v → Wp d k nx ls (v.toList ++ r) M' Q) : Wp d k pc ls (a7 :: a6 :: a5 :: a4 :: a3 :: a2 :: a1 :: .ref b :: r) M Q := Wp.cv hp rfl rfl (Nat.le_of_ble_eq_true rfl) hk (Nat.le_of_ble_eq_true hc) he h
theorem Wp.V7i {ix k' ci b m : Nat} {a1 a2 a3 a4 a5 a6 a7 : Value} {w : Value} (hp : x_P k pc = some (.invokevirtual ix, nx, c, [0, k', ci, 8])) (hk : M.1[b]? = some (false, ci, m)) (hc : Nat.ble (r.map fun v => v.category).sum 8 = true) (he : Ev d k' M [.ref b, a1, a2, a3, a4, a5, a6, a7] (fun M' v => M' = M1 ∧ v = some w)) (h : Wp d k nx ls (w :: r) M1 Q) : Wp d k pc ls (a7 :: a6 :: a5 :: a4 :: a3 :: a2 :: a1 :: .ref b :: r) M Q := Wp.V7 hp hk hc he (fun M' v hq => by obtain ⟨rfl, rfl⟩ := hq; exact h)
theorem Wp.V7v {ix k' ci b m : Nat} {a1 a2 a3 a4 a5 a6 a7 : Value} (hp : x_P k pc = some (.invokevirtual ix, nx, c, [0, k', ci, 8])) (hk : M.1[b]? = some (false, ci, m)) (hc : Nat.ble (r.map fun v => v.category).sum 8 = true) (he : Ev d k' M [.ref b, a1, a2, a3, a4, a5, a6, a7] (fun M' v => M' = M1 ∧ v = none)) (h : Wp d k nx ls r M1 Q) : Wp d k pc ls (a7 :: a6 :: a5 :: a4 :: a3 :: a2 :: a1 :: .ref b :: r) M Q := Wp.V7 hp hk hc he (fun M' v hq => by obtain ⟨rfl, rfl⟩ := hq; exact h)
theorem Wp.I7 {ix kd k' ci b : Nat} {a1 a2 a3 a4 a5 a6 a7 : Value} (hp : x_P k pc = some (.invokespecial ix, nx, c, [kd, k', ci, 8])) (hkd : kd = 3 ∨ kd = 6) (hc : Nat.ble (r.map fun v => v.category).sum 8 = true) (he : Ev d k' M [.ref b, a1, a2, a3, a4, a5, a6, a7] Q') (h : ∀ M' v, Q' M' v → Wp d k nx ls (v.toList ++ r) M' Q) : Wp d k pc ls (a7 :: a6 :: a5 :: a4 :: a3 :: a2 :: a1 :: .ref b :: r) M Q := Wp.ci hp hkd rfl rfl (Nat.le_of_ble_eq_true rfl) (Nat.le_of_ble_eq_true hc) he h
theorem Wp.I7v {ix kd k' ci b : Nat} {a1 a2 a3 a4 a5 a6 a7 : Value} (hp : x_P k pc = some (.invokespecial ix, nx, c, [kd, k', ci, 8])) (hkd : kd = 3 ∨ kd = 6) (hc : Nat.ble (r.map fun v => v.category).sum 8 = true) (he : Ev d k' M [.ref b, a1, a2, a3, a4, a5, a6, a7] (fun M' v => M' = M1 ∧ v = none)) (h : Wp d k nx ls r M1 Q) : Wp d k pc ls (a7 :: a6 :: a5 :: a4 :: a3 :: a2 :: a1 :: .ref b :: r) M Q := Wp.I7 hp hkd hc he (fun M' v hq => by obtain ⟨rfl, rfl⟩ := hq; exact h)
end XRL
end
section
/-! the two constructors, by reckoning: the cells that they make, where they point, what they hold -/
def x_Ka : List xK := [(false, 9, 3), (false, 1, 2), (true, 2, 41), (false, 4, 2), (true, 3, 32), (true, 4, 5), (false, 7, 7), (true, 0, 4), (true, 0, 41), (false, 5, 10), (false, 8, 2), (true, 0, 25), (true, 0, 25), (false, 2, 1), (true, 0, 25), (false, 0, 5), (false, 8, 2), (true, 0, 25), (true, 0, 25), (false, 2, 1), (true, 0, 25), (true, 0, 25), (false, 5, 10), (false, 8, 2), (true, 0, 25), (true, 0, 25), (false, 2, 1), (true, 0, 25), (false, 0, 5), (false, 8, 2), (true, 0, 25), (true, 0, 25), (false, 2, 1), (true, 0, 25), (true, 0, 25), (false, 5, 10), (false, 8, 2), (true, 0, 25), (true, 0, 25), (false, 2, 1), (true, 0, 25), (false, 0, 5), (false, 8, 2), (true, 0, 25), (true, 0, 25), (false, 2, 1), (true, 0, 25), (true, 0, 25), (false, 5, 10), (false, 8, 2), (true, 0, 25), (true, 0, 25), (false, 2, 1), (true, 0, 25), (false, 0, 5), (false, 8, 2), (true, 0, 25), (true, 0, 25), (false, 2, 1), (true, 0, 25), (true, 0, 25), (false, 5, 10), (false, 8, 2), (true, 0, 25), (true, 0, 25), (false, 2, 1), (true, 0, 25), (false, 0, 5), (false, 8, 2), (true, 0, 25), (true, 0, 25), (false, 2, 1), (true, 0, 25), (true, 0, 25)]
def x_Kb : List xK := [(false, 10, 42), (true, 0, 41), (true, 0, 41), (true, 0, 41), (true, 0, 41), (true, 0, 41), (true, 0, 25), (true, 0, 5), (true, 0, 5), (true, 0, 5), (true, 0, 5), (true, 0, 125), (true, 0, 125), (true, 0, 5), (true, 0, 5), (true, 0, 125), (true, 0, 125), (true, 0, 125), (true, 0, 125), (true, 0, 32), (true, 0, 32), (true, 0, 32), (true, 0, 32), (true, 0, 32), (true, 0, 32), (true, 0, 32), (true, 0, 800), (true, 0, 800), (true, 0, 25), (true, 0, 25), (true, 0, 4), (true, 1, 41), (true, 0, 41), (true, 0, 25)]
def x_K0 : List xK := x_Ka ++ x_Kb
def x_Ra : List (Nat × Nat × Nat) := [(0, 0, 1), (0, 1, 3), (0, 2, 5), (1, 0, 2), (3, 0, 4), (5, 0, 9), (9, 1, 1), (9, 2, 3), (9, 5, 10), (9, 6, 6), (9, 7, 6), (9, 8, 13), (9, 9, 15), (10, 0, 11), (10, 1, 12), (13, 0, 14), (15, 2, 16), (15, 3, 19), (15, 4, 21), (16, 0, 17), (16, 1, 18), (19, 0, 20), (5, 1, 22), (22, 1, 1), (22, 2, 3), (22, 5, 23), (22, 6, 6), (22, 7, 6), (22, 8, 26), (22, 9, 28), (23, 0, 24), (23, 1, 25), (26, 0, 27), (28, 2, 29), (28, 3, 32), (28, 4, 34), (29, 0, 30), (29, 1, 31), (32, 0, 33), (5, 2, 35), (35, 1, 1), (35, 2, 3), (35, 5, 36), (35, 6, 6), (35, 7, 6), (35, 8, 39), (35, 9, 41), (36, 0, 37), (36, 1, 38), (39, 0, 40), (41, 2, 42), (41, 3, 45), (41, 4, 47), (42, 0, 43), (42, 1, 44), (45, 0, 46), (5, 3, 48), (48, 1, 1), (48, 2, 3), (48, 5, 49), (48, 6, 6), (48, 7, 6), (48, 8, 52), (48, 9, 54), (49, 0, 50), (49, 1, 51), (52, 0, 53), (54, 2, 55), (54, 3, 58), (54, 4, 60), (55, 0, 56), (55, 1, 57), (58, 0, 59), (5, 4, 61), (61, 1, 1), (61, 2, 3), (61, 5, 62), (61, 6, 6), (61, 7, 6), (61, 8, 65), (61, 9, 67), (62, 0, 63), (62, 1, 64), (65, 0, 66), (67, 2, 68), (67, 3, 71), (67, 4, 73), (68, 0, 69), (68, 1, 70), (71, 0, 72), (6, 1, 7), (6, 2, 8)]
def x_Rb : List (Nat × Nat × Nat) := [(74, 1, 75), (74, 2, 76), (74, 3, 77), (74, 4, 78), (74, 5, 79), (74, 6, 80), (74, 8, 81), (74, 9, 82), (74, 10, 83), (74, 11, 84), (74, 12, 85), (74, 13, 86), (74, 14, 87), (74, 15, 88), (74, 16, 89), (74, 17, 90), (74, 18, 91), (74, 19, 92), (74, 22, 93), (74, 23, 94), (74, 24, 95), (74, 25, 96), (74, 26, 97), (74, 27, 98), (74, 28, 99), (74, 29, 100), (74, 30, 101), (74, 36, 102), (74, 37, 103), (74, 38, 104), (74, 39, 105), (74, 40, 106), (74, 41, 107)]
def x_M0 : xM := ([], fun _ _ => 0, fun _ _ => 0, fun _ _ => none)
def x_Mi : xM := x_new x_M0 (false, 9, 3)
set_option maxRecDepth 100000 in
theorem x_ini1 : (match x_go 9 2000 73 x_Mi [.ref 0] with
  | some (M, none) => decide (M.1 = x_Ka)
  | _ => false) = true := by decide +kernel
end
section
/-! the reference: it makes no cell and changes ints alone: rules over its ints I (addresses 74 to 107); Z is the rest of the memory -/
abbrev xI : Type := Nat → Nat → Int32
abbrev xZ : Type := List xK × (Nat → Nat → Int64) × (Nat → Nat → Option Nat)
def zM (Z : xZ) (I : xI) : xM := (Z.1, I, Z.2.1, Z.2.2)
def x_rj : List (Option Nat) := [none, some 75, some 76, some 77, some 78, some 79, some 80, none, some 81, some 82, some 83, some 84, some 85, some 86, some 87, some 88, some 89, some 90, some 91, some 92, none, none, some 93, some 94, some 95, some 96, some 97, some 98, some 99, some 100, some 101, none, none, none, none, none, some 102, some 103, some 104, some 105, some 106, some 107]
def zok (Z : xZ) : Prop := (∀ a, 74 ≤ a → a < 108 → Z.1[a]? = x_K0[a]?) ∧ ∀ j a, x_rj[j]? = some (some a) → Z.2.2 74 j = some a
def WR (Z : xZ) (d k pc : Nat) (ls : xL) (st : List Value) (I : xI) (Q : xI → Option Value → Prop) : Prop := Wp d k pc ls st (zM Z I) (fun M' v => ∃ I', M' = zM Z I' ∧ Q I' v)
def ER (Z : xZ) (d k : Nat) (I : xI) (as : List Value) (Q : xI → Option Value → Prop) : Prop := Ev d k (zM Z I) as (fun M' v => ∃ I', M' = zM Z I' ∧ Q I' v)
section XWR
variable {Z : xZ} {d k pc pc' nx : Nat} {ls ls' : xL} {st st' r : List Value} {I I1 : xI} {Q : xI → Option Value → Prop} {e : xE} {c : Int32}
theorem zok.at (hz : zok Z) {a : Nat} {kd : xK} (h : x_K0[a]? = some kd) (h1 : Nat.ble 74 a = true) : (zM Z I).1[a]? = some kd := by
  have ha : a < 108 := x_lt h
  rw [← h]
  exact hz.1 a (Nat.le_of_ble_eq_true h1) ha
theorem ER.of {as : List Value} {ls : xL} (hk : (decide (k = x_kB)) = false) (he : x_en (x_nL k) as = some ls) (h : WR Z d k 0 ls [] I Q) : ER Z (d + 1) k I as Q := Ev.of hk he h
theorem ER.imp {as : List Value} {Q' : xI → Option Value → Prop} (h : ER Z d k I as Q) (hi : ∀ I' v, Q I' v → Q' I' v) : ER Z d k I as Q' := Ev.imp h (fun _ v ⟨I', e1, q⟩ => ⟨I', e1, hi I' v q⟩)
theorem WR.imp {Q' : xI → Option Value → Prop} (h : WR Z d k pc ls st I Q) (hi : ∀ I' v, Q I' v → Q' I' v) : WR Z d k pc ls st I Q' := Wp.imp h (fun _ v ⟨I', e1, q⟩ => ⟨I', e1, hi I' v q⟩)
theorem WR.go (hp : x_P k pc = some e) (hs : x_st x_ec d e ls st (zM Z I) = some (pc', ls', st', zM Z I)) (h : WR Z d k pc' ls' st' I Q) : WR Z d k pc ls st I Q := Wp.go hp hs h
theorem WR.br {p : Prop} [Decidable p] {a b : Nat} (h1 : p → WR Z d k a ls st I Q) (h2 : ¬ p → WR Z d k b ls st I Q) : WR Z d k (if decide p = true then a else b) ls st I Q := Wp.br h1 h2
theorem WR.lt {x y a b : Nat} (hx : x < 2 ^ 31) (hy : y < 2 ^ 31) (h1 : x < y → WR Z d k a ls st I Q) (h2 : y ≤ x → WR Z d k b ls st I Q) : WR Z d k (if decide (nI x < nI y) = true then a else b) ls st I Q :=
  WR.br (fun h => h1 ((nI_ltI hx hy).mp h)) (fun h => h2 (Nat.not_lt.mp fun q => h ((nI_ltI hx hy).mpr q)))
theorem WR.le {x y a b : Nat} (hx : x < 2 ^ 31) (hy : y < 2 ^ 31) (h1 : x ≤ y → WR Z d k a ls st I Q) (h2 : y < x → WR Z d k b ls st I Q) : WR Z d k (if decide (nI x ≤ nI y) = true then a else b) ls st I Q :=
  WR.br (fun h => h1 ((nI_leI hx hy).mp h)) (fun h => h2 (Nat.not_le.mp fun q => h ((nI_leI hx hy).mpr q)))
theorem WR.eq {x y a b : Nat} (hx : x < 2 ^ 31) (hy : y < 2 ^ 31) (h1 : x = y → WR Z d k a ls st I Q) (h2 : x ≠ y → WR Z d k b ls st I Q) : WR Z d k (if decide (nI x = nI y) = true then a else b) ls st I Q :=
  WR.br (fun h => h1 ((nI_eq hx hy).mp h)) (fun h => h2 (fun q => h ((nI_eq hx hy).mpr q)))
theorem WR.ne {x y a b : Nat} (hx : x < 2 ^ 31) (hy : y < 2 ^ 31) (h1 : x ≠ y → WR Z d k a ls st I Q) (h2 : x = y → WR Z d k b ls st I Q) : WR Z d k (if decide (nI x ≠ nI y) = true then a else b) ls st I Q :=
  WR.br (fun h => h1 (fun q => h ((nI_eq hx hy).mpr q))) (fun h => h2 (Classical.byContradiction fun q => h (fun z => q ((nI_eq hx hy).mp z))))
theorem WR.lt0 {x a b : Nat} (hx : x < 2 ^ 31) (h2 : WR Z d k b ls st I Q) : WR Z d k (if decide (nI x < 0) = true then a else b) ls st I Q :=
  WR.br (fun h => absurd h (nI_pos hx)) (fun _ => h2)
theorem WR.ge0 {x a b : Nat} (hx : x < 2 ^ 31) (h2 : WR Z d k a ls st I Q) : WR Z d k (if decide (0 ≤ nI x) = true then a else b) ls st I Q :=
  WR.br (fun _ => h2) (fun h => absurd (nI_pos' hx) h)
theorem WR.addn {x y : Nat} {x' y' : Int32} {xs : List Nat} (hp : x_P k pc = some (.iadd, nx, c, xs)) (hx : x' = nI x) (hy : y' = nI y) (h : WR Z d k nx ls (.int (nI (x + y)) :: st) I Q) : WR Z d k pc ls (.int y' :: .int x' :: st) I Q := by
  subst hx
  subst hy
  rw [← nI_add] at h
  exact WR.go hp rfl h
theorem WR.muln {x y : Nat} {x' y' : Int32} {xs : List Nat} (hp : x_P k pc = some (.imul, nx, c, xs)) (hx : x' = nI x) (hy : y' = nI y) (h : WR Z d k nx ls (.int (nI (x * y)) :: st) I Q) : WR Z d k pc ls (.int y' :: .int x' :: st) I Q := by
  subst hx
  subst hy
  rw [← pk_mul] at h
  exact WR.go hp rfl h
theorem WR.subn {x y : Nat} {x' y' : Int32} {xs : List Nat} (hp : x_P k pc = some (.isub, nx, c, xs)) (hx : x' = nI x) (hy : y' = nI y) (hxy : y ≤ x) (h : WR Z d k nx ls (.int (nI (x - y)) :: st) I Q) : WR Z d k pc ls (.int y' :: .int x' :: st) I Q := by
  subst hx
  subst hy
  rw [← pk_sub hxy] at h
  exact WR.go hp rfl h
theorem WR.incn {x y j i : Nat} {v : Int} (hp : x_P k pc = some (.iinc j v, nx, nI y, [i])) (hl : ls[i]? = some (some (.int (nI x)))) (h : WR Z d k nx (ls.set i (some (.int (nI (x + y))))) st I Q) : WR Z d k pc ls st I Q := by
  refine WR.go hp ?_ h
  simp only [x_st, x_in, hl, nI_add]
theorem WR.gi (hz : zok Z) {ix j : Nat} (hp : x_P k pc = some (.getfield ix, nx, c, [10, 42, j, 0])) (h : WR Z d k nx ls (.int (I 74 j) :: st) I Q) : WR Z d k pc ls (.ref 74 :: st) I Q := Wp.gi hp (hz.at rfl rfl) h
theorem WR.gr (hz : zok Z) {ix j a : Nat} (hp : x_P k pc = some (.getfield ix, nx, c, [10, 42, j, 3])) (hj : x_rj[j]? = some (some a)) (h : WR Z d k nx ls (.ref a :: st) I Q) : WR Z d k pc ls (.ref 74 :: st) I Q := Wp.gr hp (hz.at rfl rfl) (hz.2 j a hj) h
theorem WR.pi (hz : zok Z) {ix j : Nat} {x : Int32} (hp : x_P k pc = some (.putfield ix, nx, c, [10, 42, j, 0])) (h : WR Z d k nx ls st (x_u I 74 j x) Q) : WR Z d k pc ls (.int x :: .ref 74 :: st) I Q := Wp.pi hp (hz.at rfl rfl) h
theorem WR.ai (hz : zok Z) {a n i : Nat} {i' : Int32} {xs : List Nat} (hp : x_P k pc = some (.iaload, nx, c, xs)) (ha : x_K0[a]? = some (true, 0, n)) (h1 : Nat.ble 74 a = true) (h2 : Nat.ble n 65536 = true) (hx' : i' = nI i) (hi : i < n) (h : WR Z d k nx ls (.int (I a i) :: st) I Q) : WR Z d k pc ls (.int i' :: .ref a :: st) I Q := by
  subst hx'
  exact Wp.ai hp (hz.at ha h1) hi (Nat.le_of_ble_eq_true h2) h
theorem WR.az (hz : zok Z) {a n i : Nat} {i' : Int32} {xs : List Nat} (hp : x_P k pc = some (.baload, nx, c, xs)) (ha : x_K0[a]? = some (true, 1, n)) (h1 : Nat.ble 74 a = true) (h2 : Nat.ble n 65536 = true) (hx' : i' = nI i) (hi : i < n) (h : WR Z d k nx ls (.int (I a i) :: st) I Q) : WR Z d k pc ls (.int i' :: .ref a :: st) I Q := by
  subst hx'
  exact Wp.az hp (hz.at ha h1) hi (Nat.le_of_ble_eq_true h2) h
theorem WR.si (hz : zok Z) {a n i : Nat} {i' : Int32} {x : Int32} {xs : List Nat} (hp : x_P k pc = some (.iastore, nx, c, xs)) (ha : x_K0[a]? = some (true, 0, n)) (h1 : Nat.ble 74 a = true) (h2 : Nat.ble n 65536 = true) (hx' : i' = nI i) (hi : i < n) (h : WR Z d k nx ls st (x_u I a i x) Q) : WR Z d k pc ls (.int x :: .int i' :: .ref a :: st) I Q := by
  subst hx'
  exact Wp.si hp (hz.at ha h1) hi (Nat.le_of_ble_eq_true h2) h
theorem WR.sz (hz : zok Z) {a n i : Nat} {i' : Int32} {x : Int32} {xs : List Nat} (hp : x_P k pc = some (.bastore, nx, c, xs)) (ha : x_K0[a]? = some (true, 1, n)) (h1 : Nat.ble 74 a = true) (h2 : Nat.ble n 65536 = true) (hx' : i' = nI i) (hi : i < n) (hx : x = 0 ∨ x = 1) (h : WR Z d k nx ls st (x_u I a i x) Q) : WR Z d k pc ls (.int x :: .int i' :: .ref a :: st) I Q := by
  subst hx'
  exact Wp.sz hp (hz.at ha h1) hi (Nat.le_of_ble_eq_true h2) hx h
theorem WR.rt {v : Option Value} (hp : x_P k pc = some e) (hs : x_st x_ec d e ls st (zM Z I) = none) (hc : x_cl e st (zM Z I) = none) (hr : x_rt (x_rk k) e st = some v) (h : Q I v) : WR Z d k pc ls st I Q := Wp.rt hp hs hc hr ⟨I, rfl, h⟩
theorem WR.rz {v : Int32} {xs : List Nat} (hp : x_P k pc = some (.ireturn, nx, c, xs)) (hr : x_rk k = 2) (hv : v = 0 ∨ v = 1) (h : Q I (some (.int v))) : WR Z d k pc ls [.int v] I Q := Wp.rz hp hr hv ⟨I, rfl, h⟩
theorem WR.S0i {ix kd k' ci : Nat} {w : Value} (hp : x_P k pc = some (.invokestatic ix, nx, c, [kd, k', ci, 0])) (hc : Nat.ble (r.map fun v => v.category).sum 8 = true) (he : ER Z d k' I [] (fun I' v => I' = I1 ∧ v = some w)) (h : WR Z d k nx ls (w :: r) I1 Q) : WR Z d k pc ls (r) I Q := Wp.S0 hp hc he (fun M' v hq => by obtain ⟨I', rfl, rfl, rfl⟩ := hq; exact h)
theorem WR.V0i (hz : zok Z) {ix k' : Nat} {w : Value} (hp : x_P k pc = some (.invokevirtual ix, nx, c, [0, k', 10, 1])) (hc : Nat.ble (r.map fun v => v.category).sum 8 = true) (he : ER Z d k' I [.ref 74] (fun I' v => I' = I1 ∧ v = some w)) (h : WR Z d k nx ls (w :: r) I1 Q) : WR Z d k pc ls (.ref 74 :: r) I Q := Wp.V0 hp (hz.at rfl rfl) hc he (fun M' v hq => by obtain ⟨I', rfl, rfl, rfl⟩ := hq; exact h)
theorem WR.V0v (hz : zok Z) {ix k' : Nat} (hp : x_P k pc = some (.invokevirtual ix, nx, c, [0, k', 10, 1])) (hc : Nat.ble (r.map fun v => v.category).sum 8 = true) (he : ER Z d k' I [.ref 74] (fun I' v => I' = I1 ∧ v = none)) (h : WR Z d k nx ls r I1 Q) : WR Z d k pc ls (.ref 74 :: r) I Q := Wp.V0 hp (hz.at rfl rfl) hc he (fun M' v hq => by obtain ⟨I', rfl, rfl, rfl⟩ := hq; exact h)
theorem WR.S1i {ix kd k' ci : Nat} {a1 : Value} {w : Value} (hp : x_P k pc = some (.invokestatic ix, nx, c, [kd, k', ci, 1])) (hc : Nat.ble (r.map fun v => v.category).sum 8 = true) (he : ER Z d k' I [a1] (fun I' v => I' = I1 ∧ v = some w)) (h : WR Z d k nx ls (w :: r) I1 Q) : WR Z d k pc ls (a1 :: r) I Q := Wp.S1 hp hc he (fun M' v hq => by obtain ⟨I', rfl, rfl, rfl⟩ := hq; exact h)
theorem WR.V1i (hz : zok Z) {ix k' : Nat} {a1 : Value} {w : Value} (hp : x_P k pc = some (.invokevirtual ix, nx, c, [0, k', 10, 2])) (hc : Nat.ble (r.map fun v => v.category).sum 8 = true) (he : ER Z d k' I [.ref 74, a1] (fun I' v => I' = I1 ∧ v = some w)) (h : WR Z d k nx ls (w :: r) I1 Q) : WR Z d k pc ls (a1 :: .ref 74 :: r) I Q := Wp.V1 hp (hz.at rfl rfl) hc he (fun M' v hq => by obtain ⟨I', rfl, rfl, rfl⟩ := hq; exact h)
theorem WR.V1v (hz : zok Z) {ix k' : Nat} {a1 : Value} (hp : x_P k pc = some (.invokevirtual ix, nx, c, [0, k', 10, 2])) (hc : Nat.ble (r.map fun v => v.category).sum 8 = true) (he : ER Z d k' I [.ref 74, a1] (fun I' v => I' = I1 ∧ v = none)) (h : WR Z d k nx ls r I1 Q) : WR Z d k pc ls (a1 :: .ref 74 :: r) I Q := Wp.V1 hp (hz.at rfl rfl) hc he (fun M' v hq => by obtain ⟨I', rfl, rfl, rfl⟩ := hq; exact h)
theorem WR.S2i {ix kd k' ci : Nat} {a1 a2 : Value} {w : Value} (hp : x_P k pc = some (.invokestatic ix, nx, c, [kd, k', ci, 2])) (hc : Nat.ble (r.map fun v => v.category).sum 8 = true) (he : ER Z d k' I [a1, a2] (fun I' v => I' = I1 ∧ v = some w)) (h : WR Z d k nx ls (w :: r) I1 Q) : WR Z d k pc ls (a2 :: a1 :: r) I Q := Wp.S2 hp hc he (fun M' v hq => by obtain ⟨I', rfl, rfl, rfl⟩ := hq; exact h)
theorem WR.V2i (hz : zok Z) {ix k' : Nat} {a1 a2 : Value} {w : Value} (hp : x_P k pc = some (.invokevirtual ix, nx, c, [0, k', 10, 3])) (hc : Nat.ble (r.map fun v => v.category).sum 8 = true) (he : ER Z d k' I [.ref 74, a1, a2] (fun I' v => I' = I1 ∧ v = some w)) (h : WR Z d k nx ls (w :: r) I1 Q) : WR Z d k pc ls (a2 :: a1 :: .ref 74 :: r) I Q := Wp.V2 hp (hz.at rfl rfl) hc he (fun M' v hq => by obtain ⟨I', rfl, rfl, rfl⟩ := hq; exact h)
theorem WR.V2v (hz : zok Z) {ix k' : Nat} {a1 a2 : Value} (hp : x_P k pc = some (.invokevirtual ix, nx, c, [0, k', 10, 3])) (hc : Nat.ble (r.map fun v => v.category).sum 8 = true) (he : ER Z d k' I [.ref 74, a1, a2] (fun I' v => I' = I1 ∧ v = none)) (h : WR Z d k nx ls r I1 Q) : WR Z d k pc ls (a2 :: a1 :: .ref 74 :: r) I Q := Wp.V2 hp (hz.at rfl rfl) hc he (fun M' v hq => by obtain ⟨I', rfl, rfl, rfl⟩ := hq; exact h)
theorem WR.S3i {ix kd k' ci : Nat} {a1 a2 a3 : Value} {w : Value} (hp : x_P k pc = some (.invokestatic ix, nx, c, [kd, k', ci, 3])) (hc : Nat.ble (r.map fun v => v.category).sum 8 = true) (he : ER Z d k' I [a1, a2, a3] (fun I' v => I' = I1 ∧ v = some w)) (h : WR Z d k nx ls (w :: r) I1 Q) : WR Z d k pc ls (a3 :: a2 :: a1 :: r) I Q := Wp.S3 hp hc he (fun M' v hq => by obtain ⟨I', rfl, rfl, rfl⟩ := hq; exact h)
theorem WR.V3i (hz : zok Z) {ix k' : Nat} {a1 a2 a3 : Value} {w : Value} (hp : x_P k pc = some (.invokevirtual ix, nx, c, [0, k', 10, 4])) (hc : Nat.ble (r.map fun v => v.category).sum 8 = true) (he : ER Z d k' I [.ref 74, a1, a2, a3] (fun I' v => I' = I1 ∧ v = some w)) (h : WR Z d k nx ls (w :: r) I1 Q) : WR Z d k pc ls (a3 :: a2 :: a1 :: .ref 74 :: r) I Q := Wp.V3 hp (hz.at rfl rfl) hc he (fun M' v hq => by obtain ⟨I', rfl, rfl, rfl⟩ := hq; exact h)
theorem WR.V3v (hz : zok Z) {ix k' : Nat} {a1 a2 a3 : Value} (hp : x_P k pc = some (.invokevirtual ix, nx, c, [0, k', 10, 4])) (hc : Nat.ble (r.map fun v => v.category).sum 8 = true) (he : ER Z d k' I [.ref 74, a1, a2, a3] (fun I' v => I' = I1 ∧ v = none)) (h : WR Z d k nx ls r I1 Q) : WR Z d k pc ls (a3 :: a2 :: a1 :: .ref 74 :: r) I Q := Wp.V3 hp (hz.at rfl rfl) hc he (fun M' v hq => by obtain ⟨I', rfl, rfl, rfl⟩ := hq; exact h)
theorem WR.V4i (hz : zok Z) {ix k' : Nat} {a1 a2 a3 a4 : Value} {w : Value} (hp : x_P k pc = some (.invokevirtual ix, nx, c, [0, k', 10, 5])) (hc : Nat.ble (r.map fun v => v.category).sum 8 = true) (he : ER Z d k' I [.ref 74, a1, a2, a3, a4] (fun I' v => I' = I1 ∧ v = some w)) (h : WR Z d k nx ls (w :: r) I1 Q) : WR Z d k pc ls (a4 :: a3 :: a2 :: a1 :: .ref 74 :: r) I Q := Wp.V4 hp (hz.at rfl rfl) hc he (fun M' v hq => by obtain ⟨I', rfl, rfl, rfl⟩ := hq; exact h)
theorem WR.V4v (hz : zok Z) {ix k' : Nat} {a1 a2 a3 a4 : Value} (hp : x_P k pc = some (.invokevirtual ix, nx, c, [0, k', 10, 5])) (hc : Nat.ble (r.map fun v => v.category).sum 8 = true) (he : ER Z d k' I [.ref 74, a1, a2, a3, a4] (fun I' v => I' = I1 ∧ v = none)) (h : WR Z d k nx ls r I1 Q) : WR Z d k pc ls (a4 :: a3 :: a2 :: a1 :: .ref 74 :: r) I Q := Wp.V4 hp (hz.at rfl rfl) hc he (fun M' v hq => by obtain ⟨I', rfl, rfl, rfl⟩ := hq; exact h)
theorem WR.V5i (hz : zok Z) {ix k' : Nat} {a1 a2 a3 a4 a5 : Value} {w : Value} (hp : x_P k pc = some (.invokevirtual ix, nx, c, [0, k', 10, 6])) (hc : Nat.ble (r.map fun v => v.category).sum 8 = true) (he : ER Z d k' I [.ref 74, a1, a2, a3, a4, a5] (fun I' v => I' = I1 ∧ v = some w)) (h : WR Z d k nx ls (w :: r) I1 Q) : WR Z d k pc ls (a5 :: a4 :: a3 :: a2 :: a1 :: .ref 74 :: r) I Q := Wp.V5 hp (hz.at rfl rfl) hc he (fun M' v hq => by obtain ⟨I', rfl, rfl, rfl⟩ := hq; exact h)
theorem WR.V5v (hz : zok Z) {ix k' : Nat} {a1 a2 a3 a4 a5 : Value} (hp : x_P k pc = some (.invokevirtual ix, nx, c, [0, k', 10, 6])) (hc : Nat.ble (r.map fun v => v.category).sum 8 = true) (he : ER Z d k' I [.ref 74, a1, a2, a3, a4, a5] (fun I' v => I' = I1 ∧ v = none)) (h : WR Z d k nx ls r I1 Q) : WR Z d k pc ls (a5 :: a4 :: a3 :: a2 :: a1 :: .ref 74 :: r) I Q := Wp.V5 hp (hz.at rfl rfl) hc he (fun M' v hq => by obtain ⟨I', rfl, rfl, rfl⟩ := hq; exact h)
theorem WR.V6i (hz : zok Z) {ix k' : Nat} {a1 a2 a3 a4 a5 a6 : Value} {w : Value} (hp : x_P k pc = some (.invokevirtual ix, nx, c, [0, k', 10, 7])) (hc : Nat.ble (r.map fun v => v.category).sum 8 = true) (he : ER Z d k' I [.ref 74, a1, a2, a3, a4, a5, a6] (fun I' v => I' = I1 ∧ v = some w)) (h : WR Z d k nx ls (w :: r) I1 Q) : WR Z d k pc ls (a6 :: a5 :: a4 :: a3 :: a2 :: a1 :: .ref 74 :: r) I Q := Wp.V6 hp (hz.at rfl rfl) hc he (fun M' v hq => by obtain ⟨I', rfl, rfl, rfl⟩ := hq; exact h)
theorem WR.V6v (hz : zok Z) {ix k' : Nat} {a1 a2 a3 a4 a5 a6 : Value} (hp : x_P k pc = some (.invokevirtual ix, nx, c, [0, k', 10, 7])) (hc : Nat.ble (r.map fun v => v.category).sum 8 = true) (he : ER Z d k' I [.ref 74, a1, a2, a3, a4, a5, a6] (fun I' v => I' = I1 ∧ v = none)) (h : WR Z d k nx ls r I1 Q) : WR Z d k pc ls (a6 :: a5 :: a4 :: a3 :: a2 :: a1 :: .ref 74 :: r) I Q := Wp.V6 hp (hz.at rfl rfl) hc he (fun M' v hq => by obtain ⟨I', rfl, rfl, rfl⟩ := hq; exact h)
theorem WR.V7i (hz : zok Z) {ix k' : Nat} {a1 a2 a3 a4 a5 a6 a7 : Value} {w : Value} (hp : x_P k pc = some (.invokevirtual ix, nx, c, [0, k', 10, 8])) (hc : Nat.ble (r.map fun v => v.category).sum 8 = true) (he : ER Z d k' I [.ref 74, a1, a2, a3, a4, a5, a6, a7] (fun I' v => I' = I1 ∧ v = some w)) (h : WR Z d k nx ls (w :: r) I1 Q) : WR Z d k pc ls (a7 :: a6 :: a5 :: a4 :: a3 :: a2 :: a1 :: .ref 74 :: r) I Q := Wp.V7 hp (hz.at rfl rfl) hc he (fun M' v hq => by obtain ⟨I', rfl, rfl, rfl⟩ := hq; exact h)
theorem WR.V7v (hz : zok Z) {ix k' : Nat} {a1 a2 a3 a4 a5 a6 a7 : Value} (hp : x_P k pc = some (.invokevirtual ix, nx, c, [0, k', 10, 8])) (hc : Nat.ble (r.map fun v => v.category).sum 8 = true) (he : ER Z d k' I [.ref 74, a1, a2, a3, a4, a5, a6, a7] (fun I' v => I' = I1 ∧ v = none)) (h : WR Z d k nx ls r I1 Q) : WR Z d k pc ls (a7 :: a6 :: a5 :: a4 :: a3 :: a2 :: a1 :: .ref 74 :: r) I Q := Wp.V7 hp (hz.at rfl rfl) hc he (fun M' v hq => by obtain ⟨I', rfl, rfl, rfl⟩ := hq; exact h)
end XWR
end
section
/-! the reference's small methods -/
theorem nI_one : nI 1 = 1 := rfl
theorem nI_zero : nI 0 = 0 := rfl
def bI (b : Bool) : Int32 := match b with
  | true => 1
  | false => 0
theorem bI_01 (b : Bool) : bI b = 0 ∨ bI b = 1 := by cases b <;> simp [bI]
theorem bI_0 {b : Bool} : bI b = 0 ↔ b = false := by cases b <;> simp [bI]
theorem bI_1 {b : Bool} : bI b = 1 ↔ b = true := by cases b <;> simp [bI]
theorem bI_n {b : Bool} : ¬ bI b = 0 ↔ b = true := by cases b <;> simp [bI]
theorem i_lt_ge {x y : Int32} (h : x < y) : decide (y ≤ x) = false := by simp [Int32.not_le, h]
theorem i_le_gt {x y : Int32} (h : x ≤ y) : decide (y < x) = false := by simp [Int32.not_lt, h]
theorem i_nlt {x y : Int32} (h : ¬ x < y) : decide (y ≤ x) = true := by simp [Int32.not_lt.mp h]
theorem i_nle {x y : Int32} (h : ¬ x ≤ y) : decide (y < x) = true := by simp [Int32.not_le.mp h]
def f_cnt (x : Int32) : Int32 := nI 0 + (x >>> (nI 0 &&& 31) &&& nI 1) + (x >>> (nI 1 &&& 31) &&& nI 1) + (x >>> (nI 2 &&& 31) &&& nI 1) + (x >>> (nI 3 &&& 31) &&& nI 1) + (x >>> (nI 4 &&& 31) &&& nI 1)
def f_maj (x y : Int32) : Bool := decide (f_cnt y < nI 2 * f_cnt (x &&& y))
def f_rep (x : Int32) : Bool := decide (0 ≤ x) && decide (x < nI 5)
def f_camp (I : xI) (r : Nat) : Bool := decide (0 < I 87 r) && decide (I 87 r = I 81 r)
def f_bit (x y : Int32) : Bool := decide (x >>> (y &&& 31) &&& nI 1 = nI 1)
def f_know (I : xI) (r s : Nat) : Bool := f_bit (I 84 r) (nI s)
section REFT
variable {Z : xZ}
set_option maxHeartbeats 1000000 in
theorem r_replica (d : Nat) (I : xI) (x : Int32) (hz : zok Z) : ER Z (d + 1) 99 I [.int x] (fun I' v => I' = I ∧ v = some (.int (bI (f_rep x)))) := by
  refine ER.of (ls := [some (.int x)]) rfl rfl ?_
  repeat' (first
      | (with_reducible refine WR.lt (by omega) (by omega) (fun _ => ?_) (fun _ => ?_) <;> try (exfalso; omega))
      | (with_reducible refine WR.le (by omega) (by omega) (fun _ => ?_) (fun _ => ?_) <;> try (exfalso; omega))
      | (with_reducible refine WR.eq (by omega) (by omega) (fun _ => ?_) (fun _ => ?_) <;> try (exfalso; omega))
      | (with_reducible refine WR.ne (by omega) (by omega) (fun _ => ?_) (fun _ => ?_) <;> try (exfalso; omega))
      | with_reducible refine WR.lt0 (by omega) ?_
      | with_reducible refine WR.ge0 (by omega) ?_
      | with_reducible refine WR.br (fun _ => ?_) (fun _ => ?_)
      | refine WR.gi hz rfl ?_
      | refine WR.gr hz rfl rfl ?_
      | refine WR.addn rfl (by with_reducible rfl) (by with_reducible rfl) ?_
      | refine WR.muln rfl (by with_reducible rfl) (by with_reducible rfl) ?_
      | (refine WR.incn rfl rfl ?_; dsimp only [List.set])
      | (refine WR.go rfl rfl ?_; try dsimp only [List.set])
      | refine WR.ai hz rfl rfl rfl rfl (by with_reducible rfl) (by omega) ?_
      | refine WR.si hz rfl rfl rfl rfl (by with_reducible rfl) (by omega) ?_
      | refine WR.az hz rfl rfl rfl rfl (by with_reducible rfl) (by omega) ?_
      | refine WR.sz hz rfl rfl rfl rfl (by with_reducible rfl) (by omega) (by decide) ?_
      | refine WR.pi hz rfl ?_
      | refine WR.rt rfl rfl rfl rfl ?_
      | refine WR.rz rfl rfl (by decide) ?_)
  · rename_i h; exact ⟨rfl, by simp [f_rep, i_lt_ge h, bI]; rfl⟩
  · rename_i h; exact ⟨rfl, by simp [f_rep, i_le_gt h, bI]; rfl⟩
  · rename_i h1 h2; exact ⟨rfl, by simp [f_rep, i_nlt h1, i_nle h2, bI]; rfl⟩
set_option maxHeartbeats 1000000 in
theorem r_count (d : Nat) (I : xI) (x : Int32) (hz : zok Z) : ER Z (d + 1) 97 I [.int x] (fun I' v => I' = I ∧ v = some (.int (f_cnt x))) := by
  refine ER.of (ls := [some (.int x), none, none]) rfl rfl ?_
  repeat' (first
      | (with_reducible refine WR.lt (by omega) (by omega) (fun _ => ?_) (fun _ => ?_) <;> try (exfalso; omega))
      | (with_reducible refine WR.le (by omega) (by omega) (fun _ => ?_) (fun _ => ?_) <;> try (exfalso; omega))
      | (with_reducible refine WR.eq (by omega) (by omega) (fun _ => ?_) (fun _ => ?_) <;> try (exfalso; omega))
      | (with_reducible refine WR.ne (by omega) (by omega) (fun _ => ?_) (fun _ => ?_) <;> try (exfalso; omega))
      | with_reducible refine WR.lt0 (by omega) ?_
      | with_reducible refine WR.ge0 (by omega) ?_
      | with_reducible refine WR.br (fun _ => ?_) (fun _ => ?_)
      | refine WR.gi hz rfl ?_
      | refine WR.gr hz rfl rfl ?_
      | refine WR.addn rfl (by with_reducible rfl) (by with_reducible rfl) ?_
      | refine WR.muln rfl (by with_reducible rfl) (by with_reducible rfl) ?_
      | (refine WR.incn rfl rfl ?_; dsimp only [List.set])
      | (refine WR.go rfl rfl ?_; try dsimp only [List.set])
      | refine WR.ai hz rfl rfl rfl rfl (by with_reducible rfl) (by omega) ?_
      | refine WR.si hz rfl rfl rfl rfl (by with_reducible rfl) (by omega) ?_
      | refine WR.az hz rfl rfl rfl rfl (by with_reducible rfl) (by omega) ?_
      | refine WR.sz hz rfl rfl rfl rfl (by with_reducible rfl) (by omega) (by decide) ?_
      | refine WR.pi hz rfl ?_
      | refine WR.rt rfl rfl rfl rfl ?_
      | refine WR.rz rfl rfl (by decide) ?_)
  exact ⟨rfl, rfl⟩
set_option maxHeartbeats 1000000 in
theorem r_majority (d : Nat) (I : xI) (x y : Int32) (hz : zok Z) : ER Z (d + 2) 107 I [.int x, .int y] (fun I' v => I' = I ∧ v = some (.int (bI (f_maj x y)))) := by
  refine ER.of (ls := [some (.int x), some (.int y)]) rfl rfl ?_
  repeat' (first
      | (with_reducible refine WR.lt (by omega) (by omega) (fun _ => ?_) (fun _ => ?_) <;> try (exfalso; omega))
      | (with_reducible refine WR.le (by omega) (by omega) (fun _ => ?_) (fun _ => ?_) <;> try (exfalso; omega))
      | (with_reducible refine WR.eq (by omega) (by omega) (fun _ => ?_) (fun _ => ?_) <;> try (exfalso; omega))
      | (with_reducible refine WR.ne (by omega) (by omega) (fun _ => ?_) (fun _ => ?_) <;> try (exfalso; omega))
      | with_reducible refine WR.lt0 (by omega) ?_
      | with_reducible refine WR.ge0 (by omega) ?_
      | with_reducible refine WR.br (fun _ => ?_) (fun _ => ?_)
      | refine WR.gi hz rfl ?_
      | refine WR.gr hz rfl rfl ?_
      | refine WR.addn rfl (by with_reducible rfl) (by with_reducible rfl) ?_
      | refine WR.muln rfl (by with_reducible rfl) (by with_reducible rfl) ?_
      | (refine WR.incn rfl rfl ?_; dsimp only [List.set])
      | (refine WR.go rfl rfl ?_; try dsimp only [List.set])
      | refine WR.ai hz rfl rfl rfl rfl (by with_reducible rfl) (by omega) ?_
      | refine WR.si hz rfl rfl rfl rfl (by with_reducible rfl) (by omega) ?_
      | refine WR.az hz rfl rfl rfl rfl (by with_reducible rfl) (by omega) ?_
      | refine WR.sz hz rfl rfl rfl rfl (by with_reducible rfl) (by omega) (by decide) ?_
      | refine WR.pi hz rfl ?_
      | refine WR.rt rfl rfl rfl rfl ?_
      | refine WR.rz rfl rfl (by decide) ?_)
  refine WR.S1i rfl rfl (r_count _ _ _ hz) ?_
  repeat' (first
      | (with_reducible refine WR.lt (by omega) (by omega) (fun _ => ?_) (fun _ => ?_) <;> try (exfalso; omega))
      | (with_reducible refine WR.le (by omega) (by omega) (fun _ => ?_) (fun _ => ?_) <;> try (exfalso; omega))
      | (with_reducible refine WR.eq (by omega) (by omega) (fun _ => ?_) (fun _ => ?_) <;> try (exfalso; omega))
      | (with_reducible refine WR.ne (by omega) (by omega) (fun _ => ?_) (fun _ => ?_) <;> try (exfalso; omega))
      | with_reducible refine WR.lt0 (by omega) ?_
      | with_reducible refine WR.ge0 (by omega) ?_
      | with_reducible refine WR.br (fun _ => ?_) (fun _ => ?_)
      | refine WR.gi hz rfl ?_
      | refine WR.gr hz rfl rfl ?_
      | refine WR.addn rfl (by with_reducible rfl) (by with_reducible rfl) ?_
      | refine WR.muln rfl (by with_reducible rfl) (by with_reducible rfl) ?_
      | (refine WR.incn rfl rfl ?_; dsimp only [List.set])
      | (refine WR.go rfl rfl ?_; try dsimp only [List.set])
      | refine WR.ai hz rfl rfl rfl rfl (by with_reducible rfl) (by omega) ?_
      | refine WR.si hz rfl rfl rfl rfl (by with_reducible rfl) (by omega) ?_
      | refine WR.az hz rfl rfl rfl rfl (by with_reducible rfl) (by omega) ?_
      | refine WR.sz hz rfl rfl rfl rfl (by with_reducible rfl) (by omega) (by decide) ?_
      | refine WR.pi hz rfl ?_
      | refine WR.rt rfl rfl rfl rfl ?_
      | refine WR.rz rfl rfl (by decide) ?_)
  refine WR.S1i rfl rfl (r_count _ _ _ hz) ?_
  repeat' (first
      | (with_reducible refine WR.lt (by omega) (by omega) (fun _ => ?_) (fun _ => ?_) <;> try (exfalso; omega))
      | (with_reducible refine WR.le (by omega) (by omega) (fun _ => ?_) (fun _ => ?_) <;> try (exfalso; omega))
      | (with_reducible refine WR.eq (by omega) (by omega) (fun _ => ?_) (fun _ => ?_) <;> try (exfalso; omega))
      | (with_reducible refine WR.ne (by omega) (by omega) (fun _ => ?_) (fun _ => ?_) <;> try (exfalso; omega))
      | with_reducible refine WR.lt0 (by omega) ?_
      | with_reducible refine WR.ge0 (by omega) ?_
      | with_reducible refine WR.br (fun _ => ?_) (fun _ => ?_)
      | refine WR.gi hz rfl ?_
      | refine WR.gr hz rfl rfl ?_
      | refine WR.addn rfl (by with_reducible rfl) (by with_reducible rfl) ?_
      | refine WR.muln rfl (by with_reducible rfl) (by with_reducible rfl) ?_
      | (refine WR.incn rfl rfl ?_; dsimp only [List.set])
      | (refine WR.go rfl rfl ?_; try dsimp only [List.set])
      | refine WR.ai hz rfl rfl rfl rfl (by with_reducible rfl) (by omega) ?_
      | refine WR.si hz rfl rfl rfl rfl (by with_reducible rfl) (by omega) ?_
      | refine WR.az hz rfl rfl rfl rfl (by with_reducible rfl) (by omega) ?_
      | refine WR.sz hz rfl rfl rfl rfl (by with_reducible rfl) (by omega) (by decide) ?_
      | refine WR.pi hz rfl ?_
      | refine WR.rt rfl rfl rfl rfl ?_
      | refine WR.rz rfl rfl (by decide) ?_)
  · rename_i h; exact ⟨rfl, by simp [f_maj, i_le_gt h, bI]; rfl⟩
  · rename_i h; exact ⟨rfl, by simp [f_maj, i_nle h, bI]; rfl⟩
set_option maxHeartbeats 1000000 in
theorem r_isUp (d : Nat) (I : xI) (x : Int32) (hz : zok Z) : ER Z (d + 2) 100 I [.ref 74, .int x] (fun I' v => I' = I ∧ v = some (.int (bI (f_rep x && f_bit (I 74 7) x)))) := by
  refine ER.of (ls := [some (.ref 74), some (.int x)]) rfl rfl ?_
  repeat' (first
      | (with_reducible refine WR.lt (by omega) (by omega) (fun _ => ?_) (fun _ => ?_) <;> try (exfalso; omega))
      | (with_reducible refine WR.le (by omega) (by omega) (fun _ => ?_) (fun _ => ?_) <;> try (exfalso; omega))
      | (with_reducible refine WR.eq (by omega) (by omega) (fun _ => ?_) (fun _ => ?_) <;> try (exfalso; omega))
      | (with_reducible refine WR.ne (by omega) (by omega) (fun _ => ?_) (fun _ => ?_) <;> try (exfalso; omega))
      | with_reducible refine WR.lt0 (by omega) ?_
      | with_reducible refine WR.ge0 (by omega) ?_
      | with_reducible refine WR.br (fun _ => ?_) (fun _ => ?_)
      | refine WR.gi hz rfl ?_
      | refine WR.gr hz rfl rfl ?_
      | refine WR.addn rfl (by with_reducible rfl) (by with_reducible rfl) ?_
      | refine WR.muln rfl (by with_reducible rfl) (by with_reducible rfl) ?_
      | (refine WR.incn rfl rfl ?_; dsimp only [List.set])
      | (refine WR.go rfl rfl ?_; try dsimp only [List.set])
      | refine WR.ai hz rfl rfl rfl rfl (by with_reducible rfl) (by omega) ?_
      | refine WR.si hz rfl rfl rfl rfl (by with_reducible rfl) (by omega) ?_
      | refine WR.az hz rfl rfl rfl rfl (by with_reducible rfl) (by omega) ?_
      | refine WR.sz hz rfl rfl rfl rfl (by with_reducible rfl) (by omega) (by decide) ?_
      | refine WR.pi hz rfl ?_
      | refine WR.rt rfl rfl rfl rfl ?_
      | refine WR.rz rfl rfl (by decide) ?_)
  refine WR.S1i rfl rfl (r_replica _ _ _ hz) ?_
  repeat' (first
      | (with_reducible refine WR.lt (by omega) (by omega) (fun _ => ?_) (fun _ => ?_) <;> try (exfalso; omega))
      | (with_reducible refine WR.le (by omega) (by omega) (fun _ => ?_) (fun _ => ?_) <;> try (exfalso; omega))
      | (with_reducible refine WR.eq (by omega) (by omega) (fun _ => ?_) (fun _ => ?_) <;> try (exfalso; omega))
      | (with_reducible refine WR.ne (by omega) (by omega) (fun _ => ?_) (fun _ => ?_) <;> try (exfalso; omega))
      | with_reducible refine WR.lt0 (by omega) ?_
      | with_reducible refine WR.ge0 (by omega) ?_
      | with_reducible refine WR.br (fun _ => ?_) (fun _ => ?_)
      | refine WR.gi hz rfl ?_
      | refine WR.gr hz rfl rfl ?_
      | refine WR.addn rfl (by with_reducible rfl) (by with_reducible rfl) ?_
      | refine WR.muln rfl (by with_reducible rfl) (by with_reducible rfl) ?_
      | (refine WR.incn rfl rfl ?_; dsimp only [List.set])
      | (refine WR.go rfl rfl ?_; try dsimp only [List.set])
      | refine WR.ai hz rfl rfl rfl rfl (by with_reducible rfl) (by omega) ?_
      | refine WR.si hz rfl rfl rfl rfl (by with_reducible rfl) (by omega) ?_
      | refine WR.az hz rfl rfl rfl rfl (by with_reducible rfl) (by omega) ?_
      | refine WR.sz hz rfl rfl rfl rfl (by with_reducible rfl) (by omega) (by decide) ?_
      | refine WR.pi hz rfl ?_
      | refine WR.rt rfl rfl rfl rfl ?_
      | refine WR.rz rfl rfl (by decide) ?_)
  · rename_i h; rw [bI_0] at h; exact ⟨rfl, by simp [h, bI]; rfl⟩
  · rename_i h1 h2; exact ⟨rfl, by simp [f_bit, h2, bI]; rfl⟩
  · rename_i h1 h2; rw [bI_n] at h1; exact ⟨rfl, by simp [f_bit, h1, Classical.not_not.mp h2, bI]; rfl⟩
set_option maxHeartbeats 1000000 in
theorem r_campaigns (d : Nat) (I : xI) {r : Nat} (hr : r < 5) (hz : zok Z) : ER Z (d + 1) 104 I [.ref 74, .int (nI r)] (fun I' v => I' = I ∧ v = some (.int (bI (f_camp I r)))) := by
  refine ER.of (ls := [some (.ref 74), some (.int (nI r))]) rfl rfl ?_
  repeat' (first
      | (with_reducible refine WR.lt (by omega) (by omega) (fun _ => ?_) (fun _ => ?_) <;> try (exfalso; omega))
      | (with_reducible refine WR.le (by omega) (by omega) (fun _ => ?_) (fun _ => ?_) <;> try (exfalso; omega))
      | (with_reducible refine WR.eq (by omega) (by omega) (fun _ => ?_) (fun _ => ?_) <;> try (exfalso; omega))
      | (with_reducible refine WR.ne (by omega) (by omega) (fun _ => ?_) (fun _ => ?_) <;> try (exfalso; omega))
      | with_reducible refine WR.lt0 (by omega) ?_
      | with_reducible refine WR.ge0 (by omega) ?_
      | with_reducible refine WR.br (fun _ => ?_) (fun _ => ?_)
      | refine WR.gi hz rfl ?_
      | refine WR.gr hz rfl rfl ?_
      | refine WR.addn rfl (by with_reducible rfl) (by with_reducible rfl) ?_
      | refine WR.muln rfl (by with_reducible rfl) (by with_reducible rfl) ?_
      | (refine WR.incn rfl rfl ?_; dsimp only [List.set])
      | (refine WR.go rfl rfl ?_; try dsimp only [List.set])
      | refine WR.ai hz rfl rfl rfl rfl (by with_reducible rfl) (by omega) ?_
      | refine WR.si hz rfl rfl rfl rfl (by with_reducible rfl) (by omega) ?_
      | refine WR.az hz rfl rfl rfl rfl (by with_reducible rfl) (by omega) ?_
      | refine WR.sz hz rfl rfl rfl rfl (by with_reducible rfl) (by omega) (by decide) ?_
      | refine WR.pi hz rfl ?_
      | refine WR.rt rfl rfl rfl rfl ?_
      | refine WR.rz rfl rfl (by decide) ?_)
  · rename_i h; exact ⟨rfl, by simp [f_camp, i_le_gt h, bI]; rfl⟩
  · rename_i h1 h2; exact ⟨rfl, by simp [f_camp, h2, bI]; rfl⟩
  · rename_i h1 h2; exact ⟨rfl, by have h3 := i_nle h1; rw [Classical.not_not.mp h2] at h3; simp [f_camp, Classical.not_not.mp h2, h3, bI]; rfl⟩
set_option maxHeartbeats 1000000 in
theorem r_knows (d : Nat) (I : xI) {r : Nat} (s : Nat) (hr : r < 5) (hz : zok Z) : ER Z (d + 1) 105 I [.ref 74, .int (nI r), .int (nI s)] (fun I' v => I' = I ∧ v = some (.int (bI (f_know I r s)))) := by
  refine ER.of (ls := [some (.ref 74), some (.int (nI r)), some (.int (nI s))]) rfl rfl ?_
  repeat' (first
      | (with_reducible refine WR.lt (by omega) (by omega) (fun _ => ?_) (fun _ => ?_) <;> try (exfalso; omega))
      | (with_reducible refine WR.le (by omega) (by omega) (fun _ => ?_) (fun _ => ?_) <;> try (exfalso; omega))
      | (with_reducible refine WR.eq (by omega) (by omega) (fun _ => ?_) (fun _ => ?_) <;> try (exfalso; omega))
      | (with_reducible refine WR.ne (by omega) (by omega) (fun _ => ?_) (fun _ => ?_) <;> try (exfalso; omega))
      | with_reducible refine WR.lt0 (by omega) ?_
      | with_reducible refine WR.ge0 (by omega) ?_
      | with_reducible refine WR.br (fun _ => ?_) (fun _ => ?_)
      | refine WR.gi hz rfl ?_
      | refine WR.gr hz rfl rfl ?_
      | refine WR.addn rfl (by with_reducible rfl) (by with_reducible rfl) ?_
      | refine WR.muln rfl (by with_reducible rfl) (by with_reducible rfl) ?_
      | (refine WR.incn rfl rfl ?_; dsimp only [List.set])
      | (refine WR.go rfl rfl ?_; try dsimp only [List.set])
      | refine WR.ai hz rfl rfl rfl rfl (by with_reducible rfl) (by omega) ?_
      | refine WR.si hz rfl rfl rfl rfl (by with_reducible rfl) (by omega) ?_
      | refine WR.az hz rfl rfl rfl rfl (by with_reducible rfl) (by omega) ?_
      | refine WR.sz hz rfl rfl rfl rfl (by with_reducible rfl) (by omega) (by decide) ?_
      | refine WR.pi hz rfl ?_
      | refine WR.rt rfl rfl rfl rfl ?_
      | refine WR.rz rfl rfl (by decide) ?_)
  · rename_i h; exact ⟨rfl, by simp [f_know, f_bit, h, bI]; rfl⟩
  · rename_i h; exact ⟨rfl, by simp [f_know, f_bit, Classical.not_not.mp h, bI]; rfl⟩
def f_hear (I : xI) (q : Nat) : xI := x_u (x_u I 78 q (I 78 q + nI 1)) 79 q (I 106 q)
set_option maxHeartbeats 1000000 in
theorem r_hear (d : Nat) (I : xI) {q : Nat} (hq : q < 41) (hz : zok Z) : ER Z (d + 1) 103 I [.ref 74, .int (nI q)] (fun I' v => I' = f_hear I q ∧ v = none) := by
  refine ER.of (ls := [some (.ref 74), some (.int (nI q))]) rfl rfl ?_
  repeat' (first
      | (with_reducible refine WR.lt (by omega) (by omega) (fun _ => ?_) (fun _ => ?_) <;> try (exfalso; omega))
      | (with_reducible refine WR.le (by omega) (by omega) (fun _ => ?_) (fun _ => ?_) <;> try (exfalso; omega))
      | (with_reducible refine WR.eq (by omega) (by omega) (fun _ => ?_) (fun _ => ?_) <;> try (exfalso; omega))
      | (with_reducible refine WR.ne (by omega) (by omega) (fun _ => ?_) (fun _ => ?_) <;> try (exfalso; omega))
      | with_reducible refine WR.lt0 (by omega) ?_
      | with_reducible refine WR.ge0 (by omega) ?_
      | with_reducible refine WR.br (fun _ => ?_) (fun _ => ?_)
      | refine WR.gi hz rfl ?_
      | refine WR.gr hz rfl rfl ?_
      | refine WR.addn rfl (by with_reducible rfl) (by with_reducible rfl) ?_
      | refine WR.muln rfl (by with_reducible rfl) (by with_reducible rfl) ?_
      | (refine WR.incn rfl rfl ?_; dsimp only [List.set])
      | (refine WR.go rfl rfl ?_; try dsimp only [List.set])
      | refine WR.ai hz rfl rfl rfl rfl (by with_reducible rfl) (by omega) ?_
      | refine WR.si hz rfl rfl rfl rfl (by with_reducible rfl) (by omega) ?_
      | refine WR.az hz rfl rfl rfl rfl (by with_reducible rfl) (by omega) ?_
      | refine WR.sz hz rfl rfl rfl rfl (by with_reducible rfl) (by omega) (by decide) ?_
      | refine WR.pi hz rfl ?_
      | refine WR.rt rfl rfl rfl rfl ?_
      | refine WR.rz rfl rfl (by decide) ?_)
  refine ⟨?_, rfl⟩
  simp [f_hear, x_u]
def f_cast (I : xI) (r s : Nat) (b c : Int32) : xI := x_u (x_u I 85 (25 * r + s) b) 86 (25 * r + s) c
set_option maxHeartbeats 1000000 in
theorem r_cast (d : Nat) (I : xI) {r s : Nat} (b c : Int32) (hr : r < 5) (hs : s < 25) (hz : zok Z) : ER Z (d + 1) 109 I [.ref 74, .int (nI r), .int (nI s), .int b, .int c] (fun I' v => I' = f_cast I r s b c ∧ v = none) := by
  refine ER.of (ls := [some (.ref 74), some (.int (nI r)), some (.int (nI s)), some (.int b), some (.int c)]) rfl rfl ?_
  repeat' (first
      | (with_reducible refine WR.lt (by omega) (by omega) (fun _ => ?_) (fun _ => ?_) <;> try (exfalso; omega))
      | (with_reducible refine WR.le (by omega) (by omega) (fun _ => ?_) (fun _ => ?_) <;> try (exfalso; omega))
      | (with_reducible refine WR.eq (by omega) (by omega) (fun _ => ?_) (fun _ => ?_) <;> try (exfalso; omega))
      | (with_reducible refine WR.ne (by omega) (by omega) (fun _ => ?_) (fun _ => ?_) <;> try (exfalso; omega))
      | with_reducible refine WR.lt0 (by omega) ?_
      | with_reducible refine WR.ge0 (by omega) ?_
      | with_reducible refine WR.br (fun _ => ?_) (fun _ => ?_)
      | refine WR.gi hz rfl ?_
      | refine WR.gr hz rfl rfl ?_
      | refine WR.addn rfl (by with_reducible rfl) (by with_reducible rfl) ?_
      | refine WR.muln rfl (by with_reducible rfl) (by with_reducible rfl) ?_
      | (refine WR.incn rfl rfl ?_; dsimp only [List.set])
      | (refine WR.go rfl rfl ?_; try dsimp only [List.set])
      | refine WR.ai hz rfl rfl rfl rfl (by with_reducible rfl) (by omega) ?_
      | refine WR.si hz rfl rfl rfl rfl (by with_reducible rfl) (by omega) ?_
      | refine WR.az hz rfl rfl rfl rfl (by with_reducible rfl) (by omega) ?_
      | refine WR.sz hz rfl rfl rfl rfl (by with_reducible rfl) (by omega) (by decide) ?_
      | refine WR.pi hz rfl ?_
      | refine WR.rt rfl rfl rfl rfl ?_
      | refine WR.rz rfl rfl (by decide) ?_)
  exact ⟨rfl, rfl⟩
end REFT
end
section
/-! the reference: act and replay -/
section REPL
variable {Z : xZ} {d k pc : Nat} {ls : xL} {st : List Value} {I : xI} {Q : xI → Option Value → Prop}
theorem WR.cast {I1 I2 : xI} (h : I1 = I2) (hk : WR Z d k pc ls st I2 Q) : WR Z d k pc ls st I1 Q := h ▸ hk
theorem WR.loop (σ : Nat → xI) (L : Nat → xL) (n : Nat) (hend : WR Z d k pc (L n) st (σ n) Q) (hstep : ∀ i, i < n → WR Z d k pc (L (i + 1)) st (σ (i + 1)) Q → WR Z d k pc (L i) st (σ i) Q) : ∀ j i, i + j = n → WR Z d k pc (L i) st (σ i) Q := by
  intro j
  induction j with
  | zero => intro i h; have h : i = n := h; subst h; exact hend
  | succ j ih => intro i h; exact hstep i (by omega) (ih (i + 1) (by omega))
theorem x_u_ne {α : Type} (f : Nat → Nat → α) {a b i j : Nat} (v : α) (h : ¬ (b = a ∧ j = i)) : x_u f a i v b j = f b j := by simp only [x_u]; rw [if_neg h]
theorem x_u_eq {α : Type} (f : Nat → Nat → α) (a i : Nat) (v : α) : x_u f a i v a i = v := by simp [x_u]
def f_act (I : xI) (q s ky : Nat) : xI × Int32 :=
  if I 75 q = 0 then (I, I 104 ky)
  else if I 75 q = nI 4 then (x_u I 107 s (I 77 q), I 107 (s - 1))
  else if I 75 q = nI 2 then (x_u I 104 ky (I 104 ky + I 77 q), I 104 ky + I 77 q)
  else if I 75 q = nI 1 ∨ I 104 ky = 0 then (x_u I 104 ky (I 77 q), I 104 ky)
  else (I, I 104 ky)
set_option maxHeartbeats 2000000 in
theorem r_act (d : Nat) (I : xI) {q s ky : Nat} (hq : q < 41) (hs1 : 1 ≤ s) (hs : s < 25) (hk : ky < 4) (hky : I 76 q = nI ky) (hz : zok Z) : ER Z (d + 1) 102 I [.ref 74, .int (nI q), .int (nI s)] (fun I' v => I' = (f_act I q s ky).1 ∧ v = some (.int (f_act I q s ky).2)) := by
  refine ER.of (ls := [some (.ref 74), some (.int (nI q)), some (.int (nI s)), none, none]) rfl rfl ?_
  repeat' (first
      | (with_reducible refine WR.lt (by omega) (by omega) (fun _ => ?_) (fun _ => ?_) <;> try (exfalso; omega))
      | (with_reducible refine WR.le (by omega) (by omega) (fun _ => ?_) (fun _ => ?_) <;> try (exfalso; omega))
      | (with_reducible refine WR.eq (by omega) (by omega) (fun _ => ?_) (fun _ => ?_) <;> try (exfalso; omega))
      | (with_reducible refine WR.ne (by omega) (by omega) (fun _ => ?_) (fun _ => ?_) <;> try (exfalso; omega))
      | with_reducible refine WR.lt0 (by omega) ?_
      | with_reducible refine WR.ge0 (by omega) ?_
      | with_reducible refine WR.br (fun _ => ?_) (fun _ => ?_)
      | refine WR.gi hz rfl ?_
      | refine WR.gr hz rfl rfl ?_
      | refine WR.addn rfl (by with_reducible rfl) (by with_reducible rfl) ?_
      | refine WR.muln rfl (by with_reducible rfl) (by with_reducible rfl) ?_
      | refine WR.subn rfl (by with_reducible rfl) (by with_reducible rfl) (by omega) ?_
      | (refine WR.incn rfl rfl ?_; dsimp only [List.set])
      | (refine WR.go rfl rfl ?_; try dsimp only [List.set])
      | refine WR.ai hz rfl rfl rfl rfl (by first | with_reducible rfl | assumption) (by omega) ?_
      | refine WR.si hz rfl rfl rfl rfl (by first | with_reducible rfl | assumption) (by omega) ?_
      | refine WR.az hz rfl rfl rfl rfl (by first | with_reducible rfl | assumption) (by omega) ?_
      | refine WR.sz hz rfl rfl rfl rfl (by first | with_reducible rfl | assumption) (by omega) (by decide) ?_
      | refine WR.pi hz rfl ?_
      | refine WR.rt rfl rfl rfl rfl ?_
      | refine WR.rz rfl rfl (by decide) ?_)
  all_goals (have hne : ¬ (s - 1 = s) := by omega)
  all_goals simp_all [f_act, x_u]
/-- the requests and the chosen commands, as indices -/
def f_wf (I : xI) : Prop := (∀ s, 1 ≤ s → s ≤ 24 → I 80 s ≤ 0 ∨ ∃ q, 1 ≤ q ∧ q < 41 ∧ I 80 s = nI q) ∧ ∀ q, q < 41 → ∃ ky, ky < 4 ∧ I 76 q = nI ky
def f_r0 (I : xI) : xI := fun a i => if a = 104 ∧ i < 4 then 0 else if (a = 105 ∨ a = 106) ∧ i < 41 then 0 else if a = 107 ∧ i = 0 then nI 7 else I a i
def f_rs (I : xI) (s : Nat) : xI :=
  if 0 < I 80 s ∧ I 105 (I 80 s).toNatClampNeg = 0 then
    x_u (f_act (x_u (x_u I 107 s (I 107 (s - 1))) 105 (I 80 s).toNatClampNeg 1) (I 80 s).toNatClampNeg s (I 76 (I 80 s).toNatClampNeg).toNatClampNeg).1 106 (I 80 s).toNatClampNeg (f_act (x_u (x_u I 107 s (I 107 (s - 1))) 105 (I 80 s).toNatClampNeg 1) (I 80 s).toNatClampNeg s (I 76 (I 80 s).toNatClampNeg).toNatClampNeg).2
  else x_u I 107 s (I 107 (s - 1))
def f_rp (I : xI) : Nat → xI
  | 0 => f_r0 I
  | s + 1 => f_rs (f_rp I s) (s + 1)
theorem f_act_o (I : xI) (q s ky : Nat) {a i : Nat} (h : a ≠ 104 ∧ a ≠ 107) : (f_act I q s ky).1 a i = I a i := by
  unfold f_act
  split
  · rfl
  · split
    · exact x_u_ne _ _ (fun q => h.2 q.1)
    · split
      · exact x_u_ne _ _ (fun q => h.1 q.1)
      · split
        · exact x_u_ne _ _ (fun q => h.1 q.1)
        · rfl
theorem f_rp_o (I : xI) {a : Nat} (h : a ≠ 104 ∧ a ≠ 105 ∧ a ≠ 106 ∧ a ≠ 107) : ∀ s i, f_rp I s a i = I a i := by
  intro s
  induction s with
  | zero => intro i; simp [f_rp, f_r0, h]
  | succ s ih =>
    intro i
    simp only [f_rp, f_rs]
    split
    · rw [x_u_ne _ _ (fun q => h.2.2.1 q.1), f_act_o _ _ _ _ ⟨h.1, h.2.2.2⟩, x_u_ne _ _ (fun q => h.2.1 q.1), x_u_ne _ _ (fun q => h.2.2.2 q.1)]
      exact ih i
    · rw [x_u_ne _ _ (fun q => h.2.2.2 q.1)]
      exact ih i
def f_fill (I : xI) (a n : Nat) (v : Int32) : xI := fun b j => if b = a ∧ j < n then v else I b j
theorem f_fill0 (I : xI) (a : Nat) (v : Int32) : f_fill I a 0 v = I := by funext b j; simp [f_fill]
theorem f_fillS (I : xI) (a n : Nat) (v : Int32) : x_u (f_fill I a n v) a n v = f_fill I a (n + 1) v := by
  funext b j
  simp only [x_u, f_fill]
  by_cases h1 : b = a
  · subst h1
    by_cases h2 : j = n
    · subst h2; simp
    · have h3 : j < n ↔ j < n + 1 := by omega
      simp [h2, h3]
  · simp [h1]
theorem x_u_comm {α : Type} (f : Nat → Nat → α) {a b i j : Nat} (v w : α) (h : ¬ (a = b ∧ i = j)) : x_u (x_u f a i v) b j w = x_u (x_u f b j w) a i v := by
  funext c k
  simp only [x_u]
  by_cases h1 : c = b ∧ k = j
  · have h2 : ¬ (c = a ∧ k = i) := fun q => h ⟨q.1.symm.trans h1.1, q.2.symm.trans h1.2⟩
    simp [h1, h2]
    intro h3 h4
    exact absurd ⟨h3.symm, h4.symm⟩ h
  · simp [h1]
theorem f_fill_ne (I : xI) {a b : Nat} (n i : Nat) (v w : Int32) (h : a ≠ b) : f_fill (x_u I b i w) a n v = x_u (f_fill I a n v) b i w := by
  funext c j
  simp only [f_fill, x_u]
  by_cases h1 : c = a
  · subst h1; simp [h]
  · simp [h1]
set_option maxHeartbeats 4000000 in
theorem r_replay (d : Nat) (I : xI) {f : Nat} (hf : f ≤ 24) (hw : f_wf I) (hz : zok Z) : ER Z (d + 2) 101 I [.ref 74, .int (nI f)] (fun I' v => I' = f_rp I f ∧ v = none) := by
  refine ER.of (ls := [some (.ref 74), some (.int (nI f)), none, none]) rfl rfl ?_
  iterate 2 (first
      | (with_reducible refine WR.lt (by omega) (by omega) (fun _ => ?_) (fun _ => ?_) <;> try (exfalso; omega))
      | (with_reducible refine WR.le (by omega) (by omega) (fun _ => ?_) (fun _ => ?_) <;> try (exfalso; omega))
      | (with_reducible refine WR.eq (by omega) (by omega) (fun _ => ?_) (fun _ => ?_) <;> try (exfalso; omega))
      | (with_reducible refine WR.ne (by omega) (by omega) (fun _ => ?_) (fun _ => ?_) <;> try (exfalso; omega))
      | with_reducible refine WR.lt0 (by omega) ?_
      | with_reducible refine WR.ge0 (by omega) ?_
      | with_reducible refine WR.br (fun _ => ?_) (fun _ => ?_)
      | refine WR.gi hz rfl ?_
      | refine WR.gr hz rfl rfl ?_
      | refine WR.addn rfl (by with_reducible rfl) (by with_reducible rfl) ?_
      | refine WR.muln rfl (by with_reducible rfl) (by with_reducible rfl) ?_
      | refine WR.subn rfl (by with_reducible rfl) (by with_reducible rfl) (by omega) ?_
      | (refine WR.incn rfl rfl ?_; dsimp only [List.set])
      | (refine WR.go rfl rfl ?_; try dsimp only [List.set])
      | refine WR.ai hz rfl rfl rfl rfl (by first | with_reducible rfl | assumption) (by omega) ?_
      | refine WR.si hz rfl rfl rfl rfl (by first | with_reducible rfl | assumption) (by omega) ?_
      | refine WR.az hz rfl rfl rfl rfl (by first | with_reducible rfl | assumption) (by omega) ?_
      | refine WR.sz hz rfl rfl rfl rfl (by first | with_reducible rfl | assumption) (by omega) (by decide) ?_
      | refine WR.pi hz rfl ?_
      | refine WR.rt rfl rfl rfl rfl ?_
      | refine WR.rz rfl rfl (by decide) ?_)
  -- the values
  refine WR.cast (f_fill0 I 104 (nI 0)).symm (WR.loop (fun i => f_fill I 104 i (nI 0)) (fun i => [some (.ref 74), some (.int (nI f)), some (.int (nI i)), none]) 4 ?_ (fun i hi hk => ?_) 4 0 rfl)
  rotate_left
  · iterate 11 (first
      | (with_reducible refine WR.lt (by omega) (by omega) (fun _ => ?_) (fun _ => ?_) <;> try (exfalso; omega))
      | (with_reducible refine WR.le (by omega) (by omega) (fun _ => ?_) (fun _ => ?_) <;> try (exfalso; omega))
      | (with_reducible refine WR.eq (by omega) (by omega) (fun _ => ?_) (fun _ => ?_) <;> try (exfalso; omega))
      | (with_reducible refine WR.ne (by omega) (by omega) (fun _ => ?_) (fun _ => ?_) <;> try (exfalso; omega))
      | with_reducible refine WR.lt0 (by omega) ?_
      | with_reducible refine WR.ge0 (by omega) ?_
      | with_reducible refine WR.br (fun _ => ?_) (fun _ => ?_)
      | refine WR.gi hz rfl ?_
      | refine WR.gr hz rfl rfl ?_
      | refine WR.addn rfl (by with_reducible rfl) (by with_reducible rfl) ?_
      | refine WR.muln rfl (by with_reducible rfl) (by with_reducible rfl) ?_
      | refine WR.subn rfl (by with_reducible rfl) (by with_reducible rfl) (by omega) ?_
      | (refine WR.incn rfl rfl ?_; dsimp only [List.set])
      | (refine WR.go rfl rfl ?_; try dsimp only [List.set])
      | refine WR.ai hz rfl rfl rfl rfl (by first | with_reducible rfl | assumption) (by omega) ?_
      | refine WR.si hz rfl rfl rfl rfl (by first | with_reducible rfl | assumption) (by omega) ?_
      | refine WR.az hz rfl rfl rfl rfl (by first | with_reducible rfl | assumption) (by omega) ?_
      | refine WR.sz hz rfl rfl rfl rfl (by first | with_reducible rfl | assumption) (by omega) (by decide) ?_
      | refine WR.pi hz rfl ?_
      | refine WR.rt rfl rfl rfl rfl ?_
      | refine WR.rz rfl rfl (by decide) ?_)
    rw [f_fillS]
    exact hk
  iterate 6 (first
      | (with_reducible refine WR.lt (by omega) (by omega) (fun _ => ?_) (fun _ => ?_) <;> try (exfalso; omega))
      | (with_reducible refine WR.le (by omega) (by omega) (fun _ => ?_) (fun _ => ?_) <;> try (exfalso; omega))
      | (with_reducible refine WR.eq (by omega) (by omega) (fun _ => ?_) (fun _ => ?_) <;> try (exfalso; omega))
      | (with_reducible refine WR.ne (by omega) (by omega) (fun _ => ?_) (fun _ => ?_) <;> try (exfalso; omega))
      | with_reducible refine WR.lt0 (by omega) ?_
      | with_reducible refine WR.ge0 (by omega) ?_
      | with_reducible refine WR.br (fun _ => ?_) (fun _ => ?_)
      | refine WR.gi hz rfl ?_
      | refine WR.gr hz rfl rfl ?_
      | refine WR.addn rfl (by with_reducible rfl) (by with_reducible rfl) ?_
      | refine WR.muln rfl (by with_reducible rfl) (by with_reducible rfl) ?_
      | refine WR.subn rfl (by with_reducible rfl) (by with_reducible rfl) (by omega) ?_
      | (refine WR.incn rfl rfl ?_; dsimp only [List.set])
      | (refine WR.go rfl rfl ?_; try dsimp only [List.set])
      | refine WR.ai hz rfl rfl rfl rfl (by first | with_reducible rfl | assumption) (by omega) ?_
      | refine WR.si hz rfl rfl rfl rfl (by first | with_reducible rfl | assumption) (by omega) ?_
      | refine WR.az hz rfl rfl rfl rfl (by first | with_reducible rfl | assumption) (by omega) ?_
      | refine WR.sz hz rfl rfl rfl rfl (by first | with_reducible rfl | assumption) (by omega) (by decide) ?_
      | refine WR.pi hz rfl ?_
      | refine WR.rt rfl rfl rfl rfl ?_
      | refine WR.rz rfl rfl (by decide) ?_)
  -- done and answers
  generalize hI1 : f_fill I 104 4 (nI 0) = I1
  refine WR.cast (by rw [f_fill0, f_fill0]) (WR.loop (fun i => f_fill (f_fill I1 105 i (nI 0)) 106 i (nI 0)) (fun i => [some (.ref 74), some (.int (nI f)), some (.int (nI i)), none]) 41 ?_ (fun i hi hk => ?_) 41 0 rfl)
  rotate_left
  · iterate 16 (first
      | (with_reducible refine WR.lt (by omega) (by omega) (fun _ => ?_) (fun _ => ?_) <;> try (exfalso; omega))
      | (with_reducible refine WR.le (by omega) (by omega) (fun _ => ?_) (fun _ => ?_) <;> try (exfalso; omega))
      | (with_reducible refine WR.eq (by omega) (by omega) (fun _ => ?_) (fun _ => ?_) <;> try (exfalso; omega))
      | (with_reducible refine WR.ne (by omega) (by omega) (fun _ => ?_) (fun _ => ?_) <;> try (exfalso; omega))
      | with_reducible refine WR.lt0 (by omega) ?_
      | with_reducible refine WR.ge0 (by omega) ?_
      | with_reducible refine WR.br (fun _ => ?_) (fun _ => ?_)
      | refine WR.gi hz rfl ?_
      | refine WR.gr hz rfl rfl ?_
      | refine WR.addn rfl (by with_reducible rfl) (by with_reducible rfl) ?_
      | refine WR.muln rfl (by with_reducible rfl) (by with_reducible rfl) ?_
      | refine WR.subn rfl (by with_reducible rfl) (by with_reducible rfl) (by omega) ?_
      | (refine WR.incn rfl rfl ?_; dsimp only [List.set])
      | (refine WR.go rfl rfl ?_; try dsimp only [List.set])
      | refine WR.ai hz rfl rfl rfl rfl (by first | with_reducible rfl | assumption) (by omega) ?_
      | refine WR.si hz rfl rfl rfl rfl (by first | with_reducible rfl | assumption) (by omega) ?_
      | refine WR.az hz rfl rfl rfl rfl (by first | with_reducible rfl | assumption) (by omega) ?_
      | refine WR.sz hz rfl rfl rfl rfl (by first | with_reducible rfl | assumption) (by omega) (by decide) ?_
      | refine WR.pi hz rfl ?_
      | refine WR.rt rfl rfl rfl rfl ?_
      | refine WR.rz rfl rfl (by decide) ?_)
    rw [← f_fill_ne _ _ _ _ _ (by decide), f_fillS, f_fillS]
    exact hk
  iterate 11 (first
      | (with_reducible refine WR.lt (by omega) (by omega) (fun _ => ?_) (fun _ => ?_) <;> try (exfalso; omega))
      | (with_reducible refine WR.le (by omega) (by omega) (fun _ => ?_) (fun _ => ?_) <;> try (exfalso; omega))
      | (with_reducible refine WR.eq (by omega) (by omega) (fun _ => ?_) (fun _ => ?_) <;> try (exfalso; omega))
      | (with_reducible refine WR.ne (by omega) (by omega) (fun _ => ?_) (fun _ => ?_) <;> try (exfalso; omega))
      | with_reducible refine WR.lt0 (by omega) ?_
      | with_reducible refine WR.ge0 (by omega) ?_
      | with_reducible refine WR.br (fun _ => ?_) (fun _ => ?_)
      | refine WR.gi hz rfl ?_
      | refine WR.gr hz rfl rfl ?_
      | refine WR.addn rfl (by with_reducible rfl) (by with_reducible rfl) ?_
      | refine WR.muln rfl (by with_reducible rfl) (by with_reducible rfl) ?_
      | refine WR.subn rfl (by with_reducible rfl) (by with_reducible rfl) (by omega) ?_
      | (refine WR.incn rfl rfl ?_; dsimp only [List.set])
      | (refine WR.go rfl rfl ?_; try dsimp only [List.set])
      | refine WR.ai hz rfl rfl rfl rfl (by first | with_reducible rfl | assumption) (by omega) ?_
      | refine WR.si hz rfl rfl rfl rfl (by first | with_reducible rfl | assumption) (by omega) ?_
      | refine WR.az hz rfl rfl rfl rfl (by first | with_reducible rfl | assumption) (by omega) ?_
      | refine WR.sz hz rfl rfl rfl rfl (by first | with_reducible rfl | assumption) (by omega) (by decide) ?_
      | refine WR.pi hz rfl ?_
      | refine WR.rt rfl rfl rfl rfl ?_
      | refine WR.rz rfl rfl (by decide) ?_)
  -- the slots
  have e0 : x_u (f_fill (f_fill I1 105 41 (nI 0)) 106 41 (nI 0)) 107 0 (nI 7) = f_rp I 0 := by
    subst hI1
    funext a j
    simp only [f_rp, f_r0, x_u, f_fill, nI_zero]
    by_cases h1 : a = 107
    · subst h1; simp
    · by_cases h2 : a = 106
      · subst h2; simp
      · by_cases h3 : a = 105
        · subst h3; simp
        · simp [h1, h2, h3]
  rw [e0]
  refine WR.loop (fun i => f_rp I i) (fun i => [some (.ref 74), some (.int (nI f)), some (.int (nI (i + 1))), match i with
    | 0 => none
    | j + 1 => some (.int (I 80 (j + 1)))]) f ?_ (fun i hi hk => ?_) f 0 (by omega)
  · iterate 5 (first
      | (with_reducible refine WR.lt (by omega) (by omega) (fun _ => ?_) (fun _ => ?_) <;> try (exfalso; omega))
      | (with_reducible refine WR.le (by omega) (by omega) (fun _ => ?_) (fun _ => ?_) <;> try (exfalso; omega))
      | (with_reducible refine WR.eq (by omega) (by omega) (fun _ => ?_) (fun _ => ?_) <;> try (exfalso; omega))
      | (with_reducible refine WR.ne (by omega) (by omega) (fun _ => ?_) (fun _ => ?_) <;> try (exfalso; omega))
      | with_reducible refine WR.lt0 (by omega) ?_
      | with_reducible refine WR.ge0 (by omega) ?_
      | with_reducible refine WR.br (fun _ => ?_) (fun _ => ?_)
      | refine WR.gi hz rfl ?_
      | refine WR.gr hz rfl rfl ?_
      | refine WR.addn rfl (by with_reducible rfl) (by with_reducible rfl) ?_
      | refine WR.muln rfl (by with_reducible rfl) (by with_reducible rfl) ?_
      | refine WR.subn rfl (by with_reducible rfl) (by with_reducible rfl) (by omega) ?_
      | (refine WR.incn rfl rfl ?_; dsimp only [List.set])
      | (refine WR.go rfl rfl ?_; try dsimp only [List.set])
      | refine WR.ai hz rfl rfl rfl rfl (by first | with_reducible rfl | assumption) (by omega) ?_
      | refine WR.si hz rfl rfl rfl rfl (by first | with_reducible rfl | assumption) (by omega) ?_
      | refine WR.az hz rfl rfl rfl rfl (by first | with_reducible rfl | assumption) (by omega) ?_
      | refine WR.sz hz rfl rfl rfl rfl (by first | with_reducible rfl | assumption) (by omega) (by decide) ?_
      | refine WR.pi hz rfl ?_
      | refine WR.rt rfl rfl rfl rfl ?_
      | refine WR.rz rfl rfl (by decide) ?_)
    exact ⟨rfl, rfl⟩
  · iterate 14 (first
      | (with_reducible refine WR.lt (by omega) (by omega) (fun _ => ?_) (fun _ => ?_) <;> try (exfalso; omega))
      | (with_reducible refine WR.le (by omega) (by omega) (fun _ => ?_) (fun _ => ?_) <;> try (exfalso; omega))
      | (with_reducible refine WR.eq (by omega) (by omega) (fun _ => ?_) (fun _ => ?_) <;> try (exfalso; omega))
      | (with_reducible refine WR.ne (by omega) (by omega) (fun _ => ?_) (fun _ => ?_) <;> try (exfalso; omega))
      | with_reducible refine WR.lt0 (by omega) ?_
      | with_reducible refine WR.ge0 (by omega) ?_
      | with_reducible refine WR.br (fun _ => ?_) (fun _ => ?_)
      | refine WR.gi hz rfl ?_
      | refine WR.gr hz rfl rfl ?_
      | refine WR.addn rfl (by with_reducible rfl) (by with_reducible rfl) ?_
      | refine WR.muln rfl (by with_reducible rfl) (by with_reducible rfl) ?_
      | refine WR.subn rfl (by with_reducible rfl) (by with_reducible rfl) (by omega) ?_
      | (refine WR.incn rfl rfl ?_; dsimp only [List.set])
      | (refine WR.go rfl rfl ?_; try dsimp only [List.set])
      | refine WR.ai hz rfl rfl rfl rfl (by first | with_reducible rfl | assumption) (by omega) ?_
      | refine WR.si hz rfl rfl rfl rfl (by first | with_reducible rfl | assumption) (by omega) ?_
      | refine WR.az hz rfl rfl rfl rfl (by first | with_reducible rfl | assumption) (by omega) ?_
      | refine WR.sz hz rfl rfl rfl rfl (by first | with_reducible rfl | assumption) (by omega) (by decide) ?_
      | refine WR.pi hz rfl ?_
      | refine WR.rt rfl rfl rfl rfl ?_
      | refine WR.rz rfl rfl (by decide) ?_)
    have h80 : ∀ s, f_rp I i 80 s = I 80 s := fun s => f_rp_o I (by decide) i s
    have h76 : ∀ s, f_rp I i 76 s = I 76 s := fun s => f_rp_o I (by decide) i s
    generalize hJ : x_u (f_rp I i) 107 (i + 1) _ = J
    have j80 : ∀ s, J 80 s = I 80 s := fun s => by rw [← hJ, x_u_ne _ _ (by simp)]; exact h80 s
    have j76 : ∀ s, J 76 s = I 76 s := fun s => by rw [← hJ, x_u_ne _ _ (by simp)]; exact h76 s
    have j105 : ∀ s, J 105 s = f_rp I i 105 s := fun s => by rw [← hJ, x_u_ne _ _ (by simp)]
    have hrs : f_rp I (i + 1) = if 0 < I 80 (i + 1) ∧ J 105 (I 80 (i + 1)).toNatClampNeg = 0 then x_u (f_act (x_u J 105 (I 80 (i + 1)).toNatClampNeg 1) (I 80 (i + 1)).toNatClampNeg (i + 1) (I 76 (I 80 (i + 1)).toNatClampNeg).toNatClampNeg).1 106 (I 80 (i + 1)).toNatClampNeg (f_act (x_u J 105 (I 80 (i + 1)).toNatClampNeg 1) (I 80 (i + 1)).toNatClampNeg (i + 1) (I 76 (I 80 (i + 1)).toNatClampNeg).toNatClampNeg).2 else J := by
      rw [j105, ← hJ]
      simp only [f_rp, f_rs, h80, h76]
    iterate 5 (first
      | (with_reducible refine WR.lt (by omega) (by omega) (fun _ => ?_) (fun _ => ?_) <;> try (exfalso; omega))
      | (with_reducible refine WR.le (by omega) (by omega) (fun _ => ?_) (fun _ => ?_) <;> try (exfalso; omega))
      | (with_reducible refine WR.eq (by omega) (by omega) (fun _ => ?_) (fun _ => ?_) <;> try (exfalso; omega))
      | (with_reducible refine WR.ne (by omega) (by omega) (fun _ => ?_) (fun _ => ?_) <;> try (exfalso; omega))
      | with_reducible refine WR.lt0 (by omega) ?_
      | with_reducible refine WR.ge0 (by omega) ?_
      | with_reducible refine WR.br (fun _ => ?_) (fun _ => ?_)
      | refine WR.gi hz rfl ?_
      | refine WR.gr hz rfl rfl ?_
      | refine WR.addn rfl (by with_reducible rfl) (by with_reducible rfl) ?_
      | refine WR.muln rfl (by with_reducible rfl) (by with_reducible rfl) ?_
      | refine WR.subn rfl (by with_reducible rfl) (by with_reducible rfl) (by omega) ?_
      | (refine WR.incn rfl rfl ?_; dsimp only [List.set])
      | (refine WR.go rfl rfl ?_; try dsimp only [List.set])
      | refine WR.ai hz rfl rfl rfl rfl (by first | with_reducible rfl | assumption) (by omega) ?_
      | refine WR.si hz rfl rfl rfl rfl (by first | with_reducible rfl | assumption) (by omega) ?_
      | refine WR.az hz rfl rfl rfl rfl (by first | with_reducible rfl | assumption) (by omega) ?_
      | refine WR.sz hz rfl rfl rfl rfl (by first | with_reducible rfl | assumption) (by omega) (by decide) ?_
      | refine WR.pi hz rfl ?_
      | refine WR.rt rfl rfl rfl rfl ?_
      | refine WR.rz rfl rfl (by decide) ?_)
    rw [j80 (i + 1)]
    rcases hw.1 (i + 1) (by omega) (by omega) with h | ⟨q, hq1, hq2, hq⟩
    · iterate 3 (first
      | (with_reducible refine WR.lt (by omega) (by omega) (fun _ => ?_) (fun _ => ?_) <;> try (exfalso; omega))
      | (with_reducible refine WR.le (by omega) (by omega) (fun _ => ?_) (fun _ => ?_) <;> try (exfalso; omega))
      | (with_reducible refine WR.eq (by omega) (by omega) (fun _ => ?_) (fun _ => ?_) <;> try (exfalso; omega))
      | (with_reducible refine WR.ne (by omega) (by omega) (fun _ => ?_) (fun _ => ?_) <;> try (exfalso; omega))
      | with_reducible refine WR.lt0 (by omega) ?_
      | with_reducible refine WR.ge0 (by omega) ?_
      | with_reducible refine WR.br (fun _ => ?_) (fun _ => ?_)
      | refine WR.gi hz rfl ?_
      | refine WR.gr hz rfl rfl ?_
      | refine WR.addn rfl (by with_reducible rfl) (by with_reducible rfl) ?_
      | refine WR.muln rfl (by with_reducible rfl) (by with_reducible rfl) ?_
      | refine WR.subn rfl (by with_reducible rfl) (by with_reducible rfl) (by omega) ?_
      | (refine WR.incn rfl rfl ?_; dsimp only [List.set])
      | (refine WR.go rfl rfl ?_; try dsimp only [List.set])
      | refine WR.ai hz rfl rfl rfl rfl (by first | with_reducible rfl | assumption) (by omega) ?_
      | refine WR.si hz rfl rfl rfl rfl (by first | with_reducible rfl | assumption) (by omega) ?_
      | refine WR.az hz rfl rfl rfl rfl (by first | with_reducible rfl | assumption) (by omega) ?_
      | refine WR.sz hz rfl rfl rfl rfl (by first | with_reducible rfl | assumption) (by omega) (by decide) ?_
      | refine WR.pi hz rfl ?_
      | refine WR.rt rfl rfl rfl rfl ?_
      | refine WR.rz rfl rfl (by decide) ?_)
      · iterate 2 (first
      | (with_reducible refine WR.lt (by omega) (by omega) (fun _ => ?_) (fun _ => ?_) <;> try (exfalso; omega))
      | (with_reducible refine WR.le (by omega) (by omega) (fun _ => ?_) (fun _ => ?_) <;> try (exfalso; omega))
      | (with_reducible refine WR.eq (by omega) (by omega) (fun _ => ?_) (fun _ => ?_) <;> try (exfalso; omega))
      | (with_reducible refine WR.ne (by omega) (by omega) (fun _ => ?_) (fun _ => ?_) <;> try (exfalso; omega))
      | with_reducible refine WR.lt0 (by omega) ?_
      | with_reducible refine WR.ge0 (by omega) ?_
      | with_reducible refine WR.br (fun _ => ?_) (fun _ => ?_)
      | refine WR.gi hz rfl ?_
      | refine WR.gr hz rfl rfl ?_
      | refine WR.addn rfl (by with_reducible rfl) (by with_reducible rfl) ?_
      | refine WR.muln rfl (by with_reducible rfl) (by with_reducible rfl) ?_
      | refine WR.subn rfl (by with_reducible rfl) (by with_reducible rfl) (by omega) ?_
      | (refine WR.incn rfl rfl ?_; dsimp only [List.set])
      | (refine WR.go rfl rfl ?_; try dsimp only [List.set])
      | refine WR.ai hz rfl rfl rfl rfl (by first | with_reducible rfl | assumption) (by omega) ?_
      | refine WR.si hz rfl rfl rfl rfl (by first | with_reducible rfl | assumption) (by omega) ?_
      | refine WR.az hz rfl rfl rfl rfl (by first | with_reducible rfl | assumption) (by omega) ?_
      | refine WR.sz hz rfl rfl rfl rfl (by first | with_reducible rfl | assumption) (by omega) (by decide) ?_
      | refine WR.pi hz rfl ?_
      | refine WR.rt rfl rfl rfl rfl ?_
      | refine WR.rz rfl rfl (by decide) ?_)
        rw [hrs, if_neg (fun z => absurd z.1 (Int32.not_lt.mpr h))] at hk
        exact hk
      · rename_i h2
        exact absurd h h2
    · have hcl : (I 80 (i + 1)).toNatClampNeg = q := by rw [hq]; exact nI_clamp (by omega)
      obtain ⟨ky, hk1, hk2⟩ := hw.2 q hq2
      have hcl2 : (I 76 q).toNatClampNeg = ky := by rw [hk2]; exact nI_clamp (by omega)
      rw [hcl, hcl2, hq] at hrs
      rw [hq]
      iterate 3 (first
      | (with_reducible refine WR.lt (by omega) (by omega) (fun _ => ?_) (fun _ => ?_) <;> try (exfalso; omega))
      | (with_reducible refine WR.le (by omega) (by omega) (fun _ => ?_) (fun _ => ?_) <;> try (exfalso; omega))
      | (with_reducible refine WR.eq (by omega) (by omega) (fun _ => ?_) (fun _ => ?_) <;> try (exfalso; omega))
      | (with_reducible refine WR.ne (by omega) (by omega) (fun _ => ?_) (fun _ => ?_) <;> try (exfalso; omega))
      | with_reducible refine WR.lt0 (by omega) ?_
      | with_reducible refine WR.ge0 (by omega) ?_
      | with_reducible refine WR.br (fun _ => ?_) (fun _ => ?_)
      | refine WR.gi hz rfl ?_
      | refine WR.gr hz rfl rfl ?_
      | refine WR.addn rfl (by with_reducible rfl) (by with_reducible rfl) ?_
      | refine WR.muln rfl (by with_reducible rfl) (by with_reducible rfl) ?_
      | refine WR.subn rfl (by with_reducible rfl) (by with_reducible rfl) (by omega) ?_
      | (refine WR.incn rfl rfl ?_; dsimp only [List.set])
      | (refine WR.go rfl rfl ?_; try dsimp only [List.set])
      | refine WR.ai hz rfl rfl rfl rfl (by first | with_reducible rfl | assumption) (by omega) ?_
      | refine WR.si hz rfl rfl rfl rfl (by first | with_reducible rfl | assumption) (by omega) ?_
      | refine WR.az hz rfl rfl rfl rfl (by first | with_reducible rfl | assumption) (by omega) ?_
      | refine WR.sz hz rfl rfl rfl rfl (by first | with_reducible rfl | assumption) (by omega) (by decide) ?_
      | refine WR.pi hz rfl ?_
      | refine WR.rt rfl rfl rfl rfl ?_
      | refine WR.rz rfl rfl (by decide) ?_)
      · rename_i h2
        exact absurd h2 (nI_nle (by omega) (by omega))
      · rename_i h2
        iterate 6 (first
      | (with_reducible refine WR.lt (by omega) (by omega) (fun _ => ?_) (fun _ => ?_) <;> try (exfalso; omega))
      | (with_reducible refine WR.le (by omega) (by omega) (fun _ => ?_) (fun _ => ?_) <;> try (exfalso; omega))
      | (with_reducible refine WR.eq (by omega) (by omega) (fun _ => ?_) (fun _ => ?_) <;> try (exfalso; omega))
      | (with_reducible refine WR.ne (by omega) (by omega) (fun _ => ?_) (fun _ => ?_) <;> try (exfalso; omega))
      | with_reducible refine WR.lt0 (by omega) ?_
      | with_reducible refine WR.ge0 (by omega) ?_
      | with_reducible refine WR.br (fun _ => ?_) (fun _ => ?_)
      | refine WR.gi hz rfl ?_
      | refine WR.gr hz rfl rfl ?_
      | refine WR.addn rfl (by with_reducible rfl) (by with_reducible rfl) ?_
      | refine WR.muln rfl (by with_reducible rfl) (by with_reducible rfl) ?_
      | refine WR.subn rfl (by with_reducible rfl) (by with_reducible rfl) (by omega) ?_
      | (refine WR.incn rfl rfl ?_; dsimp only [List.set])
      | (refine WR.go rfl rfl ?_; try dsimp only [List.set])
      | refine WR.ai hz rfl rfl rfl rfl (by first | with_reducible rfl | assumption) (by omega) ?_
      | refine WR.si hz rfl rfl rfl rfl (by first | with_reducible rfl | assumption) (by omega) ?_
      | refine WR.az hz rfl rfl rfl rfl (by first | with_reducible rfl | assumption) (by omega) ?_
      | refine WR.sz hz rfl rfl rfl rfl (by first | with_reducible rfl | assumption) (by omega) (by decide) ?_
      | refine WR.pi hz rfl ?_
      | refine WR.rt rfl rfl rfl rfl ?_
      | refine WR.rz rfl rfl (by decide) ?_)
        · rename_i h3
          iterate 2 (first
      | (with_reducible refine WR.lt (by omega) (by omega) (fun _ => ?_) (fun _ => ?_) <;> try (exfalso; omega))
      | (with_reducible refine WR.le (by omega) (by omega) (fun _ => ?_) (fun _ => ?_) <;> try (exfalso; omega))
      | (with_reducible refine WR.eq (by omega) (by omega) (fun _ => ?_) (fun _ => ?_) <;> try (exfalso; omega))
      | (with_reducible refine WR.ne (by omega) (by omega) (fun _ => ?_) (fun _ => ?_) <;> try (exfalso; omega))
      | with_reducible refine WR.lt0 (by omega) ?_
      | with_reducible refine WR.ge0 (by omega) ?_
      | with_reducible refine WR.br (fun _ => ?_) (fun _ => ?_)
      | refine WR.gi hz rfl ?_
      | refine WR.gr hz rfl rfl ?_
      | refine WR.addn rfl (by with_reducible rfl) (by with_reducible rfl) ?_
      | refine WR.muln rfl (by with_reducible rfl) (by with_reducible rfl) ?_
      | refine WR.subn rfl (by with_reducible rfl) (by with_reducible rfl) (by omega) ?_
      | (refine WR.incn rfl rfl ?_; dsimp only [List.set])
      | (refine WR.go rfl rfl ?_; try dsimp only [List.set])
      | refine WR.ai hz rfl rfl rfl rfl (by first | with_reducible rfl | assumption) (by omega) ?_
      | refine WR.si hz rfl rfl rfl rfl (by first | with_reducible rfl | assumption) (by omega) ?_
      | refine WR.az hz rfl rfl rfl rfl (by first | with_reducible rfl | assumption) (by omega) ?_
      | refine WR.sz hz rfl rfl rfl rfl (by first | with_reducible rfl | assumption) (by omega) (by decide) ?_
      | refine WR.pi hz rfl ?_
      | refine WR.rt rfl rfl rfl rfl ?_
      | refine WR.rz rfl rfl (by decide) ?_)
          rw [hrs, if_neg (fun z => h3 z.2)] at hk
          simp only [hq] at hk
          exact hk
        · rename_i h3
          iterate 11 (first
      | (with_reducible refine WR.lt (by omega) (by omega) (fun _ => ?_) (fun _ => ?_) <;> try (exfalso; omega))
      | (with_reducible refine WR.le (by omega) (by omega) (fun _ => ?_) (fun _ => ?_) <;> try (exfalso; omega))
      | (with_reducible refine WR.eq (by omega) (by omega) (fun _ => ?_) (fun _ => ?_) <;> try (exfalso; omega))
      | (with_reducible refine WR.ne (by omega) (by omega) (fun _ => ?_) (fun _ => ?_) <;> try (exfalso; omega))
      | with_reducible refine WR.lt0 (by omega) ?_
      | with_reducible refine WR.ge0 (by omega) ?_
      | with_reducible refine WR.br (fun _ => ?_) (fun _ => ?_)
      | refine WR.gi hz rfl ?_
      | refine WR.gr hz rfl rfl ?_
      | refine WR.addn rfl (by with_reducible rfl) (by with_reducible rfl) ?_
      | refine WR.muln rfl (by with_reducible rfl) (by with_reducible rfl) ?_
      | refine WR.subn rfl (by with_reducible rfl) (by with_reducible rfl) (by omega) ?_
      | (refine WR.incn rfl rfl ?_; dsimp only [List.set])
      | (refine WR.go rfl rfl ?_; try dsimp only [List.set])
      | refine WR.ai hz rfl rfl rfl rfl (by first | with_reducible rfl | assumption) (by omega) ?_
      | refine WR.si hz rfl rfl rfl rfl (by first | with_reducible rfl | assumption) (by omega) ?_
      | refine WR.az hz rfl rfl rfl rfl (by first | with_reducible rfl | assumption) (by omega) ?_
      | refine WR.sz hz rfl rfl rfl rfl (by first | with_reducible rfl | assumption) (by omega) (by decide) ?_
      | refine WR.pi hz rfl ?_
      | refine WR.rt rfl rfl rfl rfl ?_
      | refine WR.rz rfl rfl (by decide) ?_)
          refine WR.V2i hz rfl rfl (r_act d (x_u J 105 q (nI 1)) hq2 (by omega) (by omega) hk1 (by rw [x_u_ne _ _ (by simp), j76]; exact hk2) hz) ?_
          iterate 3 (first
      | (with_reducible refine WR.lt (by omega) (by omega) (fun _ => ?_) (fun _ => ?_) <;> try (exfalso; omega))
      | (with_reducible refine WR.le (by omega) (by omega) (fun _ => ?_) (fun _ => ?_) <;> try (exfalso; omega))
      | (with_reducible refine WR.eq (by omega) (by omega) (fun _ => ?_) (fun _ => ?_) <;> try (exfalso; omega))
      | (with_reducible refine WR.ne (by omega) (by omega) (fun _ => ?_) (fun _ => ?_) <;> try (exfalso; omega))
      | with_reducible refine WR.lt0 (by omega) ?_
      | with_reducible refine WR.ge0 (by omega) ?_
      | with_reducible refine WR.br (fun _ => ?_) (fun _ => ?_)
      | refine WR.gi hz rfl ?_
      | refine WR.gr hz rfl rfl ?_
      | refine WR.addn rfl (by with_reducible rfl) (by with_reducible rfl) ?_
      | refine WR.muln rfl (by with_reducible rfl) (by with_reducible rfl) ?_
      | refine WR.subn rfl (by with_reducible rfl) (by with_reducible rfl) (by omega) ?_
      | (refine WR.incn rfl rfl ?_; dsimp only [List.set])
      | (refine WR.go rfl rfl ?_; try dsimp only [List.set])
      | refine WR.ai hz rfl rfl rfl rfl (by first | with_reducible rfl | assumption) (by omega) ?_
      | refine WR.si hz rfl rfl rfl rfl (by first | with_reducible rfl | assumption) (by omega) ?_
      | refine WR.az hz rfl rfl rfl rfl (by first | with_reducible rfl | assumption) (by omega) ?_
      | refine WR.sz hz rfl rfl rfl rfl (by first | with_reducible rfl | assumption) (by omega) (by decide) ?_
      | refine WR.pi hz rfl ?_
      | refine WR.rt rfl rfl rfl rfl ?_
      | refine WR.rz rfl rfl (by decide) ?_)
          rw [hrs, if_pos ⟨Int32.not_le.mp h2, Classical.not_not.mp h3⟩] at hk
          simp only [hq] at hk
          exact hk
theorem r_members (d : Nat) (I : xI) {r s e : Nat} (hr : r < 5) (he : I 83 r = nI e) (he2 : e ≤ 24) (hs : s ≤ 27) (hw : f_wf I) (hz : zok Z) : ER Z (d + 3) 106 I [.ref 74, .int (nI r), .int (nI s)] (fun I' v => I' = f_rp I e ∧ v = some (.int (if s ≤ 3 then nI 7 else f_rp I e 107 (s - 3)))) := by
  refine ER.of (ls := [some (.ref 74), some (.int (nI r)), some (.int (nI s))]) rfl rfl ?_
  iterate 5 (first
      | (with_reducible refine WR.lt (by omega) (by omega) (fun _ => ?_) (fun _ => ?_) <;> try (exfalso; omega))
      | (with_reducible refine WR.le (by omega) (by omega) (fun _ => ?_) (fun _ => ?_) <;> try (exfalso; omega))
      | (with_reducible refine WR.eq (by omega) (by omega) (fun _ => ?_) (fun _ => ?_) <;> try (exfalso; omega))
      | (with_reducible refine WR.ne (by omega) (by omega) (fun _ => ?_) (fun _ => ?_) <;> try (exfalso; omega))
      | with_reducible refine WR.lt0 (by omega) ?_
      | with_reducible refine WR.ge0 (by omega) ?_
      | with_reducible refine WR.br (fun _ => ?_) (fun _ => ?_)
      | refine WR.gi hz rfl ?_
      | refine WR.gr hz rfl rfl ?_
      | refine WR.addn rfl (by with_reducible rfl) (by with_reducible rfl) ?_
      | refine WR.muln rfl (by with_reducible rfl) (by with_reducible rfl) ?_
      | refine WR.subn rfl (by with_reducible rfl) (by with_reducible rfl) (by omega) ?_
      | (refine WR.incn rfl rfl ?_; dsimp only [List.set])
      | (refine WR.go rfl rfl ?_; try dsimp only [List.set])
      | refine WR.ai hz rfl rfl rfl rfl (by first | with_reducible rfl | assumption) (by omega) ?_
      | refine WR.si hz rfl rfl rfl rfl (by first | with_reducible rfl | assumption) (by omega) ?_
      | refine WR.az hz rfl rfl rfl rfl (by first | with_reducible rfl | assumption) (by omega) ?_
      | refine WR.sz hz rfl rfl rfl rfl (by first | with_reducible rfl | assumption) (by omega) (by decide) ?_
      | refine WR.pi hz rfl ?_
      | refine WR.rt rfl rfl rfl rfl ?_
      | refine WR.rz rfl rfl (by decide) ?_)
  rw [he]
  refine WR.V1v hz rfl rfl (r_replay d I he2 hw hz) ?_
  repeat' (first
      | (with_reducible refine WR.lt (by omega) (by omega) (fun _ => ?_) (fun _ => ?_) <;> try (exfalso; omega))
      | (with_reducible refine WR.le (by omega) (by omega) (fun _ => ?_) (fun _ => ?_) <;> try (exfalso; omega))
      | (with_reducible refine WR.eq (by omega) (by omega) (fun _ => ?_) (fun _ => ?_) <;> try (exfalso; omega))
      | (with_reducible refine WR.ne (by omega) (by omega) (fun _ => ?_) (fun _ => ?_) <;> try (exfalso; omega))
      | with_reducible refine WR.lt0 (by omega) ?_
      | with_reducible refine WR.ge0 (by omega) ?_
      | with_reducible refine WR.br (fun _ => ?_) (fun _ => ?_)
      | refine WR.gi hz rfl ?_
      | refine WR.gr hz rfl rfl ?_
      | refine WR.addn rfl (by with_reducible rfl) (by with_reducible rfl) ?_
      | refine WR.muln rfl (by with_reducible rfl) (by with_reducible rfl) ?_
      | refine WR.subn rfl (by with_reducible rfl) (by with_reducible rfl) (by omega) ?_
      | (refine WR.incn rfl rfl ?_; dsimp only [List.set])
      | (refine WR.go rfl rfl ?_; try dsimp only [List.set])
      | refine WR.ai hz rfl rfl rfl rfl (by first | with_reducible rfl | assumption) (by omega) ?_
      | refine WR.si hz rfl rfl rfl rfl (by first | with_reducible rfl | assumption) (by omega) ?_
      | refine WR.az hz rfl rfl rfl rfl (by first | with_reducible rfl | assumption) (by omega) ?_
      | refine WR.sz hz rfl rfl rfl rfl (by first | with_reducible rfl | assumption) (by omega) (by decide) ?_
      | refine WR.pi hz rfl ?_
      | refine WR.rt rfl rfl rfl rfl ?_
      | refine WR.rz rfl rfl (by decide) ?_)
  · rename_i h; exact ⟨rfl, by rw [if_neg (by omega)]⟩
  · rename_i h; exact ⟨rfl, by rw [if_pos (by omega)]⟩
end REPL
end
section
/-! the reference: mail and what moves messages -/
section MAIL
variable {Z : xZ} {d k pc nx : Nat} {ls : xL} {st : List Value} {I : xI} {Q : xI → Option Value → Prop} {c : Int32}
theorem WR.gik (hz : zok Z) {ix j : Nat} {v : Int32} (hp : x_P k pc = some (.getfield ix, nx, c, [10, 42, j, 0])) (hv : I 74 j = v) (h : WR Z d k nx ls (.int v :: st) I Q) : WR Z d k pc ls (.ref 74 :: st) I Q := WR.gi hz hp (hv ▸ h)
theorem WR.aik (hz : zok Z) {a n i : Nat} {i' v : Int32} {xs : List Nat} (hp : x_P k pc = some (.iaload, nx, c, xs)) (ha : x_K0[a]? = some (true, 0, n)) (h1 : Nat.ble 74 a = true) (h2 : Nat.ble n 65536 = true) (hx' : i' = nI i) (hi : i < n) (hv : I a i = v) (h : WR Z d k nx ls (.int v :: st) I Q) : WR Z d k pc ls (.int i' :: .ref a :: st) I Q := WR.ai hz hp ha h1 h2 hx' hi (hv ▸ h)
/-- n elements from base on -/
def f_fillF (I : xI) (a base n : Nat) (g : Nat → Int32) : xI := fun b j => if b = a ∧ base ≤ j ∧ j < base + n then g (j - base) else I b j
theorem f_fillF0 (I : xI) (a base : Nat) (g : Nat → Int32) : f_fillF I a base 0 g = I := by
  funext b j
  simp only [f_fillF]
  rw [if_neg (by omega)]
theorem f_fillFS (I : xI) (a base n : Nat) (g : Nat → Int32) {v : Int32} (hv : v = g n) : x_u (f_fillF I a base n g) a (base + n) v = f_fillF I a base (n + 1) g := by
  subst hv
  funext b j
  simp only [x_u, f_fillF]
  by_cases h1 : b = a
  · subst h1
    by_cases h2 : j = base + n
    · subst h2
      rw [if_pos ⟨rfl, rfl⟩, if_pos ⟨rfl, by omega, by omega⟩, Nat.add_sub_cancel_left]
    · rw [if_neg (fun q => h2 q.2)]
      by_cases h3 : base ≤ j ∧ j < base + n
      · rw [if_pos ⟨rfl, h3⟩, if_pos ⟨rfl, h3.1, by omega⟩]
      · rw [if_neg (fun q => h3 q.2), if_neg (fun q => h3 ⟨q.2.1, by omega⟩)]
  · simp [h1]
theorem f_fillF_o (I : xI) {a b : Nat} (base n j : Nat) (g : Nat → Int32) (h : b ≠ a) : f_fillF I a base n g b j = I b j := by
  simp only [f_fillF]
  rw [if_neg (fun q => h q.1)]
theorem f_fillF_ne (I : xI) {a b : Nat} (base n i : Nat) (g : Nat → Int32) (w : Int32) (h : a ≠ b) : f_fillF (x_u I b i w) a base n g = x_u (f_fillF I a base n g) b i w := by
  funext c j
  simp only [f_fillF, x_u]
  by_cases h1 : c = a
  · subst h1; simp [h]
  · simp [h1]
def f_mailH (I : xI) (kd : Int32) (r : Nat) (t b n c : Int32) (w : Nat) : xI :=
  x_u (x_u (x_u (x_u (x_u (x_u (x_u (x_u (x_u I 74 20 (nI (w + 1))) 74 21 (I 74 21 + nI 1)) 93 w kd) 94 w (nI r)) 95 w t) 96 w b) 97 w n) 98 w c) 99 w (if kd = nI 2 then I 82 r else n)
def f_mailV (I : xI) (a : Nat) (kd : Int32) (r : Nat) : Nat → Int32 := fun s => if kd = nI 2 then I a (25 * r + s) else nI 0
def f_mail (I : xI) (kd : Int32) (r : Nat) (t b n c : Int32) (w : Nat) : xI :=
  if w = 32 then I else f_fillF (f_fillF (f_mailH I kd r t b n c w) 100 (25 * w) 25 (f_mailV I 85 kd r)) 101 (25 * w) 25 (f_mailV I 86 kd r)
set_option maxHeartbeats 4000000 in
theorem r_mail (d : Nat) (I : xI) (kd : Int32) {r : Nat} (t b n c : Int32) {w : Nat} (hr : r < 5) (hw : I 74 20 = nI w) (hw2 : w ≤ 32) (hz : zok Z) : ER Z (d + 1) 111 I [.ref 74, .int kd, .int (nI r), .int t, .int b, .int n, .int c] (fun I' v => I' = f_mail I kd r t b n c w ∧ v = none) := by
  by_cases h32 : w = 32
  · refine ER.of (ls := [some (.ref 74), some (.int kd), some (.int (nI r)), some (.int t), some (.int b), some (.int n), some (.int c), none, none]) rfl rfl ?_
    repeat' (first
      | (with_reducible refine WR.lt (by omega) (by omega) (fun _ => ?_) (fun _ => ?_) <;> try (exfalso; omega))
      | (with_reducible refine WR.le (by omega) (by omega) (fun _ => ?_) (fun _ => ?_) <;> try (exfalso; omega))
      | (with_reducible refine WR.eq (by omega) (by omega) (fun _ => ?_) (fun _ => ?_) <;> try (exfalso; omega))
      | (with_reducible refine WR.ne (by omega) (by omega) (fun _ => ?_) (fun _ => ?_) <;> try (exfalso; omega))
      | with_reducible refine WR.lt0 (by omega) ?_
      | with_reducible refine WR.ge0 (by omega) ?_
      | (with_reducible refine WR.br (fun _ => ?_) (fun _ => ?_) <;> try contradiction)
      | refine WR.gik hz rfl (by assumption) ?_
      | refine WR.gi hz rfl ?_
      | refine WR.gr hz rfl rfl ?_
      | refine WR.addn rfl (by with_reducible rfl) (by with_reducible rfl) ?_
      | refine WR.muln rfl (by with_reducible rfl) (by with_reducible rfl) ?_
      | refine WR.subn rfl (by with_reducible rfl) (by with_reducible rfl) (by omega) ?_
      | (refine WR.incn rfl rfl ?_; dsimp only [List.set])
      | (refine WR.go rfl rfl ?_; try dsimp only [List.set])
      | refine WR.aik hz rfl rfl rfl rfl (by first | with_reducible rfl | assumption) (by omega) (by assumption) ?_
      | refine WR.ai hz rfl rfl rfl rfl (by first | with_reducible rfl | assumption) (by omega) ?_
      | refine WR.si hz rfl rfl rfl rfl (by first | with_reducible rfl | assumption) (by omega) ?_
      | refine WR.az hz rfl rfl rfl rfl (by first | with_reducible rfl | assumption) (by omega) ?_
      | refine WR.sz hz rfl rfl rfl rfl (by first | with_reducible rfl | assumption) (by omega) (by decide) ?_
      | refine WR.pi hz rfl ?_
      | refine WR.rt rfl rfl rfl rfl ?_
      | refine WR.rz rfl rfl (by decide) ?_)
    exact ⟨by simp [f_mail, h32], rfl⟩
  · refine ER.of (ls := [some (.ref 74), some (.int kd), some (.int (nI r)), some (.int t), some (.int b), some (.int n), some (.int c), none, none]) rfl rfl ?_
    have key : ∀ J : xI, (∀ j, J 85 j = I 85 j) → (∀ j, J 86 j = I 86 j) → (f_mailH I kd r t b n c w = J) → WR Z d 111 113 [some (.ref 74), some (.int kd), some (.int (nI r)), some (.int t), some (.int b), some (.int n), some (.int c), some (.int (nI w)), some (.int (nI 0))] [] J (fun I' v => I' = f_mail I kd r t b n c w ∧ v = none) := by
      intro J h85 h86 hJ
      refine WR.cast (by rw [f_fillF0, f_fillF0]) (WR.loop (fun i => f_fillF (f_fillF J 100 (25 * w) i (f_mailV I 85 kd r)) 101 (25 * w) i (f_mailV I 86 kd r)) (fun i => [some (.ref 74), some (.int kd), some (.int (nI r)), some (.int t), some (.int b), some (.int n), some (.int c), some (.int (nI w)), some (.int (nI i))]) 25 ?_ (fun i hi hk => ?_) 25 0 rfl)
      · iterate 5 (first
      | (with_reducible refine WR.lt (by omega) (by omega) (fun _ => ?_) (fun _ => ?_) <;> try (exfalso; omega))
      | (with_reducible refine WR.le (by omega) (by omega) (fun _ => ?_) (fun _ => ?_) <;> try (exfalso; omega))
      | (with_reducible refine WR.eq (by omega) (by omega) (fun _ => ?_) (fun _ => ?_) <;> try (exfalso; omega))
      | (with_reducible refine WR.ne (by omega) (by omega) (fun _ => ?_) (fun _ => ?_) <;> try (exfalso; omega))
      | with_reducible refine WR.lt0 (by omega) ?_
      | with_reducible refine WR.ge0 (by omega) ?_
      | (with_reducible refine WR.br (fun _ => ?_) (fun _ => ?_) <;> try contradiction)
      | refine WR.gik hz rfl (by assumption) ?_
      | refine WR.gi hz rfl ?_
      | refine WR.gr hz rfl rfl ?_
      | refine WR.addn rfl (by with_reducible rfl) (by with_reducible rfl) ?_
      | refine WR.muln rfl (by with_reducible rfl) (by with_reducible rfl) ?_
      | refine WR.subn rfl (by with_reducible rfl) (by with_reducible rfl) (by omega) ?_
      | (refine WR.incn rfl rfl ?_; dsimp only [List.set])
      | (refine WR.go rfl rfl ?_; try dsimp only [List.set])
      | refine WR.aik hz rfl rfl rfl rfl (by first | with_reducible rfl | assumption) (by omega) (by assumption) ?_
      | refine WR.ai hz rfl rfl rfl rfl (by first | with_reducible rfl | assumption) (by omega) ?_
      | refine WR.si hz rfl rfl rfl rfl (by first | with_reducible rfl | assumption) (by omega) ?_
      | refine WR.az hz rfl rfl rfl rfl (by first | with_reducible rfl | assumption) (by omega) ?_
      | refine WR.sz hz rfl rfl rfl rfl (by first | with_reducible rfl | assumption) (by omega) (by decide) ?_
      | refine WR.pi hz rfl ?_
      | refine WR.rt rfl rfl rfl rfl ?_
      | refine WR.rz rfl rfl (by decide) ?_)
        refine ⟨?_, rfl⟩
        rw [f_mail, if_neg h32, hJ]
      · by_cases hkd : kd = nI 2
        · repeat' (first | with_reducible refine WR.cast ?_ hk | (first
      | (with_reducible refine WR.lt (by omega) (by omega) (fun _ => ?_) (fun _ => ?_) <;> try (exfalso; omega))
      | (with_reducible refine WR.le (by omega) (by omega) (fun _ => ?_) (fun _ => ?_) <;> try (exfalso; omega))
      | (with_reducible refine WR.eq (by omega) (by omega) (fun _ => ?_) (fun _ => ?_) <;> try (exfalso; omega))
      | (with_reducible refine WR.ne (by omega) (by omega) (fun _ => ?_) (fun _ => ?_) <;> try (exfalso; omega))
      | with_reducible refine WR.lt0 (by omega) ?_
      | with_reducible refine WR.ge0 (by omega) ?_
      | (with_reducible refine WR.br (fun _ => ?_) (fun _ => ?_) <;> try contradiction)
      | refine WR.gik hz rfl (by assumption) ?_
      | refine WR.gi hz rfl ?_
      | refine WR.gr hz rfl rfl ?_
      | refine WR.addn rfl (by with_reducible rfl) (by with_reducible rfl) ?_
      | refine WR.muln rfl (by with_reducible rfl) (by with_reducible rfl) ?_
      | refine WR.subn rfl (by with_reducible rfl) (by with_reducible rfl) (by omega) ?_
      | (refine WR.incn rfl rfl ?_; dsimp only [List.set])
      | (refine WR.go rfl rfl ?_; try dsimp only [List.set])
      | refine WR.aik hz rfl rfl rfl rfl (by first | with_reducible rfl | assumption) (by omega) (by assumption) ?_
      | refine WR.ai hz rfl rfl rfl rfl (by first | with_reducible rfl | assumption) (by omega) ?_
      | refine WR.si hz rfl rfl rfl rfl (by first | with_reducible rfl | assumption) (by omega) ?_
      | refine WR.az hz rfl rfl rfl rfl (by first | with_reducible rfl | assumption) (by omega) ?_
      | refine WR.sz hz rfl rfl rfl rfl (by first | with_reducible rfl | assumption) (by omega) (by decide) ?_
      | refine WR.pi hz rfl ?_
      | refine WR.rt rfl rfl rfl rfl ?_
      | refine WR.rz rfl rfl (by decide) ?_))
          rw [← f_fillF_ne _ _ _ _ _ _ (by decide), f_fillFS _ _ _ _ _ ?_, f_fillFS _ _ _ _ _ ?_]
          · rw [f_mailV, if_pos hkd, f_fillF_o _ _ _ _ _ (by decide), f_fillF_o _ _ _ _ _ (by decide), h85]
          · rw [f_mailV, if_pos hkd, f_fillF_o _ _ _ _ _ (by decide), x_u_ne _ _ (by simp), f_fillF_o _ _ _ _ _ (by decide), h86]
        · repeat' (first | with_reducible refine WR.cast ?_ hk | (first
      | (with_reducible refine WR.lt (by omega) (by omega) (fun _ => ?_) (fun _ => ?_) <;> try (exfalso; omega))
      | (with_reducible refine WR.le (by omega) (by omega) (fun _ => ?_) (fun _ => ?_) <;> try (exfalso; omega))
      | (with_reducible refine WR.eq (by omega) (by omega) (fun _ => ?_) (fun _ => ?_) <;> try (exfalso; omega))
      | (with_reducible refine WR.ne (by omega) (by omega) (fun _ => ?_) (fun _ => ?_) <;> try (exfalso; omega))
      | with_reducible refine WR.lt0 (by omega) ?_
      | with_reducible refine WR.ge0 (by omega) ?_
      | (with_reducible refine WR.br (fun _ => ?_) (fun _ => ?_) <;> try contradiction)
      | refine WR.gik hz rfl (by assumption) ?_
      | refine WR.gi hz rfl ?_
      | refine WR.gr hz rfl rfl ?_
      | refine WR.addn rfl (by with_reducible rfl) (by with_reducible rfl) ?_
      | refine WR.muln rfl (by with_reducible rfl) (by with_reducible rfl) ?_
      | refine WR.subn rfl (by with_reducible rfl) (by with_reducible rfl) (by omega) ?_
      | (refine WR.incn rfl rfl ?_; dsimp only [List.set])
      | (refine WR.go rfl rfl ?_; try dsimp only [List.set])
      | refine WR.aik hz rfl rfl rfl rfl (by first | with_reducible rfl | assumption) (by omega) (by assumption) ?_
      | refine WR.ai hz rfl rfl rfl rfl (by first | with_reducible rfl | assumption) (by omega) ?_
      | refine WR.si hz rfl rfl rfl rfl (by first | with_reducible rfl | assumption) (by omega) ?_
      | refine WR.az hz rfl rfl rfl rfl (by first | with_reducible rfl | assumption) (by omega) ?_
      | refine WR.sz hz rfl rfl rfl rfl (by first | with_reducible rfl | assumption) (by omega) (by decide) ?_
      | refine WR.pi hz rfl ?_
      | refine WR.rt rfl rfl rfl rfl ?_
      | refine WR.rz rfl rfl (by decide) ?_))
          rw [← f_fillF_ne _ _ _ _ _ _ (by decide), f_fillFS _ _ _ _ _ ?_, f_fillFS _ _ _ _ _ ?_]
          · rw [f_mailV, if_neg hkd]
          · rw [f_mailV, if_neg hkd]
    by_cases hkd : kd = nI 2
    · iterate 65 (first
      | (with_reducible refine WR.lt (by omega) (by omega) (fun _ => ?_) (fun _ => ?_) <;> try (exfalso; omega))
      | (with_reducible refine WR.le (by omega) (by omega) (fun _ => ?_) (fun _ => ?_) <;> try (exfalso; omega))
      | (with_reducible refine WR.eq (by omega) (by omega) (fun _ => ?_) (fun _ => ?_) <;> try (exfalso; omega))
      | (with_reducible refine WR.ne (by omega) (by omega) (fun _ => ?_) (fun _ => ?_) <;> try (exfalso; omega))
      | with_reducible refine WR.lt0 (by omega) ?_
      | with_reducible refine WR.ge0 (by omega) ?_
      | (with_reducible refine WR.br (fun _ => ?_) (fun _ => ?_) <;> try contradiction)
      | refine WR.gik hz rfl (by assumption) ?_
      | refine WR.gi hz rfl ?_
      | refine WR.gr hz rfl rfl ?_
      | refine WR.addn rfl (by with_reducible rfl) (by with_reducible rfl) ?_
      | refine WR.muln rfl (by with_reducible rfl) (by with_reducible rfl) ?_
      | refine WR.subn rfl (by with_reducible rfl) (by with_reducible rfl) (by omega) ?_
      | (refine WR.incn rfl rfl ?_; dsimp only [List.set])
      | (refine WR.go rfl rfl ?_; try dsimp only [List.set])
      | refine WR.aik hz rfl rfl rfl rfl (by first | with_reducible rfl | assumption) (by omega) (by assumption) ?_
      | refine WR.ai hz rfl rfl rfl rfl (by first | with_reducible rfl | assumption) (by omega) ?_
      | refine WR.si hz rfl rfl rfl rfl (by first | with_reducible rfl | assumption) (by omega) ?_
      | refine WR.az hz rfl rfl rfl rfl (by first | with_reducible rfl | assumption) (by omega) ?_
      | refine WR.sz hz rfl rfl rfl rfl (by first | with_reducible rfl | assumption) (by omega) (by decide) ?_
      | refine WR.pi hz rfl ?_
      | refine WR.rt rfl rfl rfl rfl ?_
      | refine WR.rz rfl rfl (by decide) ?_)
      refine WR.cast (I2 := f_mailH I kd r t b n c w) ?_ (key _ ?_ ?_ rfl)
      · simp [f_mailH, hkd, x_u]
      · intro j; simp [f_mailH, x_u]
      · intro j; simp [f_mailH, x_u]
    · iterate 61 (first
      | (with_reducible refine WR.lt (by omega) (by omega) (fun _ => ?_) (fun _ => ?_) <;> try (exfalso; omega))
      | (with_reducible refine WR.le (by omega) (by omega) (fun _ => ?_) (fun _ => ?_) <;> try (exfalso; omega))
      | (with_reducible refine WR.eq (by omega) (by omega) (fun _ => ?_) (fun _ => ?_) <;> try (exfalso; omega))
      | (with_reducible refine WR.ne (by omega) (by omega) (fun _ => ?_) (fun _ => ?_) <;> try (exfalso; omega))
      | with_reducible refine WR.lt0 (by omega) ?_
      | with_reducible refine WR.ge0 (by omega) ?_
      | (with_reducible refine WR.br (fun _ => ?_) (fun _ => ?_) <;> try contradiction)
      | refine WR.gik hz rfl (by assumption) ?_
      | refine WR.gi hz rfl ?_
      | refine WR.gr hz rfl rfl ?_
      | refine WR.addn rfl (by with_reducible rfl) (by with_reducible rfl) ?_
      | refine WR.muln rfl (by with_reducible rfl) (by with_reducible rfl) ?_
      | refine WR.subn rfl (by with_reducible rfl) (by with_reducible rfl) (by omega) ?_
      | (refine WR.incn rfl rfl ?_; dsimp only [List.set])
      | (refine WR.go rfl rfl ?_; try dsimp only [List.set])
      | refine WR.aik hz rfl rfl rfl rfl (by first | with_reducible rfl | assumption) (by omega) (by assumption) ?_
      | refine WR.ai hz rfl rfl rfl rfl (by first | with_reducible rfl | assumption) (by omega) ?_
      | refine WR.si hz rfl rfl rfl rfl (by first | with_reducible rfl | assumption) (by omega) ?_
      | refine WR.az hz rfl rfl rfl rfl (by first | with_reducible rfl | assumption) (by omega) ?_
      | refine WR.sz hz rfl rfl rfl rfl (by first | with_reducible rfl | assumption) (by omega) (by decide) ?_
      | refine WR.pi hz rfl ?_
      | refine WR.rt rfl rfl rfl rfl ?_
      | refine WR.rz rfl rfl (by decide) ?_)
      refine WR.cast (I2 := f_mailH I kd r t b n c w) ?_ (key _ ?_ ?_ rfl)
      · simp [f_mailH, hkd, x_u]
      · intro j; simp [f_mailH, x_u]
      · intro j; simp [f_mailH, x_u]
/-- how many messages wait -/
def f_w (I : xI) : Nat := (I 74 20).toNatClampNeg
def f_wok (I : xI) : Prop := I 74 20 = nI (f_w I) ∧ f_w I ≤ 32
theorem f_wok_of {I : xI} {w : Nat} (h : I 74 20 = nI w) (hw : w ≤ 32) : f_wok I ∧ f_w I = w := by
  have h1 : f_w I = w := by rw [f_w, h]; exact nI_clamp (by omega)
  exact ⟨⟨by rw [h1]; exact h, by omega⟩, h1⟩
def f_ml (I : xI) (kd : Int32) (r : Nat) (t b n c : Int32) : xI := f_mail I kd r t b n c (f_w I)
theorem f_ml_w {I : xI} (kd : Int32) (r : Nat) (t b n c : Int32) (h : f_wok I) : f_wok (f_ml I kd r t b n c) ∧ f_w (f_ml I kd r t b n c) = if f_w I = 32 then 32 else f_w I + 1 := by
  by_cases h2 : f_w I = 32
  · have e : f_ml I kd r t b n c = I := by rw [f_ml, f_mail, if_pos h2]
    rw [e, if_pos h2]
    exact ⟨h, h2⟩
  · rw [if_neg h2]
    refine f_wok_of ?_ (by have := h.2; omega)
    rw [f_ml, f_mail, if_neg h2, f_fillF_o _ _ _ _ _ (by decide), f_fillF_o _ _ _ _ _ (by decide)]
    simp [f_mailH, x_u]
theorem f_ml_o {I : xI} (kd : Int32) (r : Nat) (t b n c : Int32) {a i : Nat} (h : a < 93 ∨ 101 < a) (h2 : a ≠ 74 ∨ (i ≠ 20 ∧ i ≠ 21)) : f_ml I kd r t b n c a i = I a i := by
  rw [f_ml, f_mail]
  split
  · rfl
  · rw [f_fillF_o _ _ _ _ _ (by omega), f_fillF_o _ _ _ _ _ (by omega)]
    have e1 : ¬ a = 93 := by omega
    have e2 : ¬ a = 94 := by omega
    have e3 : ¬ a = 95 := by omega
    have e4 : ¬ a = 96 := by omega
    have e5 : ¬ a = 97 := by omega
    have e6 : ¬ a = 98 := by omega
    have e7 : ¬ a = 99 := by omega
    rcases h2 with h2 | h2 <;> simp [f_mailH, x_u, h2, e1, e2, e3, e4, e5, e6, e7]
def f_ma (I : xI) (kd : Int32) (r : Nat) (set b n c : Int32) : Nat → xI
  | 0 => I
  | j + 1 => if j ≠ r ∧ f_bit set (nI j) = true then f_ml (f_ma I kd r set b n c j) kd r (nI j) b n c else f_ma I kd r set b n c j
theorem f_ma_w {I : xI} (kd : Int32) (r : Nat) (set b n c : Int32) (h : f_wok I) : ∀ j, f_wok (f_ma I kd r set b n c j) := by
  intro j
  induction j with
  | zero => exact h
  | succ j ih =>
    simp only [f_ma]
    split
    · exact (f_ml_w _ _ _ _ _ _ ih).1
    · exact ih
set_option maxHeartbeats 4000000 in
theorem r_mailAll (d : Nat) (I : xI) (kd : Int32) {r : Nat} (set b n c : Int32) (hr : r < 5) (hw : f_wok I) (hz : zok Z) : ER Z (d + 2) 110 I [.ref 74, .int kd, .int (nI r), .int set, .int b, .int n, .int c] (fun I' v => I' = f_ma I kd r set b n c 5 ∧ v = none) := by
  refine ER.of (ls := [some (.ref 74), some (.int kd), some (.int (nI r)), some (.int set), some (.int b), some (.int n), some (.int c), none]) rfl rfl ?_
  iterate 2 (first
      | (with_reducible refine WR.lt (by omega) (by omega) (fun _ => ?_) (fun _ => ?_) <;> try (exfalso; omega))
      | (with_reducible refine WR.le (by omega) (by omega) (fun _ => ?_) (fun _ => ?_) <;> try (exfalso; omega))
      | (with_reducible refine WR.eq (by omega) (by omega) (fun _ => ?_) (fun _ => ?_) <;> try (exfalso; omega))
      | (with_reducible refine WR.ne (by omega) (by omega) (fun _ => ?_) (fun _ => ?_) <;> try (exfalso; omega))
      | with_reducible refine WR.lt0 (by omega) ?_
      | with_reducible refine WR.ge0 (by omega) ?_
      | (with_reducible refine WR.br (fun _ => ?_) (fun _ => ?_) <;> try contradiction)
      | refine WR.gik hz rfl (by assumption) ?_
      | refine WR.gi hz rfl ?_
      | refine WR.gr hz rfl rfl ?_
      | refine WR.addn rfl (by with_reducible rfl) (by with_reducible rfl) ?_
      | refine WR.muln rfl (by with_reducible rfl) (by with_reducible rfl) ?_
      | refine WR.subn rfl (by with_reducible rfl) (by with_reducible rfl) (by omega) ?_
      | (refine WR.incn rfl rfl ?_; dsimp only [List.set])
      | (refine WR.go rfl rfl ?_; try dsimp only [List.set])
      | refine WR.aik hz rfl rfl rfl rfl (by first | with_reducible rfl | assumption) (by omega) (by assumption) ?_
      | refine WR.ai hz rfl rfl rfl rfl (by first | with_reducible rfl | assumption) (by omega) ?_
      | refine WR.si hz rfl rfl rfl rfl (by first | with_reducible rfl | assumption) (by omega) ?_
      | refine WR.az hz rfl rfl rfl rfl (by first | with_reducible rfl | assumption) (by omega) ?_
      | refine WR.sz hz rfl rfl rfl rfl (by first | with_reducible rfl | assumption) (by omega) (by decide) ?_
      | refine WR.pi hz rfl ?_
      | refine WR.rt rfl rfl rfl rfl ?_
      | refine WR.rz rfl rfl (by decide) ?_)
  refine WR.loop (fun i => f_ma I kd r set b n c i) (fun i => [some (.ref 74), some (.int kd), some (.int (nI r)), some (.int set), some (.int b), some (.int n), some (.int c), some (.int (nI i))]) 5 ?_ (fun i hi hk => ?_) 5 0 rfl
  · iterate 5 (first
      | (with_reducible refine WR.lt (by omega) (by omega) (fun _ => ?_) (fun _ => ?_) <;> try (exfalso; omega))
      | (with_reducible refine WR.le (by omega) (by omega) (fun _ => ?_) (fun _ => ?_) <;> try (exfalso; omega))
      | (with_reducible refine WR.eq (by omega) (by omega) (fun _ => ?_) (fun _ => ?_) <;> try (exfalso; omega))
      | (with_reducible refine WR.ne (by omega) (by omega) (fun _ => ?_) (fun _ => ?_) <;> try (exfalso; omega))
      | with_reducible refine WR.lt0 (by omega) ?_
      | with_reducible refine WR.ge0 (by omega) ?_
      | (with_reducible refine WR.br (fun _ => ?_) (fun _ => ?_) <;> try contradiction)
      | refine WR.gik hz rfl (by assumption) ?_
      | refine WR.gi hz rfl ?_
      | refine WR.gr hz rfl rfl ?_
      | refine WR.addn rfl (by with_reducible rfl) (by with_reducible rfl) ?_
      | refine WR.muln rfl (by with_reducible rfl) (by with_reducible rfl) ?_
      | refine WR.subn rfl (by with_reducible rfl) (by with_reducible rfl) (by omega) ?_
      | (refine WR.incn rfl rfl ?_; dsimp only [List.set])
      | (refine WR.go rfl rfl ?_; try dsimp only [List.set])
      | refine WR.aik hz rfl rfl rfl rfl (by first | with_reducible rfl | assumption) (by omega) (by assumption) ?_
      | refine WR.ai hz rfl rfl rfl rfl (by first | with_reducible rfl | assumption) (by omega) ?_
      | refine WR.si hz rfl rfl rfl rfl (by first | with_reducible rfl | assumption) (by omega) ?_
      | refine WR.az hz rfl rfl rfl rfl (by first | with_reducible rfl | assumption) (by omega) ?_
      | refine WR.sz hz rfl rfl rfl rfl (by first | with_reducible rfl | assumption) (by omega) (by decide) ?_
      | refine WR.pi hz rfl ?_
      | refine WR.rt rfl rfl rfl rfl ?_
      | refine WR.rz rfl rfl (by decide) ?_)
    exact ⟨rfl, rfl⟩
  · have hwi := f_ma_w kd r set b n c hw i
    simp only [f_ma] at hk
    repeat' (first | with_reducible refine WR.cast ?_ hk | (first
      | (with_reducible refine WR.lt (by omega) (by omega) (fun _ => ?_) (fun _ => ?_) <;> try (exfalso; omega))
      | (with_reducible refine WR.le (by omega) (by omega) (fun _ => ?_) (fun _ => ?_) <;> try (exfalso; omega))
      | (with_reducible refine WR.eq (by omega) (by omega) (fun _ => ?_) (fun _ => ?_) <;> try (exfalso; omega))
      | (with_reducible refine WR.ne (by omega) (by omega) (fun _ => ?_) (fun _ => ?_) <;> try (exfalso; omega))
      | with_reducible refine WR.lt0 (by omega) ?_
      | with_reducible refine WR.ge0 (by omega) ?_
      | (with_reducible refine WR.br (fun _ => ?_) (fun _ => ?_) <;> try contradiction)
      | refine WR.gik hz rfl (by assumption) ?_
      | refine WR.gi hz rfl ?_
      | refine WR.gr hz rfl rfl ?_
      | refine WR.addn rfl (by with_reducible rfl) (by with_reducible rfl) ?_
      | refine WR.muln rfl (by with_reducible rfl) (by with_reducible rfl) ?_
      | refine WR.subn rfl (by with_reducible rfl) (by with_reducible rfl) (by omega) ?_
      | (refine WR.incn rfl rfl ?_; dsimp only [List.set])
      | (refine WR.go rfl rfl ?_; try dsimp only [List.set])
      | refine WR.aik hz rfl rfl rfl rfl (by first | with_reducible rfl | assumption) (by omega) (by assumption) ?_
      | refine WR.ai hz rfl rfl rfl rfl (by first | with_reducible rfl | assumption) (by omega) ?_
      | refine WR.si hz rfl rfl rfl rfl (by first | with_reducible rfl | assumption) (by omega) ?_
      | refine WR.az hz rfl rfl rfl rfl (by first | with_reducible rfl | assumption) (by omega) ?_
      | refine WR.sz hz rfl rfl rfl rfl (by first | with_reducible rfl | assumption) (by omega) (by decide) ?_
      | refine WR.pi hz rfl ?_
      | refine WR.rt rfl rfl rfl rfl ?_
      | refine WR.rz rfl rfl (by decide) ?_))
    · rename_i h; rw [if_neg (by omega)]
    · rename_i h1 h2
      rw [if_neg (fun q => by have q2 := q.2; simp only [f_bit, decide_eq_true_eq] at q2; exact h2 q2)]
    · rename_i h1 h2
      refine WR.V6v hz rfl rfl (r_mail d _ kd (nI i) b n c hr hwi.1 hwi.2 hz) ?_
      repeat' (first | with_reducible refine WR.cast ?_ hk | (first
      | (with_reducible refine WR.lt (by omega) (by omega) (fun _ => ?_) (fun _ => ?_) <;> try (exfalso; omega))
      | (with_reducible refine WR.le (by omega) (by omega) (fun _ => ?_) (fun _ => ?_) <;> try (exfalso; omega))
      | (with_reducible refine WR.eq (by omega) (by omega) (fun _ => ?_) (fun _ => ?_) <;> try (exfalso; omega))
      | (with_reducible refine WR.ne (by omega) (by omega) (fun _ => ?_) (fun _ => ?_) <;> try (exfalso; omega))
      | with_reducible refine WR.lt0 (by omega) ?_
      | with_reducible refine WR.ge0 (by omega) ?_
      | (with_reducible refine WR.br (fun _ => ?_) (fun _ => ?_) <;> try contradiction)
      | refine WR.gik hz rfl (by assumption) ?_
      | refine WR.gi hz rfl ?_
      | refine WR.gr hz rfl rfl ?_
      | refine WR.addn rfl (by with_reducible rfl) (by with_reducible rfl) ?_
      | refine WR.muln rfl (by with_reducible rfl) (by with_reducible rfl) ?_
      | refine WR.subn rfl (by with_reducible rfl) (by with_reducible rfl) (by omega) ?_
      | (refine WR.incn rfl rfl ?_; dsimp only [List.set])
      | (refine WR.go rfl rfl ?_; try dsimp only [List.set])
      | refine WR.aik hz rfl rfl rfl rfl (by first | with_reducible rfl | assumption) (by omega) (by assumption) ?_
      | refine WR.ai hz rfl rfl rfl rfl (by first | with_reducible rfl | assumption) (by omega) ?_
      | refine WR.si hz rfl rfl rfl rfl (by first | with_reducible rfl | assumption) (by omega) ?_
      | refine WR.az hz rfl rfl rfl rfl (by first | with_reducible rfl | assumption) (by omega) ?_
      | refine WR.sz hz rfl rfl rfl rfl (by first | with_reducible rfl | assumption) (by omega) (by decide) ?_
      | refine WR.pi hz rfl ?_
      | refine WR.rt rfl rfl rfl rfl ?_
      | refine WR.rz rfl rfl (by decide) ?_))
      rw [if_pos ⟨by omega, by simp only [f_bit, decide_eq_true_eq]; exact Classical.not_not.mp h2⟩]
      rfl
end MAIL
end
section
/-! the reference: move, remove, forget, install, above -/
section MOVE
variable {Z : xZ}
def f_mvH (I : xI) (i j : Nat) : xI := x_u (x_u (x_u (x_u (x_u (x_u (x_u I 93 j (I 93 i)) 94 j (I 94 i)) 95 j (I 95 i)) 96 j (I 96 i)) 97 j (I 97 i)) 98 j (I 98 i)) 99 j (I 99 i)
def f_mv (I : xI) (i j : Nat) : xI := f_fillF (f_fillF (f_mvH I i j) 100 (25 * j) 25 (fun s => I 100 (25 * i + s))) 101 (25 * j) 25 (fun s => I 101 (25 * i + s))
theorem f_fillF_out (I : xI) {a base n j : Nat} (g : Nat → Int32) (h : j < base ∨ base + n ≤ j) : f_fillF I a base n g a j = I a j := by
  simp only [f_fillF]
  rw [if_neg (by omega)]
set_option maxHeartbeats 4000000 in
theorem r_move (d : Nat) (I : xI) {i j : Nat} (hi : i < 32) (hj : j < 32) (hij : i ≠ j) (hz : zok Z) : ER Z (d + 1) 116 I [.ref 74, .int (nI i), .int (nI j)] (fun I' v => I' = f_mv I i j ∧ v = none) := by
  refine ER.of (ls := [some (.ref 74), some (.int (nI i)), some (.int (nI j)), none]) rfl rfl ?_
  iterate 58 (first
      | (with_reducible refine WR.lt (by omega) (by omega) (fun _ => ?_) (fun _ => ?_) <;> try (exfalso; omega))
      | (with_reducible refine WR.le (by omega) (by omega) (fun _ => ?_) (fun _ => ?_) <;> try (exfalso; omega))
      | (with_reducible refine WR.eq (by omega) (by omega) (fun _ => ?_) (fun _ => ?_) <;> try (exfalso; omega))
      | (with_reducible refine WR.ne (by omega) (by omega) (fun _ => ?_) (fun _ => ?_) <;> try (exfalso; omega))
      | with_reducible refine WR.lt0 (by omega) ?_
      | with_reducible refine WR.ge0 (by omega) ?_
      | (with_reducible refine WR.br (fun _ => ?_) (fun _ => ?_) <;> try contradiction)
      | refine WR.gik hz rfl (by assumption) ?_
      | refine WR.gi hz rfl ?_
      | refine WR.gr hz rfl rfl ?_
      | refine WR.addn rfl (by with_reducible rfl) (by with_reducible rfl) ?_
      | refine WR.muln rfl (by with_reducible rfl) (by with_reducible rfl) ?_
      | refine WR.subn rfl (by with_reducible rfl) (by with_reducible rfl) (by omega) ?_
      | (refine WR.incn rfl rfl ?_; dsimp only [List.set])
      | (refine WR.go rfl rfl ?_; try dsimp only [List.set])
      | refine WR.aik hz rfl rfl rfl rfl (by first | with_reducible rfl | assumption) (by omega) (by assumption) ?_
      | refine WR.ai hz rfl rfl rfl rfl (by first | with_reducible rfl | assumption) (by omega) ?_
      | refine WR.si hz rfl rfl rfl rfl (by first | with_reducible rfl | assumption) (by omega) ?_
      | refine WR.az hz rfl rfl rfl rfl (by first | with_reducible rfl | assumption) (by omega) ?_
      | refine WR.sz hz rfl rfl rfl rfl (by first | with_reducible rfl | assumption) (by omega) (by decide) ?_
      | refine WR.pi hz rfl ?_
      | refine WR.rt rfl rfl rfl rfl ?_
      | refine WR.rz rfl rfl (by decide) ?_)
  refine WR.cast (I2 := f_mvH I i j) (by simp [f_mvH, x_u]) ?_
  have h100 : ∀ s, f_mvH I i j 100 s = I 100 s := fun s => by simp [f_mvH, x_u]
  have h101 : ∀ s, f_mvH I i j 101 s = I 101 s := fun s => by simp [f_mvH, x_u]
  generalize hJ : f_mvH I i j = J at h100 h101
  refine WR.cast (by rw [f_fillF0, f_fillF0]) (WR.loop (fun m => f_fillF (f_fillF J 100 (25 * j) m (fun s => I 100 (25 * i + s))) 101 (25 * j) m (fun s => I 101 (25 * i + s))) (fun m => [some (.ref 74), some (.int (nI i)), some (.int (nI j)), some (.int (nI m))]) 25 ?_ (fun m hm hk => ?_) 25 0 rfl)
  · iterate 5 (first
      | (with_reducible refine WR.lt (by omega) (by omega) (fun _ => ?_) (fun _ => ?_) <;> try (exfalso; omega))
      | (with_reducible refine WR.le (by omega) (by omega) (fun _ => ?_) (fun _ => ?_) <;> try (exfalso; omega))
      | (with_reducible refine WR.eq (by omega) (by omega) (fun _ => ?_) (fun _ => ?_) <;> try (exfalso; omega))
      | (with_reducible refine WR.ne (by omega) (by omega) (fun _ => ?_) (fun _ => ?_) <;> try (exfalso; omega))
      | with_reducible refine WR.lt0 (by omega) ?_
      | with_reducible refine WR.ge0 (by omega) ?_
      | (with_reducible refine WR.br (fun _ => ?_) (fun _ => ?_) <;> try contradiction)
      | refine WR.gik hz rfl (by assumption) ?_
      | refine WR.gi hz rfl ?_
      | refine WR.gr hz rfl rfl ?_
      | refine WR.addn rfl (by with_reducible rfl) (by with_reducible rfl) ?_
      | refine WR.muln rfl (by with_reducible rfl) (by with_reducible rfl) ?_
      | refine WR.subn rfl (by with_reducible rfl) (by with_reducible rfl) (by omega) ?_
      | (refine WR.incn rfl rfl ?_; dsimp only [List.set])
      | (refine WR.go rfl rfl ?_; try dsimp only [List.set])
      | refine WR.aik hz rfl rfl rfl rfl (by first | with_reducible rfl | assumption) (by omega) (by assumption) ?_
      | refine WR.ai hz rfl rfl rfl rfl (by first | with_reducible rfl | assumption) (by omega) ?_
      | refine WR.si hz rfl rfl rfl rfl (by first | with_reducible rfl | assumption) (by omega) ?_
      | refine WR.az hz rfl rfl rfl rfl (by first | with_reducible rfl | assumption) (by omega) ?_
      | refine WR.sz hz rfl rfl rfl rfl (by first | with_reducible rfl | assumption) (by omega) (by decide) ?_
      | refine WR.pi hz rfl ?_
      | refine WR.rt rfl rfl rfl rfl ?_
      | refine WR.rz rfl rfl (by decide) ?_)
    refine ⟨?_, rfl⟩
    rw [f_mv, hJ]
  · repeat' (first | with_reducible refine WR.cast ?_ hk | (first
      | (with_reducible refine WR.lt (by omega) (by omega) (fun _ => ?_) (fun _ => ?_) <;> try (exfalso; omega))
      | (with_reducible refine WR.le (by omega) (by omega) (fun _ => ?_) (fun _ => ?_) <;> try (exfalso; omega))
      | (with_reducible refine WR.eq (by omega) (by omega) (fun _ => ?_) (fun _ => ?_) <;> try (exfalso; omega))
      | (with_reducible refine WR.ne (by omega) (by omega) (fun _ => ?_) (fun _ => ?_) <;> try (exfalso; omega))
      | with_reducible refine WR.lt0 (by omega) ?_
      | with_reducible refine WR.ge0 (by omega) ?_
      | (with_reducible refine WR.br (fun _ => ?_) (fun _ => ?_) <;> try contradiction)
      | refine WR.gik hz rfl (by assumption) ?_
      | refine WR.gi hz rfl ?_
      | refine WR.gr hz rfl rfl ?_
      | refine WR.addn rfl (by with_reducible rfl) (by with_reducible rfl) ?_
      | refine WR.muln rfl (by with_reducible rfl) (by with_reducible rfl) ?_
      | refine WR.subn rfl (by with_reducible rfl) (by with_reducible rfl) (by omega) ?_
      | (refine WR.incn rfl rfl ?_; dsimp only [List.set])
      | (refine WR.go rfl rfl ?_; try dsimp only [List.set])
      | refine WR.aik hz rfl rfl rfl rfl (by first | with_reducible rfl | assumption) (by omega) (by assumption) ?_
      | refine WR.ai hz rfl rfl rfl rfl (by first | with_reducible rfl | assumption) (by omega) ?_
      | refine WR.si hz rfl rfl rfl rfl (by first | with_reducible rfl | assumption) (by omega) ?_
      | refine WR.az hz rfl rfl rfl rfl (by first | with_reducible rfl | assumption) (by omega) ?_
      | refine WR.sz hz rfl rfl rfl rfl (by first | with_reducible rfl | assumption) (by omega) (by decide) ?_
      | refine WR.pi hz rfl ?_
      | refine WR.rt rfl rfl rfl rfl ?_
      | refine WR.rz rfl rfl (by decide) ?_))
    rw [← f_fillF_ne _ _ _ _ _ _ (by decide), f_fillFS _ _ _ _ _ ?_, f_fillFS _ _ _ _ _ ?_]
    · rw [f_fillF_o _ _ _ _ _ (by decide), f_fillF_out _ _ (by omega), h100]
    · rw [f_fillF_out _ _ (by omega), x_u_ne _ _ (by simp), f_fillF_o _ _ _ _ _ (by decide), h101]
theorem f_mv_o (I : xI) (i j : Nat) {a m : Nat} (h : a < 93 ∨ 101 < a) : f_mv I i j a m = I a m := by
  rw [f_mv, f_fillF_o _ _ _ _ _ (by omega), f_fillF_o _ _ _ _ _ (by omega)]
  have e1 : ¬ a = 93 := by omega
  have e2 : ¬ a = 94 := by omega
  have e3 : ¬ a = 95 := by omega
  have e4 : ¬ a = 96 := by omega
  have e5 : ¬ a = 97 := by omega
  have e6 : ¬ a = 98 := by omega
  have e7 : ¬ a = 99 := by omega
  simp [f_mvH, x_u, e1, e2, e3, e4, e5, e6, e7]
def f_rmL (I : xI) (i : Nat) : Nat → xI
  | 0 => I
  | m + 1 => f_mv (f_rmL I i m) (i + 1 + m) (i + m)
theorem f_rmL_o (I : xI) (i : Nat) {a j : Nat} (h : a < 93 ∨ 101 < a) : ∀ m, f_rmL I i m a j = I a j := by
  intro m
  induction m with
  | zero => rfl
  | succ m ih => rw [f_rmL, f_mv_o _ _ _ h, ih]
def f_rm (I : xI) (i : Nat) : xI := x_u (f_rmL I i (f_w I - (i + 1))) 74 20 (nI (f_w I - 1))
set_option maxHeartbeats 4000000 in
theorem r_remove (d : Nat) (I : xI) {i : Nat} (hw : f_wok I) (hi : i < f_w I) (hz : zok Z) : ER Z (d + 2) 115 I [.ref 74, .int (nI i)] (fun I' v => I' = f_rm I i ∧ v = none) := by
  have hw2 := hw.2
  refine ER.of (ls := [some (.ref 74), some (.int (nI i)), none]) rfl rfl ?_
  iterate 4 (first
      | (with_reducible refine WR.lt (by omega) (by omega) (fun _ => ?_) (fun _ => ?_) <;> try (exfalso; omega))
      | (with_reducible refine WR.le (by omega) (by omega) (fun _ => ?_) (fun _ => ?_) <;> try (exfalso; omega))
      | (with_reducible refine WR.eq (by omega) (by omega) (fun _ => ?_) (fun _ => ?_) <;> try (exfalso; omega))
      | (with_reducible refine WR.ne (by omega) (by omega) (fun _ => ?_) (fun _ => ?_) <;> try (exfalso; omega))
      | with_reducible refine WR.lt0 (by omega) ?_
      | with_reducible refine WR.ge0 (by omega) ?_
      | (with_reducible refine WR.br (fun _ => ?_) (fun _ => ?_) <;> try contradiction)
      | refine WR.gik hz rfl (by assumption) ?_
      | refine WR.gi hz rfl ?_
      | refine WR.gr hz rfl rfl ?_
      | refine WR.addn rfl (by with_reducible rfl) (by with_reducible rfl) ?_
      | refine WR.muln rfl (by with_reducible rfl) (by with_reducible rfl) ?_
      | refine WR.subn rfl (by with_reducible rfl) (by with_reducible rfl) (by omega) ?_
      | (refine WR.incn rfl rfl ?_; dsimp only [List.set])
      | (refine WR.go rfl rfl ?_; try dsimp only [List.set])
      | refine WR.aik hz rfl rfl rfl rfl (by first | with_reducible rfl | assumption) (by omega) (by assumption) ?_
      | refine WR.ai hz rfl rfl rfl rfl (by first | with_reducible rfl | assumption) (by omega) ?_
      | refine WR.si hz rfl rfl rfl rfl (by first | with_reducible rfl | assumption) (by omega) ?_
      | refine WR.az hz rfl rfl rfl rfl (by first | with_reducible rfl | assumption) (by omega) ?_
      | refine WR.sz hz rfl rfl rfl rfl (by first | with_reducible rfl | assumption) (by omega) (by decide) ?_
      | refine WR.pi hz rfl ?_
      | refine WR.rt rfl rfl rfl rfl ?_
      | refine WR.rz rfl rfl (by decide) ?_)
  refine WR.loop (fun m => f_rmL I i m) (fun m => [some (.ref 74), some (.int (nI i)), some (.int (nI (i + 1 + m)))]) (f_w I - (i + 1)) ?_ (fun m hm hk => ?_) (f_w I - (i + 1)) 0 (by omega)
  · have hn : f_rmL I i (f_w I - (i + 1)) 74 20 = nI (f_w I) := by rw [f_rmL_o _ _ (by decide)]; exact hw.1
    repeat' (first
      | (with_reducible refine WR.lt (by omega) (by omega) (fun _ => ?_) (fun _ => ?_) <;> try (exfalso; omega))
      | (with_reducible refine WR.le (by omega) (by omega) (fun _ => ?_) (fun _ => ?_) <;> try (exfalso; omega))
      | (with_reducible refine WR.eq (by omega) (by omega) (fun _ => ?_) (fun _ => ?_) <;> try (exfalso; omega))
      | (with_reducible refine WR.ne (by omega) (by omega) (fun _ => ?_) (fun _ => ?_) <;> try (exfalso; omega))
      | with_reducible refine WR.lt0 (by omega) ?_
      | with_reducible refine WR.ge0 (by omega) ?_
      | (with_reducible refine WR.br (fun _ => ?_) (fun _ => ?_) <;> try contradiction)
      | refine WR.gik hz rfl (by assumption) ?_
      | refine WR.gi hz rfl ?_
      | refine WR.gr hz rfl rfl ?_
      | refine WR.addn rfl (by with_reducible rfl) (by with_reducible rfl) ?_
      | refine WR.muln rfl (by with_reducible rfl) (by with_reducible rfl) ?_
      | refine WR.subn rfl (by with_reducible rfl) (by with_reducible rfl) (by omega) ?_
      | (refine WR.incn rfl rfl ?_; dsimp only [List.set])
      | (refine WR.go rfl rfl ?_; try dsimp only [List.set])
      | refine WR.aik hz rfl rfl rfl rfl (by first | with_reducible rfl | assumption) (by omega) (by assumption) ?_
      | refine WR.ai hz rfl rfl rfl rfl (by first | with_reducible rfl | assumption) (by omega) ?_
      | refine WR.si hz rfl rfl rfl rfl (by first | with_reducible rfl | assumption) (by omega) ?_
      | refine WR.az hz rfl rfl rfl rfl (by first | with_reducible rfl | assumption) (by omega) ?_
      | refine WR.sz hz rfl rfl rfl rfl (by first | with_reducible rfl | assumption) (by omega) (by decide) ?_
      | refine WR.pi hz rfl ?_
      | refine WR.rt rfl rfl rfl rfl ?_
      | refine WR.rz rfl rfl (by decide) ?_)
    exact ⟨rfl, rfl⟩
  · have hn : f_rmL I i m 74 20 = nI (f_w I) := by rw [f_rmL_o _ _ (by decide)]; exact hw.1
    iterate 10 (first
      | (with_reducible refine WR.lt (by omega) (by omega) (fun _ => ?_) (fun _ => ?_) <;> try (exfalso; omega))
      | (with_reducible refine WR.le (by omega) (by omega) (fun _ => ?_) (fun _ => ?_) <;> try (exfalso; omega))
      | (with_reducible refine WR.eq (by omega) (by omega) (fun _ => ?_) (fun _ => ?_) <;> try (exfalso; omega))
      | (with_reducible refine WR.ne (by omega) (by omega) (fun _ => ?_) (fun _ => ?_) <;> try (exfalso; omega))
      | with_reducible refine WR.lt0 (by omega) ?_
      | with_reducible refine WR.ge0 (by omega) ?_
      | (with_reducible refine WR.br (fun _ => ?_) (fun _ => ?_) <;> try contradiction)
      | refine WR.gik hz rfl (by assumption) ?_
      | refine WR.gi hz rfl ?_
      | refine WR.gr hz rfl rfl ?_
      | refine WR.addn rfl (by with_reducible rfl) (by with_reducible rfl) ?_
      | refine WR.muln rfl (by with_reducible rfl) (by with_reducible rfl) ?_
      | refine WR.subn rfl (by with_reducible rfl) (by with_reducible rfl) (by omega) ?_
      | (refine WR.incn rfl rfl ?_; dsimp only [List.set])
      | (refine WR.go rfl rfl ?_; try dsimp only [List.set])
      | refine WR.aik hz rfl rfl rfl rfl (by first | with_reducible rfl | assumption) (by omega) (by assumption) ?_
      | refine WR.ai hz rfl rfl rfl rfl (by first | with_reducible rfl | assumption) (by omega) ?_
      | refine WR.si hz rfl rfl rfl rfl (by first | with_reducible rfl | assumption) (by omega) ?_
      | refine WR.az hz rfl rfl rfl rfl (by first | with_reducible rfl | assumption) (by omega) ?_
      | refine WR.sz hz rfl rfl rfl rfl (by first | with_reducible rfl | assumption) (by omega) (by decide) ?_
      | refine WR.pi hz rfl ?_
      | refine WR.rt rfl rfl rfl rfl ?_
      | refine WR.rz rfl rfl (by decide) ?_)
    refine WR.V2v hz rfl rfl (r_move d _ (by omega) (by omega) (by omega) hz) ?_
    repeat' (first | with_reducible refine WR.cast ?_ hk | (first
      | (with_reducible refine WR.lt (by omega) (by omega) (fun _ => ?_) (fun _ => ?_) <;> try (exfalso; omega))
      | (with_reducible refine WR.le (by omega) (by omega) (fun _ => ?_) (fun _ => ?_) <;> try (exfalso; omega))
      | (with_reducible refine WR.eq (by omega) (by omega) (fun _ => ?_) (fun _ => ?_) <;> try (exfalso; omega))
      | (with_reducible refine WR.ne (by omega) (by omega) (fun _ => ?_) (fun _ => ?_) <;> try (exfalso; omega))
      | with_reducible refine WR.lt0 (by omega) ?_
      | with_reducible refine WR.ge0 (by omega) ?_
      | (with_reducible refine WR.br (fun _ => ?_) (fun _ => ?_) <;> try contradiction)
      | refine WR.gik hz rfl (by assumption) ?_
      | refine WR.gi hz rfl ?_
      | refine WR.gr hz rfl rfl ?_
      | refine WR.addn rfl (by with_reducible rfl) (by with_reducible rfl) ?_
      | refine WR.muln rfl (by with_reducible rfl) (by with_reducible rfl) ?_
      | refine WR.subn rfl (by with_reducible rfl) (by with_reducible rfl) (by omega) ?_
      | (refine WR.incn rfl rfl ?_; dsimp only [List.set])
      | (refine WR.go rfl rfl ?_; try dsimp only [List.set])
      | refine WR.aik hz rfl rfl rfl rfl (by first | with_reducible rfl | assumption) (by omega) (by assumption) ?_
      | refine WR.ai hz rfl rfl rfl rfl (by first | with_reducible rfl | assumption) (by omega) ?_
      | refine WR.si hz rfl rfl rfl rfl (by first | with_reducible rfl | assumption) (by omega) ?_
      | refine WR.az hz rfl rfl rfl rfl (by first | with_reducible rfl | assumption) (by omega) ?_
      | refine WR.sz hz rfl rfl rfl rfl (by first | with_reducible rfl | assumption) (by omega) (by decide) ?_
      | refine WR.pi hz rfl ?_
      | refine WR.rt rfl rfl rfl rfl ?_
      | refine WR.rz rfl rfl (by decide) ?_))
    rw [f_rmL, show i + 1 + m - 1 = i + m by omega]
def f_fg (I : xI) (r : Nat) : Nat → xI × Int32
  | 0 => (I, nI 0)
  | s + 1 => (x_u (x_u (x_u (f_fg I r s).1 85 (25 * r + (s + 1)) (nI 0)) 86 (25 * r + (s + 1)) (nI 0)) 84 r ((f_fg I r s).1 84 r &&& (nI 1 <<< (nI (s + 1) &&& 31) ^^^ -1)), (f_fg I r s).2 + (if (f_fg I r s).1 85 (25 * r + (s + 1)) ≤ 0 then nI 0 else nI 1))
set_option maxHeartbeats 4000000 in
theorem r_forget (d : Nat) (I : xI) {r f : Nat} (hr : r < 5) (hf : f ≤ 24) (hz : zok Z) : ER Z (d + 1) 121 I [.ref 74, .int (nI r), .int (nI f)] (fun I' v => I' = (f_fg I r f).1 ∧ v = some (.int (f_fg I r f).2)) := by
  refine ER.of (ls := [some (.ref 74), some (.int (nI r)), some (.int (nI f)), none, none]) rfl rfl ?_
  iterate 4 (first
      | (with_reducible refine WR.lt (by omega) (by omega) (fun _ => ?_) (fun _ => ?_) <;> try (exfalso; omega))
      | (with_reducible refine WR.le (by omega) (by omega) (fun _ => ?_) (fun _ => ?_) <;> try (exfalso; omega))
      | (with_reducible refine WR.eq (by omega) (by omega) (fun _ => ?_) (fun _ => ?_) <;> try (exfalso; omega))
      | (with_reducible refine WR.ne (by omega) (by omega) (fun _ => ?_) (fun _ => ?_) <;> try (exfalso; omega))
      | with_reducible refine WR.lt0 (by omega) ?_
      | with_reducible refine WR.ge0 (by omega) ?_
      | (with_reducible refine WR.br (fun _ => ?_) (fun _ => ?_) <;> try contradiction)
      | refine WR.gik hz rfl (by assumption) ?_
      | refine WR.gi hz rfl ?_
      | refine WR.gr hz rfl rfl ?_
      | refine WR.addn rfl (by with_reducible rfl) (by with_reducible rfl) ?_
      | refine WR.muln rfl (by with_reducible rfl) (by with_reducible rfl) ?_
      | refine WR.subn rfl (by with_reducible rfl) (by with_reducible rfl) (by omega) ?_
      | (refine WR.incn rfl rfl ?_; dsimp only [List.set])
      | (refine WR.go rfl rfl ?_; try dsimp only [List.set])
      | refine WR.aik hz rfl rfl rfl rfl (by first | with_reducible rfl | assumption) (by omega) (by assumption) ?_
      | refine WR.ai hz rfl rfl rfl rfl (by first | with_reducible rfl | assumption) (by omega) ?_
      | refine WR.si hz rfl rfl rfl rfl (by first | with_reducible rfl | assumption) (by omega) ?_
      | refine WR.az hz rfl rfl rfl rfl (by first | with_reducible rfl | assumption) (by omega) ?_
      | refine WR.sz hz rfl rfl rfl rfl (by first | with_reducible rfl | assumption) (by omega) (by decide) ?_
      | refine WR.pi hz rfl ?_
      | refine WR.rt rfl rfl rfl rfl ?_
      | refine WR.rz rfl rfl (by decide) ?_)
  refine WR.loop (fun m => (f_fg I r m).1) (fun m => [some (.ref 74), some (.int (nI r)), some (.int (nI f)), some (.int (f_fg I r m).2), some (.int (nI (m + 1)))]) f ?_ (fun m hm hk => ?_) f 0 (by omega)
  · iterate 6 (first
      | (with_reducible refine WR.lt (by omega) (by omega) (fun _ => ?_) (fun _ => ?_) <;> try (exfalso; omega))
      | (with_reducible refine WR.le (by omega) (by omega) (fun _ => ?_) (fun _ => ?_) <;> try (exfalso; omega))
      | (with_reducible refine WR.eq (by omega) (by omega) (fun _ => ?_) (fun _ => ?_) <;> try (exfalso; omega))
      | (with_reducible refine WR.ne (by omega) (by omega) (fun _ => ?_) (fun _ => ?_) <;> try (exfalso; omega))
      | with_reducible refine WR.lt0 (by omega) ?_
      | with_reducible refine WR.ge0 (by omega) ?_
      | (with_reducible refine WR.br (fun _ => ?_) (fun _ => ?_) <;> try contradiction)
      | refine WR.gik hz rfl (by assumption) ?_
      | refine WR.gi hz rfl ?_
      | refine WR.gr hz rfl rfl ?_
      | refine WR.addn rfl (by with_reducible rfl) (by with_reducible rfl) ?_
      | refine WR.muln rfl (by with_reducible rfl) (by with_reducible rfl) ?_
      | refine WR.subn rfl (by with_reducible rfl) (by with_reducible rfl) (by omega) ?_
      | (refine WR.incn rfl rfl ?_; dsimp only [List.set])
      | (refine WR.go rfl rfl ?_; try dsimp only [List.set])
      | refine WR.aik hz rfl rfl rfl rfl (by first | with_reducible rfl | assumption) (by omega) (by assumption) ?_
      | refine WR.ai hz rfl rfl rfl rfl (by first | with_reducible rfl | assumption) (by omega) ?_
      | refine WR.si hz rfl rfl rfl rfl (by first | with_reducible rfl | assumption) (by omega) ?_
      | refine WR.az hz rfl rfl rfl rfl (by first | with_reducible rfl | assumption) (by omega) ?_
      | refine WR.sz hz rfl rfl rfl rfl (by first | with_reducible rfl | assumption) (by omega) (by decide) ?_
      | refine WR.pi hz rfl ?_
      | refine WR.rt rfl rfl rfl rfl ?_
      | refine WR.rz rfl rfl (by decide) ?_)
    exact ⟨rfl, rfl⟩
  · simp only [f_fg] at hk
    generalize hJ : f_fg I r m = J at hk
    obtain ⟨J, n⟩ := J
    simp only at hk ⊢
    iterate 15 (first
      | (with_reducible refine WR.lt (by omega) (by omega) (fun _ => ?_) (fun _ => ?_) <;> try (exfalso; omega))
      | (with_reducible refine WR.le (by omega) (by omega) (fun _ => ?_) (fun _ => ?_) <;> try (exfalso; omega))
      | (with_reducible refine WR.eq (by omega) (by omega) (fun _ => ?_) (fun _ => ?_) <;> try (exfalso; omega))
      | (with_reducible refine WR.ne (by omega) (by omega) (fun _ => ?_) (fun _ => ?_) <;> try (exfalso; omega))
      | with_reducible refine WR.lt0 (by omega) ?_
      | with_reducible refine WR.ge0 (by omega) ?_
      | (with_reducible refine WR.br (fun _ => ?_) (fun _ => ?_) <;> try contradiction)
      | refine WR.gik hz rfl (by assumption) ?_
      | refine WR.gi hz rfl ?_
      | refine WR.gr hz rfl rfl ?_
      | refine WR.addn rfl (by with_reducible rfl) (by with_reducible rfl) ?_
      | refine WR.muln rfl (by with_reducible rfl) (by with_reducible rfl) ?_
      | refine WR.subn rfl (by with_reducible rfl) (by with_reducible rfl) (by omega) ?_
      | (refine WR.incn rfl rfl ?_; dsimp only [List.set])
      | (refine WR.go rfl rfl ?_; try dsimp only [List.set])
      | refine WR.aik hz rfl rfl rfl rfl (by first | with_reducible rfl | assumption) (by omega) (by assumption) ?_
      | refine WR.ai hz rfl rfl rfl rfl (by first | with_reducible rfl | assumption) (by omega) ?_
      | refine WR.si hz rfl rfl rfl rfl (by first | with_reducible rfl | assumption) (by omega) ?_
      | refine WR.az hz rfl rfl rfl rfl (by first | with_reducible rfl | assumption) (by omega) ?_
      | refine WR.sz hz rfl rfl rfl rfl (by first | with_reducible rfl | assumption) (by omega) (by decide) ?_
      | refine WR.pi hz rfl ?_
      | refine WR.rt rfl rfl rfl rfl ?_
      | refine WR.rz rfl rfl (by decide) ?_)
    · rename_i h
      rw [if_pos h] at hk
      repeat' (first | with_reducible refine WR.cast ?_ hk | (first
      | (with_reducible refine WR.lt (by omega) (by omega) (fun _ => ?_) (fun _ => ?_) <;> try (exfalso; omega))
      | (with_reducible refine WR.le (by omega) (by omega) (fun _ => ?_) (fun _ => ?_) <;> try (exfalso; omega))
      | (with_reducible refine WR.eq (by omega) (by omega) (fun _ => ?_) (fun _ => ?_) <;> try (exfalso; omega))
      | (with_reducible refine WR.ne (by omega) (by omega) (fun _ => ?_) (fun _ => ?_) <;> try (exfalso; omega))
      | with_reducible refine WR.lt0 (by omega) ?_
      | with_reducible refine WR.ge0 (by omega) ?_
      | (with_reducible refine WR.br (fun _ => ?_) (fun _ => ?_) <;> try contradiction)
      | refine WR.gik hz rfl (by assumption) ?_
      | refine WR.gi hz rfl ?_
      | refine WR.gr hz rfl rfl ?_
      | refine WR.addn rfl (by with_reducible rfl) (by with_reducible rfl) ?_
      | refine WR.muln rfl (by with_reducible rfl) (by with_reducible rfl) ?_
      | refine WR.subn rfl (by with_reducible rfl) (by with_reducible rfl) (by omega) ?_
      | (refine WR.incn rfl rfl ?_; dsimp only [List.set])
      | (refine WR.go rfl rfl ?_; try dsimp only [List.set])
      | refine WR.aik hz rfl rfl rfl rfl (by first | with_reducible rfl | assumption) (by omega) (by assumption) ?_
      | refine WR.ai hz rfl rfl rfl rfl (by first | with_reducible rfl | assumption) (by omega) ?_
      | refine WR.si hz rfl rfl rfl rfl (by first | with_reducible rfl | assumption) (by omega) ?_
      | refine WR.az hz rfl rfl rfl rfl (by first | with_reducible rfl | assumption) (by omega) ?_
      | refine WR.sz hz rfl rfl rfl rfl (by first | with_reducible rfl | assumption) (by omega) (by decide) ?_
      | refine WR.pi hz rfl ?_
      | refine WR.rt rfl rfl rfl rfl ?_
      | refine WR.rz rfl rfl (by decide) ?_))
      simp [x_u]
    · rename_i h
      rw [if_neg h] at hk
      repeat' (first | with_reducible refine WR.cast ?_ hk | (first
      | (with_reducible refine WR.lt (by omega) (by omega) (fun _ => ?_) (fun _ => ?_) <;> try (exfalso; omega))
      | (with_reducible refine WR.le (by omega) (by omega) (fun _ => ?_) (fun _ => ?_) <;> try (exfalso; omega))
      | (with_reducible refine WR.eq (by omega) (by omega) (fun _ => ?_) (fun _ => ?_) <;> try (exfalso; omega))
      | (with_reducible refine WR.ne (by omega) (by omega) (fun _ => ?_) (fun _ => ?_) <;> try (exfalso; omega))
      | with_reducible refine WR.lt0 (by omega) ?_
      | with_reducible refine WR.ge0 (by omega) ?_
      | (with_reducible refine WR.br (fun _ => ?_) (fun _ => ?_) <;> try contradiction)
      | refine WR.gik hz rfl (by assumption) ?_
      | refine WR.gi hz rfl ?_
      | refine WR.gr hz rfl rfl ?_
      | refine WR.addn rfl (by with_reducible rfl) (by with_reducible rfl) ?_
      | refine WR.muln rfl (by with_reducible rfl) (by with_reducible rfl) ?_
      | refine WR.subn rfl (by with_reducible rfl) (by with_reducible rfl) (by omega) ?_
      | (refine WR.incn rfl rfl ?_; dsimp only [List.set])
      | (refine WR.go rfl rfl ?_; try dsimp only [List.set])
      | refine WR.aik hz rfl rfl rfl rfl (by first | with_reducible rfl | assumption) (by omega) (by assumption) ?_
      | refine WR.ai hz rfl rfl rfl rfl (by first | with_reducible rfl | assumption) (by omega) ?_
      | refine WR.si hz rfl rfl rfl rfl (by first | with_reducible rfl | assumption) (by omega) ?_
      | refine WR.az hz rfl rfl rfl rfl (by first | with_reducible rfl | assumption) (by omega) ?_
      | refine WR.sz hz rfl rfl rfl rfl (by first | with_reducible rfl | assumption) (by omega) (by decide) ?_
      | refine WR.pi hz rfl ?_
      | refine WR.rt rfl rfl rfl rfl ?_
      | refine WR.rz rfl rfl (by decide) ?_))
      simp [x_u]
def f_inst (I : xI) (r f : Nat) : xI := if nI f ≤ I 83 r then I else (f_fg (x_u (x_u I 82 r (nI f)) 83 r (nI f)) r f).1
set_option maxHeartbeats 4000000 in
theorem r_install (d : Nat) (I : xI) {r f : Nat} (hr : r < 5) (hf : f ≤ 24) (hz : zok Z) : ER Z (d + 2) 120 I [.ref 74, .int (nI r), .int (nI f)] (fun I' v => I' = f_inst I r f ∧ v = none) := by
  refine ER.of (ls := [some (.ref 74), some (.int (nI r)), some (.int (nI f))]) rfl rfl ?_
  repeat' (first
      | (with_reducible refine WR.lt (by omega) (by omega) (fun _ => ?_) (fun _ => ?_) <;> try (exfalso; omega))
      | (with_reducible refine WR.le (by omega) (by omega) (fun _ => ?_) (fun _ => ?_) <;> try (exfalso; omega))
      | (with_reducible refine WR.eq (by omega) (by omega) (fun _ => ?_) (fun _ => ?_) <;> try (exfalso; omega))
      | (with_reducible refine WR.ne (by omega) (by omega) (fun _ => ?_) (fun _ => ?_) <;> try (exfalso; omega))
      | with_reducible refine WR.lt0 (by omega) ?_
      | with_reducible refine WR.ge0 (by omega) ?_
      | (with_reducible refine WR.br (fun _ => ?_) (fun _ => ?_) <;> try contradiction)
      | refine WR.gik hz rfl (by assumption) ?_
      | refine WR.gi hz rfl ?_
      | refine WR.gr hz rfl rfl ?_
      | refine WR.addn rfl (by with_reducible rfl) (by with_reducible rfl) ?_
      | refine WR.muln rfl (by with_reducible rfl) (by with_reducible rfl) ?_
      | refine WR.subn rfl (by with_reducible rfl) (by with_reducible rfl) (by omega) ?_
      | (refine WR.incn rfl rfl ?_; dsimp only [List.set])
      | (refine WR.go rfl rfl ?_; try dsimp only [List.set])
      | refine WR.aik hz rfl rfl rfl rfl (by first | with_reducible rfl | assumption) (by omega) (by assumption) ?_
      | refine WR.ai hz rfl rfl rfl rfl (by first | with_reducible rfl | assumption) (by omega) ?_
      | refine WR.si hz rfl rfl rfl rfl (by first | with_reducible rfl | assumption) (by omega) ?_
      | refine WR.az hz rfl rfl rfl rfl (by first | with_reducible rfl | assumption) (by omega) ?_
      | refine WR.sz hz rfl rfl rfl rfl (by first | with_reducible rfl | assumption) (by omega) (by decide) ?_
      | refine WR.pi hz rfl ?_
      | refine WR.rt rfl rfl rfl rfl ?_
      | refine WR.rz rfl rfl (by decide) ?_)
  · rename_i h
    refine WR.V2i hz rfl rfl (r_forget d _ hr hf hz) ?_
    repeat' (first
      | (with_reducible refine WR.lt (by omega) (by omega) (fun _ => ?_) (fun _ => ?_) <;> try (exfalso; omega))
      | (with_reducible refine WR.le (by omega) (by omega) (fun _ => ?_) (fun _ => ?_) <;> try (exfalso; omega))
      | (with_reducible refine WR.eq (by omega) (by omega) (fun _ => ?_) (fun _ => ?_) <;> try (exfalso; omega))
      | (with_reducible refine WR.ne (by omega) (by omega) (fun _ => ?_) (fun _ => ?_) <;> try (exfalso; omega))
      | with_reducible refine WR.lt0 (by omega) ?_
      | with_reducible refine WR.ge0 (by omega) ?_
      | (with_reducible refine WR.br (fun _ => ?_) (fun _ => ?_) <;> try contradiction)
      | refine WR.gik hz rfl (by assumption) ?_
      | refine WR.gi hz rfl ?_
      | refine WR.gr hz rfl rfl ?_
      | refine WR.addn rfl (by with_reducible rfl) (by with_reducible rfl) ?_
      | refine WR.muln rfl (by with_reducible rfl) (by with_reducible rfl) ?_
      | refine WR.subn rfl (by with_reducible rfl) (by with_reducible rfl) (by omega) ?_
      | (refine WR.incn rfl rfl ?_; dsimp only [List.set])
      | (refine WR.go rfl rfl ?_; try dsimp only [List.set])
      | refine WR.aik hz rfl rfl rfl rfl (by first | with_reducible rfl | assumption) (by omega) (by assumption) ?_
      | refine WR.ai hz rfl rfl rfl rfl (by first | with_reducible rfl | assumption) (by omega) ?_
      | refine WR.si hz rfl rfl rfl rfl (by first | with_reducible rfl | assumption) (by omega) ?_
      | refine WR.az hz rfl rfl rfl rfl (by first | with_reducible rfl | assumption) (by omega) ?_
      | refine WR.sz hz rfl rfl rfl rfl (by first | with_reducible rfl | assumption) (by omega) (by decide) ?_
      | refine WR.pi hz rfl ?_
      | refine WR.rt rfl rfl rfl rfl ?_
      | refine WR.rz rfl rfl (by decide) ?_)
    exact ⟨by rw [f_inst, if_neg (Int32.not_le.mpr h)], rfl⟩
  · rename_i h
    exact ⟨by rw [f_inst, if_pos (Int32.not_lt.mp h)], rfl⟩
end MOVE
end
section
/-! the reference: above, propose, goOn -/
section GOON
variable {Z : xZ}
theorem WR.bz {d k : Nat} {ls : xL} {st : List Value} {I : xI} {Q : xI → Option Value → Prop} {b : Bool} {x y : Nat} (h1 : b = false → WR Z d k x ls st I Q) (h2 : b = true → WR Z d k y ls st I Q) : WR Z d k (if decide (bI b = 0) = true then x else y) ls st I Q :=
  WR.br (fun h => h1 (bI_0.mp h)) (fun h => h2 (bI_n.mp h))
theorem WR.bn {d k : Nat} {ls : xL} {st : List Value} {I : xI} {Q : xI → Option Value → Prop} {b : Bool} {x y : Nat} (h1 : b = true → WR Z d k x ls st I Q) (h2 : b = false → WR Z d k y ls st I Q) : WR Z d k (if decide (bI b ≠ 0) = true then x else y) ls st I Q :=
  WR.br (fun h => h1 (bI_n.mp h)) (fun h => h2 (bI_0.mp (Classical.not_not.mp h)))
def f_ab (I : xI) (r s : Nat) : Nat → Bool
  | 0 => false
  | m + 1 => f_ab I r s m || (f_know I r (s + 1 + m) || decide (0 < I 89 (25 * r + (s + 1 + m))))
set_option maxHeartbeats 4000000 in
theorem r_above (d : Nat) (I : xI) {r s : Nat} (hr : r < 5) (hs : s ≤ 24) (hz : zok Z) : ER Z (d + 2) 123 I [.ref 74, .int (nI r), .int (nI s)] (fun I' v => I' = I ∧ v = some (.int (bI (f_ab I r s (24 - s))))) := by
  refine ER.of (ls := [some (.ref 74), some (.int (nI r)), some (.int (nI s)), none, none]) rfl rfl ?_
  iterate 6 (first
      | (with_reducible refine WR.lt (by omega) (by omega) (fun _ => ?_) (fun _ => ?_) <;> try (exfalso; omega))
      | (with_reducible refine WR.le (by omega) (by omega) (fun _ => ?_) (fun _ => ?_) <;> try (exfalso; omega))
      | (with_reducible refine WR.eq (by omega) (by omega) (fun _ => ?_) (fun _ => ?_) <;> try (exfalso; omega))
      | (with_reducible refine WR.ne (by omega) (by omega) (fun _ => ?_) (fun _ => ?_) <;> try (exfalso; omega))
      | with_reducible refine WR.lt0 (by omega) ?_
      | with_reducible refine WR.ge0 (by omega) ?_
      | (with_reducible refine WR.bz (fun _ => ?_) (fun _ => ?_))
      | (with_reducible refine WR.bn (fun _ => ?_) (fun _ => ?_))
      | (with_reducible refine WR.br (fun _ => ?_) (fun _ => ?_) <;> try contradiction)
      | refine WR.gik hz rfl (by assumption) ?_
      | refine WR.gi hz rfl ?_
      | refine WR.gr hz rfl rfl ?_
      | refine WR.addn rfl (by with_reducible rfl) (by with_reducible rfl) ?_
      | refine WR.muln rfl (by with_reducible rfl) (by with_reducible rfl) ?_
      | refine WR.subn rfl (by with_reducible rfl) (by with_reducible rfl) (by omega) ?_
      | (refine WR.incn rfl rfl ?_; dsimp only [List.set])
      | (refine WR.go rfl rfl ?_; try dsimp only [List.set])
      | refine WR.aik hz rfl rfl rfl rfl (by first | with_reducible rfl | assumption) (by omega) (by assumption) ?_
      | refine WR.ai hz rfl rfl rfl rfl (by first | with_reducible rfl | assumption) (by omega) ?_
      | refine WR.si hz rfl rfl rfl rfl (by first | with_reducible rfl | assumption) (by omega) ?_
      | refine WR.az hz rfl rfl rfl rfl (by first | with_reducible rfl | assumption) (by omega) ?_
      | refine WR.sz hz rfl rfl rfl rfl (by first | with_reducible rfl | assumption) (by omega) (by decide) ?_
      | refine WR.pi hz rfl ?_
      | refine WR.rt rfl rfl rfl rfl ?_
      | refine WR.rz rfl rfl (by decide) ?_)
  refine WR.loop (fun _ => I) (fun m => [some (.ref 74), some (.int (nI r)), some (.int (nI s)), some (.int (bI (f_ab I r s m))), some (.int (nI (s + 1 + m)))]) (24 - s) ?_ (fun m hm hk => ?_) (24 - s) 0 (by omega)
  · iterate 5 (first
      | (with_reducible refine WR.lt (by omega) (by omega) (fun _ => ?_) (fun _ => ?_) <;> try (exfalso; omega))
      | (with_reducible refine WR.le (by omega) (by omega) (fun _ => ?_) (fun _ => ?_) <;> try (exfalso; omega))
      | (with_reducible refine WR.eq (by omega) (by omega) (fun _ => ?_) (fun _ => ?_) <;> try (exfalso; omega))
      | (with_reducible refine WR.ne (by omega) (by omega) (fun _ => ?_) (fun _ => ?_) <;> try (exfalso; omega))
      | with_reducible refine WR.lt0 (by omega) ?_
      | with_reducible refine WR.ge0 (by omega) ?_
      | (with_reducible refine WR.bz (fun _ => ?_) (fun _ => ?_))
      | (with_reducible refine WR.bn (fun _ => ?_) (fun _ => ?_))
      | (with_reducible refine WR.br (fun _ => ?_) (fun _ => ?_) <;> try contradiction)
      | refine WR.gik hz rfl (by assumption) ?_
      | refine WR.gi hz rfl ?_
      | refine WR.gr hz rfl rfl ?_
      | refine WR.addn rfl (by with_reducible rfl) (by with_reducible rfl) ?_
      | refine WR.muln rfl (by with_reducible rfl) (by with_reducible rfl) ?_
      | refine WR.subn rfl (by with_reducible rfl) (by with_reducible rfl) (by omega) ?_
      | (refine WR.incn rfl rfl ?_; dsimp only [List.set])
      | (refine WR.go rfl rfl ?_; try dsimp only [List.set])
      | refine WR.aik hz rfl rfl rfl rfl (by first | with_reducible rfl | assumption) (by omega) (by assumption) ?_
      | refine WR.ai hz rfl rfl rfl rfl (by first | with_reducible rfl | assumption) (by omega) ?_
      | refine WR.si hz rfl rfl rfl rfl (by first | with_reducible rfl | assumption) (by omega) ?_
      | refine WR.az hz rfl rfl rfl rfl (by first | with_reducible rfl | assumption) (by omega) ?_
      | refine WR.sz hz rfl rfl rfl rfl (by first | with_reducible rfl | assumption) (by omega) (by decide) ?_
      | refine WR.pi hz rfl ?_
      | refine WR.rt rfl rfl rfl rfl ?_
      | refine WR.rz rfl rfl (by decide) ?_)
    refine WR.rz rfl rfl (bI_01 _) ?_
    exact ⟨rfl, rfl⟩
  · have hb : ∀ b : Bool, f_ab I r s (m + 1) = b → WR Z (d + 1) 123 48 [some (.ref 74), some (.int (nI r)), some (.int (nI s)), some (.int (bI (f_ab I r s m))), some (.int (nI (s + 1 + m)))] [.int (bI b)] I (fun I' v => I' = I ∧ v = some (.int (bI (f_ab I r s (24 - s))))) := by
      intro b hb
      rw [hb] at hk
      repeat' (first | with_reducible refine WR.cast ?_ hk | (first
      | (with_reducible refine WR.lt (by omega) (by omega) (fun _ => ?_) (fun _ => ?_) <;> try (exfalso; omega))
      | (with_reducible refine WR.le (by omega) (by omega) (fun _ => ?_) (fun _ => ?_) <;> try (exfalso; omega))
      | (with_reducible refine WR.eq (by omega) (by omega) (fun _ => ?_) (fun _ => ?_) <;> try (exfalso; omega))
      | (with_reducible refine WR.ne (by omega) (by omega) (fun _ => ?_) (fun _ => ?_) <;> try (exfalso; omega))
      | with_reducible refine WR.lt0 (by omega) ?_
      | with_reducible refine WR.ge0 (by omega) ?_
      | (with_reducible refine WR.bz (fun _ => ?_) (fun _ => ?_))
      | (with_reducible refine WR.bn (fun _ => ?_) (fun _ => ?_))
      | (with_reducible refine WR.br (fun _ => ?_) (fun _ => ?_) <;> try contradiction)
      | refine WR.gik hz rfl (by assumption) ?_
      | refine WR.gi hz rfl ?_
      | refine WR.gr hz rfl rfl ?_
      | refine WR.addn rfl (by with_reducible rfl) (by with_reducible rfl) ?_
      | refine WR.muln rfl (by with_reducible rfl) (by with_reducible rfl) ?_
      | refine WR.subn rfl (by with_reducible rfl) (by with_reducible rfl) (by omega) ?_
      | (refine WR.incn rfl rfl ?_; dsimp only [List.set])
      | (refine WR.go rfl rfl ?_; try dsimp only [List.set])
      | refine WR.aik hz rfl rfl rfl rfl (by first | with_reducible rfl | assumption) (by omega) (by assumption) ?_
      | refine WR.ai hz rfl rfl rfl rfl (by first | with_reducible rfl | assumption) (by omega) ?_
      | refine WR.si hz rfl rfl rfl rfl (by first | with_reducible rfl | assumption) (by omega) ?_
      | refine WR.az hz rfl rfl rfl rfl (by first | with_reducible rfl | assumption) (by omega) ?_
      | refine WR.sz hz rfl rfl rfl rfl (by first | with_reducible rfl | assumption) (by omega) (by decide) ?_
      | refine WR.pi hz rfl ?_
      | refine WR.rt rfl rfl rfl rfl ?_
      | refine WR.rz rfl rfl (by decide) ?_))
      rfl
    have hb1 := hb true
    have hb0 := hb false
    simp only [f_ab] at hb1 hb0
    iterate 7 (first
      | (with_reducible refine WR.lt (by omega) (by omega) (fun _ => ?_) (fun _ => ?_) <;> try (exfalso; omega))
      | (with_reducible refine WR.le (by omega) (by omega) (fun _ => ?_) (fun _ => ?_) <;> try (exfalso; omega))
      | (with_reducible refine WR.eq (by omega) (by omega) (fun _ => ?_) (fun _ => ?_) <;> try (exfalso; omega))
      | (with_reducible refine WR.ne (by omega) (by omega) (fun _ => ?_) (fun _ => ?_) <;> try (exfalso; omega))
      | with_reducible refine WR.lt0 (by omega) ?_
      | with_reducible refine WR.ge0 (by omega) ?_
      | (with_reducible refine WR.bz (fun _ => ?_) (fun _ => ?_))
      | (with_reducible refine WR.bn (fun _ => ?_) (fun _ => ?_))
      | (with_reducible refine WR.br (fun _ => ?_) (fun _ => ?_) <;> try contradiction)
      | refine WR.gik hz rfl (by assumption) ?_
      | refine WR.gi hz rfl ?_
      | refine WR.gr hz rfl rfl ?_
      | refine WR.addn rfl (by with_reducible rfl) (by with_reducible rfl) ?_
      | refine WR.muln rfl (by with_reducible rfl) (by with_reducible rfl) ?_
      | refine WR.subn rfl (by with_reducible rfl) (by with_reducible rfl) (by omega) ?_
      | (refine WR.incn rfl rfl ?_; dsimp only [List.set])
      | (refine WR.go rfl rfl ?_; try dsimp only [List.set])
      | refine WR.aik hz rfl rfl rfl rfl (by first | with_reducible rfl | assumption) (by omega) (by assumption) ?_
      | refine WR.ai hz rfl rfl rfl rfl (by first | with_reducible rfl | assumption) (by omega) ?_
      | refine WR.si hz rfl rfl rfl rfl (by first | with_reducible rfl | assumption) (by omega) ?_
      | refine WR.az hz rfl rfl rfl rfl (by first | with_reducible rfl | assumption) (by omega) ?_
      | refine WR.sz hz rfl rfl rfl rfl (by first | with_reducible rfl | assumption) (by omega) (by decide) ?_
      | refine WR.pi hz rfl ?_
      | refine WR.rt rfl rfl rfl rfl ?_
      | refine WR.rz rfl rfl (by decide) ?_)
    · rename_i h
      repeat' ((with_reducible fail_if_success show WR _ _ _ 48 _ _ _ _); (first
      | (with_reducible refine WR.lt (by omega) (by omega) (fun _ => ?_) (fun _ => ?_) <;> try (exfalso; omega))
      | (with_reducible refine WR.le (by omega) (by omega) (fun _ => ?_) (fun _ => ?_) <;> try (exfalso; omega))
      | (with_reducible refine WR.eq (by omega) (by omega) (fun _ => ?_) (fun _ => ?_) <;> try (exfalso; omega))
      | (with_reducible refine WR.ne (by omega) (by omega) (fun _ => ?_) (fun _ => ?_) <;> try (exfalso; omega))
      | with_reducible refine WR.lt0 (by omega) ?_
      | with_reducible refine WR.ge0 (by omega) ?_
      | (with_reducible refine WR.bz (fun _ => ?_) (fun _ => ?_))
      | (with_reducible refine WR.bn (fun _ => ?_) (fun _ => ?_))
      | (with_reducible refine WR.br (fun _ => ?_) (fun _ => ?_) <;> try contradiction)
      | refine WR.gik hz rfl (by assumption) ?_
      | refine WR.gi hz rfl ?_
      | refine WR.gr hz rfl rfl ?_
      | refine WR.addn rfl (by with_reducible rfl) (by with_reducible rfl) ?_
      | refine WR.muln rfl (by with_reducible rfl) (by with_reducible rfl) ?_
      | refine WR.subn rfl (by with_reducible rfl) (by with_reducible rfl) (by omega) ?_
      | (refine WR.incn rfl rfl ?_; dsimp only [List.set])
      | (refine WR.go rfl rfl ?_; try dsimp only [List.set])
      | refine WR.aik hz rfl rfl rfl rfl (by first | with_reducible rfl | assumption) (by omega) (by assumption) ?_
      | refine WR.ai hz rfl rfl rfl rfl (by first | with_reducible rfl | assumption) (by omega) ?_
      | refine WR.si hz rfl rfl rfl rfl (by first | with_reducible rfl | assumption) (by omega) ?_
      | refine WR.az hz rfl rfl rfl rfl (by first | with_reducible rfl | assumption) (by omega) ?_
      | refine WR.sz hz rfl rfl rfl rfl (by first | with_reducible rfl | assumption) (by omega) (by decide) ?_
      | refine WR.pi hz rfl ?_
      | refine WR.rt rfl rfl rfl rfl ?_
      | refine WR.rz rfl rfl (by decide) ?_))
      exact hb1 (by simp [h])
    · rename_i h
      iterate 3 (first
      | (with_reducible refine WR.lt (by omega) (by omega) (fun _ => ?_) (fun _ => ?_) <;> try (exfalso; omega))
      | (with_reducible refine WR.le (by omega) (by omega) (fun _ => ?_) (fun _ => ?_) <;> try (exfalso; omega))
      | (with_reducible refine WR.eq (by omega) (by omega) (fun _ => ?_) (fun _ => ?_) <;> try (exfalso; omega))
      | (with_reducible refine WR.ne (by omega) (by omega) (fun _ => ?_) (fun _ => ?_) <;> try (exfalso; omega))
      | with_reducible refine WR.lt0 (by omega) ?_
      | with_reducible refine WR.ge0 (by omega) ?_
      | (with_reducible refine WR.bz (fun _ => ?_) (fun _ => ?_))
      | (with_reducible refine WR.bn (fun _ => ?_) (fun _ => ?_))
      | (with_reducible refine WR.br (fun _ => ?_) (fun _ => ?_) <;> try contradiction)
      | refine WR.gik hz rfl (by assumption) ?_
      | refine WR.gi hz rfl ?_
      | refine WR.gr hz rfl rfl ?_
      | refine WR.addn rfl (by with_reducible rfl) (by with_reducible rfl) ?_
      | refine WR.muln rfl (by with_reducible rfl) (by with_reducible rfl) ?_
      | refine WR.subn rfl (by with_reducible rfl) (by with_reducible rfl) (by omega) ?_
      | (refine WR.incn rfl rfl ?_; dsimp only [List.set])
      | (refine WR.go rfl rfl ?_; try dsimp only [List.set])
      | refine WR.aik hz rfl rfl rfl rfl (by first | with_reducible rfl | assumption) (by omega) (by assumption) ?_
      | refine WR.ai hz rfl rfl rfl rfl (by first | with_reducible rfl | assumption) (by omega) ?_
      | refine WR.si hz rfl rfl rfl rfl (by first | with_reducible rfl | assumption) (by omega) ?_
      | refine WR.az hz rfl rfl rfl rfl (by first | with_reducible rfl | assumption) (by omega) ?_
      | refine WR.sz hz rfl rfl rfl rfl (by first | with_reducible rfl | assumption) (by omega) (by decide) ?_
      | refine WR.pi hz rfl ?_
      | refine WR.rt rfl rfl rfl rfl ?_
      | refine WR.rz rfl rfl (by decide) ?_)
      refine WR.V2i hz rfl rfl (r_knows d I (s + 1 + m) hr hz) ?_
      iterate 2 (first
      | (with_reducible refine WR.lt (by omega) (by omega) (fun _ => ?_) (fun _ => ?_) <;> try (exfalso; omega))
      | (with_reducible refine WR.le (by omega) (by omega) (fun _ => ?_) (fun _ => ?_) <;> try (exfalso; omega))
      | (with_reducible refine WR.eq (by omega) (by omega) (fun _ => ?_) (fun _ => ?_) <;> try (exfalso; omega))
      | (with_reducible refine WR.ne (by omega) (by omega) (fun _ => ?_) (fun _ => ?_) <;> try (exfalso; omega))
      | with_reducible refine WR.lt0 (by omega) ?_
      | with_reducible refine WR.ge0 (by omega) ?_
      | (with_reducible refine WR.bz (fun _ => ?_) (fun _ => ?_))
      | (with_reducible refine WR.bn (fun _ => ?_) (fun _ => ?_))
      | (with_reducible refine WR.br (fun _ => ?_) (fun _ => ?_) <;> try contradiction)
      | refine WR.gik hz rfl (by assumption) ?_
      | refine WR.gi hz rfl ?_
      | refine WR.gr hz rfl rfl ?_
      | refine WR.addn rfl (by with_reducible rfl) (by with_reducible rfl) ?_
      | refine WR.muln rfl (by with_reducible rfl) (by with_reducible rfl) ?_
      | refine WR.subn rfl (by with_reducible rfl) (by with_reducible rfl) (by omega) ?_
      | (refine WR.incn rfl rfl ?_; dsimp only [List.set])
      | (refine WR.go rfl rfl ?_; try dsimp only [List.set])
      | refine WR.aik hz rfl rfl rfl rfl (by first | with_reducible rfl | assumption) (by omega) (by assumption) ?_
      | refine WR.ai hz rfl rfl rfl rfl (by first | with_reducible rfl | assumption) (by omega) ?_
      | refine WR.si hz rfl rfl rfl rfl (by first | with_reducible rfl | assumption) (by omega) ?_
      | refine WR.az hz rfl rfl rfl rfl (by first | with_reducible rfl | assumption) (by omega) ?_
      | refine WR.sz hz rfl rfl rfl rfl (by first | with_reducible rfl | assumption) (by omega) (by decide) ?_
      | refine WR.pi hz rfl ?_
      | refine WR.rt rfl rfl rfl rfl ?_
      | refine WR.rz rfl rfl (by decide) ?_)
      · rename_i h2
        repeat' ((with_reducible fail_if_success show WR _ _ _ 48 _ _ _ _); (first
      | (with_reducible refine WR.lt (by omega) (by omega) (fun _ => ?_) (fun _ => ?_) <;> try (exfalso; omega))
      | (with_reducible refine WR.le (by omega) (by omega) (fun _ => ?_) (fun _ => ?_) <;> try (exfalso; omega))
      | (with_reducible refine WR.eq (by omega) (by omega) (fun _ => ?_) (fun _ => ?_) <;> try (exfalso; omega))
      | (with_reducible refine WR.ne (by omega) (by omega) (fun _ => ?_) (fun _ => ?_) <;> try (exfalso; omega))
      | with_reducible refine WR.lt0 (by omega) ?_
      | with_reducible refine WR.ge0 (by omega) ?_
      | (with_reducible refine WR.bz (fun _ => ?_) (fun _ => ?_))
      | (with_reducible refine WR.bn (fun _ => ?_) (fun _ => ?_))
      | (with_reducible refine WR.br (fun _ => ?_) (fun _ => ?_) <;> try contradiction)
      | refine WR.gik hz rfl (by assumption) ?_
      | refine WR.gi hz rfl ?_
      | refine WR.gr hz rfl rfl ?_
      | refine WR.addn rfl (by with_reducible rfl) (by with_reducible rfl) ?_
      | refine WR.muln rfl (by with_reducible rfl) (by with_reducible rfl) ?_
      | refine WR.subn rfl (by with_reducible rfl) (by with_reducible rfl) (by omega) ?_
      | (refine WR.incn rfl rfl ?_; dsimp only [List.set])
      | (refine WR.go rfl rfl ?_; try dsimp only [List.set])
      | refine WR.aik hz rfl rfl rfl rfl (by first | with_reducible rfl | assumption) (by omega) (by assumption) ?_
      | refine WR.ai hz rfl rfl rfl rfl (by first | with_reducible rfl | assumption) (by omega) ?_
      | refine WR.si hz rfl rfl rfl rfl (by first | with_reducible rfl | assumption) (by omega) ?_
      | refine WR.az hz rfl rfl rfl rfl (by first | with_reducible rfl | assumption) (by omega) ?_
      | refine WR.sz hz rfl rfl rfl rfl (by first | with_reducible rfl | assumption) (by omega) (by decide) ?_
      | refine WR.pi hz rfl ?_
      | refine WR.rt rfl rfl rfl rfl ?_
      | refine WR.rz rfl rfl (by decide) ?_))
        exact hb1 (by simp [h2])
      · rename_i h2
        iterate 10 (first
      | (with_reducible refine WR.lt (by omega) (by omega) (fun _ => ?_) (fun _ => ?_) <;> try (exfalso; omega))
      | (with_reducible refine WR.le (by omega) (by omega) (fun _ => ?_) (fun _ => ?_) <;> try (exfalso; omega))
      | (with_reducible refine WR.eq (by omega) (by omega) (fun _ => ?_) (fun _ => ?_) <;> try (exfalso; omega))
      | (with_reducible refine WR.ne (by omega) (by omega) (fun _ => ?_) (fun _ => ?_) <;> try (exfalso; omega))
      | with_reducible refine WR.lt0 (by omega) ?_
      | with_reducible refine WR.ge0 (by omega) ?_
      | (with_reducible refine WR.bz (fun _ => ?_) (fun _ => ?_))
      | (with_reducible refine WR.bn (fun _ => ?_) (fun _ => ?_))
      | (with_reducible refine WR.br (fun _ => ?_) (fun _ => ?_) <;> try contradiction)
      | refine WR.gik hz rfl (by assumption) ?_
      | refine WR.gi hz rfl ?_
      | refine WR.gr hz rfl rfl ?_
      | refine WR.addn rfl (by with_reducible rfl) (by with_reducible rfl) ?_
      | refine WR.muln rfl (by with_reducible rfl) (by with_reducible rfl) ?_
      | refine WR.subn rfl (by with_reducible rfl) (by with_reducible rfl) (by omega) ?_
      | (refine WR.incn rfl rfl ?_; dsimp only [List.set])
      | (refine WR.go rfl rfl ?_; try dsimp only [List.set])
      | refine WR.aik hz rfl rfl rfl rfl (by first | with_reducible rfl | assumption) (by omega) (by assumption) ?_
      | refine WR.ai hz rfl rfl rfl rfl (by first | with_reducible rfl | assumption) (by omega) ?_
      | refine WR.si hz rfl rfl rfl rfl (by first | with_reducible rfl | assumption) (by omega) ?_
      | refine WR.az hz rfl rfl rfl rfl (by first | with_reducible rfl | assumption) (by omega) ?_
      | refine WR.sz hz rfl rfl rfl rfl (by first | with_reducible rfl | assumption) (by omega) (by decide) ?_
      | refine WR.pi hz rfl ?_
      | refine WR.rt rfl rfl rfl rfl ?_
      | refine WR.rz rfl rfl (by decide) ?_)
        · rename_i h3
          iterate 1 (first
      | (with_reducible refine WR.lt (by omega) (by omega) (fun _ => ?_) (fun _ => ?_) <;> try (exfalso; omega))
      | (with_reducible refine WR.le (by omega) (by omega) (fun _ => ?_) (fun _ => ?_) <;> try (exfalso; omega))
      | (with_reducible refine WR.eq (by omega) (by omega) (fun _ => ?_) (fun _ => ?_) <;> try (exfalso; omega))
      | (with_reducible refine WR.ne (by omega) (by omega) (fun _ => ?_) (fun _ => ?_) <;> try (exfalso; omega))
      | with_reducible refine WR.lt0 (by omega) ?_
      | with_reducible refine WR.ge0 (by omega) ?_
      | (with_reducible refine WR.bz (fun _ => ?_) (fun _ => ?_))
      | (with_reducible refine WR.bn (fun _ => ?_) (fun _ => ?_))
      | (with_reducible refine WR.br (fun _ => ?_) (fun _ => ?_) <;> try contradiction)
      | refine WR.gik hz rfl (by assumption) ?_
      | refine WR.gi hz rfl ?_
      | refine WR.gr hz rfl rfl ?_
      | refine WR.addn rfl (by with_reducible rfl) (by with_reducible rfl) ?_
      | refine WR.muln rfl (by with_reducible rfl) (by with_reducible rfl) ?_
      | refine WR.subn rfl (by with_reducible rfl) (by with_reducible rfl) (by omega) ?_
      | (refine WR.incn rfl rfl ?_; dsimp only [List.set])
      | (refine WR.go rfl rfl ?_; try dsimp only [List.set])
      | refine WR.aik hz rfl rfl rfl rfl (by first | with_reducible rfl | assumption) (by omega) (by assumption) ?_
      | refine WR.ai hz rfl rfl rfl rfl (by first | with_reducible rfl | assumption) (by omega) ?_
      | refine WR.si hz rfl rfl rfl rfl (by first | with_reducible rfl | assumption) (by omega) ?_
      | refine WR.az hz rfl rfl rfl rfl (by first | with_reducible rfl | assumption) (by omega) ?_
      | refine WR.sz hz rfl rfl rfl rfl (by first | with_reducible rfl | assumption) (by omega) (by decide) ?_
      | refine WR.pi hz rfl ?_
      | refine WR.rt rfl rfl rfl rfl ?_
      | refine WR.rz rfl rfl (by decide) ?_)
          exact hb0 (by simp [h, h2, i_le_gt h3])
        · rename_i h3
          iterate 2 (first
      | (with_reducible refine WR.lt (by omega) (by omega) (fun _ => ?_) (fun _ => ?_) <;> try (exfalso; omega))
      | (with_reducible refine WR.le (by omega) (by omega) (fun _ => ?_) (fun _ => ?_) <;> try (exfalso; omega))
      | (with_reducible refine WR.eq (by omega) (by omega) (fun _ => ?_) (fun _ => ?_) <;> try (exfalso; omega))
      | (with_reducible refine WR.ne (by omega) (by omega) (fun _ => ?_) (fun _ => ?_) <;> try (exfalso; omega))
      | with_reducible refine WR.lt0 (by omega) ?_
      | with_reducible refine WR.ge0 (by omega) ?_
      | (with_reducible refine WR.bz (fun _ => ?_) (fun _ => ?_))
      | (with_reducible refine WR.bn (fun _ => ?_) (fun _ => ?_))
      | (with_reducible refine WR.br (fun _ => ?_) (fun _ => ?_) <;> try contradiction)
      | refine WR.gik hz rfl (by assumption) ?_
      | refine WR.gi hz rfl ?_
      | refine WR.gr hz rfl rfl ?_
      | refine WR.addn rfl (by with_reducible rfl) (by with_reducible rfl) ?_
      | refine WR.muln rfl (by with_reducible rfl) (by with_reducible rfl) ?_
      | refine WR.subn rfl (by with_reducible rfl) (by with_reducible rfl) (by omega) ?_
      | (refine WR.incn rfl rfl ?_; dsimp only [List.set])
      | (refine WR.go rfl rfl ?_; try dsimp only [List.set])
      | refine WR.aik hz rfl rfl rfl rfl (by first | with_reducible rfl | assumption) (by omega) (by assumption) ?_
      | refine WR.ai hz rfl rfl rfl rfl (by first | with_reducible rfl | assumption) (by omega) ?_
      | refine WR.si hz rfl rfl rfl rfl (by first | with_reducible rfl | assumption) (by omega) ?_
      | refine WR.az hz rfl rfl rfl rfl (by first | with_reducible rfl | assumption) (by omega) ?_
      | refine WR.sz hz rfl rfl rfl rfl (by first | with_reducible rfl | assumption) (by omega) (by decide) ?_
      | refine WR.pi hz rfl ?_
      | refine WR.rt rfl rfl rfl rfl ?_
      | refine WR.rz rfl rfl (by decide) ?_)
          exact hb1 (by simp [i_nle h3])
def f_mem (I : xI) (e s : Nat) : Int32 := if s ≤ 3 then nI 7 else f_rp I e 107 (s - 3)
def f_prop1 (I : xI) (r s e : Nat) (c : Int32) : xI := x_u (x_u (f_rp I e) 91 (25 * r + s) c) 92 (25 * r + s) (f_mem I e s &&& (nI 1 <<< (nI r &&& 31)))
def f_prop2 (I : xI) (r s e : Nat) (c : Int32) : xI := if f_bit (f_mem I e s) (nI r) = true then f_cast (f_prop1 I r s e c) r s (I 87 r) c else f_prop1 I r s e c
def f_prop (I : xI) (r s e : Nat) (c : Int32) : xI := f_ma (f_prop2 I r s e c) (nI 3) r (f_mem I e s) (I 87 r) (nI s) c 5
theorem f_prop1_o (I : xI) (r s e : Nat) (c : Int32) {a i : Nat} (h : a < 91 ∨ (92 < a ∧ a < 104)) : f_prop1 I r s e c a i = I a i := by
  rw [f_prop1, x_u_ne _ _ (by omega), x_u_ne _ _ (by omega), f_rp_o I (by omega)]
theorem f_prop2_o (I : xI) (r s e : Nat) (c : Int32) {a i : Nat} (h : a < 85 ∨ (86 < a ∧ a < 91) ∨ (92 < a ∧ a < 104)) : f_prop2 I r s e c a i = I a i := by
  rw [f_prop2]
  split
  · rw [f_cast, x_u_ne _ _ (by omega), x_u_ne _ _ (by omega), f_prop1_o _ _ _ _ _ (by omega)]
  · exact f_prop1_o _ _ _ _ _ (by omega)
theorem f_wok_eq {I J : xI} (h : J 74 20 = I 74 20) (hw : f_wok I) : f_wok J := by
  have e : f_w J = f_w I := by rw [f_w, f_w, h]
  exact ⟨by rw [h, e]; exact hw.1, by rw [e]; exact hw.2⟩
set_option maxHeartbeats 4000000 in
theorem r_propose (d : Nat) (I : xI) {r s e : Nat} (c : Int32) (hr : r < 5) (hs : s ≤ 24) (he : I 83 r = nI e) (he2 : e ≤ 24) (hw : f_wok I) (hf : f_wf I) (hz : zok Z) : ER Z (d + 4) 108 I [.ref 74, .int (nI r), .int (nI s), .int c] (fun I' v => I' = f_prop I r s e c ∧ v = none) := by
  refine ER.of (ls := [some (.ref 74), some (.int (nI r)), some (.int (nI s)), some (.int c), none]) rfl rfl ?_
  iterate 3 (first
      | (with_reducible refine WR.lt (by omega) (by omega) (fun _ => ?_) (fun _ => ?_) <;> try (exfalso; omega))
      | (with_reducible refine WR.le (by omega) (by omega) (fun _ => ?_) (fun _ => ?_) <;> try (exfalso; omega))
      | (with_reducible refine WR.eq (by omega) (by omega) (fun _ => ?_) (fun _ => ?_) <;> try (exfalso; omega))
      | (with_reducible refine WR.ne (by omega) (by omega) (fun _ => ?_) (fun _ => ?_) <;> try (exfalso; omega))
      | with_reducible refine WR.lt0 (by omega) ?_
      | with_reducible refine WR.ge0 (by omega) ?_
      | (with_reducible refine WR.bz (fun _ => ?_) (fun _ => ?_))
      | (with_reducible refine WR.bn (fun _ => ?_) (fun _ => ?_))
      | (with_reducible refine WR.br (fun _ => ?_) (fun _ => ?_) <;> try contradiction)
      | refine WR.gik hz rfl (by assumption) ?_
      | refine WR.gi hz rfl ?_
      | refine WR.gr hz rfl rfl ?_
      | refine WR.addn rfl (by with_reducible rfl) (by with_reducible rfl) ?_
      | refine WR.muln rfl (by with_reducible rfl) (by with_reducible rfl) ?_
      | refine WR.subn rfl (by with_reducible rfl) (by with_reducible rfl) (by omega) ?_
      | (refine WR.incn rfl rfl ?_; dsimp only [List.set])
      | (refine WR.go rfl rfl ?_; try dsimp only [List.set])
      | refine WR.aik hz rfl rfl rfl rfl (by first | with_reducible rfl | assumption) (by omega) (by assumption) ?_
      | refine WR.ai hz rfl rfl rfl rfl (by first | with_reducible rfl | assumption) (by omega) ?_
      | refine WR.si hz rfl rfl rfl rfl (by first | with_reducible rfl | assumption) (by omega) ?_
      | refine WR.az hz rfl rfl rfl rfl (by first | with_reducible rfl | assumption) (by omega) ?_
      | refine WR.sz hz rfl rfl rfl rfl (by first | with_reducible rfl | assumption) (by omega) (by decide) ?_
      | refine WR.pi hz rfl ?_
      | refine WR.rt rfl rfl rfl rfl ?_
      | refine WR.rz rfl rfl (by decide) ?_)
  refine WR.V2i hz rfl rfl (r_members d I hr he he2 (by omega) hf hz) ?_
  have hm : (if s ≤ 3 then nI 7 else f_rp I e 107 (s - 3)) = f_mem I e s := rfl
  rw [hm]
  have h87 := f_prop1_o I r s e c (a := 87) (i := r) (by decide)
  have hw1 : f_wok (f_prop2 I r s e c) := f_wok_eq (f_prop2_o I r s e c (by decide)) hw
  have h287 := f_prop2_o I r s e c (a := 87) (i := r) (by decide)
  repeat' ((with_reducible fail_if_success show WR _ _ _ 37 _ _ _ _); (first
      | (with_reducible refine WR.lt (by omega) (by omega) (fun _ => ?_) (fun _ => ?_) <;> try (exfalso; omega))
      | (with_reducible refine WR.le (by omega) (by omega) (fun _ => ?_) (fun _ => ?_) <;> try (exfalso; omega))
      | (with_reducible refine WR.eq (by omega) (by omega) (fun _ => ?_) (fun _ => ?_) <;> try (exfalso; omega))
      | (with_reducible refine WR.ne (by omega) (by omega) (fun _ => ?_) (fun _ => ?_) <;> try (exfalso; omega))
      | with_reducible refine WR.lt0 (by omega) ?_
      | with_reducible refine WR.ge0 (by omega) ?_
      | (with_reducible refine WR.bz (fun _ => ?_) (fun _ => ?_))
      | (with_reducible refine WR.bn (fun _ => ?_) (fun _ => ?_))
      | (with_reducible refine WR.br (fun _ => ?_) (fun _ => ?_) <;> try contradiction)
      | refine WR.gik hz rfl (by assumption) ?_
      | refine WR.gi hz rfl ?_
      | refine WR.gr hz rfl rfl ?_
      | refine WR.addn rfl (by with_reducible rfl) (by with_reducible rfl) ?_
      | refine WR.muln rfl (by with_reducible rfl) (by with_reducible rfl) ?_
      | refine WR.subn rfl (by with_reducible rfl) (by with_reducible rfl) (by omega) ?_
      | (refine WR.incn rfl rfl ?_; dsimp only [List.set])
      | (refine WR.go rfl rfl ?_; try dsimp only [List.set])
      | refine WR.aik hz rfl rfl rfl rfl (by first | with_reducible rfl | assumption) (by omega) (by assumption) ?_
      | refine WR.ai hz rfl rfl rfl rfl (by first | with_reducible rfl | assumption) (by omega) ?_
      | refine WR.si hz rfl rfl rfl rfl (by first | with_reducible rfl | assumption) (by omega) ?_
      | refine WR.az hz rfl rfl rfl rfl (by first | with_reducible rfl | assumption) (by omega) ?_
      | refine WR.sz hz rfl rfl rfl rfl (by first | with_reducible rfl | assumption) (by omega) (by decide) ?_
      | refine WR.pi hz rfl ?_
      | refine WR.rt rfl rfl rfl rfl ?_
      | refine WR.rz rfl rfl (by decide) ?_))
  show WR Z (d + 3) 108 37 _ _ (f_prop1 I r s e c) _
  iterate 8 (first
      | (with_reducible refine WR.lt (by omega) (by omega) (fun _ => ?_) (fun _ => ?_) <;> try (exfalso; omega))
      | (with_reducible refine WR.le (by omega) (by omega) (fun _ => ?_) (fun _ => ?_) <;> try (exfalso; omega))
      | (with_reducible refine WR.eq (by omega) (by omega) (fun _ => ?_) (fun _ => ?_) <;> try (exfalso; omega))
      | (with_reducible refine WR.ne (by omega) (by omega) (fun _ => ?_) (fun _ => ?_) <;> try (exfalso; omega))
      | with_reducible refine WR.lt0 (by omega) ?_
      | with_reducible refine WR.ge0 (by omega) ?_
      | (with_reducible refine WR.bz (fun _ => ?_) (fun _ => ?_))
      | (with_reducible refine WR.bn (fun _ => ?_) (fun _ => ?_))
      | (with_reducible refine WR.br (fun _ => ?_) (fun _ => ?_) <;> try contradiction)
      | refine WR.gik hz rfl (by assumption) ?_
      | refine WR.gi hz rfl ?_
      | refine WR.gr hz rfl rfl ?_
      | refine WR.addn rfl (by with_reducible rfl) (by with_reducible rfl) ?_
      | refine WR.muln rfl (by with_reducible rfl) (by with_reducible rfl) ?_
      | refine WR.subn rfl (by with_reducible rfl) (by with_reducible rfl) (by omega) ?_
      | (refine WR.incn rfl rfl ?_; dsimp only [List.set])
      | (refine WR.go rfl rfl ?_; try dsimp only [List.set])
      | refine WR.aik hz rfl rfl rfl rfl (by first | with_reducible rfl | assumption) (by omega) (by assumption) ?_
      | refine WR.ai hz rfl rfl rfl rfl (by first | with_reducible rfl | assumption) (by omega) ?_
      | refine WR.si hz rfl rfl rfl rfl (by first | with_reducible rfl | assumption) (by omega) ?_
      | refine WR.az hz rfl rfl rfl rfl (by first | with_reducible rfl | assumption) (by omega) ?_
      | refine WR.sz hz rfl rfl rfl rfl (by first | with_reducible rfl | assumption) (by omega) (by decide) ?_
      | refine WR.pi hz rfl ?_
      | refine WR.rt rfl rfl rfl rfl ?_
      | refine WR.rz rfl rfl (by decide) ?_)
  · rename_i h
    have h2 : f_prop2 I r s e c = f_prop1 I r s e c := by rw [f_prop2, if_neg (fun q => h (by simpa [f_bit] using q))]
    rw [← h2]
    repeat' ((with_reducible fail_if_success show WR _ _ _ 73 _ _ _ _); (first
      | (with_reducible refine WR.lt (by omega) (by omega) (fun _ => ?_) (fun _ => ?_) <;> try (exfalso; omega))
      | (with_reducible refine WR.le (by omega) (by omega) (fun _ => ?_) (fun _ => ?_) <;> try (exfalso; omega))
      | (with_reducible refine WR.eq (by omega) (by omega) (fun _ => ?_) (fun _ => ?_) <;> try (exfalso; omega))
      | (with_reducible refine WR.ne (by omega) (by omega) (fun _ => ?_) (fun _ => ?_) <;> try (exfalso; omega))
      | with_reducible refine WR.lt0 (by omega) ?_
      | with_reducible refine WR.ge0 (by omega) ?_
      | (with_reducible refine WR.bz (fun _ => ?_) (fun _ => ?_))
      | (with_reducible refine WR.bn (fun _ => ?_) (fun _ => ?_))
      | (with_reducible refine WR.br (fun _ => ?_) (fun _ => ?_) <;> try contradiction)
      | refine WR.gik hz rfl (by assumption) ?_
      | refine WR.gi hz rfl ?_
      | refine WR.gr hz rfl rfl ?_
      | refine WR.addn rfl (by with_reducible rfl) (by with_reducible rfl) ?_
      | refine WR.muln rfl (by with_reducible rfl) (by with_reducible rfl) ?_
      | refine WR.subn rfl (by with_reducible rfl) (by with_reducible rfl) (by omega) ?_
      | (refine WR.incn rfl rfl ?_; dsimp only [List.set])
      | (refine WR.go rfl rfl ?_; try dsimp only [List.set])
      | refine WR.aik hz rfl rfl rfl rfl (by first | with_reducible rfl | assumption) (by omega) (by assumption) ?_
      | refine WR.ai hz rfl rfl rfl rfl (by first | with_reducible rfl | assumption) (by omega) ?_
      | refine WR.si hz rfl rfl rfl rfl (by first | with_reducible rfl | assumption) (by omega) ?_
      | refine WR.az hz rfl rfl rfl rfl (by first | with_reducible rfl | assumption) (by omega) ?_
      | refine WR.sz hz rfl rfl rfl rfl (by first | with_reducible rfl | assumption) (by omega) (by decide) ?_
      | refine WR.pi hz rfl ?_
      | refine WR.rt rfl rfl rfl rfl ?_
      | refine WR.rz rfl rfl (by decide) ?_))
    refine WR.V6v hz rfl rfl (r_mailAll (d + 1) _ (nI 3) (f_mem I e s) (I 87 r) (nI s) c hr hw1 hz) ?_
    iterate 1 (first
      | (with_reducible refine WR.lt (by omega) (by omega) (fun _ => ?_) (fun _ => ?_) <;> try (exfalso; omega))
      | (with_reducible refine WR.le (by omega) (by omega) (fun _ => ?_) (fun _ => ?_) <;> try (exfalso; omega))
      | (with_reducible refine WR.eq (by omega) (by omega) (fun _ => ?_) (fun _ => ?_) <;> try (exfalso; omega))
      | (with_reducible refine WR.ne (by omega) (by omega) (fun _ => ?_) (fun _ => ?_) <;> try (exfalso; omega))
      | with_reducible refine WR.lt0 (by omega) ?_
      | with_reducible refine WR.ge0 (by omega) ?_
      | (with_reducible refine WR.bz (fun _ => ?_) (fun _ => ?_))
      | (with_reducible refine WR.bn (fun _ => ?_) (fun _ => ?_))
      | (with_reducible refine WR.br (fun _ => ?_) (fun _ => ?_) <;> try contradiction)
      | refine WR.gik hz rfl (by assumption) ?_
      | refine WR.gi hz rfl ?_
      | refine WR.gr hz rfl rfl ?_
      | refine WR.addn rfl (by with_reducible rfl) (by with_reducible rfl) ?_
      | refine WR.muln rfl (by with_reducible rfl) (by with_reducible rfl) ?_
      | refine WR.subn rfl (by with_reducible rfl) (by with_reducible rfl) (by omega) ?_
      | (refine WR.incn rfl rfl ?_; dsimp only [List.set])
      | (refine WR.go rfl rfl ?_; try dsimp only [List.set])
      | refine WR.aik hz rfl rfl rfl rfl (by first | with_reducible rfl | assumption) (by omega) (by assumption) ?_
      | refine WR.ai hz rfl rfl rfl rfl (by first | with_reducible rfl | assumption) (by omega) ?_
      | refine WR.si hz rfl rfl rfl rfl (by first | with_reducible rfl | assumption) (by omega) ?_
      | refine WR.az hz rfl rfl rfl rfl (by first | with_reducible rfl | assumption) (by omega) ?_
      | refine WR.sz hz rfl rfl rfl rfl (by first | with_reducible rfl | assumption) (by omega) (by decide) ?_
      | refine WR.pi hz rfl ?_
      | refine WR.rt rfl rfl rfl rfl ?_
      | refine WR.rz rfl rfl (by decide) ?_)
    exact ⟨rfl, rfl⟩
  · rename_i h
    have h2 : f_prop2 I r s e c = f_cast (f_prop1 I r s e c) r s (I 87 r) c := by rw [f_prop2, if_pos (by simpa [f_bit] using Classical.not_not.mp h)]
    repeat' ((with_reducible fail_if_success show WR _ _ _ 57 _ _ _ _); (first
      | (with_reducible refine WR.lt (by omega) (by omega) (fun _ => ?_) (fun _ => ?_) <;> try (exfalso; omega))
      | (with_reducible refine WR.le (by omega) (by omega) (fun _ => ?_) (fun _ => ?_) <;> try (exfalso; omega))
      | (with_reducible refine WR.eq (by omega) (by omega) (fun _ => ?_) (fun _ => ?_) <;> try (exfalso; omega))
      | (with_reducible refine WR.ne (by omega) (by omega) (fun _ => ?_) (fun _ => ?_) <;> try (exfalso; omega))
      | with_reducible refine WR.lt0 (by omega) ?_
      | with_reducible refine WR.ge0 (by omega) ?_
      | (with_reducible refine WR.bz (fun _ => ?_) (fun _ => ?_))
      | (with_reducible refine WR.bn (fun _ => ?_) (fun _ => ?_))
      | (with_reducible refine WR.br (fun _ => ?_) (fun _ => ?_) <;> try contradiction)
      | refine WR.gik hz rfl (by assumption) ?_
      | refine WR.gi hz rfl ?_
      | refine WR.gr hz rfl rfl ?_
      | refine WR.addn rfl (by with_reducible rfl) (by with_reducible rfl) ?_
      | refine WR.muln rfl (by with_reducible rfl) (by with_reducible rfl) ?_
      | refine WR.subn rfl (by with_reducible rfl) (by with_reducible rfl) (by omega) ?_
      | (refine WR.incn rfl rfl ?_; dsimp only [List.set])
      | (refine WR.go rfl rfl ?_; try dsimp only [List.set])
      | refine WR.aik hz rfl rfl rfl rfl (by first | with_reducible rfl | assumption) (by omega) (by assumption) ?_
      | refine WR.ai hz rfl rfl rfl rfl (by first | with_reducible rfl | assumption) (by omega) ?_
      | refine WR.si hz rfl rfl rfl rfl (by first | with_reducible rfl | assumption) (by omega) ?_
      | refine WR.az hz rfl rfl rfl rfl (by first | with_reducible rfl | assumption) (by omega) ?_
      | refine WR.sz hz rfl rfl rfl rfl (by first | with_reducible rfl | assumption) (by omega) (by decide) ?_
      | refine WR.pi hz rfl ?_
      | refine WR.rt rfl rfl rfl rfl ?_
      | refine WR.rz rfl rfl (by decide) ?_))
    refine WR.V4v hz rfl rfl (r_cast (d + 2) _ _ c hr (by omega) hz) ?_
    rw [← h2]
    repeat' ((with_reducible fail_if_success show WR _ _ _ 73 _ _ _ _); (first
      | (with_reducible refine WR.lt (by omega) (by omega) (fun _ => ?_) (fun _ => ?_) <;> try (exfalso; omega))
      | (with_reducible refine WR.le (by omega) (by omega) (fun _ => ?_) (fun _ => ?_) <;> try (exfalso; omega))
      | (with_reducible refine WR.eq (by omega) (by omega) (fun _ => ?_) (fun _ => ?_) <;> try (exfalso; omega))
      | (with_reducible refine WR.ne (by omega) (by omega) (fun _ => ?_) (fun _ => ?_) <;> try (exfalso; omega))
      | with_reducible refine WR.lt0 (by omega) ?_
      | with_reducible refine WR.ge0 (by omega) ?_
      | (with_reducible refine WR.bz (fun _ => ?_) (fun _ => ?_))
      | (with_reducible refine WR.bn (fun _ => ?_) (fun _ => ?_))
      | (with_reducible refine WR.br (fun _ => ?_) (fun _ => ?_) <;> try contradiction)
      | refine WR.gik hz rfl (by assumption) ?_
      | refine WR.gi hz rfl ?_
      | refine WR.gr hz rfl rfl ?_
      | refine WR.addn rfl (by with_reducible rfl) (by with_reducible rfl) ?_
      | refine WR.muln rfl (by with_reducible rfl) (by with_reducible rfl) ?_
      | refine WR.subn rfl (by with_reducible rfl) (by with_reducible rfl) (by omega) ?_
      | (refine WR.incn rfl rfl ?_; dsimp only [List.set])
      | (refine WR.go rfl rfl ?_; try dsimp only [List.set])
      | refine WR.aik hz rfl rfl rfl rfl (by first | with_reducible rfl | assumption) (by omega) (by assumption) ?_
      | refine WR.ai hz rfl rfl rfl rfl (by first | with_reducible rfl | assumption) (by omega) ?_
      | refine WR.si hz rfl rfl rfl rfl (by first | with_reducible rfl | assumption) (by omega) ?_
      | refine WR.az hz rfl rfl rfl rfl (by first | with_reducible rfl | assumption) (by omega) ?_
      | refine WR.sz hz rfl rfl rfl rfl (by first | with_reducible rfl | assumption) (by omega) (by decide) ?_
      | refine WR.pi hz rfl ?_
      | refine WR.rt rfl rfl rfl rfl ?_
      | refine WR.rz rfl rfl (by decide) ?_))
    refine WR.V6v hz rfl rfl (r_mailAll (d + 1) _ (nI 3) (f_mem I e s) (I 87 r) (nI s) c hr hw1 hz) ?_
    iterate 1 (first
      | (with_reducible refine WR.lt (by omega) (by omega) (fun _ => ?_) (fun _ => ?_) <;> try (exfalso; omega))
      | (with_reducible refine WR.le (by omega) (by omega) (fun _ => ?_) (fun _ => ?_) <;> try (exfalso; omega))
      | (with_reducible refine WR.eq (by omega) (by omega) (fun _ => ?_) (fun _ => ?_) <;> try (exfalso; omega))
      | (with_reducible refine WR.ne (by omega) (by omega) (fun _ => ?_) (fun _ => ?_) <;> try (exfalso; omega))
      | with_reducible refine WR.lt0 (by omega) ?_
      | with_reducible refine WR.ge0 (by omega) ?_
      | (with_reducible refine WR.bz (fun _ => ?_) (fun _ => ?_))
      | (with_reducible refine WR.bn (fun _ => ?_) (fun _ => ?_))
      | (with_reducible refine WR.br (fun _ => ?_) (fun _ => ?_) <;> try contradiction)
      | refine WR.gik hz rfl (by assumption) ?_
      | refine WR.gi hz rfl ?_
      | refine WR.gr hz rfl rfl ?_
      | refine WR.addn rfl (by with_reducible rfl) (by with_reducible rfl) ?_
      | refine WR.muln rfl (by with_reducible rfl) (by with_reducible rfl) ?_
      | refine WR.subn rfl (by with_reducible rfl) (by with_reducible rfl) (by omega) ?_
      | (refine WR.incn rfl rfl ?_; dsimp only [List.set])
      | (refine WR.go rfl rfl ?_; try dsimp only [List.set])
      | refine WR.aik hz rfl rfl rfl rfl (by first | with_reducible rfl | assumption) (by omega) (by assumption) ?_
      | refine WR.ai hz rfl rfl rfl rfl (by first | with_reducible rfl | assumption) (by omega) ?_
      | refine WR.si hz rfl rfl rfl rfl (by first | with_reducible rfl | assumption) (by omega) ?_
      | refine WR.az hz rfl rfl rfl rfl (by first | with_reducible rfl | assumption) (by omega) ?_
      | refine WR.sz hz rfl rfl rfl rfl (by first | with_reducible rfl | assumption) (by omega) (by decide) ?_
      | refine WR.pi hz rfl ?_
      | refine WR.rt rfl rfl rfl rfl ?_
      | refine WR.rz rfl rfl (by decide) ?_)
    exact ⟨rfl, rfl⟩
theorem f_ma_o {I : xI} (kd : Int32) (r : Nat) (set b n c : Int32) {a i : Nat} (h : a < 93 ∨ 101 < a) (h2 : a ≠ 74 ∨ (i ≠ 20 ∧ i ≠ 21)) : ∀ j, f_ma I kd r set b n c j a i = I a i := by
  intro j
  induction j with
  | zero => rfl
  | succ j ih =>
    simp only [f_ma]
    split
    · rw [f_ml_o _ _ _ _ _ _ h h2, ih]
    · exact ih
theorem f_prop_o (I : xI) (r s e : Nat) (c : Int32) {a i : Nat} (h : a < 85 ∨ (86 < a ∧ a < 91) ∨ (101 < a ∧ a < 104)) (h2 : a ≠ 74 ∨ (i ≠ 20 ∧ i ≠ 21)) : f_prop I r s e c a i = I a i := by
  rw [f_prop, f_ma_o _ _ _ _ _ _ (by omega) h2, f_prop2_o _ _ _ _ _ (by omega)]
theorem f_prop_w {I : xI} (r s e : Nat) (c : Int32) (h : f_wok I) : f_wok (f_prop I r s e c) := f_ma_w _ _ _ _ _ _ (f_wok_eq (f_prop2_o I r s e c (by decide)) h) 5
theorem f_wf_eq {I J : xI} (h1 : ∀ s, J 80 s = I 80 s) (h2 : ∀ q, J 76 q = I 76 q) (h : f_wf I) : f_wf J := ⟨fun s a b => by rw [h1]; exact h.1 s a b, fun q a => by rw [h2]; exact h.2 q a⟩
def f_ex1 (I : xI) (r e : Nat) : xI := if (decide (0 < I 80 (e + 1)) && f_camp (f_rp (x_u I 83 r (nI (e + 1))) (e + 1)) r) = true then f_hear (f_rp (x_u I 83 r (nI (e + 1))) (e + 1)) (I 80 (e + 1)).toNatClampNeg else f_rp (x_u I 83 r (nI (e + 1))) (e + 1)
def f_ex (I : xI) (r : Nat) : Nat → Nat → xI × Nat
  | e, 0 => (I, e)
  | e, n + 1 => if f_know I r (e + 1) = true then f_ex (f_ex1 I r e) r (e + 1) n else (I, e)
theorem f_ex1_o (I : xI) (r e : Nat) {a i : Nat} (h : a < 78 ∨ (79 < a ∧ a < 83) ∨ (83 < a ∧ a < 104)) : f_ex1 I r e a i = I a i := by
  rw [f_ex1]
  split
  · rw [f_hear, x_u_ne _ _ (by omega), x_u_ne _ _ (by omega), f_rp_o _ (by omega), x_u_ne _ _ (by omega)]
  · rw [f_rp_o _ (by omega), x_u_ne _ _ (by omega)]
theorem f_ex1_e (I : xI) (r e : Nat) : f_ex1 I r e 83 r = nI (e + 1) := by
  rw [f_ex1]
  split
  · rw [f_hear, x_u_ne _ _ (by omega), x_u_ne _ _ (by omega), f_rp_o _ (by omega), x_u_eq]
  · rw [f_rp_o _ (by omega), x_u_eq]
theorem f_ex_inv {r : Nat} : ∀ (n e : Nat) (I : xI), I 83 r = nI e → e + n ≤ 24 → f_wf I → f_wok I → (f_ex I r e n).1 83 r = nI (f_ex I r e n).2 ∧ (f_ex I r e n).2 ≤ 24 ∧ f_wf (f_ex I r e n).1 ∧ f_wok (f_ex I r e n).1 := by
  intro n
  induction n with
  | zero => intro e I h1 h2 h3 h4; exact ⟨h1, by simp only [f_ex]; omega, h3, h4⟩
  | succ n ih =>
    intro e I h1 h2 h3 h4
    simp only [f_ex]
    split
    · exact ih (e + 1) _ (f_ex1_e I r e) (by omega) (f_wf_eq (fun s => f_ex1_o I r e (by decide)) (fun q => f_ex1_o I r e (by decide)) h3) (f_wok_eq (f_ex1_o I r e (by decide)) h4)
    · exact ⟨h1, by simp only; omega, h3, h4⟩
set_option maxHeartbeats 4000000 in
theorem r_goOn1 (d : Nat) {r : Nat} (hr : r < 5) (hz : zok Z) (Q : xI → Option Value → Prop) : ∀ (n e : Nat) (I : xI) (x2 : Option Value), e + n = 24 → I 83 r = nI e → f_wf I →
    (∀ x2, WR Z (d + 2) 122 79 [some (.ref 74), some (.int (nI r)), x2, none, none] [] (f_ex I r e n).1 Q) → WR Z (d + 2) 122 0 [some (.ref 74), some (.int (nI r)), x2, none, none] [] I Q := by
  intro n
  induction n with
  | zero =>
    intro e I x2 hn he hf hk
    repeat' ((with_reducible fail_if_success show WR _ _ _ 79 _ _ _ _); (first
      | (with_reducible refine WR.lt (by omega) (by omega) (fun _ => ?_) (fun _ => ?_) <;> try (exfalso; omega))
      | (with_reducible refine WR.le (by omega) (by omega) (fun _ => ?_) (fun _ => ?_) <;> try (exfalso; omega))
      | (with_reducible refine WR.eq (by omega) (by omega) (fun _ => ?_) (fun _ => ?_) <;> try (exfalso; omega))
      | (with_reducible refine WR.ne (by omega) (by omega) (fun _ => ?_) (fun _ => ?_) <;> try (exfalso; omega))
      | with_reducible refine WR.lt0 (by omega) ?_
      | with_reducible refine WR.ge0 (by omega) ?_
      | (with_reducible refine WR.bz (fun _ => ?_) (fun _ => ?_))
      | (with_reducible refine WR.bn (fun _ => ?_) (fun _ => ?_))
      | (with_reducible refine WR.br (fun _ => ?_) (fun _ => ?_) <;> try contradiction)
      | refine WR.gik hz rfl (by assumption) ?_
      | refine WR.gi hz rfl ?_
      | refine WR.gr hz rfl rfl ?_
      | refine WR.addn rfl (by with_reducible rfl) (by with_reducible rfl) ?_
      | refine WR.muln rfl (by with_reducible rfl) (by with_reducible rfl) ?_
      | refine WR.subn rfl (by with_reducible rfl) (by with_reducible rfl) (by omega) ?_
      | (refine WR.incn rfl rfl ?_; dsimp only [List.set])
      | (refine WR.go rfl rfl ?_; try dsimp only [List.set])
      | refine WR.aik hz rfl rfl rfl rfl (by first | with_reducible rfl | assumption) (by omega) (by assumption) ?_
      | refine WR.ai hz rfl rfl rfl rfl (by first | with_reducible rfl | assumption) (by omega) ?_
      | refine WR.si hz rfl rfl rfl rfl (by first | with_reducible rfl | assumption) (by omega) ?_
      | refine WR.az hz rfl rfl rfl rfl (by first | with_reducible rfl | assumption) (by omega) ?_
      | refine WR.sz hz rfl rfl rfl rfl (by first | with_reducible rfl | assumption) (by omega) (by decide) ?_
      | refine WR.pi hz rfl ?_
      | refine WR.rt rfl rfl rfl rfl ?_
      | refine WR.rz rfl rfl (by decide) ?_))
    exact hk x2
  | succ n ih =>
    intro e I x2 hn he hf hk
    repeat' ((with_reducible fail_if_success show WR _ _ _ 21 _ _ _ _); (first
      | (with_reducible refine WR.lt (by omega) (by omega) (fun _ => ?_) (fun _ => ?_) <;> try (exfalso; omega))
      | (with_reducible refine WR.le (by omega) (by omega) (fun _ => ?_) (fun _ => ?_) <;> try (exfalso; omega))
      | (with_reducible refine WR.eq (by omega) (by omega) (fun _ => ?_) (fun _ => ?_) <;> try (exfalso; omega))
      | (with_reducible refine WR.ne (by omega) (by omega) (fun _ => ?_) (fun _ => ?_) <;> try (exfalso; omega))
      | with_reducible refine WR.lt0 (by omega) ?_
      | with_reducible refine WR.ge0 (by omega) ?_
      | (with_reducible refine WR.bz (fun _ => ?_) (fun _ => ?_))
      | (with_reducible refine WR.bn (fun _ => ?_) (fun _ => ?_))
      | (with_reducible refine WR.br (fun _ => ?_) (fun _ => ?_) <;> try contradiction)
      | refine WR.gik hz rfl (by assumption) ?_
      | refine WR.gi hz rfl ?_
      | refine WR.gr hz rfl rfl ?_
      | refine WR.addn rfl (by with_reducible rfl) (by with_reducible rfl) ?_
      | refine WR.muln rfl (by with_reducible rfl) (by with_reducible rfl) ?_
      | refine WR.subn rfl (by with_reducible rfl) (by with_reducible rfl) (by omega) ?_
      | (refine WR.incn rfl rfl ?_; dsimp only [List.set])
      | (refine WR.go rfl rfl ?_; try dsimp only [List.set])
      | refine WR.aik hz rfl rfl rfl rfl (by first | with_reducible rfl | assumption) (by omega) (by assumption) ?_
      | refine WR.ai hz rfl rfl rfl rfl (by first | with_reducible rfl | assumption) (by omega) ?_
      | refine WR.si hz rfl rfl rfl rfl (by first | with_reducible rfl | assumption) (by omega) ?_
      | refine WR.az hz rfl rfl rfl rfl (by first | with_reducible rfl | assumption) (by omega) ?_
      | refine WR.sz hz rfl rfl rfl rfl (by first | with_reducible rfl | assumption) (by omega) (by decide) ?_
      | refine WR.pi hz rfl ?_
      | refine WR.rt rfl rfl rfl rfl ?_
      | refine WR.rz rfl rfl (by decide) ?_))
    refine WR.V2i hz rfl rfl (r_knows (d + 1) I (e + 1) hr hz) ?_
    iterate 2 (first
      | (with_reducible refine WR.lt (by omega) (by omega) (fun _ => ?_) (fun _ => ?_) <;> try (exfalso; omega))
      | (with_reducible refine WR.le (by omega) (by omega) (fun _ => ?_) (fun _ => ?_) <;> try (exfalso; omega))
      | (with_reducible refine WR.eq (by omega) (by omega) (fun _ => ?_) (fun _ => ?_) <;> try (exfalso; omega))
      | (with_reducible refine WR.ne (by omega) (by omega) (fun _ => ?_) (fun _ => ?_) <;> try (exfalso; omega))
      | with_reducible refine WR.lt0 (by omega) ?_
      | with_reducible refine WR.ge0 (by omega) ?_
      | (with_reducible refine WR.bz (fun _ => ?_) (fun _ => ?_))
      | (with_reducible refine WR.bn (fun _ => ?_) (fun _ => ?_))
      | (with_reducible refine WR.br (fun _ => ?_) (fun _ => ?_) <;> try contradiction)
      | refine WR.gik hz rfl (by assumption) ?_
      | refine WR.gi hz rfl ?_
      | refine WR.gr hz rfl rfl ?_
      | refine WR.addn rfl (by with_reducible rfl) (by with_reducible rfl) ?_
      | refine WR.muln rfl (by with_reducible rfl) (by with_reducible rfl) ?_
      | refine WR.subn rfl (by with_reducible rfl) (by with_reducible rfl) (by omega) ?_
      | (refine WR.incn rfl rfl ?_; dsimp only [List.set])
      | (refine WR.go rfl rfl ?_; try dsimp only [List.set])
      | refine WR.aik hz rfl rfl rfl rfl (by first | with_reducible rfl | assumption) (by omega) (by assumption) ?_
      | refine WR.ai hz rfl rfl rfl rfl (by first | with_reducible rfl | assumption) (by omega) ?_
      | refine WR.si hz rfl rfl rfl rfl (by first | with_reducible rfl | assumption) (by omega) ?_
      | refine WR.az hz rfl rfl rfl rfl (by first | with_reducible rfl | assumption) (by omega) ?_
      | refine WR.sz hz rfl rfl rfl rfl (by first | with_reducible rfl | assumption) (by omega) (by decide) ?_
      | refine WR.pi hz rfl ?_
      | refine WR.rt rfl rfl rfl rfl ?_
      | refine WR.rz rfl rfl (by decide) ?_)
    · rename_i h
      simp only [f_ex] at hk
      rw [if_neg (by simp [h])] at hk
      exact hk x2
    · rename_i h
      simp only [f_ex] at hk
      rw [if_pos h] at hk
      have hwf1 : f_wf (x_u I 83 r (nI (e + 1))) := f_wf_eq (fun s => x_u_ne _ _ (by omega)) (fun q => x_u_ne _ _ (by omega)) hf
      have h83 : x_u I 83 r (nI (e + 1)) 83 r = nI (e + 1) := x_u_eq _ _ _ _
      have h80 : x_u I 83 r (nI (e + 1)) 80 (e + 1) = I 80 (e + 1) := x_u_ne _ _ (by omega)
      repeat' ((with_reducible fail_if_success show WR _ _ _ 56 _ _ _ _); (first
      | (with_reducible refine WR.lt (by omega) (by omega) (fun _ => ?_) (fun _ => ?_) <;> try (exfalso; omega))
      | (with_reducible refine WR.le (by omega) (by omega) (fun _ => ?_) (fun _ => ?_) <;> try (exfalso; omega))
      | (with_reducible refine WR.eq (by omega) (by omega) (fun _ => ?_) (fun _ => ?_) <;> try (exfalso; omega))
      | (with_reducible refine WR.ne (by omega) (by omega) (fun _ => ?_) (fun _ => ?_) <;> try (exfalso; omega))
      | with_reducible refine WR.lt0 (by omega) ?_
      | with_reducible refine WR.ge0 (by omega) ?_
      | (with_reducible refine WR.bz (fun _ => ?_) (fun _ => ?_))
      | (with_reducible refine WR.bn (fun _ => ?_) (fun _ => ?_))
      | (with_reducible refine WR.br (fun _ => ?_) (fun _ => ?_) <;> try contradiction)
      | refine WR.gik hz rfl (by assumption) ?_
      | refine WR.gi hz rfl ?_
      | refine WR.gr hz rfl rfl ?_
      | refine WR.addn rfl (by with_reducible rfl) (by with_reducible rfl) ?_
      | refine WR.muln rfl (by with_reducible rfl) (by with_reducible rfl) ?_
      | refine WR.subn rfl (by with_reducible rfl) (by with_reducible rfl) (by omega) ?_
      | (refine WR.incn rfl rfl ?_; dsimp only [List.set])
      | (refine WR.go rfl rfl ?_; try dsimp only [List.set])
      | refine WR.aik hz rfl rfl rfl rfl (by first | with_reducible rfl | assumption) (by omega) (by assumption) ?_
      | refine WR.ai hz rfl rfl rfl rfl (by first | with_reducible rfl | assumption) (by omega) ?_
      | refine WR.si hz rfl rfl rfl rfl (by first | with_reducible rfl | assumption) (by omega) ?_
      | refine WR.az hz rfl rfl rfl rfl (by first | with_reducible rfl | assumption) (by omega) ?_
      | refine WR.sz hz rfl rfl rfl rfl (by first | with_reducible rfl | assumption) (by omega) (by decide) ?_
      | refine WR.pi hz rfl ?_
      | refine WR.rt rfl rfl rfl rfl ?_
      | refine WR.rz rfl rfl (by decide) ?_))
      refine WR.V1v hz rfl rfl (r_replay d _ (by omega) hwf1 hz) ?_
      have key : ∀ x2, WR Z (d + 2) 122 0 [some (.ref 74), some (.int (nI r)), x2, none, none] [] (f_ex1 I r e) Q := fun x2 => ih (e + 1) _ x2 (by omega) (f_ex1_e I r e) (f_wf_eq (fun s => f_ex1_o I r e (by decide)) (fun q => f_ex1_o I r e (by decide)) hf) hk
      have key2 := key (some (.int (I 80 (e + 1))))
      rw [f_ex1] at key2
      iterate 3 (first
      | (with_reducible refine WR.lt (by omega) (by omega) (fun _ => ?_) (fun _ => ?_) <;> try (exfalso; omega))
      | (with_reducible refine WR.le (by omega) (by omega) (fun _ => ?_) (fun _ => ?_) <;> try (exfalso; omega))
      | (with_reducible refine WR.eq (by omega) (by omega) (fun _ => ?_) (fun _ => ?_) <;> try (exfalso; omega))
      | (with_reducible refine WR.ne (by omega) (by omega) (fun _ => ?_) (fun _ => ?_) <;> try (exfalso; omega))
      | with_reducible refine WR.lt0 (by omega) ?_
      | with_reducible refine WR.ge0 (by omega) ?_
      | (with_reducible refine WR.bz (fun _ => ?_) (fun _ => ?_))
      | (with_reducible refine WR.bn (fun _ => ?_) (fun _ => ?_))
      | (with_reducible refine WR.br (fun _ => ?_) (fun _ => ?_) <;> try contradiction)
      | refine WR.gik hz rfl (by assumption) ?_
      | refine WR.gi hz rfl ?_
      | refine WR.gr hz rfl rfl ?_
      | refine WR.addn rfl (by with_reducible rfl) (by with_reducible rfl) ?_
      | refine WR.muln rfl (by with_reducible rfl) (by with_reducible rfl) ?_
      | refine WR.subn rfl (by with_reducible rfl) (by with_reducible rfl) (by omega) ?_
      | (refine WR.incn rfl rfl ?_; dsimp only [List.set])
      | (refine WR.go rfl rfl ?_; try dsimp only [List.set])
      | refine WR.aik hz rfl rfl rfl rfl (by first | with_reducible rfl | assumption) (by omega) (by assumption) ?_
      | refine WR.ai hz rfl rfl rfl rfl (by first | with_reducible rfl | assumption) (by omega) ?_
      | refine WR.si hz rfl rfl rfl rfl (by first | with_reducible rfl | assumption) (by omega) ?_
      | refine WR.az hz rfl rfl rfl rfl (by first | with_reducible rfl | assumption) (by omega) ?_
      | refine WR.sz hz rfl rfl rfl rfl (by first | with_reducible rfl | assumption) (by omega) (by decide) ?_
      | refine WR.pi hz rfl ?_
      | refine WR.rt rfl rfl rfl rfl ?_
      | refine WR.rz rfl rfl (by decide) ?_)
      · rename_i h2
        rw [i_le_gt h2, Bool.false_and, if_neg (by decide)] at key2
        iterate 1 (first
      | (with_reducible refine WR.lt (by omega) (by omega) (fun _ => ?_) (fun _ => ?_) <;> try (exfalso; omega))
      | (with_reducible refine WR.le (by omega) (by omega) (fun _ => ?_) (fun _ => ?_) <;> try (exfalso; omega))
      | (with_reducible refine WR.eq (by omega) (by omega) (fun _ => ?_) (fun _ => ?_) <;> try (exfalso; omega))
      | (with_reducible refine WR.ne (by omega) (by omega) (fun _ => ?_) (fun _ => ?_) <;> try (exfalso; omega))
      | with_reducible refine WR.lt0 (by omega) ?_
      | with_reducible refine WR.ge0 (by omega) ?_
      | (with_reducible refine WR.bz (fun _ => ?_) (fun _ => ?_))
      | (with_reducible refine WR.bn (fun _ => ?_) (fun _ => ?_))
      | (with_reducible refine WR.br (fun _ => ?_) (fun _ => ?_) <;> try contradiction)
      | refine WR.gik hz rfl (by assumption) ?_
      | refine WR.gi hz rfl ?_
      | refine WR.gr hz rfl rfl ?_
      | refine WR.addn rfl (by with_reducible rfl) (by with_reducible rfl) ?_
      | refine WR.muln rfl (by with_reducible rfl) (by with_reducible rfl) ?_
      | refine WR.subn rfl (by with_reducible rfl) (by with_reducible rfl) (by omega) ?_
      | (refine WR.incn rfl rfl ?_; dsimp only [List.set])
      | (refine WR.go rfl rfl ?_; try dsimp only [List.set])
      | refine WR.aik hz rfl rfl rfl rfl (by first | with_reducible rfl | assumption) (by omega) (by assumption) ?_
      | refine WR.ai hz rfl rfl rfl rfl (by first | with_reducible rfl | assumption) (by omega) ?_
      | refine WR.si hz rfl rfl rfl rfl (by first | with_reducible rfl | assumption) (by omega) ?_
      | refine WR.az hz rfl rfl rfl rfl (by first | with_reducible rfl | assumption) (by omega) ?_
      | refine WR.sz hz rfl rfl rfl rfl (by first | with_reducible rfl | assumption) (by omega) (by decide) ?_
      | refine WR.pi hz rfl ?_
      | refine WR.rt rfl rfl rfl rfl ?_
      | refine WR.rz rfl rfl (by decide) ?_)
        exact key2
      · rename_i h2
        iterate 2 (first
      | (with_reducible refine WR.lt (by omega) (by omega) (fun _ => ?_) (fun _ => ?_) <;> try (exfalso; omega))
      | (with_reducible refine WR.le (by omega) (by omega) (fun _ => ?_) (fun _ => ?_) <;> try (exfalso; omega))
      | (with_reducible refine WR.eq (by omega) (by omega) (fun _ => ?_) (fun _ => ?_) <;> try (exfalso; omega))
      | (with_reducible refine WR.ne (by omega) (by omega) (fun _ => ?_) (fun _ => ?_) <;> try (exfalso; omega))
      | with_reducible refine WR.lt0 (by omega) ?_
      | with_reducible refine WR.ge0 (by omega) ?_
      | (with_reducible refine WR.bz (fun _ => ?_) (fun _ => ?_))
      | (with_reducible refine WR.bn (fun _ => ?_) (fun _ => ?_))
      | (with_reducible refine WR.br (fun _ => ?_) (fun _ => ?_) <;> try contradiction)
      | refine WR.gik hz rfl (by assumption) ?_
      | refine WR.gi hz rfl ?_
      | refine WR.gr hz rfl rfl ?_
      | refine WR.addn rfl (by with_reducible rfl) (by with_reducible rfl) ?_
      | refine WR.muln rfl (by with_reducible rfl) (by with_reducible rfl) ?_
      | refine WR.subn rfl (by with_reducible rfl) (by with_reducible rfl) (by omega) ?_
      | (refine WR.incn rfl rfl ?_; dsimp only [List.set])
      | (refine WR.go rfl rfl ?_; try dsimp only [List.set])
      | refine WR.aik hz rfl rfl rfl rfl (by first | with_reducible rfl | assumption) (by omega) (by assumption) ?_
      | refine WR.ai hz rfl rfl rfl rfl (by first | with_reducible rfl | assumption) (by omega) ?_
      | refine WR.si hz rfl rfl rfl rfl (by first | with_reducible rfl | assumption) (by omega) ?_
      | refine WR.az hz rfl rfl rfl rfl (by first | with_reducible rfl | assumption) (by omega) ?_
      | refine WR.sz hz rfl rfl rfl rfl (by first | with_reducible rfl | assumption) (by omega) (by decide) ?_
      | refine WR.pi hz rfl ?_
      | refine WR.rt rfl rfl rfl rfl ?_
      | refine WR.rz rfl rfl (by decide) ?_)
        refine WR.V1i hz rfl rfl (r_campaigns (d + 1) _ hr hz) ?_
        iterate 2 (first
      | (with_reducible refine WR.lt (by omega) (by omega) (fun _ => ?_) (fun _ => ?_) <;> try (exfalso; omega))
      | (with_reducible refine WR.le (by omega) (by omega) (fun _ => ?_) (fun _ => ?_) <;> try (exfalso; omega))
      | (with_reducible refine WR.eq (by omega) (by omega) (fun _ => ?_) (fun _ => ?_) <;> try (exfalso; omega))
      | (with_reducible refine WR.ne (by omega) (by omega) (fun _ => ?_) (fun _ => ?_) <;> try (exfalso; omega))
      | with_reducible refine WR.lt0 (by omega) ?_
      | with_reducible refine WR.ge0 (by omega) ?_
      | (with_reducible refine WR.bz (fun _ => ?_) (fun _ => ?_))
      | (with_reducible refine WR.bn (fun _ => ?_) (fun _ => ?_))
      | (with_reducible refine WR.br (fun _ => ?_) (fun _ => ?_) <;> try contradiction)
      | refine WR.gik hz rfl (by assumption) ?_
      | refine WR.gi hz rfl ?_
      | refine WR.gr hz rfl rfl ?_
      | refine WR.addn rfl (by with_reducible rfl) (by with_reducible rfl) ?_
      | refine WR.muln rfl (by with_reducible rfl) (by with_reducible rfl) ?_
      | refine WR.subn rfl (by with_reducible rfl) (by with_reducible rfl) (by omega) ?_
      | (refine WR.incn rfl rfl ?_; dsimp only [List.set])
      | (refine WR.go rfl rfl ?_; try dsimp only [List.set])
      | refine WR.aik hz rfl rfl rfl rfl (by first | with_reducible rfl | assumption) (by omega) (by assumption) ?_
      | refine WR.ai hz rfl rfl rfl rfl (by first | with_reducible rfl | assumption) (by omega) ?_
      | refine WR.si hz rfl rfl rfl rfl (by first | with_reducible rfl | assumption) (by omega) ?_
      | refine WR.az hz rfl rfl rfl rfl (by first | with_reducible rfl | assumption) (by omega) ?_
      | refine WR.sz hz rfl rfl rfl rfl (by first | with_reducible rfl | assumption) (by omega) (by decide) ?_
      | refine WR.pi hz rfl ?_
      | refine WR.rt rfl rfl rfl rfl ?_
      | refine WR.rz rfl rfl (by decide) ?_)
        · rename_i h3
          rw [h3, Bool.and_false, if_neg (by decide)] at key2
          iterate 1 (first
      | (with_reducible refine WR.lt (by omega) (by omega) (fun _ => ?_) (fun _ => ?_) <;> try (exfalso; omega))
      | (with_reducible refine WR.le (by omega) (by omega) (fun _ => ?_) (fun _ => ?_) <;> try (exfalso; omega))
      | (with_reducible refine WR.eq (by omega) (by omega) (fun _ => ?_) (fun _ => ?_) <;> try (exfalso; omega))
      | (with_reducible refine WR.ne (by omega) (by omega) (fun _ => ?_) (fun _ => ?_) <;> try (exfalso; omega))
      | with_reducible refine WR.lt0 (by omega) ?_
      | with_reducible refine WR.ge0 (by omega) ?_
      | (with_reducible refine WR.bz (fun _ => ?_) (fun _ => ?_))
      | (with_reducible refine WR.bn (fun _ => ?_) (fun _ => ?_))
      | (with_reducible refine WR.br (fun _ => ?_) (fun _ => ?_) <;> try contradiction)
      | refine WR.gik hz rfl (by assumption) ?_
      | refine WR.gi hz rfl ?_
      | refine WR.gr hz rfl rfl ?_
      | refine WR.addn rfl (by with_reducible rfl) (by with_reducible rfl) ?_
      | refine WR.muln rfl (by with_reducible rfl) (by with_reducible rfl) ?_
      | refine WR.subn rfl (by with_reducible rfl) (by with_reducible rfl) (by omega) ?_
      | (refine WR.incn rfl rfl ?_; dsimp only [List.set])
      | (refine WR.go rfl rfl ?_; try dsimp only [List.set])
      | refine WR.aik hz rfl rfl rfl rfl (by first | with_reducible rfl | assumption) (by omega) (by assumption) ?_
      | refine WR.ai hz rfl rfl rfl rfl (by first | with_reducible rfl | assumption) (by omega) ?_
      | refine WR.si hz rfl rfl rfl rfl (by first | with_reducible rfl | assumption) (by omega) ?_
      | refine WR.az hz rfl rfl rfl rfl (by first | with_reducible rfl | assumption) (by omega) ?_
      | refine WR.sz hz rfl rfl rfl rfl (by first | with_reducible rfl | assumption) (by omega) (by decide) ?_
      | refine WR.pi hz rfl ?_
      | refine WR.rt rfl rfl rfl rfl ?_
      | refine WR.rz rfl rfl (by decide) ?_)
          exact key2
        · rename_i h3
          rw [h3, i_nle h2, Bool.true_and, if_pos rfl] at key2
          rcases hf.1 (e + 1) (by omega) (by omega) with h4 | ⟨q, q1, q2, q3⟩
          · exact absurd h4 h2
          · have hcl : (I 80 (e + 1)).toNatClampNeg = q := by rw [q3]; exact nI_clamp (by omega)
            rw [hcl, q3] at key2
            rw [q3]
            iterate 2 (first
      | (with_reducible refine WR.lt (by omega) (by omega) (fun _ => ?_) (fun _ => ?_) <;> try (exfalso; omega))
      | (with_reducible refine WR.le (by omega) (by omega) (fun _ => ?_) (fun _ => ?_) <;> try (exfalso; omega))
      | (with_reducible refine WR.eq (by omega) (by omega) (fun _ => ?_) (fun _ => ?_) <;> try (exfalso; omega))
      | (with_reducible refine WR.ne (by omega) (by omega) (fun _ => ?_) (fun _ => ?_) <;> try (exfalso; omega))
      | with_reducible refine WR.lt0 (by omega) ?_
      | with_reducible refine WR.ge0 (by omega) ?_
      | (with_reducible refine WR.bz (fun _ => ?_) (fun _ => ?_))
      | (with_reducible refine WR.bn (fun _ => ?_) (fun _ => ?_))
      | (with_reducible refine WR.br (fun _ => ?_) (fun _ => ?_) <;> try contradiction)
      | refine WR.gik hz rfl (by assumption) ?_
      | refine WR.gi hz rfl ?_
      | refine WR.gr hz rfl rfl ?_
      | refine WR.addn rfl (by with_reducible rfl) (by with_reducible rfl) ?_
      | refine WR.muln rfl (by with_reducible rfl) (by with_reducible rfl) ?_
      | refine WR.subn rfl (by with_reducible rfl) (by with_reducible rfl) (by omega) ?_
      | (refine WR.incn rfl rfl ?_; dsimp only [List.set])
      | (refine WR.go rfl rfl ?_; try dsimp only [List.set])
      | refine WR.aik hz rfl rfl rfl rfl (by first | with_reducible rfl | assumption) (by omega) (by assumption) ?_
      | refine WR.ai hz rfl rfl rfl rfl (by first | with_reducible rfl | assumption) (by omega) ?_
      | refine WR.si hz rfl rfl rfl rfl (by first | with_reducible rfl | assumption) (by omega) ?_
      | refine WR.az hz rfl rfl rfl rfl (by first | with_reducible rfl | assumption) (by omega) ?_
      | refine WR.sz hz rfl rfl rfl rfl (by first | with_reducible rfl | assumption) (by omega) (by decide) ?_
      | refine WR.pi hz rfl ?_
      | refine WR.rt rfl rfl rfl rfl ?_
      | refine WR.rz rfl rfl (by decide) ?_)
            refine WR.V1v hz rfl rfl (r_hear (d + 1) _ q2 hz) ?_
            iterate 1 (first
      | (with_reducible refine WR.lt (by omega) (by omega) (fun _ => ?_) (fun _ => ?_) <;> try (exfalso; omega))
      | (with_reducible refine WR.le (by omega) (by omega) (fun _ => ?_) (fun _ => ?_) <;> try (exfalso; omega))
      | (with_reducible refine WR.eq (by omega) (by omega) (fun _ => ?_) (fun _ => ?_) <;> try (exfalso; omega))
      | (with_reducible refine WR.ne (by omega) (by omega) (fun _ => ?_) (fun _ => ?_) <;> try (exfalso; omega))
      | with_reducible refine WR.lt0 (by omega) ?_
      | with_reducible refine WR.ge0 (by omega) ?_
      | (with_reducible refine WR.bz (fun _ => ?_) (fun _ => ?_))
      | (with_reducible refine WR.bn (fun _ => ?_) (fun _ => ?_))
      | (with_reducible refine WR.br (fun _ => ?_) (fun _ => ?_) <;> try contradiction)
      | refine WR.gik hz rfl (by assumption) ?_
      | refine WR.gi hz rfl ?_
      | refine WR.gr hz rfl rfl ?_
      | refine WR.addn rfl (by with_reducible rfl) (by with_reducible rfl) ?_
      | refine WR.muln rfl (by with_reducible rfl) (by with_reducible rfl) ?_
      | refine WR.subn rfl (by with_reducible rfl) (by with_reducible rfl) (by omega) ?_
      | (refine WR.incn rfl rfl ?_; dsimp only [List.set])
      | (refine WR.go rfl rfl ?_; try dsimp only [List.set])
      | refine WR.aik hz rfl rfl rfl rfl (by first | with_reducible rfl | assumption) (by omega) (by assumption) ?_
      | refine WR.ai hz rfl rfl rfl rfl (by first | with_reducible rfl | assumption) (by omega) ?_
      | refine WR.si hz rfl rfl rfl rfl (by first | with_reducible rfl | assumption) (by omega) ?_
      | refine WR.az hz rfl rfl rfl rfl (by first | with_reducible rfl | assumption) (by omega) ?_
      | refine WR.sz hz rfl rfl rfl rfl (by first | with_reducible rfl | assumption) (by omega) (by decide) ?_
      | refine WR.pi hz rfl ?_
      | refine WR.rt rfl rfl rfl rfl ?_
      | refine WR.rz rfl rfl (by decide) ?_)
            exact key2
end GOON
end
section
/-! the reference: goOn whole -/
section GOO2
variable {Z : xZ}
def f_g2s (I : xI) (r s e : Nat) : xI :=
  if (f_know I r s || decide (0 ≤ I 91 (25 * r + s))) = true then I
  else if f_maj (I 88 r) (f_mem I e s) = false then f_rp I e
  else if 0 < I 89 (25 * r + s) then f_prop (f_rp I e) r s e (I 90 (25 * r + s))
  else if f_ab (f_rp I e) r s (24 - s) = true then f_prop (f_rp I e) r s e (nI 0)
  else f_rp I e
def f_go2 (I : xI) (r e : Nat) : Nat → xI
  | 0 => I
  | m + 1 => f_g2s (f_go2 I r e m) r (e + 1 + m) e
theorem f_g2s_o (I : xI) (r s e : Nat) {a i : Nat} (h : a < 85 ∨ (86 < a ∧ a < 91) ∨ (101 < a ∧ a < 104)) (h2 : a ≠ 74 ∨ (i ≠ 20 ∧ i ≠ 21)) : f_g2s I r s e a i = I a i := by
  rw [f_g2s]
  split
  · rfl
  · split
    · exact f_rp_o I (by omega) e i
    · split
      · rw [f_prop_o _ _ _ _ _ h h2, f_rp_o I (by omega) e i]
      · split
        · rw [f_prop_o _ _ _ _ _ h h2, f_rp_o I (by omega) e i]
        · exact f_rp_o I (by omega) e i
theorem f_rp_w {I : xI} (e : Nat) (h : f_wok I) : f_wok (f_rp I e) := f_wok_eq (f_rp_o I (by decide) e 20) h
theorem f_g2s_w {I : xI} (r s e : Nat) (h : f_wok I) : f_wok (f_g2s I r s e) := by
  rw [f_g2s]
  split
  · exact h
  · split
    · exact f_rp_w e h
    · split
      · exact f_prop_w _ _ _ _ (f_rp_w e h)
      · split
        · exact f_prop_w _ _ _ _ (f_rp_w e h)
        · exact f_rp_w e h
theorem f_go2_o (I : xI) (r e : Nat) {a i : Nat} (h : a < 85 ∨ (86 < a ∧ a < 91) ∨ (101 < a ∧ a < 104)) (h2 : a ≠ 74 ∨ (i ≠ 20 ∧ i ≠ 21)) : ∀ m, f_go2 I r e m a i = I a i := by
  intro m
  induction m with
  | zero => rfl
  | succ m ih => rw [f_go2, f_g2s_o _ _ _ _ h h2, ih]
theorem f_go2_w {I : xI} (r e : Nat) (h : f_wok I) : ∀ m, f_wok (f_go2 I r e m) := by
  intro m
  induction m with
  | zero => exact h
  | succ m ih => exact f_g2s_w _ _ _ ih
def f_go (I : xI) (r e : Nat) : xI := if f_camp (f_ex I r e (24 - e)).1 r = true then f_go2 (f_ex I r e (24 - e)).1 r (f_ex I r e (24 - e)).2 (min 3 (24 - (f_ex I r e (24 - e)).2)) else (f_ex I r e (24 - e)).1
set_option maxHeartbeats 4000000 in
theorem r_goOn2 (d : Nat) (I : xI) {r e : Nat} (hr : r < 5) (he : I 83 r = nI e) (he2 : e ≤ 24) (hf : f_wf I) (hw : f_wok I) (hz : zok Z) (x2 : Option Value) : WR Z (d + 4) 122 79 [some (.ref 74), some (.int (nI r)), x2, none, none] [] I (fun I' v => I' = (if f_camp I r = true then f_go2 I r e (min 3 (24 - e)) else I) ∧ v = none) := by
  iterate 2 (first
      | (with_reducible refine WR.lt (by omega) (by omega) (fun _ => ?_) (fun _ => ?_) <;> try (exfalso; omega))
      | (with_reducible refine WR.le (by omega) (by omega) (fun _ => ?_) (fun _ => ?_) <;> try (exfalso; omega))
      | (with_reducible refine WR.eq (by omega) (by omega) (fun _ => ?_) (fun _ => ?_) <;> try (exfalso; omega))
      | (with_reducible refine WR.ne (by omega) (by omega) (fun _ => ?_) (fun _ => ?_) <;> try (exfalso; omega))
      | with_reducible refine WR.lt0 (by omega) ?_
      | with_reducible refine WR.ge0 (by omega) ?_
      | (with_reducible refine WR.bz (fun _ => ?_) (fun _ => ?_))
      | (with_reducible refine WR.bn (fun _ => ?_) (fun _ => ?_))
      | (with_reducible refine WR.br (fun _ => ?_) (fun _ => ?_) <;> try contradiction)
      | refine WR.gik hz rfl (by assumption) ?_
      | refine WR.gi hz rfl ?_
      | refine WR.gr hz rfl rfl ?_
      | refine WR.addn rfl (by with_reducible rfl) (by with_reducible rfl) ?_
      | refine WR.muln rfl (by with_reducible rfl) (by with_reducible rfl) ?_
      | refine WR.subn rfl (by with_reducible rfl) (by with_reducible rfl) (by omega) ?_
      | (refine WR.incn rfl rfl ?_; dsimp only [List.set])
      | (refine WR.go rfl rfl ?_; try dsimp only [List.set])
      | refine WR.aik hz rfl rfl rfl rfl (by first | with_reducible rfl | assumption) (by omega) (by assumption) ?_
      | refine WR.ai hz rfl rfl rfl rfl (by first | with_reducible rfl | assumption) (by omega) ?_
      | refine WR.si hz rfl rfl rfl rfl (by first | with_reducible rfl | assumption) (by omega) ?_
      | refine WR.az hz rfl rfl rfl rfl (by first | with_reducible rfl | assumption) (by omega) ?_
      | refine WR.sz hz rfl rfl rfl rfl (by first | with_reducible rfl | assumption) (by omega) (by decide) ?_
      | refine WR.pi hz rfl ?_
      | refine WR.rt rfl rfl rfl rfl ?_
      | refine WR.rz rfl rfl (by decide) ?_)
  refine WR.V1i hz rfl rfl (r_campaigns (d + 3) I hr hz) ?_
  iterate 2 (first
      | (with_reducible refine WR.lt (by omega) (by omega) (fun _ => ?_) (fun _ => ?_) <;> try (exfalso; omega))
      | (with_reducible refine WR.le (by omega) (by omega) (fun _ => ?_) (fun _ => ?_) <;> try (exfalso; omega))
      | (with_reducible refine WR.eq (by omega) (by omega) (fun _ => ?_) (fun _ => ?_) <;> try (exfalso; omega))
      | (with_reducible refine WR.ne (by omega) (by omega) (fun _ => ?_) (fun _ => ?_) <;> try (exfalso; omega))
      | with_reducible refine WR.lt0 (by omega) ?_
      | with_reducible refine WR.ge0 (by omega) ?_
      | (with_reducible refine WR.bz (fun _ => ?_) (fun _ => ?_))
      | (with_reducible refine WR.bn (fun _ => ?_) (fun _ => ?_))
      | (with_reducible refine WR.br (fun _ => ?_) (fun _ => ?_) <;> try contradiction)
      | refine WR.gik hz rfl (by assumption) ?_
      | refine WR.gi hz rfl ?_
      | refine WR.gr hz rfl rfl ?_
      | refine WR.addn rfl (by with_reducible rfl) (by with_reducible rfl) ?_
      | refine WR.muln rfl (by with_reducible rfl) (by with_reducible rfl) ?_
      | refine WR.subn rfl (by with_reducible rfl) (by with_reducible rfl) (by omega) ?_
      | (refine WR.incn rfl rfl ?_; dsimp only [List.set])
      | (refine WR.go rfl rfl ?_; try dsimp only [List.set])
      | refine WR.aik hz rfl rfl rfl rfl (by first | with_reducible rfl | assumption) (by omega) (by assumption) ?_
      | refine WR.ai hz rfl rfl rfl rfl (by first | with_reducible rfl | assumption) (by omega) ?_
      | refine WR.si hz rfl rfl rfl rfl (by first | with_reducible rfl | assumption) (by omega) ?_
      | refine WR.az hz rfl rfl rfl rfl (by first | with_reducible rfl | assumption) (by omega) ?_
      | refine WR.sz hz rfl rfl rfl rfl (by first | with_reducible rfl | assumption) (by omega) (by decide) ?_
      | refine WR.pi hz rfl ?_
      | refine WR.rt rfl rfl rfl rfl ?_
      | refine WR.rz rfl rfl (by decide) ?_)
  · rename_i h
    rw [if_pos h]
    repeat' ((with_reducible fail_if_success show WR _ _ _ 99 _ _ _ _); (first
      | (with_reducible refine WR.lt (by omega) (by omega) (fun _ => ?_) (fun _ => ?_) <;> try (exfalso; omega))
      | (with_reducible refine WR.le (by omega) (by omega) (fun _ => ?_) (fun _ => ?_) <;> try (exfalso; omega))
      | (with_reducible refine WR.eq (by omega) (by omega) (fun _ => ?_) (fun _ => ?_) <;> try (exfalso; omega))
      | (with_reducible refine WR.ne (by omega) (by omega) (fun _ => ?_) (fun _ => ?_) <;> try (exfalso; omega))
      | with_reducible refine WR.lt0 (by omega) ?_
      | with_reducible refine WR.ge0 (by omega) ?_
      | (with_reducible refine WR.bz (fun _ => ?_) (fun _ => ?_))
      | (with_reducible refine WR.bn (fun _ => ?_) (fun _ => ?_))
      | (with_reducible refine WR.br (fun _ => ?_) (fun _ => ?_) <;> try contradiction)
      | refine WR.gik hz rfl (by assumption) ?_
      | refine WR.gi hz rfl ?_
      | refine WR.gr hz rfl rfl ?_
      | refine WR.addn rfl (by with_reducible rfl) (by with_reducible rfl) ?_
      | refine WR.muln rfl (by with_reducible rfl) (by with_reducible rfl) ?_
      | refine WR.subn rfl (by with_reducible rfl) (by with_reducible rfl) (by omega) ?_
      | (refine WR.incn rfl rfl ?_; dsimp only [List.set])
      | (refine WR.go rfl rfl ?_; try dsimp only [List.set])
      | refine WR.aik hz rfl rfl rfl rfl (by first | with_reducible rfl | assumption) (by omega) (by assumption) ?_
      | refine WR.ai hz rfl rfl rfl rfl (by first | with_reducible rfl | assumption) (by omega) ?_
      | refine WR.si hz rfl rfl rfl rfl (by first | with_reducible rfl | assumption) (by omega) ?_
      | refine WR.az hz rfl rfl rfl rfl (by first | with_reducible rfl | assumption) (by omega) ?_
      | refine WR.sz hz rfl rfl rfl rfl (by first | with_reducible rfl | assumption) (by omega) (by decide) ?_
      | refine WR.pi hz rfl ?_
      | refine WR.rt rfl rfl rfl rfl ?_
      | refine WR.rz rfl rfl (by decide) ?_))
    refine WR.loop (fun m => f_go2 I r e m) (fun m => [some (.ref 74), some (.int (nI r)), some (.int (nI e)), some (.int (nI (e + 1 + m))), match m with
      | 0 => none
      | j + 1 => some (.int (nI (25 * r + (e + 1 + j))))]) (min 3 (24 - e)) ?_ (fun m hm hk => ?_) (min 3 (24 - e)) 0 (by omega)
    · by_cases h3 : 24 - e < 3
      · have hn : min 3 (24 - e) = 24 - e := by omega
        rw [hn]
        repeat' (first
      | (with_reducible refine WR.lt (by omega) (by omega) (fun _ => ?_) (fun _ => ?_) <;> try (exfalso; omega))
      | (with_reducible refine WR.le (by omega) (by omega) (fun _ => ?_) (fun _ => ?_) <;> try (exfalso; omega))
      | (with_reducible refine WR.eq (by omega) (by omega) (fun _ => ?_) (fun _ => ?_) <;> try (exfalso; omega))
      | (with_reducible refine WR.ne (by omega) (by omega) (fun _ => ?_) (fun _ => ?_) <;> try (exfalso; omega))
      | with_reducible refine WR.lt0 (by omega) ?_
      | with_reducible refine WR.ge0 (by omega) ?_
      | (with_reducible refine WR.bz (fun _ => ?_) (fun _ => ?_))
      | (with_reducible refine WR.bn (fun _ => ?_) (fun _ => ?_))
      | (with_reducible refine WR.br (fun _ => ?_) (fun _ => ?_) <;> try contradiction)
      | refine WR.gik hz rfl (by assumption) ?_
      | refine WR.gi hz rfl ?_
      | refine WR.gr hz rfl rfl ?_
      | refine WR.addn rfl (by with_reducible rfl) (by with_reducible rfl) ?_
      | refine WR.muln rfl (by with_reducible rfl) (by with_reducible rfl) ?_
      | refine WR.subn rfl (by with_reducible rfl) (by with_reducible rfl) (by omega) ?_
      | (refine WR.incn rfl rfl ?_; dsimp only [List.set])
      | (refine WR.go rfl rfl ?_; try dsimp only [List.set])
      | refine WR.aik hz rfl rfl rfl rfl (by first | with_reducible rfl | assumption) (by omega) (by assumption) ?_
      | refine WR.ai hz rfl rfl rfl rfl (by first | with_reducible rfl | assumption) (by omega) ?_
      | refine WR.si hz rfl rfl rfl rfl (by first | with_reducible rfl | assumption) (by omega) ?_
      | refine WR.az hz rfl rfl rfl rfl (by first | with_reducible rfl | assumption) (by omega) ?_
      | refine WR.sz hz rfl rfl rfl rfl (by first | with_reducible rfl | assumption) (by omega) (by decide) ?_
      | refine WR.pi hz rfl ?_
      | refine WR.rt rfl rfl rfl rfl ?_
      | refine WR.rz rfl rfl (by decide) ?_)
        exact ⟨rfl, rfl⟩
      · have hn : min 3 (24 - e) = 3 := by omega
        rw [hn]
        repeat' (first
      | (with_reducible refine WR.lt (by omega) (by omega) (fun _ => ?_) (fun _ => ?_) <;> try (exfalso; omega))
      | (with_reducible refine WR.le (by omega) (by omega) (fun _ => ?_) (fun _ => ?_) <;> try (exfalso; omega))
      | (with_reducible refine WR.eq (by omega) (by omega) (fun _ => ?_) (fun _ => ?_) <;> try (exfalso; omega))
      | (with_reducible refine WR.ne (by omega) (by omega) (fun _ => ?_) (fun _ => ?_) <;> try (exfalso; omega))
      | with_reducible refine WR.lt0 (by omega) ?_
      | with_reducible refine WR.ge0 (by omega) ?_
      | (with_reducible refine WR.bz (fun _ => ?_) (fun _ => ?_))
      | (with_reducible refine WR.bn (fun _ => ?_) (fun _ => ?_))
      | (with_reducible refine WR.br (fun _ => ?_) (fun _ => ?_) <;> try contradiction)
      | refine WR.gik hz rfl (by assumption) ?_
      | refine WR.gi hz rfl ?_
      | refine WR.gr hz rfl rfl ?_
      | refine WR.addn rfl (by with_reducible rfl) (by with_reducible rfl) ?_
      | refine WR.muln rfl (by with_reducible rfl) (by with_reducible rfl) ?_
      | refine WR.subn rfl (by with_reducible rfl) (by with_reducible rfl) (by omega) ?_
      | (refine WR.incn rfl rfl ?_; dsimp only [List.set])
      | (refine WR.go rfl rfl ?_; try dsimp only [List.set])
      | refine WR.aik hz rfl rfl rfl rfl (by first | with_reducible rfl | assumption) (by omega) (by assumption) ?_
      | refine WR.ai hz rfl rfl rfl rfl (by first | with_reducible rfl | assumption) (by omega) ?_
      | refine WR.si hz rfl rfl rfl rfl (by first | with_reducible rfl | assumption) (by omega) ?_
      | refine WR.az hz rfl rfl rfl rfl (by first | with_reducible rfl | assumption) (by omega) ?_
      | refine WR.sz hz rfl rfl rfl rfl (by first | with_reducible rfl | assumption) (by omega) (by decide) ?_
      | refine WR.pi hz rfl ?_
      | refine WR.rt rfl rfl rfl rfl ?_
      | refine WR.rz rfl rfl (by decide) ?_)
        exact ⟨rfl, rfl⟩
    · have heJ : f_go2 I r e m 83 r = nI e := by rw [f_go2_o I r e (by decide) (Or.inl (by decide))]; exact he
      have hfJ : f_wf (f_go2 I r e m) := f_wf_eq (fun s => f_go2_o I r e (by decide) (Or.inl (by decide)) m) (fun q => f_go2_o I r e (by decide) (Or.inl (by decide)) m) hf
      have hwJ := f_go2_w r e hw m
      simp only [f_go2, f_g2s] at hk
      generalize f_go2 I r e m = J at heJ hfJ hwJ hk ⊢
      have hs2 : e + 1 + m ≤ 24 := by omega
      have hs3 : e + 1 + m ≤ e + 3 := by omega
      have hfR : f_wf (f_rp J e) := f_wf_eq (fun s => f_rp_o J (by decide) e s) (fun q => f_rp_o J (by decide) e q) hfJ
      have heR : f_rp J e 83 r = nI e := by rw [f_rp_o J (by decide) e r]; exact heJ
      have hwR := f_rp_w e hwJ
      have r89 : f_rp J e 89 (25 * r + (e + 1 + m)) = J 89 (25 * r + (e + 1 + m)) := f_rp_o J (by decide) e _
      have r90 : f_rp J e 90 (25 * r + (e + 1 + m)) = J 90 (25 * r + (e + 1 + m)) := f_rp_o J (by decide) e _
      repeat' ((with_reducible fail_if_success show WR _ _ _ 123 _ _ _ _); (first
      | (with_reducible refine WR.lt (by omega) (by omega) (fun _ => ?_) (fun _ => ?_) <;> try (exfalso; omega))
      | (with_reducible refine WR.le (by omega) (by omega) (fun _ => ?_) (fun _ => ?_) <;> try (exfalso; omega))
      | (with_reducible refine WR.eq (by omega) (by omega) (fun _ => ?_) (fun _ => ?_) <;> try (exfalso; omega))
      | (with_reducible refine WR.ne (by omega) (by omega) (fun _ => ?_) (fun _ => ?_) <;> try (exfalso; omega))
      | with_reducible refine WR.lt0 (by omega) ?_
      | with_reducible refine WR.ge0 (by omega) ?_
      | (with_reducible refine WR.bz (fun _ => ?_) (fun _ => ?_))
      | (with_reducible refine WR.bn (fun _ => ?_) (fun _ => ?_))
      | (with_reducible refine WR.br (fun _ => ?_) (fun _ => ?_) <;> try contradiction)
      | refine WR.gik hz rfl (by assumption) ?_
      | refine WR.gi hz rfl ?_
      | refine WR.gr hz rfl rfl ?_
      | refine WR.addn rfl (by with_reducible rfl) (by with_reducible rfl) ?_
      | refine WR.muln rfl (by with_reducible rfl) (by with_reducible rfl) ?_
      | refine WR.subn rfl (by with_reducible rfl) (by with_reducible rfl) (by omega) ?_
      | (refine WR.incn rfl rfl ?_; dsimp only [List.set])
      | (refine WR.go rfl rfl ?_; try dsimp only [List.set])
      | refine WR.aik hz rfl rfl rfl rfl (by first | with_reducible rfl | assumption) (by omega) (by assumption) ?_
      | refine WR.ai hz rfl rfl rfl rfl (by first | with_reducible rfl | assumption) (by omega) ?_
      | refine WR.si hz rfl rfl rfl rfl (by first | with_reducible rfl | assumption) (by omega) ?_
      | refine WR.az hz rfl rfl rfl rfl (by first | with_reducible rfl | assumption) (by omega) ?_
      | refine WR.sz hz rfl rfl rfl rfl (by first | with_reducible rfl | assumption) (by omega) (by decide) ?_
      | refine WR.pi hz rfl ?_
      | refine WR.rt rfl rfl rfl rfl ?_
      | refine WR.rz rfl rfl (by decide) ?_))
      refine WR.V2i hz rfl rfl (r_knows (d + 3) J (e + 1 + m) hr hz) ?_
      iterate 2 (first
      | (with_reducible refine WR.lt (by omega) (by omega) (fun _ => ?_) (fun _ => ?_) <;> try (exfalso; omega))
      | (with_reducible refine WR.le (by omega) (by omega) (fun _ => ?_) (fun _ => ?_) <;> try (exfalso; omega))
      | (with_reducible refine WR.eq (by omega) (by omega) (fun _ => ?_) (fun _ => ?_) <;> try (exfalso; omega))
      | (with_reducible refine WR.ne (by omega) (by omega) (fun _ => ?_) (fun _ => ?_) <;> try (exfalso; omega))
      | with_reducible refine WR.lt0 (by omega) ?_
      | with_reducible refine WR.ge0 (by omega) ?_
      | (with_reducible refine WR.bz (fun _ => ?_) (fun _ => ?_))
      | (with_reducible refine WR.bn (fun _ => ?_) (fun _ => ?_))
      | (with_reducible refine WR.br (fun _ => ?_) (fun _ => ?_) <;> try contradiction)
      | refine WR.gik hz rfl (by assumption) ?_
      | refine WR.gi hz rfl ?_
      | refine WR.gr hz rfl rfl ?_
      | refine WR.addn rfl (by with_reducible rfl) (by with_reducible rfl) ?_
      | refine WR.muln rfl (by with_reducible rfl) (by with_reducible rfl) ?_
      | refine WR.subn rfl (by with_reducible rfl) (by with_reducible rfl) (by omega) ?_
      | (refine WR.incn rfl rfl ?_; dsimp only [List.set])
      | (refine WR.go rfl rfl ?_; try dsimp only [List.set])
      | refine WR.aik hz rfl rfl rfl rfl (by first | with_reducible rfl | assumption) (by omega) (by assumption) ?_
      | refine WR.ai hz rfl rfl rfl rfl (by first | with_reducible rfl | assumption) (by omega) ?_
      | refine WR.si hz rfl rfl rfl rfl (by first | with_reducible rfl | assumption) (by omega) ?_
      | refine WR.az hz rfl rfl rfl rfl (by first | with_reducible rfl | assumption) (by omega) ?_
      | refine WR.sz hz rfl rfl rfl rfl (by first | with_reducible rfl | assumption) (by omega) (by decide) ?_
      | refine WR.pi hz rfl ?_
      | refine WR.rt rfl rfl rfl rfl ?_
      | refine WR.rz rfl rfl (by decide) ?_)
      · rename_i h4
        rw [if_pos (by simp [h4])] at hk
        repeat' (first | with_reducible refine WR.cast ?_ hk | (first
      | (with_reducible refine WR.lt (by omega) (by omega) (fun _ => ?_) (fun _ => ?_) <;> try (exfalso; omega))
      | (with_reducible refine WR.le (by omega) (by omega) (fun _ => ?_) (fun _ => ?_) <;> try (exfalso; omega))
      | (with_reducible refine WR.eq (by omega) (by omega) (fun _ => ?_) (fun _ => ?_) <;> try (exfalso; omega))
      | (with_reducible refine WR.ne (by omega) (by omega) (fun _ => ?_) (fun _ => ?_) <;> try (exfalso; omega))
      | with_reducible refine WR.lt0 (by omega) ?_
      | with_reducible refine WR.ge0 (by omega) ?_
      | (with_reducible refine WR.bz (fun _ => ?_) (fun _ => ?_))
      | (with_reducible refine WR.bn (fun _ => ?_) (fun _ => ?_))
      | (with_reducible refine WR.br (fun _ => ?_) (fun _ => ?_) <;> try contradiction)
      | refine WR.gik hz rfl (by assumption) ?_
      | refine WR.gi hz rfl ?_
      | refine WR.gr hz rfl rfl ?_
      | refine WR.addn rfl (by with_reducible rfl) (by with_reducible rfl) ?_
      | refine WR.muln rfl (by with_reducible rfl) (by with_reducible rfl) ?_
      | refine WR.subn rfl (by with_reducible rfl) (by with_reducible rfl) (by omega) ?_
      | (refine WR.incn rfl rfl ?_; dsimp only [List.set])
      | (refine WR.go rfl rfl ?_; try dsimp only [List.set])
      | refine WR.aik hz rfl rfl rfl rfl (by first | with_reducible rfl | assumption) (by omega) (by assumption) ?_
      | refine WR.ai hz rfl rfl rfl rfl (by first | with_reducible rfl | assumption) (by omega) ?_
      | refine WR.si hz rfl rfl rfl rfl (by first | with_reducible rfl | assumption) (by omega) ?_
      | refine WR.az hz rfl rfl rfl rfl (by first | with_reducible rfl | assumption) (by omega) ?_
      | refine WR.sz hz rfl rfl rfl rfl (by first | with_reducible rfl | assumption) (by omega) (by decide) ?_
      | refine WR.pi hz rfl ?_
      | refine WR.rt rfl rfl rfl rfl ?_
      | refine WR.rz rfl rfl (by decide) ?_))
        rfl
      · rename_i h4
        iterate 6 (first
      | (with_reducible refine WR.lt (by omega) (by omega) (fun _ => ?_) (fun _ => ?_) <;> try (exfalso; omega))
      | (with_reducible refine WR.le (by omega) (by omega) (fun _ => ?_) (fun _ => ?_) <;> try (exfalso; omega))
      | (with_reducible refine WR.eq (by omega) (by omega) (fun _ => ?_) (fun _ => ?_) <;> try (exfalso; omega))
      | (with_reducible refine WR.ne (by omega) (by omega) (fun _ => ?_) (fun _ => ?_) <;> try (exfalso; omega))
      | with_reducible refine WR.lt0 (by omega) ?_
      | with_reducible refine WR.ge0 (by omega) ?_
      | (with_reducible refine WR.bz (fun _ => ?_) (fun _ => ?_))
      | (with_reducible refine WR.bn (fun _ => ?_) (fun _ => ?_))
      | (with_reducible refine WR.br (fun _ => ?_) (fun _ => ?_) <;> try contradiction)
      | refine WR.gik hz rfl (by assumption) ?_
      | refine WR.gi hz rfl ?_
      | refine WR.gr hz rfl rfl ?_
      | refine WR.addn rfl (by with_reducible rfl) (by with_reducible rfl) ?_
      | refine WR.muln rfl (by with_reducible rfl) (by with_reducible rfl) ?_
      | refine WR.subn rfl (by with_reducible rfl) (by with_reducible rfl) (by omega) ?_
      | (refine WR.incn rfl rfl ?_; dsimp only [List.set])
      | (refine WR.go rfl rfl ?_; try dsimp only [List.set])
      | refine WR.aik hz rfl rfl rfl rfl (by first | with_reducible rfl | assumption) (by omega) (by assumption) ?_
      | refine WR.ai hz rfl rfl rfl rfl (by first | with_reducible rfl | assumption) (by omega) ?_
      | refine WR.si hz rfl rfl rfl rfl (by first | with_reducible rfl | assumption) (by omega) ?_
      | refine WR.az hz rfl rfl rfl rfl (by first | with_reducible rfl | assumption) (by omega) ?_
      | refine WR.sz hz rfl rfl rfl rfl (by first | with_reducible rfl | assumption) (by omega) (by decide) ?_
      | refine WR.pi hz rfl ?_
      | refine WR.rt rfl rfl rfl rfl ?_
      | refine WR.rz rfl rfl (by decide) ?_)
        · rename_i h5
          rw [if_pos (by simp [h5])] at hk
          repeat' (first | with_reducible refine WR.cast ?_ hk | (first
      | (with_reducible refine WR.lt (by omega) (by omega) (fun _ => ?_) (fun _ => ?_) <;> try (exfalso; omega))
      | (with_reducible refine WR.le (by omega) (by omega) (fun _ => ?_) (fun _ => ?_) <;> try (exfalso; omega))
      | (with_reducible refine WR.eq (by omega) (by omega) (fun _ => ?_) (fun _ => ?_) <;> try (exfalso; omega))
      | (with_reducible refine WR.ne (by omega) (by omega) (fun _ => ?_) (fun _ => ?_) <;> try (exfalso; omega))
      | with_reducible refine WR.lt0 (by omega) ?_
      | with_reducible refine WR.ge0 (by omega) ?_
      | (with_reducible refine WR.bz (fun _ => ?_) (fun _ => ?_))
      | (with_reducible refine WR.bn (fun _ => ?_) (fun _ => ?_))
      | (with_reducible refine WR.br (fun _ => ?_) (fun _ => ?_) <;> try contradiction)
      | refine WR.gik hz rfl (by assumption) ?_
      | refine WR.gi hz rfl ?_
      | refine WR.gr hz rfl rfl ?_
      | refine WR.addn rfl (by with_reducible rfl) (by with_reducible rfl) ?_
      | refine WR.muln rfl (by with_reducible rfl) (by with_reducible rfl) ?_
      | refine WR.subn rfl (by with_reducible rfl) (by with_reducible rfl) (by omega) ?_
      | (refine WR.incn rfl rfl ?_; dsimp only [List.set])
      | (refine WR.go rfl rfl ?_; try dsimp only [List.set])
      | refine WR.aik hz rfl rfl rfl rfl (by first | with_reducible rfl | assumption) (by omega) (by assumption) ?_
      | refine WR.ai hz rfl rfl rfl rfl (by first | with_reducible rfl | assumption) (by omega) ?_
      | refine WR.si hz rfl rfl rfl rfl (by first | with_reducible rfl | assumption) (by omega) ?_
      | refine WR.az hz rfl rfl rfl rfl (by first | with_reducible rfl | assumption) (by omega) ?_
      | refine WR.sz hz rfl rfl rfl rfl (by first | with_reducible rfl | assumption) (by omega) (by decide) ?_
      | refine WR.pi hz rfl ?_
      | refine WR.rt rfl rfl rfl rfl ?_
      | refine WR.rz rfl rfl (by decide) ?_))
          rfl
        · rename_i h5
          rw [if_neg (by simp [h4, Int32.not_le.mp h5])] at hk
          repeat' ((with_reducible fail_if_success show WR _ _ _ 148 _ _ _ _); (first
      | (with_reducible refine WR.lt (by omega) (by omega) (fun _ => ?_) (fun _ => ?_) <;> try (exfalso; omega))
      | (with_reducible refine WR.le (by omega) (by omega) (fun _ => ?_) (fun _ => ?_) <;> try (exfalso; omega))
      | (with_reducible refine WR.eq (by omega) (by omega) (fun _ => ?_) (fun _ => ?_) <;> try (exfalso; omega))
      | (with_reducible refine WR.ne (by omega) (by omega) (fun _ => ?_) (fun _ => ?_) <;> try (exfalso; omega))
      | with_reducible refine WR.lt0 (by omega) ?_
      | with_reducible refine WR.ge0 (by omega) ?_
      | (with_reducible refine WR.bz (fun _ => ?_) (fun _ => ?_))
      | (with_reducible refine WR.bn (fun _ => ?_) (fun _ => ?_))
      | (with_reducible refine WR.br (fun _ => ?_) (fun _ => ?_) <;> try contradiction)
      | refine WR.gik hz rfl (by assumption) ?_
      | refine WR.gi hz rfl ?_
      | refine WR.gr hz rfl rfl ?_
      | refine WR.addn rfl (by with_reducible rfl) (by with_reducible rfl) ?_
      | refine WR.muln rfl (by with_reducible rfl) (by with_reducible rfl) ?_
      | refine WR.subn rfl (by with_reducible rfl) (by with_reducible rfl) (by omega) ?_
      | (refine WR.incn rfl rfl ?_; dsimp only [List.set])
      | (refine WR.go rfl rfl ?_; try dsimp only [List.set])
      | refine WR.aik hz rfl rfl rfl rfl (by first | with_reducible rfl | assumption) (by omega) (by assumption) ?_
      | refine WR.ai hz rfl rfl rfl rfl (by first | with_reducible rfl | assumption) (by omega) ?_
      | refine WR.si hz rfl rfl rfl rfl (by first | with_reducible rfl | assumption) (by omega) ?_
      | refine WR.az hz rfl rfl rfl rfl (by first | with_reducible rfl | assumption) (by omega) ?_
      | refine WR.sz hz rfl rfl rfl rfl (by first | with_reducible rfl | assumption) (by omega) (by decide) ?_
      | refine WR.pi hz rfl ?_
      | refine WR.rt rfl rfl rfl rfl ?_
      | refine WR.rz rfl rfl (by decide) ?_))
          refine WR.V2i hz rfl rfl (r_members (d + 1) J hr heJ he2 (by omega) hfJ hz) ?_
          refine WR.S2i rfl rfl (r_majority (d + 2) _ _ _ hz) ?_
          have hm : (if e + 1 + m ≤ 3 then nI 7 else f_rp J e 107 (e + 1 + m - 3)) = f_mem J e (e + 1 + m) := rfl
          rw [hm]
          iterate 2 (first
      | (with_reducible refine WR.lt (by omega) (by omega) (fun _ => ?_) (fun _ => ?_) <;> try (exfalso; omega))
      | (with_reducible refine WR.le (by omega) (by omega) (fun _ => ?_) (fun _ => ?_) <;> try (exfalso; omega))
      | (with_reducible refine WR.eq (by omega) (by omega) (fun _ => ?_) (fun _ => ?_) <;> try (exfalso; omega))
      | (with_reducible refine WR.ne (by omega) (by omega) (fun _ => ?_) (fun _ => ?_) <;> try (exfalso; omega))
      | with_reducible refine WR.lt0 (by omega) ?_
      | with_reducible refine WR.ge0 (by omega) ?_
      | (with_reducible refine WR.bz (fun _ => ?_) (fun _ => ?_))
      | (with_reducible refine WR.bn (fun _ => ?_) (fun _ => ?_))
      | (with_reducible refine WR.br (fun _ => ?_) (fun _ => ?_) <;> try contradiction)
      | refine WR.gik hz rfl (by assumption) ?_
      | refine WR.gi hz rfl ?_
      | refine WR.gr hz rfl rfl ?_
      | refine WR.addn rfl (by with_reducible rfl) (by with_reducible rfl) ?_
      | refine WR.muln rfl (by with_reducible rfl) (by with_reducible rfl) ?_
      | refine WR.subn rfl (by with_reducible rfl) (by with_reducible rfl) (by omega) ?_
      | (refine WR.incn rfl rfl ?_; dsimp only [List.set])
      | (refine WR.go rfl rfl ?_; try dsimp only [List.set])
      | refine WR.aik hz rfl rfl rfl rfl (by first | with_reducible rfl | assumption) (by omega) (by assumption) ?_
      | refine WR.ai hz rfl rfl rfl rfl (by first | with_reducible rfl | assumption) (by omega) ?_
      | refine WR.si hz rfl rfl rfl rfl (by first | with_reducible rfl | assumption) (by omega) ?_
      | refine WR.az hz rfl rfl rfl rfl (by first | with_reducible rfl | assumption) (by omega) ?_
      | refine WR.sz hz rfl rfl rfl rfl (by first | with_reducible rfl | assumption) (by omega) (by decide) ?_
      | refine WR.pi hz rfl ?_
      | refine WR.rt rfl rfl rfl rfl ?_
      | refine WR.rz rfl rfl (by decide) ?_)
          · rename_i h6
            rw [if_neg (by simp [h6])] at hk
            iterate 6 (first
      | (with_reducible refine WR.lt (by omega) (by omega) (fun _ => ?_) (fun _ => ?_) <;> try (exfalso; omega))
      | (with_reducible refine WR.le (by omega) (by omega) (fun _ => ?_) (fun _ => ?_) <;> try (exfalso; omega))
      | (with_reducible refine WR.eq (by omega) (by omega) (fun _ => ?_) (fun _ => ?_) <;> try (exfalso; omega))
      | (with_reducible refine WR.ne (by omega) (by omega) (fun _ => ?_) (fun _ => ?_) <;> try (exfalso; omega))
      | with_reducible refine WR.lt0 (by omega) ?_
      | with_reducible refine WR.ge0 (by omega) ?_
      | (with_reducible refine WR.bz (fun _ => ?_) (fun _ => ?_))
      | (with_reducible refine WR.bn (fun _ => ?_) (fun _ => ?_))
      | (with_reducible refine WR.br (fun _ => ?_) (fun _ => ?_) <;> try contradiction)
      | refine WR.gik hz rfl (by assumption) ?_
      | refine WR.gi hz rfl ?_
      | refine WR.gr hz rfl rfl ?_
      | refine WR.addn rfl (by with_reducible rfl) (by with_reducible rfl) ?_
      | refine WR.muln rfl (by with_reducible rfl) (by with_reducible rfl) ?_
      | refine WR.subn rfl (by with_reducible rfl) (by with_reducible rfl) (by omega) ?_
      | (refine WR.incn rfl rfl ?_; dsimp only [List.set])
      | (refine WR.go rfl rfl ?_; try dsimp only [List.set])
      | refine WR.aik hz rfl rfl rfl rfl (by first | with_reducible rfl | assumption) (by omega) (by assumption) ?_
      | refine WR.ai hz rfl rfl rfl rfl (by first | with_reducible rfl | assumption) (by omega) ?_
      | refine WR.si hz rfl rfl rfl rfl (by first | with_reducible rfl | assumption) (by omega) ?_
      | refine WR.az hz rfl rfl rfl rfl (by first | with_reducible rfl | assumption) (by omega) ?_
      | refine WR.sz hz rfl rfl rfl rfl (by first | with_reducible rfl | assumption) (by omega) (by decide) ?_
      | refine WR.pi hz rfl ?_
      | refine WR.rt rfl rfl rfl rfl ?_
      | refine WR.rz rfl rfl (by decide) ?_)
            · rename_i h7
              rw [if_neg (Int32.not_lt.mpr h7)] at hk
              repeat' ((with_reducible fail_if_success show WR _ _ _ 189 _ _ _ _); (first
      | (with_reducible refine WR.lt (by omega) (by omega) (fun _ => ?_) (fun _ => ?_) <;> try (exfalso; omega))
      | (with_reducible refine WR.le (by omega) (by omega) (fun _ => ?_) (fun _ => ?_) <;> try (exfalso; omega))
      | (with_reducible refine WR.eq (by omega) (by omega) (fun _ => ?_) (fun _ => ?_) <;> try (exfalso; omega))
      | (with_reducible refine WR.ne (by omega) (by omega) (fun _ => ?_) (fun _ => ?_) <;> try (exfalso; omega))
      | with_reducible refine WR.lt0 (by omega) ?_
      | with_reducible refine WR.ge0 (by omega) ?_
      | (with_reducible refine WR.bz (fun _ => ?_) (fun _ => ?_))
      | (with_reducible refine WR.bn (fun _ => ?_) (fun _ => ?_))
      | (with_reducible refine WR.br (fun _ => ?_) (fun _ => ?_) <;> try contradiction)
      | refine WR.gik hz rfl (by assumption) ?_
      | refine WR.gi hz rfl ?_
      | refine WR.gr hz rfl rfl ?_
      | refine WR.addn rfl (by with_reducible rfl) (by with_reducible rfl) ?_
      | refine WR.muln rfl (by with_reducible rfl) (by with_reducible rfl) ?_
      | refine WR.subn rfl (by with_reducible rfl) (by with_reducible rfl) (by omega) ?_
      | (refine WR.incn rfl rfl ?_; dsimp only [List.set])
      | (refine WR.go rfl rfl ?_; try dsimp only [List.set])
      | refine WR.aik hz rfl rfl rfl rfl (by first | with_reducible rfl | assumption) (by omega) (by assumption) ?_
      | refine WR.ai hz rfl rfl rfl rfl (by first | with_reducible rfl | assumption) (by omega) ?_
      | refine WR.si hz rfl rfl rfl rfl (by first | with_reducible rfl | assumption) (by omega) ?_
      | refine WR.az hz rfl rfl rfl rfl (by first | with_reducible rfl | assumption) (by omega) ?_
      | refine WR.sz hz rfl rfl rfl rfl (by first | with_reducible rfl | assumption) (by omega) (by decide) ?_
      | refine WR.pi hz rfl ?_
      | refine WR.rt rfl rfl rfl rfl ?_
      | refine WR.rz rfl rfl (by decide) ?_))
              refine WR.V2i hz rfl rfl (r_above (d + 2) _ hr hs2 hz) ?_
              iterate 2 (first
      | (with_reducible refine WR.lt (by omega) (by omega) (fun _ => ?_) (fun _ => ?_) <;> try (exfalso; omega))
      | (with_reducible refine WR.le (by omega) (by omega) (fun _ => ?_) (fun _ => ?_) <;> try (exfalso; omega))
      | (with_reducible refine WR.eq (by omega) (by omega) (fun _ => ?_) (fun _ => ?_) <;> try (exfalso; omega))
      | (with_reducible refine WR.ne (by omega) (by omega) (fun _ => ?_) (fun _ => ?_) <;> try (exfalso; omega))
      | with_reducible refine WR.lt0 (by omega) ?_
      | with_reducible refine WR.ge0 (by omega) ?_
      | (with_reducible refine WR.bz (fun _ => ?_) (fun _ => ?_))
      | (with_reducible refine WR.bn (fun _ => ?_) (fun _ => ?_))
      | (with_reducible refine WR.br (fun _ => ?_) (fun _ => ?_) <;> try contradiction)
      | refine WR.gik hz rfl (by assumption) ?_
      | refine WR.gi hz rfl ?_
      | refine WR.gr hz rfl rfl ?_
      | refine WR.addn rfl (by with_reducible rfl) (by with_reducible rfl) ?_
      | refine WR.muln rfl (by with_reducible rfl) (by with_reducible rfl) ?_
      | refine WR.subn rfl (by with_reducible rfl) (by with_reducible rfl) (by omega) ?_
      | (refine WR.incn rfl rfl ?_; dsimp only [List.set])
      | (refine WR.go rfl rfl ?_; try dsimp only [List.set])
      | refine WR.aik hz rfl rfl rfl rfl (by first | with_reducible rfl | assumption) (by omega) (by assumption) ?_
      | refine WR.ai hz rfl rfl rfl rfl (by first | with_reducible rfl | assumption) (by omega) ?_
      | refine WR.si hz rfl rfl rfl rfl (by first | with_reducible rfl | assumption) (by omega) ?_
      | refine WR.az hz rfl rfl rfl rfl (by first | with_reducible rfl | assumption) (by omega) ?_
      | refine WR.sz hz rfl rfl rfl rfl (by first | with_reducible rfl | assumption) (by omega) (by decide) ?_
      | refine WR.pi hz rfl ?_
      | refine WR.rt rfl rfl rfl rfl ?_
      | refine WR.rz rfl rfl (by decide) ?_)
              · rename_i h8
                rw [if_neg (by simp [h8])] at hk
                repeat' (first | with_reducible refine WR.cast ?_ hk | (first
      | (with_reducible refine WR.lt (by omega) (by omega) (fun _ => ?_) (fun _ => ?_) <;> try (exfalso; omega))
      | (with_reducible refine WR.le (by omega) (by omega) (fun _ => ?_) (fun _ => ?_) <;> try (exfalso; omega))
      | (with_reducible refine WR.eq (by omega) (by omega) (fun _ => ?_) (fun _ => ?_) <;> try (exfalso; omega))
      | (with_reducible refine WR.ne (by omega) (by omega) (fun _ => ?_) (fun _ => ?_) <;> try (exfalso; omega))
      | with_reducible refine WR.lt0 (by omega) ?_
      | with_reducible refine WR.ge0 (by omega) ?_
      | (with_reducible refine WR.bz (fun _ => ?_) (fun _ => ?_))
      | (with_reducible refine WR.bn (fun _ => ?_) (fun _ => ?_))
      | (with_reducible refine WR.br (fun _ => ?_) (fun _ => ?_) <;> try contradiction)
      | refine WR.gik hz rfl (by assumption) ?_
      | refine WR.gi hz rfl ?_
      | refine WR.gr hz rfl rfl ?_
      | refine WR.addn rfl (by with_reducible rfl) (by with_reducible rfl) ?_
      | refine WR.muln rfl (by with_reducible rfl) (by with_reducible rfl) ?_
      | refine WR.subn rfl (by with_reducible rfl) (by with_reducible rfl) (by omega) ?_
      | (refine WR.incn rfl rfl ?_; dsimp only [List.set])
      | (refine WR.go rfl rfl ?_; try dsimp only [List.set])
      | refine WR.aik hz rfl rfl rfl rfl (by first | with_reducible rfl | assumption) (by omega) (by assumption) ?_
      | refine WR.ai hz rfl rfl rfl rfl (by first | with_reducible rfl | assumption) (by omega) ?_
      | refine WR.si hz rfl rfl rfl rfl (by first | with_reducible rfl | assumption) (by omega) ?_
      | refine WR.az hz rfl rfl rfl rfl (by first | with_reducible rfl | assumption) (by omega) ?_
      | refine WR.sz hz rfl rfl rfl rfl (by first | with_reducible rfl | assumption) (by omega) (by decide) ?_
      | refine WR.pi hz rfl ?_
      | refine WR.rt rfl rfl rfl rfl ?_
      | refine WR.rz rfl rfl (by decide) ?_))
                rfl
              · rename_i h8
                rw [if_pos h8] at hk
                repeat' ((with_reducible fail_if_success show WR _ _ _ 199 _ _ _ _); (first
      | (with_reducible refine WR.lt (by omega) (by omega) (fun _ => ?_) (fun _ => ?_) <;> try (exfalso; omega))
      | (with_reducible refine WR.le (by omega) (by omega) (fun _ => ?_) (fun _ => ?_) <;> try (exfalso; omega))
      | (with_reducible refine WR.eq (by omega) (by omega) (fun _ => ?_) (fun _ => ?_) <;> try (exfalso; omega))
      | (with_reducible refine WR.ne (by omega) (by omega) (fun _ => ?_) (fun _ => ?_) <;> try (exfalso; omega))
      | with_reducible refine WR.lt0 (by omega) ?_
      | with_reducible refine WR.ge0 (by omega) ?_
      | (with_reducible refine WR.bz (fun _ => ?_) (fun _ => ?_))
      | (with_reducible refine WR.bn (fun _ => ?_) (fun _ => ?_))
      | (with_reducible refine WR.br (fun _ => ?_) (fun _ => ?_) <;> try contradiction)
      | refine WR.gik hz rfl (by assumption) ?_
      | refine WR.gi hz rfl ?_
      | refine WR.gr hz rfl rfl ?_
      | refine WR.addn rfl (by with_reducible rfl) (by with_reducible rfl) ?_
      | refine WR.muln rfl (by with_reducible rfl) (by with_reducible rfl) ?_
      | refine WR.subn rfl (by with_reducible rfl) (by with_reducible rfl) (by omega) ?_
      | (refine WR.incn rfl rfl ?_; dsimp only [List.set])
      | (refine WR.go rfl rfl ?_; try dsimp only [List.set])
      | refine WR.aik hz rfl rfl rfl rfl (by first | with_reducible rfl | assumption) (by omega) (by assumption) ?_
      | refine WR.ai hz rfl rfl rfl rfl (by first | with_reducible rfl | assumption) (by omega) ?_
      | refine WR.si hz rfl rfl rfl rfl (by first | with_reducible rfl | assumption) (by omega) ?_
      | refine WR.az hz rfl rfl rfl rfl (by first | with_reducible rfl | assumption) (by omega) ?_
      | refine WR.sz hz rfl rfl rfl rfl (by first | with_reducible rfl | assumption) (by omega) (by decide) ?_
      | refine WR.pi hz rfl ?_
      | refine WR.rt rfl rfl rfl rfl ?_
      | refine WR.rz rfl rfl (by decide) ?_))
                refine WR.V3v hz rfl rfl (r_propose d _ (nI 0) hr hs2 heR he2 hwR hfR hz) ?_
                repeat' (first | with_reducible refine WR.cast ?_ hk | (first
      | (with_reducible refine WR.lt (by omega) (by omega) (fun _ => ?_) (fun _ => ?_) <;> try (exfalso; omega))
      | (with_reducible refine WR.le (by omega) (by omega) (fun _ => ?_) (fun _ => ?_) <;> try (exfalso; omega))
      | (with_reducible refine WR.eq (by omega) (by omega) (fun _ => ?_) (fun _ => ?_) <;> try (exfalso; omega))
      | (with_reducible refine WR.ne (by omega) (by omega) (fun _ => ?_) (fun _ => ?_) <;> try (exfalso; omega))
      | with_reducible refine WR.lt0 (by omega) ?_
      | with_reducible refine WR.ge0 (by omega) ?_
      | (with_reducible refine WR.bz (fun _ => ?_) (fun _ => ?_))
      | (with_reducible refine WR.bn (fun _ => ?_) (fun _ => ?_))
      | (with_reducible refine WR.br (fun _ => ?_) (fun _ => ?_) <;> try contradiction)
      | refine WR.gik hz rfl (by assumption) ?_
      | refine WR.gi hz rfl ?_
      | refine WR.gr hz rfl rfl ?_
      | refine WR.addn rfl (by with_reducible rfl) (by with_reducible rfl) ?_
      | refine WR.muln rfl (by with_reducible rfl) (by with_reducible rfl) ?_
      | refine WR.subn rfl (by with_reducible rfl) (by with_reducible rfl) (by omega) ?_
      | (refine WR.incn rfl rfl ?_; dsimp only [List.set])
      | (refine WR.go rfl rfl ?_; try dsimp only [List.set])
      | refine WR.aik hz rfl rfl rfl rfl (by first | with_reducible rfl | assumption) (by omega) (by assumption) ?_
      | refine WR.ai hz rfl rfl rfl rfl (by first | with_reducible rfl | assumption) (by omega) ?_
      | refine WR.si hz rfl rfl rfl rfl (by first | with_reducible rfl | assumption) (by omega) ?_
      | refine WR.az hz rfl rfl rfl rfl (by first | with_reducible rfl | assumption) (by omega) ?_
      | refine WR.sz hz rfl rfl rfl rfl (by first | with_reducible rfl | assumption) (by omega) (by decide) ?_
      | refine WR.pi hz rfl ?_
      | refine WR.rt rfl rfl rfl rfl ?_
      | refine WR.rz rfl rfl (by decide) ?_))
                rfl
            · rename_i h7
              rw [if_pos (Int32.not_le.mp h7)] at hk
              repeat' ((with_reducible fail_if_success show WR _ _ _ 180 _ _ _ _); (first
      | (with_reducible refine WR.lt (by omega) (by omega) (fun _ => ?_) (fun _ => ?_) <;> try (exfalso; omega))
      | (with_reducible refine WR.le (by omega) (by omega) (fun _ => ?_) (fun _ => ?_) <;> try (exfalso; omega))
      | (with_reducible refine WR.eq (by omega) (by omega) (fun _ => ?_) (fun _ => ?_) <;> try (exfalso; omega))
      | (with_reducible refine WR.ne (by omega) (by omega) (fun _ => ?_) (fun _ => ?_) <;> try (exfalso; omega))
      | with_reducible refine WR.lt0 (by omega) ?_
      | with_reducible refine WR.ge0 (by omega) ?_
      | (with_reducible refine WR.bz (fun _ => ?_) (fun _ => ?_))
      | (with_reducible refine WR.bn (fun _ => ?_) (fun _ => ?_))
      | (with_reducible refine WR.br (fun _ => ?_) (fun _ => ?_) <;> try contradiction)
      | refine WR.gik hz rfl (by assumption) ?_
      | refine WR.gi hz rfl ?_
      | refine WR.gr hz rfl rfl ?_
      | refine WR.addn rfl (by with_reducible rfl) (by with_reducible rfl) ?_
      | refine WR.muln rfl (by with_reducible rfl) (by with_reducible rfl) ?_
      | refine WR.subn rfl (by with_reducible rfl) (by with_reducible rfl) (by omega) ?_
      | (refine WR.incn rfl rfl ?_; dsimp only [List.set])
      | (refine WR.go rfl rfl ?_; try dsimp only [List.set])
      | refine WR.aik hz rfl rfl rfl rfl (by first | with_reducible rfl | assumption) (by omega) (by assumption) ?_
      | refine WR.ai hz rfl rfl rfl rfl (by first | with_reducible rfl | assumption) (by omega) ?_
      | refine WR.si hz rfl rfl rfl rfl (by first | with_reducible rfl | assumption) (by omega) ?_
      | refine WR.az hz rfl rfl rfl rfl (by first | with_reducible rfl | assumption) (by omega) ?_
      | refine WR.sz hz rfl rfl rfl rfl (by first | with_reducible rfl | assumption) (by omega) (by decide) ?_
      | refine WR.pi hz rfl ?_
      | refine WR.rt rfl rfl rfl rfl ?_
      | refine WR.rz rfl rfl (by decide) ?_))
              refine WR.V3v hz rfl rfl (r_propose d _ _ hr hs2 heR he2 hwR hfR hz) ?_
              repeat' (first | with_reducible refine WR.cast ?_ hk | (first
      | (with_reducible refine WR.lt (by omega) (by omega) (fun _ => ?_) (fun _ => ?_) <;> try (exfalso; omega))
      | (with_reducible refine WR.le (by omega) (by omega) (fun _ => ?_) (fun _ => ?_) <;> try (exfalso; omega))
      | (with_reducible refine WR.eq (by omega) (by omega) (fun _ => ?_) (fun _ => ?_) <;> try (exfalso; omega))
      | (with_reducible refine WR.ne (by omega) (by omega) (fun _ => ?_) (fun _ => ?_) <;> try (exfalso; omega))
      | with_reducible refine WR.lt0 (by omega) ?_
      | with_reducible refine WR.ge0 (by omega) ?_
      | (with_reducible refine WR.bz (fun _ => ?_) (fun _ => ?_))
      | (with_reducible refine WR.bn (fun _ => ?_) (fun _ => ?_))
      | (with_reducible refine WR.br (fun _ => ?_) (fun _ => ?_) <;> try contradiction)
      | refine WR.gik hz rfl (by assumption) ?_
      | refine WR.gi hz rfl ?_
      | refine WR.gr hz rfl rfl ?_
      | refine WR.addn rfl (by with_reducible rfl) (by with_reducible rfl) ?_
      | refine WR.muln rfl (by with_reducible rfl) (by with_reducible rfl) ?_
      | refine WR.subn rfl (by with_reducible rfl) (by with_reducible rfl) (by omega) ?_
      | (refine WR.incn rfl rfl ?_; dsimp only [List.set])
      | (refine WR.go rfl rfl ?_; try dsimp only [List.set])
      | refine WR.aik hz rfl rfl rfl rfl (by first | with_reducible rfl | assumption) (by omega) (by assumption) ?_
      | refine WR.ai hz rfl rfl rfl rfl (by first | with_reducible rfl | assumption) (by omega) ?_
      | refine WR.si hz rfl rfl rfl rfl (by first | with_reducible rfl | assumption) (by omega) ?_
      | refine WR.az hz rfl rfl rfl rfl (by first | with_reducible rfl | assumption) (by omega) ?_
      | refine WR.sz hz rfl rfl rfl rfl (by first | with_reducible rfl | assumption) (by omega) (by decide) ?_
      | refine WR.pi hz rfl ?_
      | refine WR.rt rfl rfl rfl rfl ?_
      | refine WR.rz rfl rfl (by decide) ?_))
              rfl
          · rename_i h6
            rw [if_pos h6] at hk
            repeat' (first | with_reducible refine WR.cast ?_ hk | (first
      | (with_reducible refine WR.lt (by omega) (by omega) (fun _ => ?_) (fun _ => ?_) <;> try (exfalso; omega))
      | (with_reducible refine WR.le (by omega) (by omega) (fun _ => ?_) (fun _ => ?_) <;> try (exfalso; omega))
      | (with_reducible refine WR.eq (by omega) (by omega) (fun _ => ?_) (fun _ => ?_) <;> try (exfalso; omega))
      | (with_reducible refine WR.ne (by omega) (by omega) (fun _ => ?_) (fun _ => ?_) <;> try (exfalso; omega))
      | with_reducible refine WR.lt0 (by omega) ?_
      | with_reducible refine WR.ge0 (by omega) ?_
      | (with_reducible refine WR.bz (fun _ => ?_) (fun _ => ?_))
      | (with_reducible refine WR.bn (fun _ => ?_) (fun _ => ?_))
      | (with_reducible refine WR.br (fun _ => ?_) (fun _ => ?_) <;> try contradiction)
      | refine WR.gik hz rfl (by assumption) ?_
      | refine WR.gi hz rfl ?_
      | refine WR.gr hz rfl rfl ?_
      | refine WR.addn rfl (by with_reducible rfl) (by with_reducible rfl) ?_
      | refine WR.muln rfl (by with_reducible rfl) (by with_reducible rfl) ?_
      | refine WR.subn rfl (by with_reducible rfl) (by with_reducible rfl) (by omega) ?_
      | (refine WR.incn rfl rfl ?_; dsimp only [List.set])
      | (refine WR.go rfl rfl ?_; try dsimp only [List.set])
      | refine WR.aik hz rfl rfl rfl rfl (by first | with_reducible rfl | assumption) (by omega) (by assumption) ?_
      | refine WR.ai hz rfl rfl rfl rfl (by first | with_reducible rfl | assumption) (by omega) ?_
      | refine WR.si hz rfl rfl rfl rfl (by first | with_reducible rfl | assumption) (by omega) ?_
      | refine WR.az hz rfl rfl rfl rfl (by first | with_reducible rfl | assumption) (by omega) ?_
      | refine WR.sz hz rfl rfl rfl rfl (by first | with_reducible rfl | assumption) (by omega) (by decide) ?_
      | refine WR.pi hz rfl ?_
      | refine WR.rt rfl rfl rfl rfl ?_
      | refine WR.rz rfl rfl (by decide) ?_))
            rfl
  · rename_i h
    iterate 1 (first
      | (with_reducible refine WR.lt (by omega) (by omega) (fun _ => ?_) (fun _ => ?_) <;> try (exfalso; omega))
      | (with_reducible refine WR.le (by omega) (by omega) (fun _ => ?_) (fun _ => ?_) <;> try (exfalso; omega))
      | (with_reducible refine WR.eq (by omega) (by omega) (fun _ => ?_) (fun _ => ?_) <;> try (exfalso; omega))
      | (with_reducible refine WR.ne (by omega) (by omega) (fun _ => ?_) (fun _ => ?_) <;> try (exfalso; omega))
      | with_reducible refine WR.lt0 (by omega) ?_
      | with_reducible refine WR.ge0 (by omega) ?_
      | (with_reducible refine WR.bz (fun _ => ?_) (fun _ => ?_))
      | (with_reducible refine WR.bn (fun _ => ?_) (fun _ => ?_))
      | (with_reducible refine WR.br (fun _ => ?_) (fun _ => ?_) <;> try contradiction)
      | refine WR.gik hz rfl (by assumption) ?_
      | refine WR.gi hz rfl ?_
      | refine WR.gr hz rfl rfl ?_
      | refine WR.addn rfl (by with_reducible rfl) (by with_reducible rfl) ?_
      | refine WR.muln rfl (by with_reducible rfl) (by with_reducible rfl) ?_
      | refine WR.subn rfl (by with_reducible rfl) (by with_reducible rfl) (by omega) ?_
      | (refine WR.incn rfl rfl ?_; dsimp only [List.set])
      | (refine WR.go rfl rfl ?_; try dsimp only [List.set])
      | refine WR.aik hz rfl rfl rfl rfl (by first | with_reducible rfl | assumption) (by omega) (by assumption) ?_
      | refine WR.ai hz rfl rfl rfl rfl (by first | with_reducible rfl | assumption) (by omega) ?_
      | refine WR.si hz rfl rfl rfl rfl (by first | with_reducible rfl | assumption) (by omega) ?_
      | refine WR.az hz rfl rfl rfl rfl (by first | with_reducible rfl | assumption) (by omega) ?_
      | refine WR.sz hz rfl rfl rfl rfl (by first | with_reducible rfl | assumption) (by omega) (by decide) ?_
      | refine WR.pi hz rfl ?_
      | refine WR.rt rfl rfl rfl rfl ?_
      | refine WR.rz rfl rfl (by decide) ?_)
    exact ⟨by rw [if_neg (by simp [h])], rfl⟩
theorem r_goOn (d : Nat) (I : xI) {r e : Nat} (hr : r < 5) (he : I 83 r = nI e) (he2 : e ≤ 24) (hf : f_wf I) (hw : f_wok I) (hz : zok Z) : ER Z (d + 5) 122 I [.ref 74, .int (nI r)] (fun I' v => I' = f_go I r e ∧ v = none) := by
  refine ER.of (ls := [some (.ref 74), some (.int (nI r)), none, none, none]) rfl rfl ?_
  obtain ⟨h1, h2, h3, h4⟩ := f_ex_inv (24 - e) e I he (by omega) hf hw
  exact r_goOn1 (d + 2) hr hz _ (24 - e) e I none (by omega) he hf (fun x2 => r_goOn2 d _ hr h1 h2 h3 h4 hz x2)
end GOO2
end
section
/-! the reference: what a replica does with a message -/
section HAND
variable {Z : xZ}
def f_oPrep (I : xI) (r : Nat) : xI := if I 74 33 < I 81 r then f_ml I (nI 6) r (I 74 31) (nI 0) (I 81 r) (nI 0) else f_ml (x_u I 81 r (I 74 33)) (nI 2) r (I 74 31) (nI 0) (I 74 33) (nI 0)
set_option maxHeartbeats 4000000 in
theorem r_oPrep (d : Nat) (I : xI) {r : Nat} (hr : r < 5) (hw : f_wok I) (hz : zok Z) : ER Z (d + 2) 118 I [.ref 74, .int (nI r)] (fun I' v => I' = f_oPrep I r ∧ v = none) := by
  refine ER.of (ls := [some (.ref 74), some (.int (nI r))]) rfl rfl ?_
  have h33 : x_u I 81 r (I 74 33) 74 33 = I 74 33 := x_u_ne _ _ (by omega)
  have h31 : x_u I 81 r (I 74 33) 74 31 = I 74 31 := x_u_ne _ _ (by omega)
  iterate 8 (first
      | (with_reducible refine WR.lt (by omega) (by omega) (fun _ => ?_) (fun _ => ?_) <;> try (exfalso; omega))
      | (with_reducible refine WR.le (by omega) (by omega) (fun _ => ?_) (fun _ => ?_) <;> try (exfalso; omega))
      | (with_reducible refine WR.eq (by omega) (by omega) (fun _ => ?_) (fun _ => ?_) <;> try (exfalso; omega))
      | (with_reducible refine WR.ne (by omega) (by omega) (fun _ => ?_) (fun _ => ?_) <;> try (exfalso; omega))
      | with_reducible refine WR.lt0 (by omega) ?_
      | with_reducible refine WR.ge0 (by omega) ?_
      | (with_reducible refine WR.bz (fun _ => ?_) (fun _ => ?_))
      | (with_reducible refine WR.bn (fun _ => ?_) (fun _ => ?_))
      | (with_reducible refine WR.br (fun _ => ?_) (fun _ => ?_) <;> try contradiction)
      | refine WR.gik hz rfl (by with_reducible assumption) ?_
      | refine WR.gi hz rfl ?_
      | refine WR.gr hz rfl rfl ?_
      | refine WR.addn rfl (by with_reducible rfl) (by with_reducible rfl) ?_
      | refine WR.muln rfl (by with_reducible rfl) (by with_reducible rfl) ?_
      | refine WR.subn rfl (by with_reducible rfl) (by with_reducible rfl) (by omega) ?_
      | (refine WR.incn rfl rfl ?_; dsimp only [List.set])
      | (refine WR.go rfl rfl ?_; try dsimp only [List.set])
      | refine WR.aik hz rfl rfl rfl rfl (by first | with_reducible rfl | with_reducible assumption) (by omega) (by with_reducible assumption) ?_
      | refine WR.ai hz rfl rfl rfl rfl (by first | with_reducible rfl | with_reducible assumption) (by omega) ?_
      | refine WR.si hz rfl rfl rfl rfl (by first | with_reducible rfl | with_reducible assumption) (by omega) ?_
      | refine WR.az hz rfl rfl rfl rfl (by first | with_reducible rfl | with_reducible assumption) (by omega) ?_
      | refine WR.sz hz rfl rfl rfl rfl (by first | with_reducible rfl | with_reducible assumption) (by omega) (by decide) ?_
      | refine WR.pi hz rfl ?_
      | refine WR.rt rfl rfl rfl rfl ?_
      | refine WR.rz rfl rfl (by decide) ?_)
  · rename_i h
    repeat' ((with_reducible fail_if_success show WR _ _ _ 56 _ _ _ _); (first
      | (with_reducible refine WR.lt (by omega) (by omega) (fun _ => ?_) (fun _ => ?_) <;> try (exfalso; omega))
      | (with_reducible refine WR.le (by omega) (by omega) (fun _ => ?_) (fun _ => ?_) <;> try (exfalso; omega))
      | (with_reducible refine WR.eq (by omega) (by omega) (fun _ => ?_) (fun _ => ?_) <;> try (exfalso; omega))
      | (with_reducible refine WR.ne (by omega) (by omega) (fun _ => ?_) (fun _ => ?_) <;> try (exfalso; omega))
      | with_reducible refine WR.lt0 (by omega) ?_
      | with_reducible refine WR.ge0 (by omega) ?_
      | (with_reducible refine WR.bz (fun _ => ?_) (fun _ => ?_))
      | (with_reducible refine WR.bn (fun _ => ?_) (fun _ => ?_))
      | (with_reducible refine WR.br (fun _ => ?_) (fun _ => ?_) <;> try contradiction)
      | refine WR.gik hz rfl (by with_reducible assumption) ?_
      | refine WR.gi hz rfl ?_
      | refine WR.gr hz rfl rfl ?_
      | refine WR.addn rfl (by with_reducible rfl) (by with_reducible rfl) ?_
      | refine WR.muln rfl (by with_reducible rfl) (by with_reducible rfl) ?_
      | refine WR.subn rfl (by with_reducible rfl) (by with_reducible rfl) (by omega) ?_
      | (refine WR.incn rfl rfl ?_; dsimp only [List.set])
      | (refine WR.go rfl rfl ?_; try dsimp only [List.set])
      | refine WR.aik hz rfl rfl rfl rfl (by first | with_reducible rfl | with_reducible assumption) (by omega) (by with_reducible assumption) ?_
      | refine WR.ai hz rfl rfl rfl rfl (by first | with_reducible rfl | with_reducible assumption) (by omega) ?_
      | refine WR.si hz rfl rfl rfl rfl (by first | with_reducible rfl | with_reducible assumption) (by omega) ?_
      | refine WR.az hz rfl rfl rfl rfl (by first | with_reducible rfl | with_reducible assumption) (by omega) ?_
      | refine WR.sz hz rfl rfl rfl rfl (by first | with_reducible rfl | with_reducible assumption) (by omega) (by decide) ?_
      | refine WR.pi hz rfl ?_
      | refine WR.rt rfl rfl rfl rfl ?_
      | refine WR.rz rfl rfl (by decide) ?_))
    have hw1 : f_wok (x_u I 81 r (I 74 33)) := f_wok_eq (x_u_ne _ _ (by omega)) hw
    refine WR.V6v hz rfl rfl (r_mail d _ (nI 2) (I 74 31) (nI 0) (I 74 33) (nI 0) hr hw1.1 hw1.2 hz) ?_
    iterate 1 (first
      | (with_reducible refine WR.lt (by omega) (by omega) (fun _ => ?_) (fun _ => ?_) <;> try (exfalso; omega))
      | (with_reducible refine WR.le (by omega) (by omega) (fun _ => ?_) (fun _ => ?_) <;> try (exfalso; omega))
      | (with_reducible refine WR.eq (by omega) (by omega) (fun _ => ?_) (fun _ => ?_) <;> try (exfalso; omega))
      | (with_reducible refine WR.ne (by omega) (by omega) (fun _ => ?_) (fun _ => ?_) <;> try (exfalso; omega))
      | with_reducible refine WR.lt0 (by omega) ?_
      | with_reducible refine WR.ge0 (by omega) ?_
      | (with_reducible refine WR.bz (fun _ => ?_) (fun _ => ?_))
      | (with_reducible refine WR.bn (fun _ => ?_) (fun _ => ?_))
      | (with_reducible refine WR.br (fun _ => ?_) (fun _ => ?_) <;> try contradiction)
      | refine WR.gik hz rfl (by with_reducible assumption) ?_
      | refine WR.gi hz rfl ?_
      | refine WR.gr hz rfl rfl ?_
      | refine WR.addn rfl (by with_reducible rfl) (by with_reducible rfl) ?_
      | refine WR.muln rfl (by with_reducible rfl) (by with_reducible rfl) ?_
      | refine WR.subn rfl (by with_reducible rfl) (by with_reducible rfl) (by omega) ?_
      | (refine WR.incn rfl rfl ?_; dsimp only [List.set])
      | (refine WR.go rfl rfl ?_; try dsimp only [List.set])
      | refine WR.aik hz rfl rfl rfl rfl (by first | with_reducible rfl | with_reducible assumption) (by omega) (by with_reducible assumption) ?_
      | refine WR.ai hz rfl rfl rfl rfl (by first | with_reducible rfl | with_reducible assumption) (by omega) ?_
      | refine WR.si hz rfl rfl rfl rfl (by first | with_reducible rfl | with_reducible assumption) (by omega) ?_
      | refine WR.az hz rfl rfl rfl rfl (by first | with_reducible rfl | with_reducible assumption) (by omega) ?_
      | refine WR.sz hz rfl rfl rfl rfl (by first | with_reducible rfl | with_reducible assumption) (by omega) (by decide) ?_
      | refine WR.pi hz rfl ?_
      | refine WR.rt rfl rfl rfl rfl ?_
      | refine WR.rz rfl rfl (by decide) ?_)
    exact ⟨by rw [f_oPrep, if_neg (Int32.not_lt.mpr h)]; rfl, rfl⟩
  · rename_i h
    repeat' ((with_reducible fail_if_success show WR _ _ _ 29 _ _ _ _); (first
      | (with_reducible refine WR.lt (by omega) (by omega) (fun _ => ?_) (fun _ => ?_) <;> try (exfalso; omega))
      | (with_reducible refine WR.le (by omega) (by omega) (fun _ => ?_) (fun _ => ?_) <;> try (exfalso; omega))
      | (with_reducible refine WR.eq (by omega) (by omega) (fun _ => ?_) (fun _ => ?_) <;> try (exfalso; omega))
      | (with_reducible refine WR.ne (by omega) (by omega) (fun _ => ?_) (fun _ => ?_) <;> try (exfalso; omega))
      | with_reducible refine WR.lt0 (by omega) ?_
      | with_reducible refine WR.ge0 (by omega) ?_
      | (with_reducible refine WR.bz (fun _ => ?_) (fun _ => ?_))
      | (with_reducible refine WR.bn (fun _ => ?_) (fun _ => ?_))
      | (with_reducible refine WR.br (fun _ => ?_) (fun _ => ?_) <;> try contradiction)
      | refine WR.gik hz rfl (by with_reducible assumption) ?_
      | refine WR.gi hz rfl ?_
      | refine WR.gr hz rfl rfl ?_
      | refine WR.addn rfl (by with_reducible rfl) (by with_reducible rfl) ?_
      | refine WR.muln rfl (by with_reducible rfl) (by with_reducible rfl) ?_
      | refine WR.subn rfl (by with_reducible rfl) (by with_reducible rfl) (by omega) ?_
      | (refine WR.incn rfl rfl ?_; dsimp only [List.set])
      | (refine WR.go rfl rfl ?_; try dsimp only [List.set])
      | refine WR.aik hz rfl rfl rfl rfl (by first | with_reducible rfl | with_reducible assumption) (by omega) (by with_reducible assumption) ?_
      | refine WR.ai hz rfl rfl rfl rfl (by first | with_reducible rfl | with_reducible assumption) (by omega) ?_
      | refine WR.si hz rfl rfl rfl rfl (by first | with_reducible rfl | with_reducible assumption) (by omega) ?_
      | refine WR.az hz rfl rfl rfl rfl (by first | with_reducible rfl | with_reducible assumption) (by omega) ?_
      | refine WR.sz hz rfl rfl rfl rfl (by first | with_reducible rfl | with_reducible assumption) (by omega) (by decide) ?_
      | refine WR.pi hz rfl ?_
      | refine WR.rt rfl rfl rfl rfl ?_
      | refine WR.rz rfl rfl (by decide) ?_))
    refine WR.V6v hz rfl rfl (r_mail d I (nI 6) (I 74 31) (nI 0) (I 81 r) (nI 0) hr hw.1 hw.2 hz) ?_
    iterate 1 (first
      | (with_reducible refine WR.lt (by omega) (by omega) (fun _ => ?_) (fun _ => ?_) <;> try (exfalso; omega))
      | (with_reducible refine WR.le (by omega) (by omega) (fun _ => ?_) (fun _ => ?_) <;> try (exfalso; omega))
      | (with_reducible refine WR.eq (by omega) (by omega) (fun _ => ?_) (fun _ => ?_) <;> try (exfalso; omega))
      | (with_reducible refine WR.ne (by omega) (by omega) (fun _ => ?_) (fun _ => ?_) <;> try (exfalso; omega))
      | with_reducible refine WR.lt0 (by omega) ?_
      | with_reducible refine WR.ge0 (by omega) ?_
      | (with_reducible refine WR.bz (fun _ => ?_) (fun _ => ?_))
      | (with_reducible refine WR.bn (fun _ => ?_) (fun _ => ?_))
      | (with_reducible refine WR.br (fun _ => ?_) (fun _ => ?_) <;> try contradiction)
      | refine WR.gik hz rfl (by with_reducible assumption) ?_
      | refine WR.gi hz rfl ?_
      | refine WR.gr hz rfl rfl ?_
      | refine WR.addn rfl (by with_reducible rfl) (by with_reducible rfl) ?_
      | refine WR.muln rfl (by with_reducible rfl) (by with_reducible rfl) ?_
      | refine WR.subn rfl (by with_reducible rfl) (by with_reducible rfl) (by omega) ?_
      | (refine WR.incn rfl rfl ?_; dsimp only [List.set])
      | (refine WR.go rfl rfl ?_; try dsimp only [List.set])
      | refine WR.aik hz rfl rfl rfl rfl (by first | with_reducible rfl | with_reducible assumption) (by omega) (by with_reducible assumption) ?_
      | refine WR.ai hz rfl rfl rfl rfl (by first | with_reducible rfl | with_reducible assumption) (by omega) ?_
      | refine WR.si hz rfl rfl rfl rfl (by first | with_reducible rfl | with_reducible assumption) (by omega) ?_
      | refine WR.az hz rfl rfl rfl rfl (by first | with_reducible rfl | with_reducible assumption) (by omega) ?_
      | refine WR.sz hz rfl rfl rfl rfl (by first | with_reducible rfl | with_reducible assumption) (by omega) (by decide) ?_
      | refine WR.pi hz rfl ?_
      | refine WR.rt rfl rfl rfl rfl ?_
      | refine WR.rz rfl rfl (by decide) ?_)
    exact ⟨by rw [f_oPrep, if_pos (Int32.not_le.mp h)]; rfl, rfl⟩
def f_oAcc (I : xI) (r s : Nat) : xI :=
  if I 74 32 < I 81 r then f_ml I (nI 6) r (I 74 31) (nI 0) (I 81 r) (nI 0)
  else if nI s ≤ I 82 r then f_ml (x_u I 81 r (I 74 32)) (nI 8) r (I 74 31) (nI 0) (I 82 r) (nI 0)
  else f_ml (f_cast (x_u I 81 r (I 74 32)) r s (I 74 32) (I 74 34)) (nI 4) r (I 74 31) (I 74 32) (nI s) (nI 0)
set_option maxHeartbeats 4000000 in
theorem r_oAcc (d : Nat) (I : xI) {r s : Nat} (hr : r < 5) (hs : I 74 33 = nI s) (hs2 : s ≤ 24) (hw : f_wok I) (hz : zok Z) : ER Z (d + 2) 124 I [.ref 74, .int (nI r)] (fun I' v => I' = f_oAcc I r s ∧ v = none) := by
  refine ER.of (ls := [some (.ref 74), some (.int (nI r))]) rfl rfl ?_
  iterate 8 (first
      | (with_reducible refine WR.lt (by omega) (by omega) (fun _ => ?_) (fun _ => ?_) <;> try (exfalso; omega))
      | (with_reducible refine WR.le (by omega) (by omega) (fun _ => ?_) (fun _ => ?_) <;> try (exfalso; omega))
      | (with_reducible refine WR.eq (by omega) (by omega) (fun _ => ?_) (fun _ => ?_) <;> try (exfalso; omega))
      | (with_reducible refine WR.ne (by omega) (by omega) (fun _ => ?_) (fun _ => ?_) <;> try (exfalso; omega))
      | with_reducible refine WR.lt0 (by omega) ?_
      | with_reducible refine WR.ge0 (by omega) ?_
      | (with_reducible refine WR.bz (fun _ => ?_) (fun _ => ?_))
      | (with_reducible refine WR.bn (fun _ => ?_) (fun _ => ?_))
      | (with_reducible refine WR.br (fun _ => ?_) (fun _ => ?_) <;> try contradiction)
      | refine WR.gik hz rfl (by with_reducible assumption) ?_
      | refine WR.gi hz rfl ?_
      | refine WR.gr hz rfl rfl ?_
      | refine WR.addn rfl (by with_reducible rfl) (by with_reducible rfl) ?_
      | refine WR.muln rfl (by with_reducible rfl) (by with_reducible rfl) ?_
      | refine WR.subn rfl (by with_reducible rfl) (by with_reducible rfl) (by omega) ?_
      | (refine WR.incn rfl rfl ?_; dsimp only [List.set])
      | (refine WR.go rfl rfl ?_; try dsimp only [List.set])
      | refine WR.aik hz rfl rfl rfl rfl (by first | with_reducible rfl | with_reducible assumption) (by omega) (by with_reducible assumption) ?_
      | refine WR.ai hz rfl rfl rfl rfl (by first | with_reducible rfl | with_reducible assumption) (by omega) ?_
      | refine WR.si hz rfl rfl rfl rfl (by first | with_reducible rfl | with_reducible assumption) (by omega) ?_
      | refine WR.az hz rfl rfl rfl rfl (by first | with_reducible rfl | with_reducible assumption) (by omega) ?_
      | refine WR.sz hz rfl rfl rfl rfl (by first | with_reducible rfl | with_reducible assumption) (by omega) (by decide) ?_
      | refine WR.pi hz rfl ?_
      | refine WR.rt rfl rfl rfl rfl ?_
      | refine WR.rz rfl rfl (by decide) ?_)
  · rename_i h
    have h33 : x_u I 81 r (I 74 32) 74 33 = nI s := by rw [x_u_ne _ _ (by omega)]; exact hs
    have h31 : x_u I 81 r (I 74 32) 74 31 = I 74 31 := x_u_ne _ _ (by omega)
    have h32 : x_u I 81 r (I 74 32) 74 32 = I 74 32 := x_u_ne _ _ (by omega)
    have h34 : x_u I 81 r (I 74 32) 74 34 = I 74 34 := x_u_ne _ _ (by omega)
    have h82 : x_u I 81 r (I 74 32) 82 r = I 82 r := x_u_ne _ _ (by omega)
    have hw1 : f_wok (x_u I 81 r (I 74 32)) := f_wok_eq (x_u_ne _ _ (by omega)) hw
    repeat' ((with_reducible fail_if_success show WR _ _ _ 43 _ _ _ _); (first
      | (with_reducible refine WR.lt (by omega) (by omega) (fun _ => ?_) (fun _ => ?_) <;> try (exfalso; omega))
      | (with_reducible refine WR.le (by omega) (by omega) (fun _ => ?_) (fun _ => ?_) <;> try (exfalso; omega))
      | (with_reducible refine WR.eq (by omega) (by omega) (fun _ => ?_) (fun _ => ?_) <;> try (exfalso; omega))
      | (with_reducible refine WR.ne (by omega) (by omega) (fun _ => ?_) (fun _ => ?_) <;> try (exfalso; omega))
      | with_reducible refine WR.lt0 (by omega) ?_
      | with_reducible refine WR.ge0 (by omega) ?_
      | (with_reducible refine WR.bz (fun _ => ?_) (fun _ => ?_))
      | (with_reducible refine WR.bn (fun _ => ?_) (fun _ => ?_))
      | (with_reducible refine WR.br (fun _ => ?_) (fun _ => ?_) <;> try contradiction)
      | refine WR.gik hz rfl (by with_reducible assumption) ?_
      | refine WR.gi hz rfl ?_
      | refine WR.gr hz rfl rfl ?_
      | refine WR.addn rfl (by with_reducible rfl) (by with_reducible rfl) ?_
      | refine WR.muln rfl (by with_reducible rfl) (by with_reducible rfl) ?_
      | refine WR.subn rfl (by with_reducible rfl) (by with_reducible rfl) (by omega) ?_
      | (refine WR.incn rfl rfl ?_; dsimp only [List.set])
      | (refine WR.go rfl rfl ?_; try dsimp only [List.set])
      | refine WR.aik hz rfl rfl rfl rfl (by first | with_reducible rfl | with_reducible assumption) (by omega) (by with_reducible assumption) ?_
      | refine WR.ai hz rfl rfl rfl rfl (by first | with_reducible rfl | with_reducible assumption) (by omega) ?_
      | refine WR.si hz rfl rfl rfl rfl (by first | with_reducible rfl | with_reducible assumption) (by omega) ?_
      | refine WR.az hz rfl rfl rfl rfl (by first | with_reducible rfl | with_reducible assumption) (by omega) ?_
      | refine WR.sz hz rfl rfl rfl rfl (by first | with_reducible rfl | with_reducible assumption) (by omega) (by decide) ?_
      | refine WR.pi hz rfl ?_
      | refine WR.rt rfl rfl rfl rfl ?_
      | refine WR.rz rfl rfl (by decide) ?_))
    generalize hJ : x_u I 81 r (I 74 32) = J at *
    iterate 8 (first
      | (with_reducible refine WR.lt (by omega) (by omega) (fun _ => ?_) (fun _ => ?_) <;> try (exfalso; omega))
      | (with_reducible refine WR.le (by omega) (by omega) (fun _ => ?_) (fun _ => ?_) <;> try (exfalso; omega))
      | (with_reducible refine WR.eq (by omega) (by omega) (fun _ => ?_) (fun _ => ?_) <;> try (exfalso; omega))
      | (with_reducible refine WR.ne (by omega) (by omega) (fun _ => ?_) (fun _ => ?_) <;> try (exfalso; omega))
      | with_reducible refine WR.lt0 (by omega) ?_
      | with_reducible refine WR.ge0 (by omega) ?_
      | (with_reducible refine WR.bz (fun _ => ?_) (fun _ => ?_))
      | (with_reducible refine WR.bn (fun _ => ?_) (fun _ => ?_))
      | (with_reducible refine WR.br (fun _ => ?_) (fun _ => ?_) <;> try contradiction)
      | refine WR.gik hz rfl (by with_reducible assumption) ?_
      | refine WR.gi hz rfl ?_
      | refine WR.gr hz rfl rfl ?_
      | refine WR.addn rfl (by with_reducible rfl) (by with_reducible rfl) ?_
      | refine WR.muln rfl (by with_reducible rfl) (by with_reducible rfl) ?_
      | refine WR.subn rfl (by with_reducible rfl) (by with_reducible rfl) (by omega) ?_
      | (refine WR.incn rfl rfl ?_; dsimp only [List.set])
      | (refine WR.go rfl rfl ?_; try dsimp only [List.set])
      | refine WR.aik hz rfl rfl rfl rfl (by first | with_reducible rfl | with_reducible assumption) (by omega) (by with_reducible assumption) ?_
      | refine WR.ai hz rfl rfl rfl rfl (by first | with_reducible rfl | with_reducible assumption) (by omega) ?_
      | refine WR.si hz rfl rfl rfl rfl (by first | with_reducible rfl | with_reducible assumption) (by omega) ?_
      | refine WR.az hz rfl rfl rfl rfl (by first | with_reducible rfl | with_reducible assumption) (by omega) ?_
      | refine WR.sz hz rfl rfl rfl rfl (by first | with_reducible rfl | with_reducible assumption) (by omega) (by decide) ?_
      | refine WR.pi hz rfl ?_
      | refine WR.rt rfl rfl rfl rfl ?_
      | refine WR.rz rfl rfl (by decide) ?_)
    · rename_i h2
      repeat' ((with_reducible fail_if_success show WR _ _ _ 90 _ _ _ _); (first
      | (with_reducible refine WR.lt (by omega) (by omega) (fun _ => ?_) (fun _ => ?_) <;> try (exfalso; omega))
      | (with_reducible refine WR.le (by omega) (by omega) (fun _ => ?_) (fun _ => ?_) <;> try (exfalso; omega))
      | (with_reducible refine WR.eq (by omega) (by omega) (fun _ => ?_) (fun _ => ?_) <;> try (exfalso; omega))
      | (with_reducible refine WR.ne (by omega) (by omega) (fun _ => ?_) (fun _ => ?_) <;> try (exfalso; omega))
      | with_reducible refine WR.lt0 (by omega) ?_
      | with_reducible refine WR.ge0 (by omega) ?_
      | (with_reducible refine WR.bz (fun _ => ?_) (fun _ => ?_))
      | (with_reducible refine WR.bn (fun _ => ?_) (fun _ => ?_))
      | (with_reducible refine WR.br (fun _ => ?_) (fun _ => ?_) <;> try contradiction)
      | refine WR.gik hz rfl (by with_reducible assumption) ?_
      | refine WR.gi hz rfl ?_
      | refine WR.gr hz rfl rfl ?_
      | refine WR.addn rfl (by with_reducible rfl) (by with_reducible rfl) ?_
      | refine WR.muln rfl (by with_reducible rfl) (by with_reducible rfl) ?_
      | refine WR.subn rfl (by with_reducible rfl) (by with_reducible rfl) (by omega) ?_
      | (refine WR.incn rfl rfl ?_; dsimp only [List.set])
      | (refine WR.go rfl rfl ?_; try dsimp only [List.set])
      | refine WR.aik hz rfl rfl rfl rfl (by first | with_reducible rfl | with_reducible assumption) (by omega) (by with_reducible assumption) ?_
      | refine WR.ai hz rfl rfl rfl rfl (by first | with_reducible rfl | with_reducible assumption) (by omega) ?_
      | refine WR.si hz rfl rfl rfl rfl (by first | with_reducible rfl | with_reducible assumption) (by omega) ?_
      | refine WR.az hz rfl rfl rfl rfl (by first | with_reducible rfl | with_reducible assumption) (by omega) ?_
      | refine WR.sz hz rfl rfl rfl rfl (by first | with_reducible rfl | with_reducible assumption) (by omega) (by decide) ?_
      | refine WR.pi hz rfl ?_
      | refine WR.rt rfl rfl rfl rfl ?_
      | refine WR.rz rfl rfl (by decide) ?_))
      refine WR.V4v hz rfl rfl (r_cast d _ _ _ hr (by omega) hz) ?_
      have k33 : f_cast J r s (I 74 32) (I 74 34) 74 33 = nI s := by rw [f_cast, x_u_ne _ _ (by omega), x_u_ne _ _ (by omega)]; exact h33
      have k31 : f_cast J r s (I 74 32) (I 74 34) 74 31 = I 74 31 := by rw [f_cast, x_u_ne _ _ (by omega), x_u_ne _ _ (by omega)]; exact h31
      have k32 : f_cast J r s (I 74 32) (I 74 34) 74 32 = I 74 32 := by rw [f_cast, x_u_ne _ _ (by omega), x_u_ne _ _ (by omega)]; exact h32
      have hw2 : f_wok (f_cast J r s (I 74 32) (I 74 34)) := f_wok_eq (by rw [f_cast, x_u_ne _ _ (by omega), x_u_ne _ _ (by omega)]) hw1
      repeat' ((with_reducible fail_if_success show WR _ _ _ 109 _ _ _ _); (first
      | (with_reducible refine WR.lt (by omega) (by omega) (fun _ => ?_) (fun _ => ?_) <;> try (exfalso; omega))
      | (with_reducible refine WR.le (by omega) (by omega) (fun _ => ?_) (fun _ => ?_) <;> try (exfalso; omega))
      | (with_reducible refine WR.eq (by omega) (by omega) (fun _ => ?_) (fun _ => ?_) <;> try (exfalso; omega))
      | (with_reducible refine WR.ne (by omega) (by omega) (fun _ => ?_) (fun _ => ?_) <;> try (exfalso; omega))
      | with_reducible refine WR.lt0 (by omega) ?_
      | with_reducible refine WR.ge0 (by omega) ?_
      | (with_reducible refine WR.bz (fun _ => ?_) (fun _ => ?_))
      | (with_reducible refine WR.bn (fun _ => ?_) (fun _ => ?_))
      | (with_reducible refine WR.br (fun _ => ?_) (fun _ => ?_) <;> try contradiction)
      | refine WR.gik hz rfl (by with_reducible assumption) ?_
      | refine WR.gi hz rfl ?_
      | refine WR.gr hz rfl rfl ?_
      | refine WR.addn rfl (by with_reducible rfl) (by with_reducible rfl) ?_
      | refine WR.muln rfl (by with_reducible rfl) (by with_reducible rfl) ?_
      | refine WR.subn rfl (by with_reducible rfl) (by with_reducible rfl) (by omega) ?_
      | (refine WR.incn rfl rfl ?_; dsimp only [List.set])
      | (refine WR.go rfl rfl ?_; try dsimp only [List.set])
      | refine WR.aik hz rfl rfl rfl rfl (by first | with_reducible rfl | with_reducible assumption) (by omega) (by with_reducible assumption) ?_
      | refine WR.ai hz rfl rfl rfl rfl (by first | with_reducible rfl | with_reducible assumption) (by omega) ?_
      | refine WR.si hz rfl rfl rfl rfl (by first | with_reducible rfl | with_reducible assumption) (by omega) ?_
      | refine WR.az hz rfl rfl rfl rfl (by first | with_reducible rfl | with_reducible assumption) (by omega) ?_
      | refine WR.sz hz rfl rfl rfl rfl (by first | with_reducible rfl | with_reducible assumption) (by omega) (by decide) ?_
      | refine WR.pi hz rfl ?_
      | refine WR.rt rfl rfl rfl rfl ?_
      | refine WR.rz rfl rfl (by decide) ?_))
      refine WR.V6v hz rfl rfl (r_mail d _ (nI 4) (I 74 31) (I 74 32) (nI s) (nI 0) hr hw2.1 hw2.2 hz) ?_
      iterate 1 (first
      | (with_reducible refine WR.lt (by omega) (by omega) (fun _ => ?_) (fun _ => ?_) <;> try (exfalso; omega))
      | (with_reducible refine WR.le (by omega) (by omega) (fun _ => ?_) (fun _ => ?_) <;> try (exfalso; omega))
      | (with_reducible refine WR.eq (by omega) (by omega) (fun _ => ?_) (fun _ => ?_) <;> try (exfalso; omega))
      | (with_reducible refine WR.ne (by omega) (by omega) (fun _ => ?_) (fun _ => ?_) <;> try (exfalso; omega))
      | with_reducible refine WR.lt0 (by omega) ?_
      | with_reducible refine WR.ge0 (by omega) ?_
      | (with_reducible refine WR.bz (fun _ => ?_) (fun _ => ?_))
      | (with_reducible refine WR.bn (fun _ => ?_) (fun _ => ?_))
      | (with_reducible refine WR.br (fun _ => ?_) (fun _ => ?_) <;> try contradiction)
      | refine WR.gik hz rfl (by with_reducible assumption) ?_
      | refine WR.gi hz rfl ?_
      | refine WR.gr hz rfl rfl ?_
      | refine WR.addn rfl (by with_reducible rfl) (by with_reducible rfl) ?_
      | refine WR.muln rfl (by with_reducible rfl) (by with_reducible rfl) ?_
      | refine WR.subn rfl (by with_reducible rfl) (by with_reducible rfl) (by omega) ?_
      | (refine WR.incn rfl rfl ?_; dsimp only [List.set])
      | (refine WR.go rfl rfl ?_; try dsimp only [List.set])
      | refine WR.aik hz rfl rfl rfl rfl (by first | with_reducible rfl | with_reducible assumption) (by omega) (by with_reducible assumption) ?_
      | refine WR.ai hz rfl rfl rfl rfl (by first | with_reducible rfl | with_reducible assumption) (by omega) ?_
      | refine WR.si hz rfl rfl rfl rfl (by first | with_reducible rfl | with_reducible assumption) (by omega) ?_
      | refine WR.az hz rfl rfl rfl rfl (by first | with_reducible rfl | with_reducible assumption) (by omega) ?_
      | refine WR.sz hz rfl rfl rfl rfl (by first | with_reducible rfl | with_reducible assumption) (by omega) (by decide) ?_
      | refine WR.pi hz rfl ?_
      | refine WR.rt rfl rfl rfl rfl ?_
      | refine WR.rz rfl rfl (by decide) ?_)
      exact ⟨by rw [f_oAcc, if_neg (Int32.not_lt.mpr h), if_neg (Int32.not_le.mpr h2), hJ]; rfl, rfl⟩
    · rename_i h2
      repeat' ((with_reducible fail_if_success show WR _ _ _ 72 _ _ _ _); (first
      | (with_reducible refine WR.lt (by omega) (by omega) (fun _ => ?_) (fun _ => ?_) <;> try (exfalso; omega))
      | (with_reducible refine WR.le (by omega) (by omega) (fun _ => ?_) (fun _ => ?_) <;> try (exfalso; omega))
      | (with_reducible refine WR.eq (by omega) (by omega) (fun _ => ?_) (fun _ => ?_) <;> try (exfalso; omega))
      | (with_reducible refine WR.ne (by omega) (by omega) (fun _ => ?_) (fun _ => ?_) <;> try (exfalso; omega))
      | with_reducible refine WR.lt0 (by omega) ?_
      | with_reducible refine WR.ge0 (by omega) ?_
      | (with_reducible refine WR.bz (fun _ => ?_) (fun _ => ?_))
      | (with_reducible refine WR.bn (fun _ => ?_) (fun _ => ?_))
      | (with_reducible refine WR.br (fun _ => ?_) (fun _ => ?_) <;> try contradiction)
      | refine WR.gik hz rfl (by with_reducible assumption) ?_
      | refine WR.gi hz rfl ?_
      | refine WR.gr hz rfl rfl ?_
      | refine WR.addn rfl (by with_reducible rfl) (by with_reducible rfl) ?_
      | refine WR.muln rfl (by with_reducible rfl) (by with_reducible rfl) ?_
      | refine WR.subn rfl (by with_reducible rfl) (by with_reducible rfl) (by omega) ?_
      | (refine WR.incn rfl rfl ?_; dsimp only [List.set])
      | (refine WR.go rfl rfl ?_; try dsimp only [List.set])
      | refine WR.aik hz rfl rfl rfl rfl (by first | with_reducible rfl | with_reducible assumption) (by omega) (by with_reducible assumption) ?_
      | refine WR.ai hz rfl rfl rfl rfl (by first | with_reducible rfl | with_reducible assumption) (by omega) ?_
      | refine WR.si hz rfl rfl rfl rfl (by first | with_reducible rfl | with_reducible assumption) (by omega) ?_
      | refine WR.az hz rfl rfl rfl rfl (by first | with_reducible rfl | with_reducible assumption) (by omega) ?_
      | refine WR.sz hz rfl rfl rfl rfl (by first | with_reducible rfl | with_reducible assumption) (by omega) (by decide) ?_
      | refine WR.pi hz rfl ?_
      | refine WR.rt rfl rfl rfl rfl ?_
      | refine WR.rz rfl rfl (by decide) ?_))
      refine WR.V6v hz rfl rfl (r_mail d _ (nI 8) (I 74 31) (nI 0) (I 82 r) (nI 0) hr hw1.1 hw1.2 hz) ?_
      iterate 1 (first
      | (with_reducible refine WR.lt (by omega) (by omega) (fun _ => ?_) (fun _ => ?_) <;> try (exfalso; omega))
      | (with_reducible refine WR.le (by omega) (by omega) (fun _ => ?_) (fun _ => ?_) <;> try (exfalso; omega))
      | (with_reducible refine WR.eq (by omega) (by omega) (fun _ => ?_) (fun _ => ?_) <;> try (exfalso; omega))
      | (with_reducible refine WR.ne (by omega) (by omega) (fun _ => ?_) (fun _ => ?_) <;> try (exfalso; omega))
      | with_reducible refine WR.lt0 (by omega) ?_
      | with_reducible refine WR.ge0 (by omega) ?_
      | (with_reducible refine WR.bz (fun _ => ?_) (fun _ => ?_))
      | (with_reducible refine WR.bn (fun _ => ?_) (fun _ => ?_))
      | (with_reducible refine WR.br (fun _ => ?_) (fun _ => ?_) <;> try contradiction)
      | refine WR.gik hz rfl (by with_reducible assumption) ?_
      | refine WR.gi hz rfl ?_
      | refine WR.gr hz rfl rfl ?_
      | refine WR.addn rfl (by with_reducible rfl) (by with_reducible rfl) ?_
      | refine WR.muln rfl (by with_reducible rfl) (by with_reducible rfl) ?_
      | refine WR.subn rfl (by with_reducible rfl) (by with_reducible rfl) (by omega) ?_
      | (refine WR.incn rfl rfl ?_; dsimp only [List.set])
      | (refine WR.go rfl rfl ?_; try dsimp only [List.set])
      | refine WR.aik hz rfl rfl rfl rfl (by first | with_reducible rfl | with_reducible assumption) (by omega) (by with_reducible assumption) ?_
      | refine WR.ai hz rfl rfl rfl rfl (by first | with_reducible rfl | with_reducible assumption) (by omega) ?_
      | refine WR.si hz rfl rfl rfl rfl (by first | with_reducible rfl | with_reducible assumption) (by omega) ?_
      | refine WR.az hz rfl rfl rfl rfl (by first | with_reducible rfl | with_reducible assumption) (by omega) ?_
      | refine WR.sz hz rfl rfl rfl rfl (by first | with_reducible rfl | with_reducible assumption) (by omega) (by decide) ?_
      | refine WR.pi hz rfl ?_
      | refine WR.rt rfl rfl rfl rfl ?_
      | refine WR.rz rfl rfl (by decide) ?_)
      exact ⟨by rw [f_oAcc, if_neg (Int32.not_lt.mpr h), if_pos (Int32.not_lt.mp h2), hJ]; rfl, rfl⟩
  · rename_i h
    repeat' ((with_reducible fail_if_success show WR _ _ _ 29 _ _ _ _); (first
      | (with_reducible refine WR.lt (by omega) (by omega) (fun _ => ?_) (fun _ => ?_) <;> try (exfalso; omega))
      | (with_reducible refine WR.le (by omega) (by omega) (fun _ => ?_) (fun _ => ?_) <;> try (exfalso; omega))
      | (with_reducible refine WR.eq (by omega) (by omega) (fun _ => ?_) (fun _ => ?_) <;> try (exfalso; omega))
      | (with_reducible refine WR.ne (by omega) (by omega) (fun _ => ?_) (fun _ => ?_) <;> try (exfalso; omega))
      | with_reducible refine WR.lt0 (by omega) ?_
      | with_reducible refine WR.ge0 (by omega) ?_
      | (with_reducible refine WR.bz (fun _ => ?_) (fun _ => ?_))
      | (with_reducible refine WR.bn (fun _ => ?_) (fun _ => ?_))
      | (with_reducible refine WR.br (fun _ => ?_) (fun _ => ?_) <;> try contradiction)
      | refine WR.gik hz rfl (by with_reducible assumption) ?_
      | refine WR.gi hz rfl ?_
      | refine WR.gr hz rfl rfl ?_
      | refine WR.addn rfl (by with_reducible rfl) (by with_reducible rfl) ?_
      | refine WR.muln rfl (by with_reducible rfl) (by with_reducible rfl) ?_
      | refine WR.subn rfl (by with_reducible rfl) (by with_reducible rfl) (by omega) ?_
      | (refine WR.incn rfl rfl ?_; dsimp only [List.set])
      | (refine WR.go rfl rfl ?_; try dsimp only [List.set])
      | refine WR.aik hz rfl rfl rfl rfl (by first | with_reducible rfl | with_reducible assumption) (by omega) (by with_reducible assumption) ?_
      | refine WR.ai hz rfl rfl rfl rfl (by first | with_reducible rfl | with_reducible assumption) (by omega) ?_
      | refine WR.si hz rfl rfl rfl rfl (by first | with_reducible rfl | with_reducible assumption) (by omega) ?_
      | refine WR.az hz rfl rfl rfl rfl (by first | with_reducible rfl | with_reducible assumption) (by omega) ?_
      | refine WR.sz hz rfl rfl rfl rfl (by first | with_reducible rfl | with_reducible assumption) (by omega) (by decide) ?_
      | refine WR.pi hz rfl ?_
      | refine WR.rt rfl rfl rfl rfl ?_
      | refine WR.rz rfl rfl (by decide) ?_))
    refine WR.V6v hz rfl rfl (r_mail d I (nI 6) (I 74 31) (nI 0) (I 81 r) (nI 0) hr hw.1 hw.2 hz) ?_
    iterate 1 (first
      | (with_reducible refine WR.lt (by omega) (by omega) (fun _ => ?_) (fun _ => ?_) <;> try (exfalso; omega))
      | (with_reducible refine WR.le (by omega) (by omega) (fun _ => ?_) (fun _ => ?_) <;> try (exfalso; omega))
      | (with_reducible refine WR.eq (by omega) (by omega) (fun _ => ?_) (fun _ => ?_) <;> try (exfalso; omega))
      | (with_reducible refine WR.ne (by omega) (by omega) (fun _ => ?_) (fun _ => ?_) <;> try (exfalso; omega))
      | with_reducible refine WR.lt0 (by omega) ?_
      | with_reducible refine WR.ge0 (by omega) ?_
      | (with_reducible refine WR.bz (fun _ => ?_) (fun _ => ?_))
      | (with_reducible refine WR.bn (fun _ => ?_) (fun _ => ?_))
      | (with_reducible refine WR.br (fun _ => ?_) (fun _ => ?_) <;> try contradiction)
      | refine WR.gik hz rfl (by with_reducible assumption) ?_
      | refine WR.gi hz rfl ?_
      | refine WR.gr hz rfl rfl ?_
      | refine WR.addn rfl (by with_reducible rfl) (by with_reducible rfl) ?_
      | refine WR.muln rfl (by with_reducible rfl) (by with_reducible rfl) ?_
      | refine WR.subn rfl (by with_reducible rfl) (by with_reducible rfl) (by omega) ?_
      | (refine WR.incn rfl rfl ?_; dsimp only [List.set])
      | (refine WR.go rfl rfl ?_; try dsimp only [List.set])
      | refine WR.aik hz rfl rfl rfl rfl (by first | with_reducible rfl | with_reducible assumption) (by omega) (by with_reducible assumption) ?_
      | refine WR.ai hz rfl rfl rfl rfl (by first | with_reducible rfl | with_reducible assumption) (by omega) ?_
      | refine WR.si hz rfl rfl rfl rfl (by first | with_reducible rfl | with_reducible assumption) (by omega) ?_
      | refine WR.az hz rfl rfl rfl rfl (by first | with_reducible rfl | with_reducible assumption) (by omega) ?_
      | refine WR.sz hz rfl rfl rfl rfl (by first | with_reducible rfl | with_reducible assumption) (by omega) (by decide) ?_
      | refine WR.pi hz rfl ?_
      | refine WR.rt rfl rfl rfl rfl ?_
      | refine WR.rz rfl rfl (by decide) ?_)
    exact ⟨by rw [f_oAcc, if_pos (Int32.not_le.mp h)]; rfl, rfl⟩
def f_oLearn (I : xI) (r s e : Nat) : xI := if (decide (nI s ≤ I 83 r) || f_know I r s) = true then I else f_go (x_u I 84 r (I 84 r ||| (nI 1 <<< (nI s &&& 31)))) r e
set_option maxHeartbeats 4000000 in
theorem r_oLearn (d : Nat) (I : xI) {r s e : Nat} (hr : r < 5) (hs : I 74 33 = nI s) (hs2 : s ≤ 24) (he : I 83 r = nI e) (he2 : e ≤ 24) (hf : f_wf I) (hw : f_wok I) (hz : zok Z) : ER Z (d + 6) 126 I [.ref 74, .int (nI r)] (fun I' v => I' = f_oLearn I r s e ∧ v = none) := by
  refine ER.of (ls := [some (.ref 74), some (.int (nI r))]) rfl rfl ?_
  iterate 8 (first
      | (with_reducible refine WR.lt (by omega) (by omega) (fun _ => ?_) (fun _ => ?_) <;> try (exfalso; omega))
      | (with_reducible refine WR.le (by omega) (by omega) (fun _ => ?_) (fun _ => ?_) <;> try (exfalso; omega))
      | (with_reducible refine WR.eq (by omega) (by omega) (fun _ => ?_) (fun _ => ?_) <;> try (exfalso; omega))
      | (with_reducible refine WR.ne (by omega) (by omega) (fun _ => ?_) (fun _ => ?_) <;> try (exfalso; omega))
      | with_reducible refine WR.lt0 (by omega) ?_
      | with_reducible refine WR.ge0 (by omega) ?_
      | (with_reducible refine WR.bz (fun _ => ?_) (fun _ => ?_))
      | (with_reducible refine WR.bn (fun _ => ?_) (fun _ => ?_))
      | (with_reducible refine WR.br (fun _ => ?_) (fun _ => ?_) <;> try contradiction)
      | refine WR.gik hz rfl (by with_reducible assumption) ?_
      | refine WR.gi hz rfl ?_
      | refine WR.gr hz rfl rfl ?_
      | refine WR.addn rfl (by with_reducible rfl) (by with_reducible rfl) ?_
      | refine WR.muln rfl (by with_reducible rfl) (by with_reducible rfl) ?_
      | refine WR.subn rfl (by with_reducible rfl) (by with_reducible rfl) (by omega) ?_
      | (refine WR.incn rfl rfl ?_; dsimp only [List.set])
      | (refine WR.go rfl rfl ?_; try dsimp only [List.set])
      | refine WR.aik hz rfl rfl rfl rfl (by first | with_reducible rfl | with_reducible assumption) (by omega) (by with_reducible assumption) ?_
      | refine WR.ai hz rfl rfl rfl rfl (by first | with_reducible rfl | with_reducible assumption) (by omega) ?_
      | refine WR.si hz rfl rfl rfl rfl (by first | with_reducible rfl | with_reducible assumption) (by omega) ?_
      | refine WR.az hz rfl rfl rfl rfl (by first | with_reducible rfl | with_reducible assumption) (by omega) ?_
      | refine WR.sz hz rfl rfl rfl rfl (by first | with_reducible rfl | with_reducible assumption) (by omega) (by decide) ?_
      | refine WR.pi hz rfl ?_
      | refine WR.rt rfl rfl rfl rfl ?_
      | refine WR.rz rfl rfl (by decide) ?_)
  · rename_i h
    iterate 1 (first
      | (with_reducible refine WR.lt (by omega) (by omega) (fun _ => ?_) (fun _ => ?_) <;> try (exfalso; omega))
      | (with_reducible refine WR.le (by omega) (by omega) (fun _ => ?_) (fun _ => ?_) <;> try (exfalso; omega))
      | (with_reducible refine WR.eq (by omega) (by omega) (fun _ => ?_) (fun _ => ?_) <;> try (exfalso; omega))
      | (with_reducible refine WR.ne (by omega) (by omega) (fun _ => ?_) (fun _ => ?_) <;> try (exfalso; omega))
      | with_reducible refine WR.lt0 (by omega) ?_
      | with_reducible refine WR.ge0 (by omega) ?_
      | (with_reducible refine WR.bz (fun _ => ?_) (fun _ => ?_))
      | (with_reducible refine WR.bn (fun _ => ?_) (fun _ => ?_))
      | (with_reducible refine WR.br (fun _ => ?_) (fun _ => ?_) <;> try contradiction)
      | refine WR.gik hz rfl (by with_reducible assumption) ?_
      | refine WR.gi hz rfl ?_
      | refine WR.gr hz rfl rfl ?_
      | refine WR.addn rfl (by with_reducible rfl) (by with_reducible rfl) ?_
      | refine WR.muln rfl (by with_reducible rfl) (by with_reducible rfl) ?_
      | refine WR.subn rfl (by with_reducible rfl) (by with_reducible rfl) (by omega) ?_
      | (refine WR.incn rfl rfl ?_; dsimp only [List.set])
      | (refine WR.go rfl rfl ?_; try dsimp only [List.set])
      | refine WR.aik hz rfl rfl rfl rfl (by first | with_reducible rfl | with_reducible assumption) (by omega) (by with_reducible assumption) ?_
      | refine WR.ai hz rfl rfl rfl rfl (by first | with_reducible rfl | with_reducible assumption) (by omega) ?_
      | refine WR.si hz rfl rfl rfl rfl (by first | with_reducible rfl | with_reducible assumption) (by omega) ?_
      | refine WR.az hz rfl rfl rfl rfl (by first | with_reducible rfl | with_reducible assumption) (by omega) ?_
      | refine WR.sz hz rfl rfl rfl rfl (by first | with_reducible rfl | with_reducible assumption) (by omega) (by decide) ?_
      | refine WR.pi hz rfl ?_
      | refine WR.rt rfl rfl rfl rfl ?_
      | refine WR.rz rfl rfl (by decide) ?_)
    exact ⟨by rw [f_oLearn, if_pos (by rw [he]; simp; exact Or.inl (nI_le h (by omega)))], rfl⟩
  · rename_i h
    repeat' ((with_reducible fail_if_success show WR _ _ _ 19 _ _ _ _); (first
      | (with_reducible refine WR.lt (by omega) (by omega) (fun _ => ?_) (fun _ => ?_) <;> try (exfalso; omega))
      | (with_reducible refine WR.le (by omega) (by omega) (fun _ => ?_) (fun _ => ?_) <;> try (exfalso; omega))
      | (with_reducible refine WR.eq (by omega) (by omega) (fun _ => ?_) (fun _ => ?_) <;> try (exfalso; omega))
      | (with_reducible refine WR.ne (by omega) (by omega) (fun _ => ?_) (fun _ => ?_) <;> try (exfalso; omega))
      | with_reducible refine WR.lt0 (by omega) ?_
      | with_reducible refine WR.ge0 (by omega) ?_
      | (with_reducible refine WR.bz (fun _ => ?_) (fun _ => ?_))
      | (with_reducible refine WR.bn (fun _ => ?_) (fun _ => ?_))
      | (with_reducible refine WR.br (fun _ => ?_) (fun _ => ?_) <;> try contradiction)
      | refine WR.gik hz rfl (by with_reducible assumption) ?_
      | refine WR.gi hz rfl ?_
      | refine WR.gr hz rfl rfl ?_
      | refine WR.addn rfl (by with_reducible rfl) (by with_reducible rfl) ?_
      | refine WR.muln rfl (by with_reducible rfl) (by with_reducible rfl) ?_
      | refine WR.subn rfl (by with_reducible rfl) (by with_reducible rfl) (by omega) ?_
      | (refine WR.incn rfl rfl ?_; dsimp only [List.set])
      | (refine WR.go rfl rfl ?_; try dsimp only [List.set])
      | refine WR.aik hz rfl rfl rfl rfl (by first | with_reducible rfl | with_reducible assumption) (by omega) (by with_reducible assumption) ?_
      | refine WR.ai hz rfl rfl rfl rfl (by first | with_reducible rfl | with_reducible assumption) (by omega) ?_
      | refine WR.si hz rfl rfl rfl rfl (by first | with_reducible rfl | with_reducible assumption) (by omega) ?_
      | refine WR.az hz rfl rfl rfl rfl (by first | with_reducible rfl | with_reducible assumption) (by omega) ?_
      | refine WR.sz hz rfl rfl rfl rfl (by first | with_reducible rfl | with_reducible assumption) (by omega) (by decide) ?_
      | refine WR.pi hz rfl ?_
      | refine WR.rt rfl rfl rfl rfl ?_
      | refine WR.rz rfl rfl (by decide) ?_))
    refine WR.V2i hz rfl rfl (r_knows (d + 4) I s hr hz) ?_
    iterate 2 (first
      | (with_reducible refine WR.lt (by omega) (by omega) (fun _ => ?_) (fun _ => ?_) <;> try (exfalso; omega))
      | (with_reducible refine WR.le (by omega) (by omega) (fun _ => ?_) (fun _ => ?_) <;> try (exfalso; omega))
      | (with_reducible refine WR.eq (by omega) (by omega) (fun _ => ?_) (fun _ => ?_) <;> try (exfalso; omega))
      | (with_reducible refine WR.ne (by omega) (by omega) (fun _ => ?_) (fun _ => ?_) <;> try (exfalso; omega))
      | with_reducible refine WR.lt0 (by omega) ?_
      | with_reducible refine WR.ge0 (by omega) ?_
      | (with_reducible refine WR.bz (fun _ => ?_) (fun _ => ?_))
      | (with_reducible refine WR.bn (fun _ => ?_) (fun _ => ?_))
      | (with_reducible refine WR.br (fun _ => ?_) (fun _ => ?_) <;> try contradiction)
      | refine WR.gik hz rfl (by with_reducible assumption) ?_
      | refine WR.gi hz rfl ?_
      | refine WR.gr hz rfl rfl ?_
      | refine WR.addn rfl (by with_reducible rfl) (by with_reducible rfl) ?_
      | refine WR.muln rfl (by with_reducible rfl) (by with_reducible rfl) ?_
      | refine WR.subn rfl (by with_reducible rfl) (by with_reducible rfl) (by omega) ?_
      | (refine WR.incn rfl rfl ?_; dsimp only [List.set])
      | (refine WR.go rfl rfl ?_; try dsimp only [List.set])
      | refine WR.aik hz rfl rfl rfl rfl (by first | with_reducible rfl | with_reducible assumption) (by omega) (by with_reducible assumption) ?_
      | refine WR.ai hz rfl rfl rfl rfl (by first | with_reducible rfl | with_reducible assumption) (by omega) ?_
      | refine WR.si hz rfl rfl rfl rfl (by first | with_reducible rfl | with_reducible assumption) (by omega) ?_
      | refine WR.az hz rfl rfl rfl rfl (by first | with_reducible rfl | with_reducible assumption) (by omega) ?_
      | refine WR.sz hz rfl rfl rfl rfl (by first | with_reducible rfl | with_reducible assumption) (by omega) (by decide) ?_
      | refine WR.pi hz rfl ?_
      | refine WR.rt rfl rfl rfl rfl ?_
      | refine WR.rz rfl rfl (by decide) ?_)
    · rename_i h2
      repeat' ((with_reducible fail_if_success show WR _ _ _ 43 _ _ _ _); (first
      | (with_reducible refine WR.lt (by omega) (by omega) (fun _ => ?_) (fun _ => ?_) <;> try (exfalso; omega))
      | (with_reducible refine WR.le (by omega) (by omega) (fun _ => ?_) (fun _ => ?_) <;> try (exfalso; omega))
      | (with_reducible refine WR.eq (by omega) (by omega) (fun _ => ?_) (fun _ => ?_) <;> try (exfalso; omega))
      | (with_reducible refine WR.ne (by omega) (by omega) (fun _ => ?_) (fun _ => ?_) <;> try (exfalso; omega))
      | with_reducible refine WR.lt0 (by omega) ?_
      | with_reducible refine WR.ge0 (by omega) ?_
      | (with_reducible refine WR.bz (fun _ => ?_) (fun _ => ?_))
      | (with_reducible refine WR.bn (fun _ => ?_) (fun _ => ?_))
      | (with_reducible refine WR.br (fun _ => ?_) (fun _ => ?_) <;> try contradiction)
      | refine WR.gik hz rfl (by with_reducible assumption) ?_
      | refine WR.gi hz rfl ?_
      | refine WR.gr hz rfl rfl ?_
      | refine WR.addn rfl (by with_reducible rfl) (by with_reducible rfl) ?_
      | refine WR.muln rfl (by with_reducible rfl) (by with_reducible rfl) ?_
      | refine WR.subn rfl (by with_reducible rfl) (by with_reducible rfl) (by omega) ?_
      | (refine WR.incn rfl rfl ?_; dsimp only [List.set])
      | (refine WR.go rfl rfl ?_; try dsimp only [List.set])
      | refine WR.aik hz rfl rfl rfl rfl (by first | with_reducible rfl | with_reducible assumption) (by omega) (by with_reducible assumption) ?_
      | refine WR.ai hz rfl rfl rfl rfl (by first | with_reducible rfl | with_reducible assumption) (by omega) ?_
      | refine WR.si hz rfl rfl rfl rfl (by first | with_reducible rfl | with_reducible assumption) (by omega) ?_
      | refine WR.az hz rfl rfl rfl rfl (by first | with_reducible rfl | with_reducible assumption) (by omega) ?_
      | refine WR.sz hz rfl rfl rfl rfl (by first | with_reducible rfl | with_reducible assumption) (by omega) (by decide) ?_
      | refine WR.pi hz rfl ?_
      | refine WR.rt rfl rfl rfl rfl ?_
      | refine WR.rz rfl rfl (by decide) ?_))
      have hw1 : f_wok (x_u I 84 r (I 84 r ||| (nI 1 <<< (nI s &&& 31)))) := f_wok_eq (x_u_ne _ _ (by omega)) hw
      have hf1 : f_wf (x_u I 84 r (I 84 r ||| (nI 1 <<< (nI s &&& 31)))) := f_wf_eq (fun s => x_u_ne _ _ (by omega)) (fun q => x_u_ne _ _ (by omega)) hf
      refine WR.V1v hz rfl rfl (r_goOn d _ hr (by rw [x_u_ne _ _ (by omega)]; exact he) he2 hf1 hw1 hz) ?_
      iterate 1 (first
      | (with_reducible refine WR.lt (by omega) (by omega) (fun _ => ?_) (fun _ => ?_) <;> try (exfalso; omega))
      | (with_reducible refine WR.le (by omega) (by omega) (fun _ => ?_) (fun _ => ?_) <;> try (exfalso; omega))
      | (with_reducible refine WR.eq (by omega) (by omega) (fun _ => ?_) (fun _ => ?_) <;> try (exfalso; omega))
      | (with_reducible refine WR.ne (by omega) (by omega) (fun _ => ?_) (fun _ => ?_) <;> try (exfalso; omega))
      | with_reducible refine WR.lt0 (by omega) ?_
      | with_reducible refine WR.ge0 (by omega) ?_
      | (with_reducible refine WR.bz (fun _ => ?_) (fun _ => ?_))
      | (with_reducible refine WR.bn (fun _ => ?_) (fun _ => ?_))
      | (with_reducible refine WR.br (fun _ => ?_) (fun _ => ?_) <;> try contradiction)
      | refine WR.gik hz rfl (by with_reducible assumption) ?_
      | refine WR.gi hz rfl ?_
      | refine WR.gr hz rfl rfl ?_
      | refine WR.addn rfl (by with_reducible rfl) (by with_reducible rfl) ?_
      | refine WR.muln rfl (by with_reducible rfl) (by with_reducible rfl) ?_
      | refine WR.subn rfl (by with_reducible rfl) (by with_reducible rfl) (by omega) ?_
      | (refine WR.incn rfl rfl ?_; dsimp only [List.set])
      | (refine WR.go rfl rfl ?_; try dsimp only [List.set])
      | refine WR.aik hz rfl rfl rfl rfl (by first | with_reducible rfl | with_reducible assumption) (by omega) (by with_reducible assumption) ?_
      | refine WR.ai hz rfl rfl rfl rfl (by first | with_reducible rfl | with_reducible assumption) (by omega) ?_
      | refine WR.si hz rfl rfl rfl rfl (by first | with_reducible rfl | with_reducible assumption) (by omega) ?_
      | refine WR.az hz rfl rfl rfl rfl (by first | with_reducible rfl | with_reducible assumption) (by omega) ?_
      | refine WR.sz hz rfl rfl rfl rfl (by first | with_reducible rfl | with_reducible assumption) (by omega) (by decide) ?_
      | refine WR.pi hz rfl ?_
      | refine WR.rt rfl rfl rfl rfl ?_
      | refine WR.rz rfl rfl (by decide) ?_)
      exact ⟨by rw [f_oLearn, if_neg (by rw [he]; simp [h2]; exact nI_lt h (by omega))], rfl⟩
    · rename_i h2
      iterate 1 (first
      | (with_reducible refine WR.lt (by omega) (by omega) (fun _ => ?_) (fun _ => ?_) <;> try (exfalso; omega))
      | (with_reducible refine WR.le (by omega) (by omega) (fun _ => ?_) (fun _ => ?_) <;> try (exfalso; omega))
      | (with_reducible refine WR.eq (by omega) (by omega) (fun _ => ?_) (fun _ => ?_) <;> try (exfalso; omega))
      | (with_reducible refine WR.ne (by omega) (by omega) (fun _ => ?_) (fun _ => ?_) <;> try (exfalso; omega))
      | with_reducible refine WR.lt0 (by omega) ?_
      | with_reducible refine WR.ge0 (by omega) ?_
      | (with_reducible refine WR.bz (fun _ => ?_) (fun _ => ?_))
      | (with_reducible refine WR.bn (fun _ => ?_) (fun _ => ?_))
      | (with_reducible refine WR.br (fun _ => ?_) (fun _ => ?_) <;> try contradiction)
      | refine WR.gik hz rfl (by with_reducible assumption) ?_
      | refine WR.gi hz rfl ?_
      | refine WR.gr hz rfl rfl ?_
      | refine WR.addn rfl (by with_reducible rfl) (by with_reducible rfl) ?_
      | refine WR.muln rfl (by with_reducible rfl) (by with_reducible rfl) ?_
      | refine WR.subn rfl (by with_reducible rfl) (by with_reducible rfl) (by omega) ?_
      | (refine WR.incn rfl rfl ?_; dsimp only [List.set])
      | (refine WR.go rfl rfl ?_; try dsimp only [List.set])
      | refine WR.aik hz rfl rfl rfl rfl (by first | with_reducible rfl | with_reducible assumption) (by omega) (by with_reducible assumption) ?_
      | refine WR.ai hz rfl rfl rfl rfl (by first | with_reducible rfl | with_reducible assumption) (by omega) ?_
      | refine WR.si hz rfl rfl rfl rfl (by first | with_reducible rfl | with_reducible assumption) (by omega) ?_
      | refine WR.az hz rfl rfl rfl rfl (by first | with_reducible rfl | with_reducible assumption) (by omega) ?_
      | refine WR.sz hz rfl rfl rfl rfl (by first | with_reducible rfl | with_reducible assumption) (by omega) (by decide) ?_
      | refine WR.pi hz rfl ?_
      | refine WR.rt rfl rfl rfl rfl ?_
      | refine WR.rz rfl rfl (by decide) ?_)
      exact ⟨by rw [f_oLearn, if_pos (by simp [h2])], rfl⟩
def f_mg (I : xI) (r : Nat) : Nat → xI
  | 0 => I
  | m + 1 => if f_mg I r m 89 (25 * r + (m + 1)) < f_mg I r m 102 (m + 1) then x_u (x_u (f_mg I r m) 89 (25 * r + (m + 1)) (f_mg I r m 102 (m + 1))) 90 (25 * r + (m + 1)) (f_mg I r m 103 (m + 1)) else f_mg I r m
theorem f_mg_o (I : xI) (r : Nat) {a i : Nat} (h : a ≠ 89 ∧ a ≠ 90) : ∀ m, f_mg I r m a i = I a i := by
  intro m
  induction m with
  | zero => rfl
  | succ m ih =>
    simp only [f_mg]
    split
    · rw [x_u_ne _ _ (by omega), x_u_ne _ _ (by omega), ih]
    · exact ih
def f_ie (I : xI) (r f e : Nat) : Nat := if nI f ≤ I 83 r then e else f
theorem f_fg_o (I : xI) (r : Nat) {a i : Nat} (h : a ≠ 84 ∧ a ≠ 85 ∧ a ≠ 86) : ∀ m, (f_fg I r m).1 a i = I a i := by
  intro m
  induction m with
  | zero => rfl
  | succ m ih => simp only [f_fg]; rw [x_u_ne _ _ (by omega), x_u_ne _ _ (by omega), x_u_ne _ _ (by omega), ih]
theorem f_inst_o (I : xI) (r f : Nat) {a i : Nat} (h : a < 82 ∨ 86 < a) : f_inst I r f a i = I a i := by
  rw [f_inst]
  split
  · rfl
  · rw [f_fg_o _ _ (by omega), x_u_ne _ _ (by omega), x_u_ne _ _ (by omega)]
theorem f_inst_e {I : xI} {r f e : Nat} (he : I 83 r = nI e) : f_inst I r f 83 r = nI (f_ie I r f e) := by
  rw [f_inst, f_ie]
  split
  · exact he
  · rw [f_fg_o _ _ (by decide), x_u_eq]
theorem f_inst_w {I : xI} (r f : Nat) (h : f_wok I) : f_wok (f_inst I r f) := f_wok_eq (f_inst_o I r f (by decide)) h
theorem f_inst_f {I : xI} (r f : Nat) (h : f_wf I) : f_wf (f_inst I r f) := f_wf_eq (fun s => f_inst_o I r f (by decide)) (fun s => f_inst_o I r f (by decide)) h
def f_oProm1 (I : xI) (r f : Nat) : xI := f_mg (x_u (f_inst I r f) 88 r (I 88 r ||| (nI 1 <<< (I 74 31 &&& 31)))) r 24
def f_oProm (I : xI) (r f e : Nat) : xI := if (f_camp I r && decide (I 74 33 = I 87 r)) = true then f_go (f_oProm1 I r f) r (f_ie I r f e) else I
set_option maxHeartbeats 4000000 in
theorem r_oProm (d : Nat) (I : xI) {r f e : Nat} (hr : r < 5) (hu : I 74 35 = nI f) (hf2 : f ≤ 24) (he : I 83 r = nI e) (he2 : e ≤ 24) (hf : f_wf I) (hw : f_wok I) (hz : zok Z) : ER Z (d + 6) 119 I [.ref 74, .int (nI r)] (fun I' v => I' = f_oProm I r f e ∧ v = none) := by
  refine ER.of (ls := [some (.ref 74), some (.int (nI r)), none, none]) rfl rfl ?_
  iterate 2 (first
      | (with_reducible refine WR.lt (by omega) (by omega) (fun _ => ?_) (fun _ => ?_) <;> try (exfalso; omega))
      | (with_reducible refine WR.le (by omega) (by omega) (fun _ => ?_) (fun _ => ?_) <;> try (exfalso; omega))
      | (with_reducible refine WR.eq (by omega) (by omega) (fun _ => ?_) (fun _ => ?_) <;> try (exfalso; omega))
      | (with_reducible refine WR.ne (by omega) (by omega) (fun _ => ?_) (fun _ => ?_) <;> try (exfalso; omega))
      | with_reducible refine WR.lt0 (by omega) ?_
      | with_reducible refine WR.ge0 (by omega) ?_
      | (with_reducible refine WR.bz (fun _ => ?_) (fun _ => ?_))
      | (with_reducible refine WR.bn (fun _ => ?_) (fun _ => ?_))
      | (with_reducible refine WR.br (fun _ => ?_) (fun _ => ?_) <;> try contradiction)
      | refine WR.gik hz rfl (by with_reducible assumption) ?_
      | refine WR.gi hz rfl ?_
      | refine WR.gr hz rfl rfl ?_
      | refine WR.addn rfl (by with_reducible rfl) (by with_reducible rfl) ?_
      | refine WR.muln rfl (by with_reducible rfl) (by with_reducible rfl) ?_
      | refine WR.subn rfl (by with_reducible rfl) (by with_reducible rfl) (by omega) ?_
      | (refine WR.incn rfl rfl ?_; dsimp only [List.set])
      | (refine WR.go rfl rfl ?_; try dsimp only [List.set])
      | refine WR.aik hz rfl rfl rfl rfl (by first | with_reducible rfl | with_reducible assumption) (by omega) (by with_reducible assumption) ?_
      | refine WR.ai hz rfl rfl rfl rfl (by first | with_reducible rfl | with_reducible assumption) (by omega) ?_
      | refine WR.si hz rfl rfl rfl rfl (by first | with_reducible rfl | with_reducible assumption) (by omega) ?_
      | refine WR.az hz rfl rfl rfl rfl (by first | with_reducible rfl | with_reducible assumption) (by omega) ?_
      | refine WR.sz hz rfl rfl rfl rfl (by first | with_reducible rfl | with_reducible assumption) (by omega) (by decide) ?_
      | refine WR.pi hz rfl ?_
      | refine WR.rt rfl rfl rfl rfl ?_
      | refine WR.rz rfl rfl (by decide) ?_)
  refine WR.V1i hz rfl rfl (r_campaigns (d + 4) I hr hz) ?_
  iterate 2 (first
      | (with_reducible refine WR.lt (by omega) (by omega) (fun _ => ?_) (fun _ => ?_) <;> try (exfalso; omega))
      | (with_reducible refine WR.le (by omega) (by omega) (fun _ => ?_) (fun _ => ?_) <;> try (exfalso; omega))
      | (with_reducible refine WR.eq (by omega) (by omega) (fun _ => ?_) (fun _ => ?_) <;> try (exfalso; omega))
      | (with_reducible refine WR.ne (by omega) (by omega) (fun _ => ?_) (fun _ => ?_) <;> try (exfalso; omega))
      | with_reducible refine WR.lt0 (by omega) ?_
      | with_reducible refine WR.ge0 (by omega) ?_
      | (with_reducible refine WR.bz (fun _ => ?_) (fun _ => ?_))
      | (with_reducible refine WR.bn (fun _ => ?_) (fun _ => ?_))
      | (with_reducible refine WR.br (fun _ => ?_) (fun _ => ?_) <;> try contradiction)
      | refine WR.gik hz rfl (by with_reducible assumption) ?_
      | refine WR.gi hz rfl ?_
      | refine WR.gr hz rfl rfl ?_
      | refine WR.addn rfl (by with_reducible rfl) (by with_reducible rfl) ?_
      | refine WR.muln rfl (by with_reducible rfl) (by with_reducible rfl) ?_
      | refine WR.subn rfl (by with_reducible rfl) (by with_reducible rfl) (by omega) ?_
      | (refine WR.incn rfl rfl ?_; dsimp only [List.set])
      | (refine WR.go rfl rfl ?_; try dsimp only [List.set])
      | refine WR.aik hz rfl rfl rfl rfl (by first | with_reducible rfl | with_reducible assumption) (by omega) (by with_reducible assumption) ?_
      | refine WR.ai hz rfl rfl rfl rfl (by first | with_reducible rfl | with_reducible assumption) (by omega) ?_
      | refine WR.si hz rfl rfl rfl rfl (by first | with_reducible rfl | with_reducible assumption) (by omega) ?_
      | refine WR.az hz rfl rfl rfl rfl (by first | with_reducible rfl | with_reducible assumption) (by omega) ?_
      | refine WR.sz hz rfl rfl rfl rfl (by first | with_reducible rfl | with_reducible assumption) (by omega) (by decide) ?_
      | refine WR.pi hz rfl ?_
      | refine WR.rt rfl rfl rfl rfl ?_
      | refine WR.rz rfl rfl (by decide) ?_)
  · rename_i h
    iterate 1 (first
      | (with_reducible refine WR.lt (by omega) (by omega) (fun _ => ?_) (fun _ => ?_) <;> try (exfalso; omega))
      | (with_reducible refine WR.le (by omega) (by omega) (fun _ => ?_) (fun _ => ?_) <;> try (exfalso; omega))
      | (with_reducible refine WR.eq (by omega) (by omega) (fun _ => ?_) (fun _ => ?_) <;> try (exfalso; omega))
      | (with_reducible refine WR.ne (by omega) (by omega) (fun _ => ?_) (fun _ => ?_) <;> try (exfalso; omega))
      | with_reducible refine WR.lt0 (by omega) ?_
      | with_reducible refine WR.ge0 (by omega) ?_
      | (with_reducible refine WR.bz (fun _ => ?_) (fun _ => ?_))
      | (with_reducible refine WR.bn (fun _ => ?_) (fun _ => ?_))
      | (with_reducible refine WR.br (fun _ => ?_) (fun _ => ?_) <;> try contradiction)
      | refine WR.gik hz rfl (by with_reducible assumption) ?_
      | refine WR.gi hz rfl ?_
      | refine WR.gr hz rfl rfl ?_
      | refine WR.addn rfl (by with_reducible rfl) (by with_reducible rfl) ?_
      | refine WR.muln rfl (by with_reducible rfl) (by with_reducible rfl) ?_
      | refine WR.subn rfl (by with_reducible rfl) (by with_reducible rfl) (by omega) ?_
      | (refine WR.incn rfl rfl ?_; dsimp only [List.set])
      | (refine WR.go rfl rfl ?_; try dsimp only [List.set])
      | refine WR.aik hz rfl rfl rfl rfl (by first | with_reducible rfl | with_reducible assumption) (by omega) (by with_reducible assumption) ?_
      | refine WR.ai hz rfl rfl rfl rfl (by first | with_reducible rfl | with_reducible assumption) (by omega) ?_
      | refine WR.si hz rfl rfl rfl rfl (by first | with_reducible rfl | with_reducible assumption) (by omega) ?_
      | refine WR.az hz rfl rfl rfl rfl (by first | with_reducible rfl | with_reducible assumption) (by omega) ?_
      | refine WR.sz hz rfl rfl rfl rfl (by first | with_reducible rfl | with_reducible assumption) (by omega) (by decide) ?_
      | refine WR.pi hz rfl ?_
      | refine WR.rt rfl rfl rfl rfl ?_
      | refine WR.rz rfl rfl (by decide) ?_)
    exact ⟨by rw [f_oProm, if_neg (by simp [h])], rfl⟩
  · rename_i h
    iterate 8 (first
      | (with_reducible refine WR.lt (by omega) (by omega) (fun _ => ?_) (fun _ => ?_) <;> try (exfalso; omega))
      | (with_reducible refine WR.le (by omega) (by omega) (fun _ => ?_) (fun _ => ?_) <;> try (exfalso; omega))
      | (with_reducible refine WR.eq (by omega) (by omega) (fun _ => ?_) (fun _ => ?_) <;> try (exfalso; omega))
      | (with_reducible refine WR.ne (by omega) (by omega) (fun _ => ?_) (fun _ => ?_) <;> try (exfalso; omega))
      | with_reducible refine WR.lt0 (by omega) ?_
      | with_reducible refine WR.ge0 (by omega) ?_
      | (with_reducible refine WR.bz (fun _ => ?_) (fun _ => ?_))
      | (with_reducible refine WR.bn (fun _ => ?_) (fun _ => ?_))
      | (with_reducible refine WR.br (fun _ => ?_) (fun _ => ?_) <;> try contradiction)
      | refine WR.gik hz rfl (by with_reducible assumption) ?_
      | refine WR.gi hz rfl ?_
      | refine WR.gr hz rfl rfl ?_
      | refine WR.addn rfl (by with_reducible rfl) (by with_reducible rfl) ?_
      | refine WR.muln rfl (by with_reducible rfl) (by with_reducible rfl) ?_
      | refine WR.subn rfl (by with_reducible rfl) (by with_reducible rfl) (by omega) ?_
      | (refine WR.incn rfl rfl ?_; dsimp only [List.set])
      | (refine WR.go rfl rfl ?_; try dsimp only [List.set])
      | refine WR.aik hz rfl rfl rfl rfl (by first | with_reducible rfl | with_reducible assumption) (by omega) (by with_reducible assumption) ?_
      | refine WR.ai hz rfl rfl rfl rfl (by first | with_reducible rfl | with_reducible assumption) (by omega) ?_
      | refine WR.si hz rfl rfl rfl rfl (by first | with_reducible rfl | with_reducible assumption) (by omega) ?_
      | refine WR.az hz rfl rfl rfl rfl (by first | with_reducible rfl | with_reducible assumption) (by omega) ?_
      | refine WR.sz hz rfl rfl rfl rfl (by first | with_reducible rfl | with_reducible assumption) (by omega) (by decide) ?_
      | refine WR.pi hz rfl ?_
      | refine WR.rt rfl rfl rfl rfl ?_
      | refine WR.rz rfl rfl (by decide) ?_)
    · rename_i h2
      repeat' ((with_reducible fail_if_success show WR _ _ _ 28 _ _ _ _); (first
      | (with_reducible refine WR.lt (by omega) (by omega) (fun _ => ?_) (fun _ => ?_) <;> try (exfalso; omega))
      | (with_reducible refine WR.le (by omega) (by omega) (fun _ => ?_) (fun _ => ?_) <;> try (exfalso; omega))
      | (with_reducible refine WR.eq (by omega) (by omega) (fun _ => ?_) (fun _ => ?_) <;> try (exfalso; omega))
      | (with_reducible refine WR.ne (by omega) (by omega) (fun _ => ?_) (fun _ => ?_) <;> try (exfalso; omega))
      | with_reducible refine WR.lt0 (by omega) ?_
      | with_reducible refine WR.ge0 (by omega) ?_
      | (with_reducible refine WR.bz (fun _ => ?_) (fun _ => ?_))
      | (with_reducible refine WR.bn (fun _ => ?_) (fun _ => ?_))
      | (with_reducible refine WR.br (fun _ => ?_) (fun _ => ?_) <;> try contradiction)
      | refine WR.gik hz rfl (by with_reducible assumption) ?_
      | refine WR.gi hz rfl ?_
      | refine WR.gr hz rfl rfl ?_
      | refine WR.addn rfl (by with_reducible rfl) (by with_reducible rfl) ?_
      | refine WR.muln rfl (by with_reducible rfl) (by with_reducible rfl) ?_
      | refine WR.subn rfl (by with_reducible rfl) (by with_reducible rfl) (by omega) ?_
      | (refine WR.incn rfl rfl ?_; dsimp only [List.set])
      | (refine WR.go rfl rfl ?_; try dsimp only [List.set])
      | refine WR.aik hz rfl rfl rfl rfl (by first | with_reducible rfl | with_reducible assumption) (by omega) (by with_reducible assumption) ?_
      | refine WR.ai hz rfl rfl rfl rfl (by first | with_reducible rfl | with_reducible assumption) (by omega) ?_
      | refine WR.si hz rfl rfl rfl rfl (by first | with_reducible rfl | with_reducible assumption) (by omega) ?_
      | refine WR.az hz rfl rfl rfl rfl (by first | with_reducible rfl | with_reducible assumption) (by omega) ?_
      | refine WR.sz hz rfl rfl rfl rfl (by first | with_reducible rfl | with_reducible assumption) (by omega) (by decide) ?_
      | refine WR.pi hz rfl ?_
      | refine WR.rt rfl rfl rfl rfl ?_
      | refine WR.rz rfl rfl (by decide) ?_))
      refine WR.V2v hz rfl rfl (r_install (d + 3) I hr hf2 hz) ?_
      have k88 : f_inst I r f 88 r = I 88 r := f_inst_o I r f (by decide)
      have k31 : f_inst I r f 74 31 = I 74 31 := f_inst_o I r f (by decide)
      repeat' ((with_reducible fail_if_success show WR _ _ _ 48 _ _ _ _); (first
      | (with_reducible refine WR.lt (by omega) (by omega) (fun _ => ?_) (fun _ => ?_) <;> try (exfalso; omega))
      | (with_reducible refine WR.le (by omega) (by omega) (fun _ => ?_) (fun _ => ?_) <;> try (exfalso; omega))
      | (with_reducible refine WR.eq (by omega) (by omega) (fun _ => ?_) (fun _ => ?_) <;> try (exfalso; omega))
      | (with_reducible refine WR.ne (by omega) (by omega) (fun _ => ?_) (fun _ => ?_) <;> try (exfalso; omega))
      | with_reducible refine WR.lt0 (by omega) ?_
      | with_reducible refine WR.ge0 (by omega) ?_
      | (with_reducible refine WR.bz (fun _ => ?_) (fun _ => ?_))
      | (with_reducible refine WR.bn (fun _ => ?_) (fun _ => ?_))
      | (with_reducible refine WR.br (fun _ => ?_) (fun _ => ?_) <;> try contradiction)
      | refine WR.gik hz rfl (by with_reducible assumption) ?_
      | refine WR.gi hz rfl ?_
      | refine WR.gr hz rfl rfl ?_
      | refine WR.addn rfl (by with_reducible rfl) (by with_reducible rfl) ?_
      | refine WR.muln rfl (by with_reducible rfl) (by with_reducible rfl) ?_
      | refine WR.subn rfl (by with_reducible rfl) (by with_reducible rfl) (by omega) ?_
      | (refine WR.incn rfl rfl ?_; dsimp only [List.set])
      | (refine WR.go rfl rfl ?_; try dsimp only [List.set])
      | refine WR.aik hz rfl rfl rfl rfl (by first | with_reducible rfl | with_reducible assumption) (by omega) (by with_reducible assumption) ?_
      | refine WR.ai hz rfl rfl rfl rfl (by first | with_reducible rfl | with_reducible assumption) (by omega) ?_
      | refine WR.si hz rfl rfl rfl rfl (by first | with_reducible rfl | with_reducible assumption) (by omega) ?_
      | refine WR.az hz rfl rfl rfl rfl (by first | with_reducible rfl | with_reducible assumption) (by omega) ?_
      | refine WR.sz hz rfl rfl rfl rfl (by first | with_reducible rfl | with_reducible assumption) (by omega) (by decide) ?_
      | refine WR.pi hz rfl ?_
      | refine WR.rt rfl rfl rfl rfl ?_
      | refine WR.rz rfl rfl (by decide) ?_))
      have eJ : f_oProm1 I r f = f_mg (x_u (f_inst I r f) 88 r (I 88 r ||| (nI 1 <<< (I 74 31 &&& 31)))) r 24 := rfl
      have hwJ : f_wok (f_oProm1 I r f) := f_wok_eq (by rw [f_oProm1, f_mg_o _ _ (by decide), x_u_ne _ _ (by omega)]) (f_inst_w r f hw)
      have hfJ : f_wf (f_oProm1 I r f) := f_wf_eq (fun s => by rw [f_oProm1, f_mg_o _ _ (by decide), x_u_ne _ _ (by omega)]) (fun s => by rw [f_oProm1, f_mg_o _ _ (by decide), x_u_ne _ _ (by omega)]) (f_inst_f r f hf)
      have heJ : f_oProm1 I r f 83 r = nI (f_ie I r f e) := by rw [f_oProm1, f_mg_o _ _ (by decide), x_u_ne _ _ (by omega)]; exact f_inst_e he
      have hie : f_ie I r f e ≤ 24 := by rw [f_ie]; split <;> omega
      generalize x_u (f_inst I r f) 88 r (I 88 r ||| (nI 1 <<< (I 74 31 &&& 31))) = J at eJ ⊢
      refine WR.loop (fun m => f_mg J r m) (fun m => [some (.ref 74), some (.int (nI r)), some (.int (nI (m + 1))), match m with
        | 0 => none
        | j + 1 => some (.int (nI (25 * r + (j + 1))))]) 24 ?_ (fun m hm hk => ?_) 24 0 rfl
      · repeat' ((with_reducible fail_if_success show WR _ _ _ 108 _ _ _ _); (first
      | (with_reducible refine WR.lt (by omega) (by omega) (fun _ => ?_) (fun _ => ?_) <;> try (exfalso; omega))
      | (with_reducible refine WR.le (by omega) (by omega) (fun _ => ?_) (fun _ => ?_) <;> try (exfalso; omega))
      | (with_reducible refine WR.eq (by omega) (by omega) (fun _ => ?_) (fun _ => ?_) <;> try (exfalso; omega))
      | (with_reducible refine WR.ne (by omega) (by omega) (fun _ => ?_) (fun _ => ?_) <;> try (exfalso; omega))
      | with_reducible refine WR.lt0 (by omega) ?_
      | with_reducible refine WR.ge0 (by omega) ?_
      | (with_reducible refine WR.bz (fun _ => ?_) (fun _ => ?_))
      | (with_reducible refine WR.bn (fun _ => ?_) (fun _ => ?_))
      | (with_reducible refine WR.br (fun _ => ?_) (fun _ => ?_) <;> try contradiction)
      | refine WR.gik hz rfl (by with_reducible assumption) ?_
      | refine WR.gi hz rfl ?_
      | refine WR.gr hz rfl rfl ?_
      | refine WR.addn rfl (by with_reducible rfl) (by with_reducible rfl) ?_
      | refine WR.muln rfl (by with_reducible rfl) (by with_reducible rfl) ?_
      | refine WR.subn rfl (by with_reducible rfl) (by with_reducible rfl) (by omega) ?_
      | (refine WR.incn rfl rfl ?_; dsimp only [List.set])
      | (refine WR.go rfl rfl ?_; try dsimp only [List.set])
      | refine WR.aik hz rfl rfl rfl rfl (by first | with_reducible rfl | with_reducible assumption) (by omega) (by with_reducible assumption) ?_
      | refine WR.ai hz rfl rfl rfl rfl (by first | with_reducible rfl | with_reducible assumption) (by omega) ?_
      | refine WR.si hz rfl rfl rfl rfl (by first | with_reducible rfl | with_reducible assumption) (by omega) ?_
      | refine WR.az hz rfl rfl rfl rfl (by first | with_reducible rfl | with_reducible assumption) (by omega) ?_
      | refine WR.sz hz rfl rfl rfl rfl (by first | with_reducible rfl | with_reducible assumption) (by omega) (by decide) ?_
      | refine WR.pi hz rfl ?_
      | refine WR.rt rfl rfl rfl rfl ?_
      | refine WR.rz rfl rfl (by decide) ?_))
        rw [← eJ]
        refine WR.V1v hz rfl rfl (r_goOn d _ hr heJ hie hfJ hwJ hz) ?_
        iterate 1 (first
      | (with_reducible refine WR.lt (by omega) (by omega) (fun _ => ?_) (fun _ => ?_) <;> try (exfalso; omega))
      | (with_reducible refine WR.le (by omega) (by omega) (fun _ => ?_) (fun _ => ?_) <;> try (exfalso; omega))
      | (with_reducible refine WR.eq (by omega) (by omega) (fun _ => ?_) (fun _ => ?_) <;> try (exfalso; omega))
      | (with_reducible refine WR.ne (by omega) (by omega) (fun _ => ?_) (fun _ => ?_) <;> try (exfalso; omega))
      | with_reducible refine WR.lt0 (by omega) ?_
      | with_reducible refine WR.ge0 (by omega) ?_
      | (with_reducible refine WR.bz (fun _ => ?_) (fun _ => ?_))
      | (with_reducible refine WR.bn (fun _ => ?_) (fun _ => ?_))
      | (with_reducible refine WR.br (fun _ => ?_) (fun _ => ?_) <;> try contradiction)
      | refine WR.gik hz rfl (by with_reducible assumption) ?_
      | refine WR.gi hz rfl ?_
      | refine WR.gr hz rfl rfl ?_
      | refine WR.addn rfl (by with_reducible rfl) (by with_reducible rfl) ?_
      | refine WR.muln rfl (by with_reducible rfl) (by with_reducible rfl) ?_
      | refine WR.subn rfl (by with_reducible rfl) (by with_reducible rfl) (by omega) ?_
      | (refine WR.incn rfl rfl ?_; dsimp only [List.set])
      | (refine WR.go rfl rfl ?_; try dsimp only [List.set])
      | refine WR.aik hz rfl rfl rfl rfl (by first | with_reducible rfl | with_reducible assumption) (by omega) (by with_reducible assumption) ?_
      | refine WR.ai hz rfl rfl rfl rfl (by first | with_reducible rfl | with_reducible assumption) (by omega) ?_
      | refine WR.si hz rfl rfl rfl rfl (by first | with_reducible rfl | with_reducible assumption) (by omega) ?_
      | refine WR.az hz rfl rfl rfl rfl (by first | with_reducible rfl | with_reducible assumption) (by omega) ?_
      | refine WR.sz hz rfl rfl rfl rfl (by first | with_reducible rfl | with_reducible assumption) (by omega) (by decide) ?_
      | refine WR.pi hz rfl ?_
      | refine WR.rt rfl rfl rfl rfl ?_
      | refine WR.rz rfl rfl (by decide) ?_)
        exact ⟨by rw [f_oProm, if_pos (by simp [h, h2])], rfl⟩
      · simp only [f_mg] at hk
        generalize f_mg J r m = K at hk ⊢
        iterate 20 (first
      | (with_reducible refine WR.lt (by omega) (by omega) (fun _ => ?_) (fun _ => ?_) <;> try (exfalso; omega))
      | (with_reducible refine WR.le (by omega) (by omega) (fun _ => ?_) (fun _ => ?_) <;> try (exfalso; omega))
      | (with_reducible refine WR.eq (by omega) (by omega) (fun _ => ?_) (fun _ => ?_) <;> try (exfalso; omega))
      | (with_reducible refine WR.ne (by omega) (by omega) (fun _ => ?_) (fun _ => ?_) <;> try (exfalso; omega))
      | with_reducible refine WR.lt0 (by omega) ?_
      | with_reducible refine WR.ge0 (by omega) ?_
      | (with_reducible refine WR.bz (fun _ => ?_) (fun _ => ?_))
      | (with_reducible refine WR.bn (fun _ => ?_) (fun _ => ?_))
      | (with_reducible refine WR.br (fun _ => ?_) (fun _ => ?_) <;> try contradiction)
      | refine WR.gik hz rfl (by with_reducible assumption) ?_
      | refine WR.gi hz rfl ?_
      | refine WR.gr hz rfl rfl ?_
      | refine WR.addn rfl (by with_reducible rfl) (by with_reducible rfl) ?_
      | refine WR.muln rfl (by with_reducible rfl) (by with_reducible rfl) ?_
      | refine WR.subn rfl (by with_reducible rfl) (by with_reducible rfl) (by omega) ?_
      | (refine WR.incn rfl rfl ?_; dsimp only [List.set])
      | (refine WR.go rfl rfl ?_; try dsimp only [List.set])
      | refine WR.aik hz rfl rfl rfl rfl (by first | with_reducible rfl | with_reducible assumption) (by omega) (by with_reducible assumption) ?_
      | refine WR.ai hz rfl rfl rfl rfl (by first | with_reducible rfl | with_reducible assumption) (by omega) ?_
      | refine WR.si hz rfl rfl rfl rfl (by first | with_reducible rfl | with_reducible assumption) (by omega) ?_
      | refine WR.az hz rfl rfl rfl rfl (by first | with_reducible rfl | with_reducible assumption) (by omega) ?_
      | refine WR.sz hz rfl rfl rfl rfl (by first | with_reducible rfl | with_reducible assumption) (by omega) (by decide) ?_
      | refine WR.pi hz rfl ?_
      | refine WR.rt rfl rfl rfl rfl ?_
      | refine WR.rz rfl rfl (by decide) ?_)
        · rename_i h3
          rw [if_neg (Int32.not_lt.mpr h3)] at hk
          repeat' (first | with_reducible refine WR.cast ?_ hk | (first
      | (with_reducible refine WR.lt (by omega) (by omega) (fun _ => ?_) (fun _ => ?_) <;> try (exfalso; omega))
      | (with_reducible refine WR.le (by omega) (by omega) (fun _ => ?_) (fun _ => ?_) <;> try (exfalso; omega))
      | (with_reducible refine WR.eq (by omega) (by omega) (fun _ => ?_) (fun _ => ?_) <;> try (exfalso; omega))
      | (with_reducible refine WR.ne (by omega) (by omega) (fun _ => ?_) (fun _ => ?_) <;> try (exfalso; omega))
      | with_reducible refine WR.lt0 (by omega) ?_
      | with_reducible refine WR.ge0 (by omega) ?_
      | (with_reducible refine WR.bz (fun _ => ?_) (fun _ => ?_))
      | (with_reducible refine WR.bn (fun _ => ?_) (fun _ => ?_))
      | (with_reducible refine WR.br (fun _ => ?_) (fun _ => ?_) <;> try contradiction)
      | refine WR.gik hz rfl (by with_reducible assumption) ?_
      | refine WR.gi hz rfl ?_
      | refine WR.gr hz rfl rfl ?_
      | refine WR.addn rfl (by with_reducible rfl) (by with_reducible rfl) ?_
      | refine WR.muln rfl (by with_reducible rfl) (by with_reducible rfl) ?_
      | refine WR.subn rfl (by with_reducible rfl) (by with_reducible rfl) (by omega) ?_
      | (refine WR.incn rfl rfl ?_; dsimp only [List.set])
      | (refine WR.go rfl rfl ?_; try dsimp only [List.set])
      | refine WR.aik hz rfl rfl rfl rfl (by first | with_reducible rfl | with_reducible assumption) (by omega) (by with_reducible assumption) ?_
      | refine WR.ai hz rfl rfl rfl rfl (by first | with_reducible rfl | with_reducible assumption) (by omega) ?_
      | refine WR.si hz rfl rfl rfl rfl (by first | with_reducible rfl | with_reducible assumption) (by omega) ?_
      | refine WR.az hz rfl rfl rfl rfl (by first | with_reducible rfl | with_reducible assumption) (by omega) ?_
      | refine WR.sz hz rfl rfl rfl rfl (by first | with_reducible rfl | with_reducible assumption) (by omega) (by decide) ?_
      | refine WR.pi hz rfl ?_
      | refine WR.rt rfl rfl rfl rfl ?_
      | refine WR.rz rfl rfl (by decide) ?_))
          rfl
        · rename_i h3
          rw [if_pos (Int32.not_le.mp h3)] at hk
          repeat' (first | with_reducible refine WR.cast ?_ hk | (first
      | (with_reducible refine WR.lt (by omega) (by omega) (fun _ => ?_) (fun _ => ?_) <;> try (exfalso; omega))
      | (with_reducible refine WR.le (by omega) (by omega) (fun _ => ?_) (fun _ => ?_) <;> try (exfalso; omega))
      | (with_reducible refine WR.eq (by omega) (by omega) (fun _ => ?_) (fun _ => ?_) <;> try (exfalso; omega))
      | (with_reducible refine WR.ne (by omega) (by omega) (fun _ => ?_) (fun _ => ?_) <;> try (exfalso; omega))
      | with_reducible refine WR.lt0 (by omega) ?_
      | with_reducible refine WR.ge0 (by omega) ?_
      | (with_reducible refine WR.bz (fun _ => ?_) (fun _ => ?_))
      | (with_reducible refine WR.bn (fun _ => ?_) (fun _ => ?_))
      | (with_reducible refine WR.br (fun _ => ?_) (fun _ => ?_) <;> try contradiction)
      | refine WR.gik hz rfl (by with_reducible assumption) ?_
      | refine WR.gi hz rfl ?_
      | refine WR.gr hz rfl rfl ?_
      | refine WR.addn rfl (by with_reducible rfl) (by with_reducible rfl) ?_
      | refine WR.muln rfl (by with_reducible rfl) (by with_reducible rfl) ?_
      | refine WR.subn rfl (by with_reducible rfl) (by with_reducible rfl) (by omega) ?_
      | (refine WR.incn rfl rfl ?_; dsimp only [List.set])
      | (refine WR.go rfl rfl ?_; try dsimp only [List.set])
      | refine WR.aik hz rfl rfl rfl rfl (by first | with_reducible rfl | with_reducible assumption) (by omega) (by with_reducible assumption) ?_
      | refine WR.ai hz rfl rfl rfl rfl (by first | with_reducible rfl | with_reducible assumption) (by omega) ?_
      | refine WR.si hz rfl rfl rfl rfl (by first | with_reducible rfl | with_reducible assumption) (by omega) ?_
      | refine WR.az hz rfl rfl rfl rfl (by first | with_reducible rfl | with_reducible assumption) (by omega) ?_
      | refine WR.sz hz rfl rfl rfl rfl (by first | with_reducible rfl | with_reducible assumption) (by omega) (by decide) ?_
      | refine WR.pi hz rfl ?_
      | refine WR.rt rfl rfl rfl rfl ?_
      | refine WR.rz rfl rfl (by decide) ?_))
          rw [x_u_ne (b := 103) _ _ (by omega)]
    · rename_i h2
      iterate 1 (first
      | (with_reducible refine WR.lt (by omega) (by omega) (fun _ => ?_) (fun _ => ?_) <;> try (exfalso; omega))
      | (with_reducible refine WR.le (by omega) (by omega) (fun _ => ?_) (fun _ => ?_) <;> try (exfalso; omega))
      | (with_reducible refine WR.eq (by omega) (by omega) (fun _ => ?_) (fun _ => ?_) <;> try (exfalso; omega))
      | (with_reducible refine WR.ne (by omega) (by omega) (fun _ => ?_) (fun _ => ?_) <;> try (exfalso; omega))
      | with_reducible refine WR.lt0 (by omega) ?_
      | with_reducible refine WR.ge0 (by omega) ?_
      | (with_reducible refine WR.bz (fun _ => ?_) (fun _ => ?_))
      | (with_reducible refine WR.bn (fun _ => ?_) (fun _ => ?_))
      | (with_reducible refine WR.br (fun _ => ?_) (fun _ => ?_) <;> try contradiction)
      | refine WR.gik hz rfl (by with_reducible assumption) ?_
      | refine WR.gi hz rfl ?_
      | refine WR.gr hz rfl rfl ?_
      | refine WR.addn rfl (by with_reducible rfl) (by with_reducible rfl) ?_
      | refine WR.muln rfl (by with_reducible rfl) (by with_reducible rfl) ?_
      | refine WR.subn rfl (by with_reducible rfl) (by with_reducible rfl) (by omega) ?_
      | (refine WR.incn rfl rfl ?_; dsimp only [List.set])
      | (refine WR.go rfl rfl ?_; try dsimp only [List.set])
      | refine WR.aik hz rfl rfl rfl rfl (by first | with_reducible rfl | with_reducible assumption) (by omega) (by with_reducible assumption) ?_
      | refine WR.ai hz rfl rfl rfl rfl (by first | with_reducible rfl | with_reducible assumption) (by omega) ?_
      | refine WR.si hz rfl rfl rfl rfl (by first | with_reducible rfl | with_reducible assumption) (by omega) ?_
      | refine WR.az hz rfl rfl rfl rfl (by first | with_reducible rfl | with_reducible assumption) (by omega) ?_
      | refine WR.sz hz rfl rfl rfl rfl (by first | with_reducible rfl | with_reducible assumption) (by omega) (by decide) ?_
      | refine WR.pi hz rfl ?_
      | refine WR.rt rfl rfl rfl rfl ?_
      | refine WR.rz rfl rfl (by decide) ?_)
      exact ⟨by rw [f_oProm, if_neg (by simp [h2])], rfl⟩
end HAND
end
section
/-! the reference: votes, receive, begin -/
section RECV
variable {Z : xZ}
theorem x_tsN {v lo t : Nat} {ts : List Nat} (hv : v < 2 ^ 31) : (if (nI v).toInt < (lo : Int) then t else ts.getD ((nI v).toInt - (lo : Int)).toNat t) = if v < lo then t else ts.getD (v - lo) t := by
  rw [nI_toInt hv]
  by_cases h : v < lo
  · rw [if_pos h, if_pos (by omega)]
  · rw [if_neg h, if_neg (by omega)]
    congr 1
    omega
theorem WR.ts {d k pc nx : Nat} {ls : xL} {st : List Value} {I : xI} {Q : xI → Option Value → Prop} {c : Int32} {v lo t t' : Nat} {ts : List Nat} {d1 d2 d3 : Int} {offs : Array Int} (hp : x_P k pc = some (.tableswitch d1 d2 d3 offs, nx, c, lo :: t :: ts)) (hv : v < 2 ^ 31) (ht : (if v < lo then t else ts.getD (v - lo) t) = t') (h : WR Z d k t' ls st I Q) : WR Z d k pc ls (.int (nI v) :: st) I Q := by
  subst ht
  rw [← x_tsN hv] at h
  exact WR.go hp rfl h
def f_oVot1 (I : xI) (r s : Nat) : xI := x_u I 92 (25 * r + s) (I 92 (25 * r + s) ||| (nI 1 <<< (I 74 31 &&& 31)))
def f_oVot2 (I : xI) (r s e : Nat) : xI := if 0 ≤ I 80 s then f_rp (f_oVot1 I r s) e else x_u (f_rp (f_oVot1 I r s) e) 80 s (I 91 (25 * r + s))
def f_oVot3 (I : xI) (r s e : Nat) : xI := x_u (f_oVot2 I r s e) 84 r (I 84 r ||| (nI 1 <<< (nI s &&& 31)))
def f_oVot4 (I : xI) (r s e : Nat) : xI := f_ma (f_oVot3 I r s e) (nI 5) r (nI 31) (nI 0) (nI s) (f_oVot2 I r s e 80 s) 5
def f_oVot (I : xI) (r s e : Nat) : xI :=
  if (!(f_camp I r) || (decide (I 74 32 ≠ I 87 r) || (decide (s ≤ e) || (f_know I r s || decide (I 91 (25 * r + s) < 0))))) = true then I
  else if f_maj (f_oVot1 I r s 92 (25 * r + s)) (f_mem (f_oVot1 I r s) e s) = true then f_go (f_oVot4 I r s e) r e else f_rp (f_oVot1 I r s) e
theorem f_oVot1_o (I : xI) (r s : Nat) {a i : Nat} (h : a ≠ 92) : f_oVot1 I r s a i = I a i := x_u_ne _ _ (by omega)
theorem f_oVot2_o (I : xI) (r s e : Nat) {a i : Nat} (h : a ≠ 92 ∧ a ≠ 80 ∧ a < 104) : f_oVot2 I r s e a i = I a i := by
  rw [f_oVot2]
  split
  · rw [f_rp_o _ (by omega), f_oVot1_o _ _ _ (by omega)]
  · rw [x_u_ne _ _ (by omega), f_rp_o _ (by omega), f_oVot1_o _ _ _ (by omega)]
theorem f_oVot3_o (I : xI) (r s e : Nat) {a i : Nat} (h : a ≠ 92 ∧ a ≠ 80 ∧ a ≠ 84 ∧ a < 104) : f_oVot3 I r s e a i = I a i := by
  rw [f_oVot3, x_u_ne _ _ (by omega), f_oVot2_o _ _ _ _ (by omega)]
theorem f_oVot2_80 (I : xI) (r s e t : Nat) : f_oVot2 I r s e 80 t = if t = s ∧ ¬ 0 ≤ I 80 s then I 91 (25 * r + s) else I 80 t := by
  rw [f_oVot2]
  by_cases h : 0 ≤ I 80 s
  · rw [if_pos h, if_neg (fun q => q.2 h), f_rp_o _ (by decide), f_oVot1_o _ _ _ (by decide)]
  · rw [if_neg h]
    by_cases ht : t = s
    · subst ht; rw [if_pos ⟨rfl, h⟩, x_u_eq]
    · rw [if_neg (fun q => ht q.1), x_u_ne _ _ (fun q => ht q.2), f_rp_o _ (by decide), f_oVot1_o _ _ _ (by decide)]
theorem f_oVot2_f {I : xI} (r s e : Nat) (hf : f_wf I) (ho : I 91 (25 * r + s) ≤ 0 ∨ ∃ q, 1 ≤ q ∧ q < 41 ∧ I 91 (25 * r + s) = nI q) : f_wf (f_oVot2 I r s e) := by
  refine ⟨fun t h1 h2 => ?_, fun q hq => ?_⟩
  · rw [f_oVot2_80]
    split
    · exact ho
    · exact hf.1 t h1 h2
  · rw [f_oVot2_o _ _ _ _ (by decide)]; exact hf.2 q hq
set_option maxHeartbeats 4000000 in
theorem r_oVot (d : Nat) (I : xI) {r s e : Nat} (hr : r < 5) (hs : I 74 33 = nI s) (hs2 : s ≤ 24) (he : I 83 r = nI e) (he2 : e ≤ 24) (hf : f_wf I) (hw : f_wok I) (ho : I 91 (25 * r + s) ≤ 0 ∨ ∃ q, 1 ≤ q ∧ q < 41 ∧ I 91 (25 * r + s) = nI q) (hz : zok Z) : ER Z (d + 6) 125 I [.ref 74, .int (nI r)] (fun I' v => I' = f_oVot I r s e ∧ v = none) := by
  refine ER.of (ls := [some (.ref 74), some (.int (nI r)), none, none, none]) rfl rfl ?_
  repeat' ((with_reducible fail_if_success show WR _ _ _ 14 _ _ _ _); (first
      | (with_reducible refine WR.lt (by omega) (by omega) (fun _ => ?_) (fun _ => ?_) <;> try (exfalso; omega))
      | (with_reducible refine WR.le (by omega) (by omega) (fun _ => ?_) (fun _ => ?_) <;> try (exfalso; omega))
      | (with_reducible refine WR.eq (by omega) (by omega) (fun _ => ?_) (fun _ => ?_) <;> try (exfalso; omega))
      | (with_reducible refine WR.ne (by omega) (by omega) (fun _ => ?_) (fun _ => ?_) <;> try (exfalso; omega))
      | with_reducible refine WR.lt0 (by omega) ?_
      | with_reducible refine WR.ge0 (by omega) ?_
      | (with_reducible refine WR.bz (fun _ => ?_) (fun _ => ?_))
      | (with_reducible refine WR.bn (fun _ => ?_) (fun _ => ?_))
      | (with_reducible refine WR.br (fun _ => ?_) (fun _ => ?_) <;> try contradiction)
      | refine WR.gik hz rfl (by with_reducible assumption) ?_
      | refine WR.gi hz rfl ?_
      | refine WR.gr hz rfl rfl ?_
      | refine WR.addn rfl (by with_reducible rfl) (by with_reducible rfl) ?_
      | refine WR.muln rfl (by with_reducible rfl) (by with_reducible rfl) ?_
      | refine WR.subn rfl (by with_reducible rfl) (by with_reducible rfl) (by omega) ?_
      | (refine WR.incn rfl rfl ?_; dsimp only [List.set])
      | (refine WR.go rfl rfl ?_; try dsimp only [List.set])
      | refine WR.aik hz rfl rfl rfl rfl (by first | with_reducible rfl | with_reducible assumption) (by omega) (by with_reducible assumption) ?_
      | refine WR.ai hz rfl rfl rfl rfl (by first | with_reducible rfl | with_reducible assumption) (by omega) ?_
      | refine WR.si hz rfl rfl rfl rfl (by first | with_reducible rfl | with_reducible assumption) (by omega) ?_
      | refine WR.az hz rfl rfl rfl rfl (by first | with_reducible rfl | with_reducible assumption) (by omega) ?_
      | refine WR.sz hz rfl rfl rfl rfl (by first | with_reducible rfl | with_reducible assumption) (by omega) (by decide) ?_
      | refine WR.pi hz rfl ?_
      | refine WR.rt rfl rfl rfl rfl ?_
      | refine WR.rz rfl rfl (by decide) ?_))
  refine WR.V1i hz rfl rfl (r_campaigns (d + 4) I hr hz) ?_
  iterate 2 (first
      | (with_reducible refine WR.lt (by omega) (by omega) (fun _ => ?_) (fun _ => ?_) <;> try (exfalso; omega))
      | (with_reducible refine WR.le (by omega) (by omega) (fun _ => ?_) (fun _ => ?_) <;> try (exfalso; omega))
      | (with_reducible refine WR.eq (by omega) (by omega) (fun _ => ?_) (fun _ => ?_) <;> try (exfalso; omega))
      | (with_reducible refine WR.ne (by omega) (by omega) (fun _ => ?_) (fun _ => ?_) <;> try (exfalso; omega))
      | with_reducible refine WR.lt0 (by omega) ?_
      | with_reducible refine WR.ge0 (by omega) ?_
      | (with_reducible refine WR.bz (fun _ => ?_) (fun _ => ?_))
      | (with_reducible refine WR.bn (fun _ => ?_) (fun _ => ?_))
      | (with_reducible refine WR.br (fun _ => ?_) (fun _ => ?_) <;> try contradiction)
      | refine WR.gik hz rfl (by with_reducible assumption) ?_
      | refine WR.gi hz rfl ?_
      | refine WR.gr hz rfl rfl ?_
      | refine WR.addn rfl (by with_reducible rfl) (by with_reducible rfl) ?_
      | refine WR.muln rfl (by with_reducible rfl) (by with_reducible rfl) ?_
      | refine WR.subn rfl (by with_reducible rfl) (by with_reducible rfl) (by omega) ?_
      | (refine WR.incn rfl rfl ?_; dsimp only [List.set])
      | (refine WR.go rfl rfl ?_; try dsimp only [List.set])
      | refine WR.aik hz rfl rfl rfl rfl (by first | with_reducible rfl | with_reducible assumption) (by omega) (by with_reducible assumption) ?_
      | refine WR.ai hz rfl rfl rfl rfl (by first | with_reducible rfl | with_reducible assumption) (by omega) ?_
      | refine WR.si hz rfl rfl rfl rfl (by first | with_reducible rfl | with_reducible assumption) (by omega) ?_
      | refine WR.az hz rfl rfl rfl rfl (by first | with_reducible rfl | with_reducible assumption) (by omega) ?_
      | refine WR.sz hz rfl rfl rfl rfl (by first | with_reducible rfl | with_reducible assumption) (by omega) (by decide) ?_
      | refine WR.pi hz rfl ?_
      | refine WR.rt rfl rfl rfl rfl ?_
      | refine WR.rz rfl rfl (by decide) ?_)
  · rename_i h
    iterate 1 (first
      | (with_reducible refine WR.lt (by omega) (by omega) (fun _ => ?_) (fun _ => ?_) <;> try (exfalso; omega))
      | (with_reducible refine WR.le (by omega) (by omega) (fun _ => ?_) (fun _ => ?_) <;> try (exfalso; omega))
      | (with_reducible refine WR.eq (by omega) (by omega) (fun _ => ?_) (fun _ => ?_) <;> try (exfalso; omega))
      | (with_reducible refine WR.ne (by omega) (by omega) (fun _ => ?_) (fun _ => ?_) <;> try (exfalso; omega))
      | with_reducible refine WR.lt0 (by omega) ?_
      | with_reducible refine WR.ge0 (by omega) ?_
      | (with_reducible refine WR.bz (fun _ => ?_) (fun _ => ?_))
      | (with_reducible refine WR.bn (fun _ => ?_) (fun _ => ?_))
      | (with_reducible refine WR.br (fun _ => ?_) (fun _ => ?_) <;> try contradiction)
      | refine WR.gik hz rfl (by with_reducible assumption) ?_
      | refine WR.gi hz rfl ?_
      | refine WR.gr hz rfl rfl ?_
      | refine WR.addn rfl (by with_reducible rfl) (by with_reducible rfl) ?_
      | refine WR.muln rfl (by with_reducible rfl) (by with_reducible rfl) ?_
      | refine WR.subn rfl (by with_reducible rfl) (by with_reducible rfl) (by omega) ?_
      | (refine WR.incn rfl rfl ?_; dsimp only [List.set])
      | (refine WR.go rfl rfl ?_; try dsimp only [List.set])
      | refine WR.aik hz rfl rfl rfl rfl (by first | with_reducible rfl | with_reducible assumption) (by omega) (by with_reducible assumption) ?_
      | refine WR.ai hz rfl rfl rfl rfl (by first | with_reducible rfl | with_reducible assumption) (by omega) ?_
      | refine WR.si hz rfl rfl rfl rfl (by first | with_reducible rfl | with_reducible assumption) (by omega) ?_
      | refine WR.az hz rfl rfl rfl rfl (by first | with_reducible rfl | with_reducible assumption) (by omega) ?_
      | refine WR.sz hz rfl rfl rfl rfl (by first | with_reducible rfl | with_reducible assumption) (by omega) (by decide) ?_
      | refine WR.pi hz rfl ?_
      | refine WR.rt rfl rfl rfl rfl ?_
      | refine WR.rz rfl rfl (by decide) ?_)
    exact ⟨by rw [f_oVot, if_pos (by simp [h])], rfl⟩
  · rename_i h
    iterate 8 (first
      | (with_reducible refine WR.lt (by omega) (by omega) (fun _ => ?_) (fun _ => ?_) <;> try (exfalso; omega))
      | (with_reducible refine WR.le (by omega) (by omega) (fun _ => ?_) (fun _ => ?_) <;> try (exfalso; omega))
      | (with_reducible refine WR.eq (by omega) (by omega) (fun _ => ?_) (fun _ => ?_) <;> try (exfalso; omega))
      | (with_reducible refine WR.ne (by omega) (by omega) (fun _ => ?_) (fun _ => ?_) <;> try (exfalso; omega))
      | with_reducible refine WR.lt0 (by omega) ?_
      | with_reducible refine WR.ge0 (by omega) ?_
      | (with_reducible refine WR.bz (fun _ => ?_) (fun _ => ?_))
      | (with_reducible refine WR.bn (fun _ => ?_) (fun _ => ?_))
      | (with_reducible refine WR.br (fun _ => ?_) (fun _ => ?_) <;> try contradiction)
      | refine WR.gik hz rfl (by with_reducible assumption) ?_
      | refine WR.gi hz rfl ?_
      | refine WR.gr hz rfl rfl ?_
      | refine WR.addn rfl (by with_reducible rfl) (by with_reducible rfl) ?_
      | refine WR.muln rfl (by with_reducible rfl) (by with_reducible rfl) ?_
      | refine WR.subn rfl (by with_reducible rfl) (by with_reducible rfl) (by omega) ?_
      | (refine WR.incn rfl rfl ?_; dsimp only [List.set])
      | (refine WR.go rfl rfl ?_; try dsimp only [List.set])
      | refine WR.aik hz rfl rfl rfl rfl (by first | with_reducible rfl | with_reducible assumption) (by omega) (by with_reducible assumption) ?_
      | refine WR.ai hz rfl rfl rfl rfl (by first | with_reducible rfl | with_reducible assumption) (by omega) ?_
      | refine WR.si hz rfl rfl rfl rfl (by first | with_reducible rfl | with_reducible assumption) (by omega) ?_
      | refine WR.az hz rfl rfl rfl rfl (by first | with_reducible rfl | with_reducible assumption) (by omega) ?_
      | refine WR.sz hz rfl rfl rfl rfl (by first | with_reducible rfl | with_reducible assumption) (by omega) (by decide) ?_
      | refine WR.pi hz rfl ?_
      | refine WR.rt rfl rfl rfl rfl ?_
      | refine WR.rz rfl rfl (by decide) ?_)
    · rename_i h2
      iterate 1 (first
      | (with_reducible refine WR.lt (by omega) (by omega) (fun _ => ?_) (fun _ => ?_) <;> try (exfalso; omega))
      | (with_reducible refine WR.le (by omega) (by omega) (fun _ => ?_) (fun _ => ?_) <;> try (exfalso; omega))
      | (with_reducible refine WR.eq (by omega) (by omega) (fun _ => ?_) (fun _ => ?_) <;> try (exfalso; omega))
      | (with_reducible refine WR.ne (by omega) (by omega) (fun _ => ?_) (fun _ => ?_) <;> try (exfalso; omega))
      | with_reducible refine WR.lt0 (by omega) ?_
      | with_reducible refine WR.ge0 (by omega) ?_
      | (with_reducible refine WR.bz (fun _ => ?_) (fun _ => ?_))
      | (with_reducible refine WR.bn (fun _ => ?_) (fun _ => ?_))
      | (with_reducible refine WR.br (fun _ => ?_) (fun _ => ?_) <;> try contradiction)
      | refine WR.gik hz rfl (by with_reducible assumption) ?_
      | refine WR.gi hz rfl ?_
      | refine WR.gr hz rfl rfl ?_
      | refine WR.addn rfl (by with_reducible rfl) (by with_reducible rfl) ?_
      | refine WR.muln rfl (by with_reducible rfl) (by with_reducible rfl) ?_
      | refine WR.subn rfl (by with_reducible rfl) (by with_reducible rfl) (by omega) ?_
      | (refine WR.incn rfl rfl ?_; dsimp only [List.set])
      | (refine WR.go rfl rfl ?_; try dsimp only [List.set])
      | refine WR.aik hz rfl rfl rfl rfl (by first | with_reducible rfl | with_reducible assumption) (by omega) (by with_reducible assumption) ?_
      | refine WR.ai hz rfl rfl rfl rfl (by first | with_reducible rfl | with_reducible assumption) (by omega) ?_
      | refine WR.si hz rfl rfl rfl rfl (by first | with_reducible rfl | with_reducible assumption) (by omega) ?_
      | refine WR.az hz rfl rfl rfl rfl (by first | with_reducible rfl | with_reducible assumption) (by omega) ?_
      | refine WR.sz hz rfl rfl rfl rfl (by first | with_reducible rfl | with_reducible assumption) (by omega) (by decide) ?_
      | refine WR.pi hz rfl ?_
      | refine WR.rt rfl rfl rfl rfl ?_
      | refine WR.rz rfl rfl (by decide) ?_)
      exact ⟨by rw [f_oVot, if_pos (by simp [h2])], rfl⟩
    · rename_i h2
      iterate 7 (first
      | (with_reducible refine WR.lt (by omega) (by omega) (fun _ => ?_) (fun _ => ?_) <;> try (exfalso; omega))
      | (with_reducible refine WR.le (by omega) (by omega) (fun _ => ?_) (fun _ => ?_) <;> try (exfalso; omega))
      | (with_reducible refine WR.eq (by omega) (by omega) (fun _ => ?_) (fun _ => ?_) <;> try (exfalso; omega))
      | (with_reducible refine WR.ne (by omega) (by omega) (fun _ => ?_) (fun _ => ?_) <;> try (exfalso; omega))
      | with_reducible refine WR.lt0 (by omega) ?_
      | with_reducible refine WR.ge0 (by omega) ?_
      | (with_reducible refine WR.bz (fun _ => ?_) (fun _ => ?_))
      | (with_reducible refine WR.bn (fun _ => ?_) (fun _ => ?_))
      | (with_reducible refine WR.br (fun _ => ?_) (fun _ => ?_) <;> try contradiction)
      | refine WR.gik hz rfl (by with_reducible assumption) ?_
      | refine WR.gi hz rfl ?_
      | refine WR.gr hz rfl rfl ?_
      | refine WR.addn rfl (by with_reducible rfl) (by with_reducible rfl) ?_
      | refine WR.muln rfl (by with_reducible rfl) (by with_reducible rfl) ?_
      | refine WR.subn rfl (by with_reducible rfl) (by with_reducible rfl) (by omega) ?_
      | (refine WR.incn rfl rfl ?_; dsimp only [List.set])
      | (refine WR.go rfl rfl ?_; try dsimp only [List.set])
      | refine WR.aik hz rfl rfl rfl rfl (by first | with_reducible rfl | with_reducible assumption) (by omega) (by with_reducible assumption) ?_
      | refine WR.ai hz rfl rfl rfl rfl (by first | with_reducible rfl | with_reducible assumption) (by omega) ?_
      | refine WR.si hz rfl rfl rfl rfl (by first | with_reducible rfl | with_reducible assumption) (by omega) ?_
      | refine WR.az hz rfl rfl rfl rfl (by first | with_reducible rfl | with_reducible assumption) (by omega) ?_
      | refine WR.sz hz rfl rfl rfl rfl (by first | with_reducible rfl | with_reducible assumption) (by omega) (by decide) ?_
      | refine WR.pi hz rfl ?_
      | refine WR.rt rfl rfl rfl rfl ?_
      | refine WR.rz rfl rfl (by decide) ?_)
      · rename_i h3
        iterate 1 (first
      | (with_reducible refine WR.lt (by omega) (by omega) (fun _ => ?_) (fun _ => ?_) <;> try (exfalso; omega))
      | (with_reducible refine WR.le (by omega) (by omega) (fun _ => ?_) (fun _ => ?_) <;> try (exfalso; omega))
      | (with_reducible refine WR.eq (by omega) (by omega) (fun _ => ?_) (fun _ => ?_) <;> try (exfalso; omega))
      | (with_reducible refine WR.ne (by omega) (by omega) (fun _ => ?_) (fun _ => ?_) <;> try (exfalso; omega))
      | with_reducible refine WR.lt0 (by omega) ?_
      | with_reducible refine WR.ge0 (by omega) ?_
      | (with_reducible refine WR.bz (fun _ => ?_) (fun _ => ?_))
      | (with_reducible refine WR.bn (fun _ => ?_) (fun _ => ?_))
      | (with_reducible refine WR.br (fun _ => ?_) (fun _ => ?_) <;> try contradiction)
      | refine WR.gik hz rfl (by with_reducible assumption) ?_
      | refine WR.gi hz rfl ?_
      | refine WR.gr hz rfl rfl ?_
      | refine WR.addn rfl (by with_reducible rfl) (by with_reducible rfl) ?_
      | refine WR.muln rfl (by with_reducible rfl) (by with_reducible rfl) ?_
      | refine WR.subn rfl (by with_reducible rfl) (by with_reducible rfl) (by omega) ?_
      | (refine WR.incn rfl rfl ?_; dsimp only [List.set])
      | (refine WR.go rfl rfl ?_; try dsimp only [List.set])
      | refine WR.aik hz rfl rfl rfl rfl (by first | with_reducible rfl | with_reducible assumption) (by omega) (by with_reducible assumption) ?_
      | refine WR.ai hz rfl rfl rfl rfl (by first | with_reducible rfl | with_reducible assumption) (by omega) ?_
      | refine WR.si hz rfl rfl rfl rfl (by first | with_reducible rfl | with_reducible assumption) (by omega) ?_
      | refine WR.az hz rfl rfl rfl rfl (by first | with_reducible rfl | with_reducible assumption) (by omega) ?_
      | refine WR.sz hz rfl rfl rfl rfl (by first | with_reducible rfl | with_reducible assumption) (by omega) (by decide) ?_
      | refine WR.pi hz rfl ?_
      | refine WR.rt rfl rfl rfl rfl ?_
      | refine WR.rz rfl rfl (by decide) ?_)
        exact ⟨by rw [f_oVot, if_pos (by simp [h3])], rfl⟩
      · rename_i h3
        repeat' ((with_reducible fail_if_success show WR _ _ _ 46 _ _ _ _); (first
      | (with_reducible refine WR.lt (by omega) (by omega) (fun _ => ?_) (fun _ => ?_) <;> try (exfalso; omega))
      | (with_reducible refine WR.le (by omega) (by omega) (fun _ => ?_) (fun _ => ?_) <;> try (exfalso; omega))
      | (with_reducible refine WR.eq (by omega) (by omega) (fun _ => ?_) (fun _ => ?_) <;> try (exfalso; omega))
      | (with_reducible refine WR.ne (by omega) (by omega) (fun _ => ?_) (fun _ => ?_) <;> try (exfalso; omega))
      | with_reducible refine WR.lt0 (by omega) ?_
      | with_reducible refine WR.ge0 (by omega) ?_
      | (with_reducible refine WR.bz (fun _ => ?_) (fun _ => ?_))
      | (with_reducible refine WR.bn (fun _ => ?_) (fun _ => ?_))
      | (with_reducible refine WR.br (fun _ => ?_) (fun _ => ?_) <;> try contradiction)
      | refine WR.gik hz rfl (by with_reducible assumption) ?_
      | refine WR.gi hz rfl ?_
      | refine WR.gr hz rfl rfl ?_
      | refine WR.addn rfl (by with_reducible rfl) (by with_reducible rfl) ?_
      | refine WR.muln rfl (by with_reducible rfl) (by with_reducible rfl) ?_
      | refine WR.subn rfl (by with_reducible rfl) (by with_reducible rfl) (by omega) ?_
      | (refine WR.incn rfl rfl ?_; dsimp only [List.set])
      | (refine WR.go rfl rfl ?_; try dsimp only [List.set])
      | refine WR.aik hz rfl rfl rfl rfl (by first | with_reducible rfl | with_reducible assumption) (by omega) (by with_reducible assumption) ?_
      | refine WR.ai hz rfl rfl rfl rfl (by first | with_reducible rfl | with_reducible assumption) (by omega) ?_
      | refine WR.si hz rfl rfl rfl rfl (by first | with_reducible rfl | with_reducible assumption) (by omega) ?_
      | refine WR.az hz rfl rfl rfl rfl (by first | with_reducible rfl | with_reducible assumption) (by omega) ?_
      | refine WR.sz hz rfl rfl rfl rfl (by first | with_reducible rfl | with_reducible assumption) (by omega) (by decide) ?_
      | refine WR.pi hz rfl ?_
      | refine WR.rt rfl rfl rfl rfl ?_
      | refine WR.rz rfl rfl (by decide) ?_))
        refine WR.V2i hz rfl rfl (r_knows (d + 4) I s hr hz) ?_
        iterate 2 (first
      | (with_reducible refine WR.lt (by omega) (by omega) (fun _ => ?_) (fun _ => ?_) <;> try (exfalso; omega))
      | (with_reducible refine WR.le (by omega) (by omega) (fun _ => ?_) (fun _ => ?_) <;> try (exfalso; omega))
      | (with_reducible refine WR.eq (by omega) (by omega) (fun _ => ?_) (fun _ => ?_) <;> try (exfalso; omega))
      | (with_reducible refine WR.ne (by omega) (by omega) (fun _ => ?_) (fun _ => ?_) <;> try (exfalso; omega))
      | with_reducible refine WR.lt0 (by omega) ?_
      | with_reducible refine WR.ge0 (by omega) ?_
      | (with_reducible refine WR.bz (fun _ => ?_) (fun _ => ?_))
      | (with_reducible refine WR.bn (fun _ => ?_) (fun _ => ?_))
      | (with_reducible refine WR.br (fun _ => ?_) (fun _ => ?_) <;> try contradiction)
      | refine WR.gik hz rfl (by with_reducible assumption) ?_
      | refine WR.gi hz rfl ?_
      | refine WR.gr hz rfl rfl ?_
      | refine WR.addn rfl (by with_reducible rfl) (by with_reducible rfl) ?_
      | refine WR.muln rfl (by with_reducible rfl) (by with_reducible rfl) ?_
      | refine WR.subn rfl (by with_reducible rfl) (by with_reducible rfl) (by omega) ?_
      | (refine WR.incn rfl rfl ?_; dsimp only [List.set])
      | (refine WR.go rfl rfl ?_; try dsimp only [List.set])
      | refine WR.aik hz rfl rfl rfl rfl (by first | with_reducible rfl | with_reducible assumption) (by omega) (by with_reducible assumption) ?_
      | refine WR.ai hz rfl rfl rfl rfl (by first | with_reducible rfl | with_reducible assumption) (by omega) ?_
      | refine WR.si hz rfl rfl rfl rfl (by first | with_reducible rfl | with_reducible assumption) (by omega) ?_
      | refine WR.az hz rfl rfl rfl rfl (by first | with_reducible rfl | with_reducible assumption) (by omega) ?_
      | refine WR.sz hz rfl rfl rfl rfl (by first | with_reducible rfl | with_reducible assumption) (by omega) (by decide) ?_
      | refine WR.pi hz rfl ?_
      | refine WR.rt rfl rfl rfl rfl ?_
      | refine WR.rz rfl rfl (by decide) ?_)
        · rename_i h4
          iterate 1 (first
      | (with_reducible refine WR.lt (by omega) (by omega) (fun _ => ?_) (fun _ => ?_) <;> try (exfalso; omega))
      | (with_reducible refine WR.le (by omega) (by omega) (fun _ => ?_) (fun _ => ?_) <;> try (exfalso; omega))
      | (with_reducible refine WR.eq (by omega) (by omega) (fun _ => ?_) (fun _ => ?_) <;> try (exfalso; omega))
      | (with_reducible refine WR.ne (by omega) (by omega) (fun _ => ?_) (fun _ => ?_) <;> try (exfalso; omega))
      | with_reducible refine WR.lt0 (by omega) ?_
      | with_reducible refine WR.ge0 (by omega) ?_
      | (with_reducible refine WR.bz (fun _ => ?_) (fun _ => ?_))
      | (with_reducible refine WR.bn (fun _ => ?_) (fun _ => ?_))
      | (with_reducible refine WR.br (fun _ => ?_) (fun _ => ?_) <;> try contradiction)
      | refine WR.gik hz rfl (by with_reducible assumption) ?_
      | refine WR.gi hz rfl ?_
      | refine WR.gr hz rfl rfl ?_
      | refine WR.addn rfl (by with_reducible rfl) (by with_reducible rfl) ?_
      | refine WR.muln rfl (by with_reducible rfl) (by with_reducible rfl) ?_
      | refine WR.subn rfl (by with_reducible rfl) (by with_reducible rfl) (by omega) ?_
      | (refine WR.incn rfl rfl ?_; dsimp only [List.set])
      | (refine WR.go rfl rfl ?_; try dsimp only [List.set])
      | refine WR.aik hz rfl rfl rfl rfl (by first | with_reducible rfl | with_reducible assumption) (by omega) (by with_reducible assumption) ?_
      | refine WR.ai hz rfl rfl rfl rfl (by first | with_reducible rfl | with_reducible assumption) (by omega) ?_
      | refine WR.si hz rfl rfl rfl rfl (by first | with_reducible rfl | with_reducible assumption) (by omega) ?_
      | refine WR.az hz rfl rfl rfl rfl (by first | with_reducible rfl | with_reducible assumption) (by omega) ?_
      | refine WR.sz hz rfl rfl rfl rfl (by first | with_reducible rfl | with_reducible assumption) (by omega) (by decide) ?_
      | refine WR.pi hz rfl ?_
      | refine WR.rt rfl rfl rfl rfl ?_
      | refine WR.rz rfl rfl (by decide) ?_)
          exact ⟨by rw [f_oVot, if_pos (by simp [h4])], rfl⟩
        · rename_i h4
          iterate 6 (first
      | (with_reducible refine WR.lt (by omega) (by omega) (fun _ => ?_) (fun _ => ?_) <;> try (exfalso; omega))
      | (with_reducible refine WR.le (by omega) (by omega) (fun _ => ?_) (fun _ => ?_) <;> try (exfalso; omega))
      | (with_reducible refine WR.eq (by omega) (by omega) (fun _ => ?_) (fun _ => ?_) <;> try (exfalso; omega))
      | (with_reducible refine WR.ne (by omega) (by omega) (fun _ => ?_) (fun _ => ?_) <;> try (exfalso; omega))
      | with_reducible refine WR.lt0 (by omega) ?_
      | with_reducible refine WR.ge0 (by omega) ?_
      | (with_reducible refine WR.bz (fun _ => ?_) (fun _ => ?_))
      | (with_reducible refine WR.bn (fun _ => ?_) (fun _ => ?_))
      | (with_reducible refine WR.br (fun _ => ?_) (fun _ => ?_) <;> try contradiction)
      | refine WR.gik hz rfl (by with_reducible assumption) ?_
      | refine WR.gi hz rfl ?_
      | refine WR.gr hz rfl rfl ?_
      | refine WR.addn rfl (by with_reducible rfl) (by with_reducible rfl) ?_
      | refine WR.muln rfl (by with_reducible rfl) (by with_reducible rfl) ?_
      | refine WR.subn rfl (by with_reducible rfl) (by with_reducible rfl) (by omega) ?_
      | (refine WR.incn rfl rfl ?_; dsimp only [List.set])
      | (refine WR.go rfl rfl ?_; try dsimp only [List.set])
      | refine WR.aik hz rfl rfl rfl rfl (by first | with_reducible rfl | with_reducible assumption) (by omega) (by with_reducible assumption) ?_
      | refine WR.ai hz rfl rfl rfl rfl (by first | with_reducible rfl | with_reducible assumption) (by omega) ?_
      | refine WR.si hz rfl rfl rfl rfl (by first | with_reducible rfl | with_reducible assumption) (by omega) ?_
      | refine WR.az hz rfl rfl rfl rfl (by first | with_reducible rfl | with_reducible assumption) (by omega) ?_
      | refine WR.sz hz rfl rfl rfl rfl (by first | with_reducible rfl | with_reducible assumption) (by omega) (by decide) ?_
      | refine WR.pi hz rfl ?_
      | refine WR.rt rfl rfl rfl rfl ?_
      | refine WR.rz rfl rfl (by decide) ?_)
          · rename_i h5
            have hneg : ¬ ((!(f_camp I r) || (decide (I 74 32 ≠ I 87 r) || (decide (s ≤ e) || (f_know I r s || decide (I 91 (25 * r + s) < 0))))) = true) := by
              have q1 : ¬ s ≤ e := by omega
              have q2 : ¬ I 91 (25 * r + s) < 0 := Int32.not_lt.mpr h5
              simp [h, Classical.not_not.mp h2, q1, h4, q2]
            repeat' ((with_reducible fail_if_success show WR _ _ _ 77 _ _ _ _); (first
      | (with_reducible refine WR.lt (by omega) (by omega) (fun _ => ?_) (fun _ => ?_) <;> try (exfalso; omega))
      | (with_reducible refine WR.le (by omega) (by omega) (fun _ => ?_) (fun _ => ?_) <;> try (exfalso; omega))
      | (with_reducible refine WR.eq (by omega) (by omega) (fun _ => ?_) (fun _ => ?_) <;> try (exfalso; omega))
      | (with_reducible refine WR.ne (by omega) (by omega) (fun _ => ?_) (fun _ => ?_) <;> try (exfalso; omega))
      | with_reducible refine WR.lt0 (by omega) ?_
      | with_reducible refine WR.ge0 (by omega) ?_
      | (with_reducible refine WR.bz (fun _ => ?_) (fun _ => ?_))
      | (with_reducible refine WR.bn (fun _ => ?_) (fun _ => ?_))
      | (with_reducible refine WR.br (fun _ => ?_) (fun _ => ?_) <;> try contradiction)
      | refine WR.gik hz rfl (by with_reducible assumption) ?_
      | refine WR.gi hz rfl ?_
      | refine WR.gr hz rfl rfl ?_
      | refine WR.addn rfl (by with_reducible rfl) (by with_reducible rfl) ?_
      | refine WR.muln rfl (by with_reducible rfl) (by with_reducible rfl) ?_
      | refine WR.subn rfl (by with_reducible rfl) (by with_reducible rfl) (by omega) ?_
      | (refine WR.incn rfl rfl ?_; dsimp only [List.set])
      | (refine WR.go rfl rfl ?_; try dsimp only [List.set])
      | refine WR.aik hz rfl rfl rfl rfl (by first | with_reducible rfl | with_reducible assumption) (by omega) (by with_reducible assumption) ?_
      | refine WR.ai hz rfl rfl rfl rfl (by first | with_reducible rfl | with_reducible assumption) (by omega) ?_
      | refine WR.si hz rfl rfl rfl rfl (by first | with_reducible rfl | with_reducible assumption) (by omega) ?_
      | refine WR.az hz rfl rfl rfl rfl (by first | with_reducible rfl | with_reducible assumption) (by omega) ?_
      | refine WR.sz hz rfl rfl rfl rfl (by first | with_reducible rfl | with_reducible assumption) (by omega) (by decide) ?_
      | refine WR.pi hz rfl ?_
      | refine WR.rt rfl rfl rfl rfl ?_
      | refine WR.rz rfl rfl (by decide) ?_))
            show WR Z (d + 5) 125 77 _ _ (f_oVot1 I r s) _
            have hw1 : f_wok (f_oVot1 I r s) := f_wok_eq (f_oVot1_o I r s (by decide)) hw
            have hf1 : f_wf (f_oVot1 I r s) := f_wf_eq (fun t => f_oVot1_o I r s (by decide)) (fun t => f_oVot1_o I r s (by decide)) hf
            have he1 : f_oVot1 I r s 83 r = nI e := by rw [f_oVot1_o I r s (by decide)]; exact he
            repeat' ((with_reducible fail_if_success show WR _ _ _ 80 _ _ _ _); (first
      | (with_reducible refine WR.lt (by omega) (by omega) (fun _ => ?_) (fun _ => ?_) <;> try (exfalso; omega))
      | (with_reducible refine WR.le (by omega) (by omega) (fun _ => ?_) (fun _ => ?_) <;> try (exfalso; omega))
      | (with_reducible refine WR.eq (by omega) (by omega) (fun _ => ?_) (fun _ => ?_) <;> try (exfalso; omega))
      | (with_reducible refine WR.ne (by omega) (by omega) (fun _ => ?_) (fun _ => ?_) <;> try (exfalso; omega))
      | with_reducible refine WR.lt0 (by omega) ?_
      | with_reducible refine WR.ge0 (by omega) ?_
      | (with_reducible refine WR.bz (fun _ => ?_) (fun _ => ?_))
      | (with_reducible refine WR.bn (fun _ => ?_) (fun _ => ?_))
      | (with_reducible refine WR.br (fun _ => ?_) (fun _ => ?_) <;> try contradiction)
      | refine WR.gik hz rfl (by with_reducible assumption) ?_
      | refine WR.gi hz rfl ?_
      | refine WR.gr hz rfl rfl ?_
      | refine WR.addn rfl (by with_reducible rfl) (by with_reducible rfl) ?_
      | refine WR.muln rfl (by with_reducible rfl) (by with_reducible rfl) ?_
      | refine WR.subn rfl (by with_reducible rfl) (by with_reducible rfl) (by omega) ?_
      | (refine WR.incn rfl rfl ?_; dsimp only [List.set])
      | (refine WR.go rfl rfl ?_; try dsimp only [List.set])
      | refine WR.aik hz rfl rfl rfl rfl (by first | with_reducible rfl | with_reducible assumption) (by omega) (by with_reducible assumption) ?_
      | refine WR.ai hz rfl rfl rfl rfl (by first | with_reducible rfl | with_reducible assumption) (by omega) ?_
      | refine WR.si hz rfl rfl rfl rfl (by first | with_reducible rfl | with_reducible assumption) (by omega) ?_
      | refine WR.az hz rfl rfl rfl rfl (by first | with_reducible rfl | with_reducible assumption) (by omega) ?_
      | refine WR.sz hz rfl rfl rfl rfl (by first | with_reducible rfl | with_reducible assumption) (by omega) (by decide) ?_
      | refine WR.pi hz rfl ?_
      | refine WR.rt rfl rfl rfl rfl ?_
      | refine WR.rz rfl rfl (by decide) ?_))
            refine WR.V2i hz rfl rfl (r_members (d + 2) _ hr he1 he2 (by omega) hf1 hz) ?_
            have hm : (if s ≤ 3 then nI 7 else f_rp (f_oVot1 I r s) e 107 (s - 3)) = f_mem (f_oVot1 I r s) e s := rfl
            rw [hm]
            have k92 : f_rp (f_oVot1 I r s) e 92 (25 * r + s) = f_oVot1 I r s 92 (25 * r + s) := f_rp_o _ (by decide) _ _
            have k80 : f_rp (f_oVot1 I r s) e 80 s = I 80 s := by rw [f_rp_o _ (by decide), f_oVot1_o I r s (by decide)]
            have k91 : f_rp (f_oVot1 I r s) e 91 (25 * r + s) = I 91 (25 * r + s) := by rw [f_rp_o _ (by decide), f_oVot1_o I r s (by decide)]
            have k84 : f_rp (f_oVot1 I r s) e 84 r = I 84 r := by rw [f_rp_o _ (by decide), f_oVot1_o I r s (by decide)]
            repeat' ((with_reducible fail_if_success show WR _ _ _ 93 _ _ _ _); (first
      | (with_reducible refine WR.lt (by omega) (by omega) (fun _ => ?_) (fun _ => ?_) <;> try (exfalso; omega))
      | (with_reducible refine WR.le (by omega) (by omega) (fun _ => ?_) (fun _ => ?_) <;> try (exfalso; omega))
      | (with_reducible refine WR.eq (by omega) (by omega) (fun _ => ?_) (fun _ => ?_) <;> try (exfalso; omega))
      | (with_reducible refine WR.ne (by omega) (by omega) (fun _ => ?_) (fun _ => ?_) <;> try (exfalso; omega))
      | with_reducible refine WR.lt0 (by omega) ?_
      | with_reducible refine WR.ge0 (by omega) ?_
      | (with_reducible refine WR.bz (fun _ => ?_) (fun _ => ?_))
      | (with_reducible refine WR.bn (fun _ => ?_) (fun _ => ?_))
      | (with_reducible refine WR.br (fun _ => ?_) (fun _ => ?_) <;> try contradiction)
      | refine WR.gik hz rfl (by with_reducible assumption) ?_
      | refine WR.gi hz rfl ?_
      | refine WR.gr hz rfl rfl ?_
      | refine WR.addn rfl (by with_reducible rfl) (by with_reducible rfl) ?_
      | refine WR.muln rfl (by with_reducible rfl) (by with_reducible rfl) ?_
      | refine WR.subn rfl (by with_reducible rfl) (by with_reducible rfl) (by omega) ?_
      | (refine WR.incn rfl rfl ?_; dsimp only [List.set])
      | (refine WR.go rfl rfl ?_; try dsimp only [List.set])
      | refine WR.aik hz rfl rfl rfl rfl (by first | with_reducible rfl | with_reducible assumption) (by omega) (by with_reducible assumption) ?_
      | refine WR.ai hz rfl rfl rfl rfl (by first | with_reducible rfl | with_reducible assumption) (by omega) ?_
      | refine WR.si hz rfl rfl rfl rfl (by first | with_reducible rfl | with_reducible assumption) (by omega) ?_
      | refine WR.az hz rfl rfl rfl rfl (by first | with_reducible rfl | with_reducible assumption) (by omega) ?_
      | refine WR.sz hz rfl rfl rfl rfl (by first | with_reducible rfl | with_reducible assumption) (by omega) (by decide) ?_
      | refine WR.pi hz rfl ?_
      | refine WR.rt rfl rfl rfl rfl ?_
      | refine WR.rz rfl rfl (by decide) ?_))
            refine WR.S2i rfl rfl (r_majority (d + 3) _ _ _ hz) ?_
            iterate 2 (first
      | (with_reducible refine WR.lt (by omega) (by omega) (fun _ => ?_) (fun _ => ?_) <;> try (exfalso; omega))
      | (with_reducible refine WR.le (by omega) (by omega) (fun _ => ?_) (fun _ => ?_) <;> try (exfalso; omega))
      | (with_reducible refine WR.eq (by omega) (by omega) (fun _ => ?_) (fun _ => ?_) <;> try (exfalso; omega))
      | (with_reducible refine WR.ne (by omega) (by omega) (fun _ => ?_) (fun _ => ?_) <;> try (exfalso; omega))
      | with_reducible refine WR.lt0 (by omega) ?_
      | with_reducible refine WR.ge0 (by omega) ?_
      | (with_reducible refine WR.bz (fun _ => ?_) (fun _ => ?_))
      | (with_reducible refine WR.bn (fun _ => ?_) (fun _ => ?_))
      | (with_reducible refine WR.br (fun _ => ?_) (fun _ => ?_) <;> try contradiction)
      | refine WR.gik hz rfl (by with_reducible assumption) ?_
      | refine WR.gi hz rfl ?_
      | refine WR.gr hz rfl rfl ?_
      | refine WR.addn rfl (by with_reducible rfl) (by with_reducible rfl) ?_
      | refine WR.muln rfl (by with_reducible rfl) (by with_reducible rfl) ?_
      | refine WR.subn rfl (by with_reducible rfl) (by with_reducible rfl) (by omega) ?_
      | (refine WR.incn rfl rfl ?_; dsimp only [List.set])
      | (refine WR.go rfl rfl ?_; try dsimp only [List.set])
      | refine WR.aik hz rfl rfl rfl rfl (by first | with_reducible rfl | with_reducible assumption) (by omega) (by with_reducible assumption) ?_
      | refine WR.ai hz rfl rfl rfl rfl (by first | with_reducible rfl | with_reducible assumption) (by omega) ?_
      | refine WR.si hz rfl rfl rfl rfl (by first | with_reducible rfl | with_reducible assumption) (by omega) ?_
      | refine WR.az hz rfl rfl rfl rfl (by first | with_reducible rfl | with_reducible assumption) (by omega) ?_
      | refine WR.sz hz rfl rfl rfl rfl (by first | with_reducible rfl | with_reducible assumption) (by omega) (by decide) ?_
      | refine WR.pi hz rfl ?_
      | refine WR.rt rfl rfl rfl rfl ?_
      | refine WR.rz rfl rfl (by decide) ?_)
            · rename_i h6
              have fin : ∀ J, J = f_oVot2 I r s e → WR Z (d + 5) 125 121 [some (.ref 74), some (.int (nI r)), some (.int (nI s)), some (.int (nI (25 * r + s))), some (.int (f_mem (f_oVot1 I r s) e s))] [] J (fun I' v => I' = f_oVot I r s e ∧ v = none) := by
                intro J hJ
                have j84 : J 84 r = I 84 r := by rw [hJ]; exact f_oVot2_o I r s e (by decide)
                have j80 : x_u J 84 r (I 84 r ||| (nI 1 <<< (nI s &&& 31))) 80 s = f_oVot2 I r s e 80 s := by rw [x_u_ne _ _ (by omega), hJ]
                have e3 : x_u J 84 r (I 84 r ||| (nI 1 <<< (nI s &&& 31))) = f_oVot3 I r s e := by rw [hJ, f_oVot3]
                have hw3 : f_wok (f_oVot3 I r s e) := f_wok_eq (f_oVot3_o I r s e (by decide)) hw
                repeat' ((with_reducible fail_if_success show WR _ _ _ 146 _ _ _ _); (first
      | (with_reducible refine WR.lt (by omega) (by omega) (fun _ => ?_) (fun _ => ?_) <;> try (exfalso; omega))
      | (with_reducible refine WR.le (by omega) (by omega) (fun _ => ?_) (fun _ => ?_) <;> try (exfalso; omega))
      | (with_reducible refine WR.eq (by omega) (by omega) (fun _ => ?_) (fun _ => ?_) <;> try (exfalso; omega))
      | (with_reducible refine WR.ne (by omega) (by omega) (fun _ => ?_) (fun _ => ?_) <;> try (exfalso; omega))
      | with_reducible refine WR.lt0 (by omega) ?_
      | with_reducible refine WR.ge0 (by omega) ?_
      | (with_reducible refine WR.bz (fun _ => ?_) (fun _ => ?_))
      | (with_reducible refine WR.bn (fun _ => ?_) (fun _ => ?_))
      | (with_reducible refine WR.br (fun _ => ?_) (fun _ => ?_) <;> try contradiction)
      | refine WR.gik hz rfl (by with_reducible assumption) ?_
      | refine WR.gi hz rfl ?_
      | refine WR.gr hz rfl rfl ?_
      | refine WR.addn rfl (by with_reducible rfl) (by with_reducible rfl) ?_
      | refine WR.muln rfl (by with_reducible rfl) (by with_reducible rfl) ?_
      | refine WR.subn rfl (by with_reducible rfl) (by with_reducible rfl) (by omega) ?_
      | (refine WR.incn rfl rfl ?_; dsimp only [List.set])
      | (refine WR.go rfl rfl ?_; try dsimp only [List.set])
      | refine WR.aik hz rfl rfl rfl rfl (by first | with_reducible rfl | with_reducible assumption) (by omega) (by with_reducible assumption) ?_
      | refine WR.ai hz rfl rfl rfl rfl (by first | with_reducible rfl | with_reducible assumption) (by omega) ?_
      | refine WR.si hz rfl rfl rfl rfl (by first | with_reducible rfl | with_reducible assumption) (by omega) ?_
      | refine WR.az hz rfl rfl rfl rfl (by first | with_reducible rfl | with_reducible assumption) (by omega) ?_
      | refine WR.sz hz rfl rfl rfl rfl (by first | with_reducible rfl | with_reducible assumption) (by omega) (by decide) ?_
      | refine WR.pi hz rfl ?_
      | refine WR.rt rfl rfl rfl rfl ?_
      | refine WR.rz rfl rfl (by decide) ?_))
                rw [e3]
                refine WR.V6v hz rfl rfl (r_mailAll (d + 3) _ (nI 5) (nI 31) (nI 0) (nI s) _ hr hw3 hz) ?_
                show WR Z (d + 5) 125 149 _ _ (f_oVot4 I r s e) _
                have hw4 : f_wok (f_oVot4 I r s e) := f_ma_w _ _ _ _ _ _ hw3 5
                have hf4 : f_wf (f_oVot4 I r s e) := f_wf_eq (I := f_oVot2 I r s e) (fun t => by rw [f_oVot4, f_ma_o _ _ _ _ _ _ (by decide) (Or.inl (by decide)), f_oVot3, x_u_ne _ _ (by omega)]) (fun t => by rw [f_oVot4, f_ma_o _ _ _ _ _ _ (by decide) (Or.inl (by decide)), f_oVot3, x_u_ne _ _ (by omega)]) (f_oVot2_f r s e hf ho)
                have he4 : f_oVot4 I r s e 83 r = nI e := by rw [f_oVot4, f_ma_o _ _ _ _ _ _ (by decide) (Or.inl (by decide)), f_oVot3_o _ _ _ _ (by decide)]; exact he
                iterate 2 (first
      | (with_reducible refine WR.lt (by omega) (by omega) (fun _ => ?_) (fun _ => ?_) <;> try (exfalso; omega))
      | (with_reducible refine WR.le (by omega) (by omega) (fun _ => ?_) (fun _ => ?_) <;> try (exfalso; omega))
      | (with_reducible refine WR.eq (by omega) (by omega) (fun _ => ?_) (fun _ => ?_) <;> try (exfalso; omega))
      | (with_reducible refine WR.ne (by omega) (by omega) (fun _ => ?_) (fun _ => ?_) <;> try (exfalso; omega))
      | with_reducible refine WR.lt0 (by omega) ?_
      | with_reducible refine WR.ge0 (by omega) ?_
      | (with_reducible refine WR.bz (fun _ => ?_) (fun _ => ?_))
      | (with_reducible refine WR.bn (fun _ => ?_) (fun _ => ?_))
      | (with_reducible refine WR.br (fun _ => ?_) (fun _ => ?_) <;> try contradiction)
      | refine WR.gik hz rfl (by with_reducible assumption) ?_
      | refine WR.gi hz rfl ?_
      | refine WR.gr hz rfl rfl ?_
      | refine WR.addn rfl (by with_reducible rfl) (by with_reducible rfl) ?_
      | refine WR.muln rfl (by with_reducible rfl) (by with_reducible rfl) ?_
      | refine WR.subn rfl (by with_reducible rfl) (by with_reducible rfl) (by omega) ?_
      | (refine WR.incn rfl rfl ?_; dsimp only [List.set])
      | (refine WR.go rfl rfl ?_; try dsimp only [List.set])
      | refine WR.aik hz rfl rfl rfl rfl (by first | with_reducible rfl | with_reducible assumption) (by omega) (by with_reducible assumption) ?_
      | refine WR.ai hz rfl rfl rfl rfl (by first | with_reducible rfl | with_reducible assumption) (by omega) ?_
      | refine WR.si hz rfl rfl rfl rfl (by first | with_reducible rfl | with_reducible assumption) (by omega) ?_
      | refine WR.az hz rfl rfl rfl rfl (by first | with_reducible rfl | with_reducible assumption) (by omega) ?_
      | refine WR.sz hz rfl rfl rfl rfl (by first | with_reducible rfl | with_reducible assumption) (by omega) (by decide) ?_
      | refine WR.pi hz rfl ?_
      | refine WR.rt rfl rfl rfl rfl ?_
      | refine WR.rz rfl rfl (by decide) ?_)
                refine WR.V1v hz rfl rfl (r_goOn d _ hr he4 he2 hf4 hw4 hz) ?_
                iterate 1 (first
      | (with_reducible refine WR.lt (by omega) (by omega) (fun _ => ?_) (fun _ => ?_) <;> try (exfalso; omega))
      | (with_reducible refine WR.le (by omega) (by omega) (fun _ => ?_) (fun _ => ?_) <;> try (exfalso; omega))
      | (with_reducible refine WR.eq (by omega) (by omega) (fun _ => ?_) (fun _ => ?_) <;> try (exfalso; omega))
      | (with_reducible refine WR.ne (by omega) (by omega) (fun _ => ?_) (fun _ => ?_) <;> try (exfalso; omega))
      | with_reducible refine WR.lt0 (by omega) ?_
      | with_reducible refine WR.ge0 (by omega) ?_
      | (with_reducible refine WR.bz (fun _ => ?_) (fun _ => ?_))
      | (with_reducible refine WR.bn (fun _ => ?_) (fun _ => ?_))
      | (with_reducible refine WR.br (fun _ => ?_) (fun _ => ?_) <;> try contradiction)
      | refine WR.gik hz rfl (by with_reducible assumption) ?_
      | refine WR.gi hz rfl ?_
      | refine WR.gr hz rfl rfl ?_
      | refine WR.addn rfl (by with_reducible rfl) (by with_reducible rfl) ?_
      | refine WR.muln rfl (by with_reducible rfl) (by with_reducible rfl) ?_
      | refine WR.subn rfl (by with_reducible rfl) (by with_reducible rfl) (by omega) ?_
      | (refine WR.incn rfl rfl ?_; dsimp only [List.set])
      | (refine WR.go rfl rfl ?_; try dsimp only [List.set])
      | refine WR.aik hz rfl rfl rfl rfl (by first | with_reducible rfl | with_reducible assumption) (by omega) (by with_reducible assumption) ?_
      | refine WR.ai hz rfl rfl rfl rfl (by first | with_reducible rfl | with_reducible assumption) (by omega) ?_
      | refine WR.si hz rfl rfl rfl rfl (by first | with_reducible rfl | with_reducible assumption) (by omega) ?_
      | refine WR.az hz rfl rfl rfl rfl (by first | with_reducible rfl | with_reducible assumption) (by omega) ?_
      | refine WR.sz hz rfl rfl rfl rfl (by first | with_reducible rfl | with_reducible assumption) (by omega) (by decide) ?_
      | refine WR.pi hz rfl ?_
      | refine WR.rt rfl rfl rfl rfl ?_
      | refine WR.rz rfl rfl (by decide) ?_)
                exact ⟨by rw [f_oVot, if_neg hneg, if_pos h6], rfl⟩
              iterate 6 (first
      | (with_reducible refine WR.lt (by omega) (by omega) (fun _ => ?_) (fun _ => ?_) <;> try (exfalso; omega))
      | (with_reducible refine WR.le (by omega) (by omega) (fun _ => ?_) (fun _ => ?_) <;> try (exfalso; omega))
      | (with_reducible refine WR.eq (by omega) (by omega) (fun _ => ?_) (fun _ => ?_) <;> try (exfalso; omega))
      | (with_reducible refine WR.ne (by omega) (by omega) (fun _ => ?_) (fun _ => ?_) <;> try (exfalso; omega))
      | with_reducible refine WR.lt0 (by omega) ?_
      | with_reducible refine WR.ge0 (by omega) ?_
      | (with_reducible refine WR.bz (fun _ => ?_) (fun _ => ?_))
      | (with_reducible refine WR.bn (fun _ => ?_) (fun _ => ?_))
      | (with_reducible refine WR.br (fun _ => ?_) (fun _ => ?_) <;> try contradiction)
      | refine WR.gik hz rfl (by with_reducible assumption) ?_
      | refine WR.gi hz rfl ?_
      | refine WR.gr hz rfl rfl ?_
      | refine WR.addn rfl (by with_reducible rfl) (by with_reducible rfl) ?_
      | refine WR.muln rfl (by with_reducible rfl) (by with_reducible rfl) ?_
      | refine WR.subn rfl (by with_reducible rfl) (by with_reducible rfl) (by omega) ?_
      | (refine WR.incn rfl rfl ?_; dsimp only [List.set])
      | (refine WR.go rfl rfl ?_; try dsimp only [List.set])
      | refine WR.aik hz rfl rfl rfl rfl (by first | with_reducible rfl | with_reducible assumption) (by omega) (by with_reducible assumption) ?_
      | refine WR.ai hz rfl rfl rfl rfl (by first | with_reducible rfl | with_reducible assumption) (by omega) ?_
      | refine WR.si hz rfl rfl rfl rfl (by first | with_reducible rfl | with_reducible assumption) (by omega) ?_
      | refine WR.az hz rfl rfl rfl rfl (by first | with_reducible rfl | with_reducible assumption) (by omega) ?_
      | refine WR.sz hz rfl rfl rfl rfl (by first | with_reducible rfl | with_reducible assumption) (by omega) (by decide) ?_
      | refine WR.pi hz rfl ?_
      | refine WR.rt rfl rfl rfl rfl ?_
      | refine WR.rz rfl rfl (by decide) ?_)
              · rename_i h7
                exact fin _ (by rw [f_oVot2, if_pos h7])
              · rename_i h7
                repeat' ((with_reducible fail_if_success show WR _ _ _ 121 _ _ _ _); (first
      | (with_reducible refine WR.lt (by omega) (by omega) (fun _ => ?_) (fun _ => ?_) <;> try (exfalso; omega))
      | (with_reducible refine WR.le (by omega) (by omega) (fun _ => ?_) (fun _ => ?_) <;> try (exfalso; omega))
      | (with_reducible refine WR.eq (by omega) (by omega) (fun _ => ?_) (fun _ => ?_) <;> try (exfalso; omega))
      | (with_reducible refine WR.ne (by omega) (by omega) (fun _ => ?_) (fun _ => ?_) <;> try (exfalso; omega))
      | with_reducible refine WR.lt0 (by omega) ?_
      | with_reducible refine WR.ge0 (by omega) ?_
      | (with_reducible refine WR.bz (fun _ => ?_) (fun _ => ?_))
      | (with_reducible refine WR.bn (fun _ => ?_) (fun _ => ?_))
      | (with_reducible refine WR.br (fun _ => ?_) (fun _ => ?_) <;> try contradiction)
      | refine WR.gik hz rfl (by with_reducible assumption) ?_
      | refine WR.gi hz rfl ?_
      | refine WR.gr hz rfl rfl ?_
      | refine WR.addn rfl (by with_reducible rfl) (by with_reducible rfl) ?_
      | refine WR.muln rfl (by with_reducible rfl) (by with_reducible rfl) ?_
      | refine WR.subn rfl (by with_reducible rfl) (by with_reducible rfl) (by omega) ?_
      | (refine WR.incn rfl rfl ?_; dsimp only [List.set])
      | (refine WR.go rfl rfl ?_; try dsimp only [List.set])
      | refine WR.aik hz rfl rfl rfl rfl (by first | with_reducible rfl | with_reducible assumption) (by omega) (by with_reducible assumption) ?_
      | refine WR.ai hz rfl rfl rfl rfl (by first | with_reducible rfl | with_reducible assumption) (by omega) ?_
      | refine WR.si hz rfl rfl rfl rfl (by first | with_reducible rfl | with_reducible assumption) (by omega) ?_
      | refine WR.az hz rfl rfl rfl rfl (by first | with_reducible rfl | with_reducible assumption) (by omega) ?_
      | refine WR.sz hz rfl rfl rfl rfl (by first | with_reducible rfl | with_reducible assumption) (by omega) (by decide) ?_
      | refine WR.pi hz rfl ?_
      | refine WR.rt rfl rfl rfl rfl ?_
      | refine WR.rz rfl rfl (by decide) ?_))
                exact fin _ (by rw [f_oVot2, if_neg h7])
            · rename_i h6
              iterate 1 (first
      | (with_reducible refine WR.lt (by omega) (by omega) (fun _ => ?_) (fun _ => ?_) <;> try (exfalso; omega))
      | (with_reducible refine WR.le (by omega) (by omega) (fun _ => ?_) (fun _ => ?_) <;> try (exfalso; omega))
      | (with_reducible refine WR.eq (by omega) (by omega) (fun _ => ?_) (fun _ => ?_) <;> try (exfalso; omega))
      | (with_reducible refine WR.ne (by omega) (by omega) (fun _ => ?_) (fun _ => ?_) <;> try (exfalso; omega))
      | with_reducible refine WR.lt0 (by omega) ?_
      | with_reducible refine WR.ge0 (by omega) ?_
      | (with_reducible refine WR.bz (fun _ => ?_) (fun _ => ?_))
      | (with_reducible refine WR.bn (fun _ => ?_) (fun _ => ?_))
      | (with_reducible refine WR.br (fun _ => ?_) (fun _ => ?_) <;> try contradiction)
      | refine WR.gik hz rfl (by with_reducible assumption) ?_
      | refine WR.gi hz rfl ?_
      | refine WR.gr hz rfl rfl ?_
      | refine WR.addn rfl (by with_reducible rfl) (by with_reducible rfl) ?_
      | refine WR.muln rfl (by with_reducible rfl) (by with_reducible rfl) ?_
      | refine WR.subn rfl (by with_reducible rfl) (by with_reducible rfl) (by omega) ?_
      | (refine WR.incn rfl rfl ?_; dsimp only [List.set])
      | (refine WR.go rfl rfl ?_; try dsimp only [List.set])
      | refine WR.aik hz rfl rfl rfl rfl (by first | with_reducible rfl | with_reducible assumption) (by omega) (by with_reducible assumption) ?_
      | refine WR.ai hz rfl rfl rfl rfl (by first | with_reducible rfl | with_reducible assumption) (by omega) ?_
      | refine WR.si hz rfl rfl rfl rfl (by first | with_reducible rfl | with_reducible assumption) (by omega) ?_
      | refine WR.az hz rfl rfl rfl rfl (by first | with_reducible rfl | with_reducible assumption) (by omega) ?_
      | refine WR.sz hz rfl rfl rfl rfl (by first | with_reducible rfl | with_reducible assumption) (by omega) (by decide) ?_
      | refine WR.pi hz rfl ?_
      | refine WR.rt rfl rfl rfl rfl ?_
      | refine WR.rz rfl rfl (by decide) ?_)
              exact ⟨by rw [f_oVot, if_neg hneg, if_neg (by simp [h6])], rfl⟩
          · rename_i h5
            iterate 1 (first
      | (with_reducible refine WR.lt (by omega) (by omega) (fun _ => ?_) (fun _ => ?_) <;> try (exfalso; omega))
      | (with_reducible refine WR.le (by omega) (by omega) (fun _ => ?_) (fun _ => ?_) <;> try (exfalso; omega))
      | (with_reducible refine WR.eq (by omega) (by omega) (fun _ => ?_) (fun _ => ?_) <;> try (exfalso; omega))
      | (with_reducible refine WR.ne (by omega) (by omega) (fun _ => ?_) (fun _ => ?_) <;> try (exfalso; omega))
      | with_reducible refine WR.lt0 (by omega) ?_
      | with_reducible refine WR.ge0 (by omega) ?_
      | (with_reducible refine WR.bz (fun _ => ?_) (fun _ => ?_))
      | (with_reducible refine WR.bn (fun _ => ?_) (fun _ => ?_))
      | (with_reducible refine WR.br (fun _ => ?_) (fun _ => ?_) <;> try contradiction)
      | refine WR.gik hz rfl (by with_reducible assumption) ?_
      | refine WR.gi hz rfl ?_
      | refine WR.gr hz rfl rfl ?_
      | refine WR.addn rfl (by with_reducible rfl) (by with_reducible rfl) ?_
      | refine WR.muln rfl (by with_reducible rfl) (by with_reducible rfl) ?_
      | refine WR.subn rfl (by with_reducible rfl) (by with_reducible rfl) (by omega) ?_
      | (refine WR.incn rfl rfl ?_; dsimp only [List.set])
      | (refine WR.go rfl rfl ?_; try dsimp only [List.set])
      | refine WR.aik hz rfl rfl rfl rfl (by first | with_reducible rfl | with_reducible assumption) (by omega) (by with_reducible assumption) ?_
      | refine WR.ai hz rfl rfl rfl rfl (by first | with_reducible rfl | with_reducible assumption) (by omega) ?_
      | refine WR.si hz rfl rfl rfl rfl (by first | with_reducible rfl | with_reducible assumption) (by omega) ?_
      | refine WR.az hz rfl rfl rfl rfl (by first | with_reducible rfl | with_reducible assumption) (by omega) ?_
      | refine WR.sz hz rfl rfl rfl rfl (by first | with_reducible rfl | with_reducible assumption) (by omega) (by decide) ?_
      | refine WR.pi hz rfl ?_
      | refine WR.rt rfl rfl rfl rfl ?_
      | refine WR.rz rfl rfl (by decide) ?_)
            exact ⟨by rw [f_oVot, if_pos (by simp [Int32.not_le.mp h5])], rfl⟩
end RECV
end
