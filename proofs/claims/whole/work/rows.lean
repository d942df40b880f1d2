section
-- ===== PART A: goes FIRST, ahead of the names: the tables' words, and 'selects' of the private methods out of them =====
/-- a private method of a class that the tables say can be made, by its rows of tables_1 -/
def lw_okq (q : MethodName × Nat) : Prop := (q.1.cls ≠ "java/lang/invoke/MethodHandle" ∧ q.1.cls ≠ "java/lang/invoke/VarHandle") ∧ Cond.instantiable q.1.cls q.2 ∈ tables_1 ∧ Cond.privateMethod q.1 ∈ tables_1 ∧ Cond.instanceMethod q.1 ∈ tables_1
theorem lw_p0 : lw_okq (⟨"StartedByAYawn", "readLines", "()I"⟩, 17) := ⟨⟨by decide +kernel, by decide +kernel⟩, List.mem_of_getElem? (i := 23) (by decide +kernel), List.mem_of_getElem? (i := 412) (by decide +kernel), List.mem_of_getElem? (i := 413) (by decide +kernel)⟩
theorem lw_p1 : lw_okq (⟨"StartedByAYawn", "readLine", "(I)Z"⟩, 17) := ⟨⟨by decide +kernel, by decide +kernel⟩, List.mem_of_getElem? (i := 23) (by decide +kernel), List.mem_of_getElem? (i := 420) (by decide +kernel), List.mem_of_getElem? (i := 421) (by decide +kernel)⟩
theorem lw_p2 : lw_okq (⟨"StartedByAYawn$Text", "valueFrom", "(III)I"⟩, 5) := ⟨⟨by decide +kernel, by decide +kernel⟩, List.mem_of_getElem? (i := 31) (by decide +kernel), List.mem_of_getElem? (i := 428) (by decide +kernel), List.mem_of_getElem? (i := 429) (by decide +kernel)⟩
theorem lw_p3 : lw_okq (⟨"StartedByAYawn", "readLetters", "()I"⟩, 17) := ⟨⟨by decide +kernel, by decide +kernel⟩, List.mem_of_getElem? (i := 23) (by decide +kernel), List.mem_of_getElem? (i := 440) (by decide +kernel), List.mem_of_getElem? (i := 441) (by decide +kernel)⟩
theorem lw_p4 : lw_okq (⟨"StartedByAYawn$RuleReader", "expression", "(I)Z"⟩, 3) := ⟨⟨by decide +kernel, by decide +kernel⟩, List.mem_of_getElem? (i := 86) (by decide +kernel), List.mem_of_getElem? (i := 476) (by decide +kernel), List.mem_of_getElem? (i := 477) (by decide +kernel)⟩
theorem lw_p5 : lw_okq (⟨"StartedByAYawn$RuleReader", "sum", "(I)Z"⟩, 3) := ⟨⟨by decide +kernel, by decide +kernel⟩, List.mem_of_getElem? (i := 86) (by decide +kernel), List.mem_of_getElem? (i := 480) (by decide +kernel), List.mem_of_getElem? (i := 481) (by decide +kernel)⟩
theorem lw_p6 : lw_okq (⟨"StartedByAYawn$RuleReader", "product", "(I)Z"⟩, 3) := ⟨⟨by decide +kernel, by decide +kernel⟩, List.mem_of_getElem? (i := 86) (by decide +kernel), List.mem_of_getElem? (i := 484) (by decide +kernel), List.mem_of_getElem? (i := 485) (by decide +kernel)⟩
theorem lw_p7 : lw_okq (⟨"StartedByAYawn$RuleReader", "signed", "(I)Z"⟩, 3) := ⟨⟨by decide +kernel, by decide +kernel⟩, List.mem_of_getElem? (i := 86) (by decide +kernel), List.mem_of_getElem? (i := 488) (by decide +kernel), List.mem_of_getElem? (i := 489) (by decide +kernel)⟩
theorem lw_p8 : lw_okq (⟨"StartedByAYawn$RuleReader", "thing", "(I)Z"⟩, 3) := ⟨⟨by decide +kernel, by decide +kernel⟩, List.mem_of_getElem? (i := 86) (by decide +kernel), List.mem_of_getElem? (i := 493) (by decide +kernel), List.mem_of_getElem? (i := 494) (by decide +kernel)⟩
theorem lw_p9 : lw_okq (⟨"StartedByAYawn$RuleReader", "restOfNumber", "(I)I"⟩, 3) := ⟨⟨by decide +kernel, by decide +kernel⟩, List.mem_of_getElem? (i := 86) (by decide +kernel), List.mem_of_getElem? (i := 503) (by decide +kernel), List.mem_of_getElem? (i := 504) (by decide +kernel)⟩
theorem lw_p10 : lw_okq (⟨"StartedByAYawn$RuleReader", "put", "(I)V"⟩, 3) := ⟨⟨by decide +kernel, by decide +kernel⟩, List.mem_of_getElem? (i := 86) (by decide +kernel), List.mem_of_getElem? (i := 507) (by decide +kernel), List.mem_of_getElem? (i := 508) (by decide +kernel)⟩
theorem lw_p11 : lw_okq (⟨"StartedByAYawn", "isFace", "(I)Z"⟩, 17) := ⟨⟨by decide +kernel, by decide +kernel⟩, List.mem_of_getElem? (i := 23) (by decide +kernel), List.mem_of_getElem? (i := 526) (by decide +kernel), List.mem_of_getElem? (i := 527) (by decide +kernel)⟩
theorem lw_p12 : lw_okq (⟨"StartedByAYawn", "sumOfTired", "()I"⟩, 17) := ⟨⟨by decide +kernel, by decide +kernel⟩, List.mem_of_getElem? (i := 23) (by decide +kernel), List.mem_of_getElem? (i := 547) (by decide +kernel), List.mem_of_getElem? (i := 548) (by decide +kernel)⟩
theorem lw_p13 : lw_okq (⟨"StartedByAYawn", "canYawn", "(I)Z"⟩, 17) := ⟨⟨by decide +kernel, by decide +kernel⟩, List.mem_of_getElem? (i := 23) (by decide +kernel), List.mem_of_getElem? (i := 582) (by decide +kernel), List.mem_of_getElem? (i := 583) (by decide +kernel)⟩
theorem lw_p14 : lw_okq (⟨"StartedByAYawn", "isPresent", "(I)Z"⟩, 17) := ⟨⟨by decide +kernel, by decide +kernel⟩, List.mem_of_getElem? (i := 23) (by decide +kernel), List.mem_of_getElem? (i := 586) (by decide +kernel), List.mem_of_getElem? (i := 587) (by decide +kernel)⟩
theorem lw_p15 : lw_okq (⟨"StartedByAYawn", "remember", "()V"⟩, 17) := ⟨⟨by decide +kernel, by decide +kernel⟩, List.mem_of_getElem? (i := 23) (by decide +kernel), List.mem_of_getElem? (i := 595) (by decide +kernel), List.mem_of_getElem? (i := 596) (by decide +kernel)⟩
def lw_privs_1 : List (MethodName × Nat) := [(⟨"StartedByAYawn", "readLines", "()I"⟩, 17), (⟨"StartedByAYawn", "readLine", "(I)Z"⟩, 17), (⟨"StartedByAYawn$Text", "valueFrom", "(III)I"⟩, 5), (⟨"StartedByAYawn", "readLetters", "()I"⟩, 17), (⟨"StartedByAYawn$RuleReader", "expression", "(I)Z"⟩, 3), (⟨"StartedByAYawn$RuleReader", "sum", "(I)Z"⟩, 3), (⟨"StartedByAYawn$RuleReader", "product", "(I)Z"⟩, 3), (⟨"StartedByAYawn$RuleReader", "signed", "(I)Z"⟩, 3), (⟨"StartedByAYawn$RuleReader", "thing", "(I)Z"⟩, 3), (⟨"StartedByAYawn$RuleReader", "restOfNumber", "(I)I"⟩, 3), (⟨"StartedByAYawn$RuleReader", "put", "(I)V"⟩, 3), (⟨"StartedByAYawn", "isFace", "(I)Z"⟩, 17), (⟨"StartedByAYawn", "sumOfTired", "()I"⟩, 17), (⟨"StartedByAYawn", "canYawn", "(I)Z"⟩, 17), (⟨"StartedByAYawn", "isPresent", "(I)Z"⟩, 17), (⟨"StartedByAYawn", "remember", "()V"⟩, 17)]
theorem lw_r1 : ∀ q ∈ lw_privs_1, lw_okq q := List.forall_mem_cons.mpr ⟨lw_p0, List.forall_mem_cons.mpr ⟨lw_p1, List.forall_mem_cons.mpr ⟨lw_p2, List.forall_mem_cons.mpr ⟨lw_p3, List.forall_mem_cons.mpr ⟨lw_p4, List.forall_mem_cons.mpr ⟨lw_p5, List.forall_mem_cons.mpr ⟨lw_p6, List.forall_mem_cons.mpr ⟨lw_p7, List.forall_mem_cons.mpr ⟨lw_p8, List.forall_mem_cons.mpr ⟨lw_p9, List.forall_mem_cons.mpr ⟨lw_p10, List.forall_mem_cons.mpr ⟨lw_p11, List.forall_mem_cons.mpr ⟨lw_p12, List.forall_mem_cons.mpr ⟨lw_p13, List.forall_mem_cons.mpr ⟨lw_p14, List.forall_mem_cons.mpr ⟨lw_p15, fun _ h => absurd h List.not_mem_nil⟩⟩⟩⟩⟩⟩⟩⟩⟩⟩⟩⟩⟩⟩⟩⟩
theorem lw_p16 : lw_okq (⟨"StartedByAYawn$Wall", "causeFor", "(II)I"⟩, 9) := ⟨⟨by decide +kernel, by decide +kernel⟩, List.mem_of_getElem? (i := 130) (by decide +kernel), List.mem_of_getElem? (i := 655) (by decide +kernel), List.mem_of_getElem? (i := 656) (by decide +kernel)⟩
theorem lw_p17 : lw_okq (⟨"StartedByAYawn", "tell", "(I)V"⟩, 17) := ⟨⟨by decide +kernel, by decide +kernel⟩, List.mem_of_getElem? (i := 23) (by decide +kernel), List.mem_of_getElem? (i := 676) (by decide +kernel), List.mem_of_getElem? (i := 677) (by decide +kernel)⟩
theorem lw_p18 : lw_okq (⟨"StartedByAYawn", "goBy", "()I"⟩, 17) := ⟨⟨by decide +kernel, by decide +kernel⟩, List.mem_of_getElem? (i := 23) (by decide +kernel), List.mem_of_getElem? (i := 684) (by decide +kernel), List.mem_of_getElem? (i := 685) (by decide +kernel)⟩
theorem lw_p19 : lw_okq (⟨"StartedByAYawn$Wall", "yawnAll", "(Z)V"⟩, 9) := ⟨⟨by decide +kernel, by decide +kernel⟩, List.mem_of_getElem? (i := 130) (by decide +kernel), List.mem_of_getElem? (i := 692) (by decide +kernel), List.mem_of_getElem? (i := 693) (by decide +kernel)⟩
theorem lw_p20 : lw_okq (⟨"StartedByAYawn", "falseIn", "(LStartedByAYawn$Wall;)I"⟩, 17) := ⟨⟨by decide +kernel, by decide +kernel⟩, List.mem_of_getElem? (i := 23) (by decide +kernel), List.mem_of_getElem? (i := 715) (by decide +kernel), List.mem_of_getElem? (i := 716) (by decide +kernel)⟩
theorem lw_p21 : lw_okq (⟨"StartedByAYawn", "tell", "(II)V"⟩, 17) := ⟨⟨by decide +kernel, by decide +kernel⟩, List.mem_of_getElem? (i := 23) (by decide +kernel), List.mem_of_getElem? (i := 719) (by decide +kernel), List.mem_of_getElem? (i := 720) (by decide +kernel)⟩
theorem lw_p22 : lw_okq (⟨"StartedByAYawn$Acts", "readOne", "()Z"⟩, 5) := ⟨⟨by decide +kernel, by decide +kernel⟩, List.mem_of_getElem? (i := 104) (by decide +kernel), List.mem_of_getElem? (i := 736) (by decide +kernel), List.mem_of_getElem? (i := 737) (by decide +kernel)⟩
theorem lw_p23 : lw_okq (⟨"StartedByAYawn$Acts", "readMinutes", "()Z"⟩, 5) := ⟨⟨by decide +kernel, by decide +kernel⟩, List.mem_of_getElem? (i := 104) (by decide +kernel), List.mem_of_getElem? (i := 742) (by decide +kernel), List.mem_of_getElem? (i := 743) (by decide +kernel)⟩
theorem lw_p24 : lw_okq (⟨"StartedByAYawn$Acts", "put", "(III)Z"⟩, 5) := ⟨⟨by decide +kernel, by decide +kernel⟩, List.mem_of_getElem? (i := 104) (by decide +kernel), List.mem_of_getElem? (i := 747) (by decide +kernel), List.mem_of_getElem? (i := 748) (by decide +kernel)⟩
theorem lw_p25 : lw_okq (⟨"StartedByAYawn", "act", "(III)I"⟩, 17) := ⟨⟨by decide +kernel, by decide +kernel⟩, List.mem_of_getElem? (i := 23) (by decide +kernel), List.mem_of_getElem? (i := 753) (by decide +kernel), List.mem_of_getElem? (i := 754) (by decide +kernel)⟩
theorem lw_p26 : lw_okq (⟨"StartedByAYawn", "startWithin", "(I)I"⟩, 17) := ⟨⟨by decide +kernel, by decide +kernel⟩, List.mem_of_getElem? (i := 23) (by decide +kernel), List.mem_of_getElem? (i := 793) (by decide +kernel), List.mem_of_getElem? (i := 794) (by decide +kernel)⟩
theorem lw_p27 : lw_okq (⟨"StartedByAYawn", "playOn", "(I)I"⟩, 17) := ⟨⟨by decide +kernel, by decide +kernel⟩, List.mem_of_getElem? (i := 23) (by decide +kernel), List.mem_of_getElem? (i := 804) (by decide +kernel), List.mem_of_getElem? (i := 805) (by decide +kernel)⟩
theorem lw_p28 : lw_okq (⟨"StartedByAYawn", "mostInTally", "()I"⟩, 17) := ⟨⟨by decide +kernel, by decide +kernel⟩, List.mem_of_getElem? (i := 23) (by decide +kernel), List.mem_of_getElem? (i := 813) (by decide +kernel), List.mem_of_getElem? (i := 814) (by decide +kernel)⟩
theorem lw_p29 : lw_okq (⟨"StartedByAYawn", "firstYawn", "(II)I"⟩, 17) := ⟨⟨by decide +kernel, by decide +kernel⟩, List.mem_of_getElem? (i := 23) (by decide +kernel), List.mem_of_getElem? (i := 821) (by decide +kernel), List.mem_of_getElem? (i := 822) (by decide +kernel)⟩
theorem lw_p30 : lw_okq (⟨"StartedByAYawn", "sumOfTally", "()I"⟩, 17) := ⟨⟨by decide +kernel, by decide +kernel⟩, List.mem_of_getElem? (i := 23) (by decide +kernel), List.mem_of_getElem? (i := 829) (by decide +kernel), List.mem_of_getElem? (i := 830) (by decide +kernel)⟩
theorem lw_p31 : lw_okq (⟨"StartedByAYawn", "thoseInTally", "()I"⟩, 17) := ⟨⟨by decide +kernel, by decide +kernel⟩, List.mem_of_getElem? (i := 23) (by decide +kernel), List.mem_of_getElem? (i := 833) (by decide +kernel), List.mem_of_getElem? (i := 834) (by decide +kernel)⟩
def lw_privs_2 : List (MethodName × Nat) := [(⟨"StartedByAYawn$Wall", "causeFor", "(II)I"⟩, 9), (⟨"StartedByAYawn", "tell", "(I)V"⟩, 17), (⟨"StartedByAYawn", "goBy", "()I"⟩, 17), (⟨"StartedByAYawn$Wall", "yawnAll", "(Z)V"⟩, 9), (⟨"StartedByAYawn", "falseIn", "(LStartedByAYawn$Wall;)I"⟩, 17), (⟨"StartedByAYawn", "tell", "(II)V"⟩, 17), (⟨"StartedByAYawn$Acts", "readOne", "()Z"⟩, 5), (⟨"StartedByAYawn$Acts", "readMinutes", "()Z"⟩, 5), (⟨"StartedByAYawn$Acts", "put", "(III)Z"⟩, 5), (⟨"StartedByAYawn", "act", "(III)I"⟩, 17), (⟨"StartedByAYawn", "startWithin", "(I)I"⟩, 17), (⟨"StartedByAYawn", "playOn", "(I)I"⟩, 17), (⟨"StartedByAYawn", "mostInTally", "()I"⟩, 17), (⟨"StartedByAYawn", "firstYawn", "(II)I"⟩, 17), (⟨"StartedByAYawn", "sumOfTally", "()I"⟩, 17), (⟨"StartedByAYawn", "thoseInTally", "()I"⟩, 17)]
theorem lw_r2 : ∀ q ∈ lw_privs_2, lw_okq q := List.forall_mem_cons.mpr ⟨lw_p16, List.forall_mem_cons.mpr ⟨lw_p17, List.forall_mem_cons.mpr ⟨lw_p18, List.forall_mem_cons.mpr ⟨lw_p19, List.forall_mem_cons.mpr ⟨lw_p20, List.forall_mem_cons.mpr ⟨lw_p21, List.forall_mem_cons.mpr ⟨lw_p22, List.forall_mem_cons.mpr ⟨lw_p23, List.forall_mem_cons.mpr ⟨lw_p24, List.forall_mem_cons.mpr ⟨lw_p25, List.forall_mem_cons.mpr ⟨lw_p26, List.forall_mem_cons.mpr ⟨lw_p27, List.forall_mem_cons.mpr ⟨lw_p28, List.forall_mem_cons.mpr ⟨lw_p29, List.forall_mem_cons.mpr ⟨lw_p30, List.forall_mem_cons.mpr ⟨lw_p31, fun _ h => absurd h List.not_mem_nil⟩⟩⟩⟩⟩⟩⟩⟩⟩⟩⟩⟩⟩⟩⟩⟩
theorem lw_p32 : lw_okq (⟨"StartedByAYawn", "diesWithout", "(II)I"⟩, 17) := ⟨⟨by decide +kernel, by decide +kernel⟩, List.mem_of_getElem? (i := 23) (by decide +kernel), List.mem_of_getElem? (i := 841) (by decide +kernel), List.mem_of_getElem? (i := 842) (by decide +kernel)⟩
theorem lw_p33 : lw_okq (⟨"StartedByAYawn", "measureTo", "(I)V"⟩, 17) := ⟨⟨by decide +kernel, by decide +kernel⟩, List.mem_of_getElem? (i := 23) (by decide +kernel), List.mem_of_getElem? (i := 875) (by decide +kernel), List.mem_of_getElem? (i := 876) (by decide +kernel)⟩
theorem lw_p34 : lw_okq (⟨"StartedByAYawn", "isStep", "(II)Z"⟩, 17) := ⟨⟨by decide +kernel, by decide +kernel⟩, List.mem_of_getElem? (i := 23) (by decide +kernel), List.mem_of_getElem? (i := 879) (by decide +kernel), List.mem_of_getElem? (i := 880) (by decide +kernel)⟩
theorem lw_p35 : lw_okq (⟨"StartedByAYawn", "nextOnPath", "(I)I"⟩, 17) := ⟨⟨by decide +kernel, by decide +kernel⟩, List.mem_of_getElem? (i := 23) (by decide +kernel), List.mem_of_getElem? (i := 884) (by decide +kernel), List.mem_of_getElem? (i := 885) (by decide +kernel)⟩
theorem lw_p36 : lw_okq (⟨"StartedByAYawn", "startIfTired", "(II)I"⟩, 17) := ⟨⟨by decide +kernel, by decide +kernel⟩, List.mem_of_getElem? (i := 23) (by decide +kernel), List.mem_of_getElem? (i := 896) (by decide +kernel), List.mem_of_getElem? (i := 897) (by decide +kernel)⟩
theorem lw_p37 : lw_okq (⟨"StartedByAYawn", "causedIfSeen", "(III)I"⟩, 17) := ⟨⟨by decide +kernel, by decide +kernel⟩, List.mem_of_getElem? (i := 23) (by decide +kernel), List.mem_of_getElem? (i := 923) (by decide +kernel), List.mem_of_getElem? (i := 924) (by decide +kernel)⟩
theorem lw_p38 : lw_okq (⟨"StartedByAYawn", "choiceOf", "(III)I"⟩, 17) := ⟨⟨by decide +kernel, by decide +kernel⟩, List.mem_of_getElem? (i := 23) (by decide +kernel), List.mem_of_getElem? (i := 931) (by decide +kernel), List.mem_of_getElem? (i := 932) (by decide +kernel)⟩
theorem lw_p39 : lw_okq (⟨"StartedByAYawn", "setBoth", "(II)V"⟩, 17) := ⟨⟨by decide +kernel, by decide +kernel⟩, List.mem_of_getElem? (i := 23) (by decide +kernel), List.mem_of_getElem? (i := 935) (by decide +kernel), List.mem_of_getElem? (i := 936) (by decide +kernel)⟩
theorem lw_p40 : lw_okq (⟨"StartedByAYawn", "tell", "(IIII)V"⟩, 17) := ⟨⟨by decide +kernel, by decide +kernel⟩, List.mem_of_getElem? (i := 23) (by decide +kernel), List.mem_of_getElem? (i := 939) (by decide +kernel), List.mem_of_getElem? (i := 940) (by decide +kernel)⟩
theorem lw_p41 : lw_okq (⟨"StartedByAYawn", "priceOfAll", "(III)I"⟩, 17) := ⟨⟨by decide +kernel, by decide +kernel⟩, List.mem_of_getElem? (i := 23) (by decide +kernel), List.mem_of_getElem? (i := 967) (by decide +kernel), List.mem_of_getElem? (i := 968) (by decide +kernel)⟩
theorem lw_p42 : lw_okq (⟨"StartedByAYawn", "comesIfYawn", "(I)Z"⟩, 17) := ⟨⟨by decide +kernel, by decide +kernel⟩, List.mem_of_getElem? (i := 23) (by decide +kernel), List.mem_of_getElem? (i := 987) (by decide +kernel), List.mem_of_getElem? (i := 988) (by decide +kernel)⟩
theorem lw_p43 : lw_okq (⟨"java/lang/Throwable", "fillInStackTrace", "(I)Ljava/lang/Throwable;"⟩, 6) := ⟨⟨by decide +kernel, by decide +kernel⟩, List.mem_of_getElem? (i := 1069) (by decide +kernel), List.mem_of_getElem? (i := 1067) (by decide +kernel), List.mem_of_getElem? (i := 1068) (by decide +kernel)⟩
theorem lw_p44 : lw_okq (⟨"StartedByAYawnModel", "begin", "([BII)V"⟩, 51) := ⟨⟨by decide +kernel, by decide +kernel⟩, List.mem_of_getElem? (i := 1116) (by decide +kernel), List.mem_of_getElem? (i := 1296) (by decide +kernel), List.mem_of_getElem? (i := 1297) (by decide +kernel)⟩
theorem lw_p45 : lw_okq (⟨"StartedByAYawnModel", "fine", "()Z"⟩, 51) := ⟨⟨by decide +kernel, by decide +kernel⟩, List.mem_of_getElem? (i := 1116) (by decide +kernel), List.mem_of_getElem? (i := 1300) (by decide +kernel), List.mem_of_getElem? (i := 1301) (by decide +kernel)⟩
theorem lw_p46 : lw_okq (⟨"StartedByAYawnModel", "fault", "(I)V"⟩, 51) := ⟨⟨by decide +kernel, by decide +kernel⟩, List.mem_of_getElem? (i := 1116) (by decide +kernel), List.mem_of_getElem? (i := 1304) (by decide +kernel), List.mem_of_getElem? (i := 1305) (by decide +kernel)⟩
theorem lw_p47 : lw_okq (⟨"StartedByAYawnModel", "readFace", "(I)V"⟩, 51) := ⟨⟨by decide +kernel, by decide +kernel⟩, List.mem_of_getElem? (i := 1116) (by decide +kernel), List.mem_of_getElem? (i := 1308) (by decide +kernel), List.mem_of_getElem? (i := 1309) (by decide +kernel)⟩
def lw_privs_3 : List (MethodName × Nat) := [(⟨"StartedByAYawn", "diesWithout", "(II)I"⟩, 17), (⟨"StartedByAYawn", "measureTo", "(I)V"⟩, 17), (⟨"StartedByAYawn", "isStep", "(II)Z"⟩, 17), (⟨"StartedByAYawn", "nextOnPath", "(I)I"⟩, 17), (⟨"StartedByAYawn", "startIfTired", "(II)I"⟩, 17), (⟨"StartedByAYawn", "causedIfSeen", "(III)I"⟩, 17), (⟨"StartedByAYawn", "choiceOf", "(III)I"⟩, 17), (⟨"StartedByAYawn", "setBoth", "(II)V"⟩, 17), (⟨"StartedByAYawn", "tell", "(IIII)V"⟩, 17), (⟨"StartedByAYawn", "priceOfAll", "(III)I"⟩, 17), (⟨"StartedByAYawn", "comesIfYawn", "(I)Z"⟩, 17), (⟨"java/lang/Throwable", "fillInStackTrace", "(I)Ljava/lang/Throwable;"⟩, 6), (⟨"StartedByAYawnModel", "begin", "([BII)V"⟩, 51), (⟨"StartedByAYawnModel", "fine", "()Z"⟩, 51), (⟨"StartedByAYawnModel", "fault", "(I)V"⟩, 51), (⟨"StartedByAYawnModel", "readFace", "(I)V"⟩, 51)]
theorem lw_r3 : ∀ q ∈ lw_privs_3, lw_okq q := List.forall_mem_cons.mpr ⟨lw_p32, List.forall_mem_cons.mpr ⟨lw_p33, List.forall_mem_cons.mpr ⟨lw_p34, List.forall_mem_cons.mpr ⟨lw_p35, List.forall_mem_cons.mpr ⟨lw_p36, List.forall_mem_cons.mpr ⟨lw_p37, List.forall_mem_cons.mpr ⟨lw_p38, List.forall_mem_cons.mpr ⟨lw_p39, List.forall_mem_cons.mpr ⟨lw_p40, List.forall_mem_cons.mpr ⟨lw_p41, List.forall_mem_cons.mpr ⟨lw_p42, List.forall_mem_cons.mpr ⟨lw_p43, List.forall_mem_cons.mpr ⟨lw_p44, List.forall_mem_cons.mpr ⟨lw_p45, List.forall_mem_cons.mpr ⟨lw_p46, List.forall_mem_cons.mpr ⟨lw_p47, fun _ h => absurd h List.not_mem_nil⟩⟩⟩⟩⟩⟩⟩⟩⟩⟩⟩⟩⟩⟩⟩⟩
theorem lw_p48 : lw_okq (⟨"StartedByAYawnModel", "digit", "(I)I"⟩, 51) := ⟨⟨by decide +kernel, by decide +kernel⟩, List.mem_of_getElem? (i := 1116) (by decide +kernel), List.mem_of_getElem? (i := 1312) (by decide +kernel), List.mem_of_getElem? (i := 1313) (by decide +kernel)⟩
theorem lw_p49 : lw_okq (⟨"StartedByAYawnModel", "here", "()I"⟩, 51) := ⟨⟨by decide +kernel, by decide +kernel⟩, List.mem_of_getElem? (i := 1116) (by decide +kernel), List.mem_of_getElem? (i := 1316) (by decide +kernel), List.mem_of_getElem? (i := 1317) (by decide +kernel)⟩
theorem lw_p50 : lw_okq (⟨"StartedByAYawnModel", "need", "(C)V"⟩, 51) := ⟨⟨by decide +kernel, by decide +kernel⟩, List.mem_of_getElem? (i := 1116) (by decide +kernel), List.mem_of_getElem? (i := 1320) (by decide +kernel), List.mem_of_getElem? (i := 1321) (by decide +kernel)⟩
theorem lw_p51 : lw_okq (⟨"StartedByAYawnModel", "passes", "(C)Z"⟩, 51) := ⟨⟨by decide +kernel, by decide +kernel⟩, List.mem_of_getElem? (i := 1116) (by decide +kernel), List.mem_of_getElem? (i := 1324) (by decide +kernel), List.mem_of_getElem? (i := 1325) (by decide +kernel)⟩
theorem lw_p52 : lw_okq (⟨"StartedByAYawnModel", "letter", "()I"⟩, 51) := ⟨⟨by decide +kernel, by decide +kernel⟩, List.mem_of_getElem? (i := 1116) (by decide +kernel), List.mem_of_getElem? (i := 1328) (by decide +kernel), List.mem_of_getElem? (i := 1329) (by decide +kernel)⟩
theorem lw_p53 : lw_okq (⟨"StartedByAYawnModel", "held", "(I)I"⟩, 51) := ⟨⟨by decide +kernel, by decide +kernel⟩, List.mem_of_getElem? (i := 1116) (by decide +kernel), List.mem_of_getElem? (i := 1343) (by decide +kernel), List.mem_of_getElem? (i := 1344) (by decide +kernel)⟩
theorem lw_p54 : lw_okq (⟨"StartedByAYawnModel", "sum", "(I)I"⟩, 51) := ⟨⟨by decide +kernel, by decide +kernel⟩, List.mem_of_getElem? (i := 1116) (by decide +kernel), List.mem_of_getElem? (i := 1347) (by decide +kernel), List.mem_of_getElem? (i := 1348) (by decide +kernel)⟩
theorem lw_p55 : lw_okq (⟨"StartedByAYawnModel", "product", "(I)I"⟩, 51) := ⟨⟨by decide +kernel, by decide +kernel⟩, List.mem_of_getElem? (i := 1116) (by decide +kernel), List.mem_of_getElem? (i := 1351) (by decide +kernel), List.mem_of_getElem? (i := 1352) (by decide +kernel)⟩
theorem lw_p56 : lw_okq (⟨"StartedByAYawnModel", "thing", "(I)I"⟩, 51) := ⟨⟨by decide +kernel, by decide +kernel⟩, List.mem_of_getElem? (i := 1116) (by decide +kernel), List.mem_of_getElem? (i := 1355) (by decide +kernel), List.mem_of_getElem? (i := 1356) (by decide +kernel)⟩
theorem lw_p57 : lw_okq (⟨"StartedByAYawnModel", "valueOf", "(I[I)I"⟩, 51) := ⟨⟨by decide +kernel, by decide +kernel⟩, List.mem_of_getElem? (i := 1116) (by decide +kernel), List.mem_of_getElem? (i := 1359) (by decide +kernel), List.mem_of_getElem? (i := 1360) (by decide +kernel)⟩
theorem lw_p58 : lw_okq (⟨"StartedByAYawnModel", "isFace", "(I)Z"⟩, 51) := ⟨⟨by decide +kernel, by decide +kernel⟩, List.mem_of_getElem? (i := 1116) (by decide +kernel), List.mem_of_getElem? (i := 1367) (by decide +kernel), List.mem_of_getElem? (i := 1368) (by decide +kernel)⟩
theorem lw_p59 : lw_okq (⟨"StartedByAYawnModel", "lost", "()I"⟩, 51) := ⟨⟨by decide +kernel, by decide +kernel⟩, List.mem_of_getElem? (i := 1116) (by decide +kernel), List.mem_of_getElem? (i := 1371) (by decide +kernel), List.mem_of_getElem? (i := 1372) (by decide +kernel)⟩
theorem lw_p60 : lw_okq (⟨"StartedByAYawnModel", "sight", "(I)I"⟩, 51) := ⟨⟨by decide +kernel, by decide +kernel⟩, List.mem_of_getElem? (i := 1116) (by decide +kernel), List.mem_of_getElem? (i := 1375) (by decide +kernel), List.mem_of_getElem? (i := 1376) (by decide +kernel)⟩
theorem lw_p61 : lw_okq (⟨"StartedByAYawnModel", "all", "()I"⟩, 51) := ⟨⟨by decide +kernel, by decide +kernel⟩, List.mem_of_getElem? (i := 1116) (by decide +kernel), List.mem_of_getElem? (i := 1379) (by decide +kernel), List.mem_of_getElem? (i := 1380) (by decide +kernel)⟩
theorem lw_p62 : lw_okq (⟨"StartedByAYawnModel", "seenBy", "(I)I"⟩, 51) := ⟨⟨by decide +kernel, by decide +kernel⟩, List.mem_of_getElem? (i := 1116) (by decide +kernel), List.mem_of_getElem? (i := 1397) (by decide +kernel), List.mem_of_getElem? (i := 1398) (by decide +kernel)⟩
theorem lw_p63 : lw_okq (⟨"StartedByAYawnModel", "canYawn", "([II)Z"⟩, 51) := ⟨⟨by decide +kernel, by decide +kernel⟩, List.mem_of_getElem? (i := 1116) (by decide +kernel), List.mem_of_getElem? (i := 1409) (by decide +kernel), List.mem_of_getElem? (i := 1410) (by decide +kernel)⟩
def lw_privs_4 : List (MethodName × Nat) := [(⟨"StartedByAYawnModel", "digit", "(I)I"⟩, 51), (⟨"StartedByAYawnModel", "here", "()I"⟩, 51), (⟨"StartedByAYawnModel", "need", "(C)V"⟩, 51), (⟨"StartedByAYawnModel", "passes", "(C)Z"⟩, 51), (⟨"StartedByAYawnModel", "letter", "()I"⟩, 51), (⟨"StartedByAYawnModel", "held", "(I)I"⟩, 51), (⟨"StartedByAYawnModel", "sum", "(I)I"⟩, 51), (⟨"StartedByAYawnModel", "product", "(I)I"⟩, 51), (⟨"StartedByAYawnModel", "thing", "(I)I"⟩, 51), (⟨"StartedByAYawnModel", "valueOf", "(I[I)I"⟩, 51), (⟨"StartedByAYawnModel", "isFace", "(I)Z"⟩, 51), (⟨"StartedByAYawnModel", "lost", "()I"⟩, 51), (⟨"StartedByAYawnModel", "sight", "(I)I"⟩, 51), (⟨"StartedByAYawnModel", "all", "()I"⟩, 51), (⟨"StartedByAYawnModel", "seenBy", "(I)I"⟩, 51), (⟨"StartedByAYawnModel", "canYawn", "([II)Z"⟩, 51)]
theorem lw_r4 : ∀ q ∈ lw_privs_4, lw_okq q := List.forall_mem_cons.mpr ⟨lw_p48, List.forall_mem_cons.mpr ⟨lw_p49, List.forall_mem_cons.mpr ⟨lw_p50, List.forall_mem_cons.mpr ⟨lw_p51, List.forall_mem_cons.mpr ⟨lw_p52, List.forall_mem_cons.mpr ⟨lw_p53, List.forall_mem_cons.mpr ⟨lw_p54, List.forall_mem_cons.mpr ⟨lw_p55, List.forall_mem_cons.mpr ⟨lw_p56, List.forall_mem_cons.mpr ⟨lw_p57, List.forall_mem_cons.mpr ⟨lw_p58, List.forall_mem_cons.mpr ⟨lw_p59, List.forall_mem_cons.mpr ⟨lw_p60, List.forall_mem_cons.mpr ⟨lw_p61, List.forall_mem_cons.mpr ⟨lw_p62, List.forall_mem_cons.mpr ⟨lw_p63, fun _ h => absurd h List.not_mem_nil⟩⟩⟩⟩⟩⟩⟩⟩⟩⟩⟩⟩⟩⟩⟩⟩
theorem lw_p64 : lw_okq (⟨"StartedByAYawnModel", "remember", "([I)V"⟩, 51) := ⟨⟨by decide +kernel, by decide +kernel⟩, List.mem_of_getElem? (i := 1116) (by decide +kernel), List.mem_of_getElem? (i := 1413) (by decide +kernel), List.mem_of_getElem? (i := 1414) (by decide +kernel)⟩
theorem lw_p65 : lw_okq (⟨"StartedByAYawnModel", "goAway", "(I)V"⟩, 51) := ⟨⟨by decide +kernel, by decide +kernel⟩, List.mem_of_getElem? (i := 1116) (by decide +kernel), List.mem_of_getElem? (i := 1427) (by decide +kernel), List.mem_of_getElem? (i := 1428) (by decide +kernel)⟩
theorem lw_p66 : lw_okq (⟨"StartedByAYawnModel", "catches", "([IIIII)Z"⟩, 51) := ⟨⟨by decide +kernel, by decide +kernel⟩, List.mem_of_getElem? (i := 1116) (by decide +kernel), List.mem_of_getElem? (i := 1435) (by decide +kernel), List.mem_of_getElem? (i := 1436) (by decide +kernel)⟩
theorem lw_p67 : lw_okq (⟨"StartedByAYawnModel", "tell", "(I)V"⟩, 51) := ⟨⟨by decide +kernel, by decide +kernel⟩, List.mem_of_getElem? (i := 1116) (by decide +kernel), List.mem_of_getElem? (i := 1439) (by decide +kernel), List.mem_of_getElem? (i := 1440) (by decide +kernel)⟩
theorem lw_p68 : lw_okq (⟨"StartedByAYawnModel", "goMinute", "([I)V"⟩, 51) := ⟨⟨by decide +kernel, by decide +kernel⟩, List.mem_of_getElem? (i := 1116) (by decide +kernel), List.mem_of_getElem? (i := 1447) (by decide +kernel), List.mem_of_getElem? (i := 1448) (by decide +kernel)⟩
theorem lw_p69 : lw_okq (⟨"StartedByAYawnModel", "goYawn", "([III)V"⟩, 51) := ⟨⟨by decide +kernel, by decide +kernel⟩, List.mem_of_getElem? (i := 1116) (by decide +kernel), List.mem_of_getElem? (i := 1451) (by decide +kernel), List.mem_of_getElem? (i := 1452) (by decide +kernel)⟩
theorem lw_p70 : lw_okq (⟨"StartedByAYawnModel", "goCatch", "([III)V"⟩, 51) := ⟨⟨by decide +kernel, by decide +kernel⟩, List.mem_of_getElem? (i := 1116) (by decide +kernel), List.mem_of_getElem? (i := 1455) (by decide +kernel), List.mem_of_getElem? (i := 1456) (by decide +kernel)⟩
theorem lw_p71 : lw_okq (⟨"StartedByAYawnModel", "falseOnes", "()I"⟩, 51) := ⟨⟨by decide +kernel, by decide +kernel⟩, List.mem_of_getElem? (i := 1116) (by decide +kernel), List.mem_of_getElem? (i := 1459) (by decide +kernel), List.mem_of_getElem? (i := 1460) (by decide +kernel)⟩
theorem lw_p72 : lw_okq (⟨"StartedByAYawnModel", "readAct", "(I)V"⟩, 51) := ⟨⟨by decide +kernel, by decide +kernel⟩, List.mem_of_getElem? (i := 1116) (by decide +kernel), List.mem_of_getElem? (i := 1471) (by decide +kernel), List.mem_of_getElem? (i := 1472) (by decide +kernel)⟩
theorem lw_p73 : lw_okq (⟨"StartedByAYawnModel", "act", "(I)Z"⟩, 51) := ⟨⟨by decide +kernel, by decide +kernel⟩, List.mem_of_getElem? (i := 1116) (by decide +kernel), List.mem_of_getElem? (i := 1475) (by decide +kernel), List.mem_of_getElem? (i := 1476) (by decide +kernel)⟩
theorem lw_p74 : lw_okq (⟨"StartedByAYawnModel", "bookMany", "()I"⟩, 51) := ⟨⟨by decide +kernel, by decide +kernel⟩, List.mem_of_getElem? (i := 1116) (by decide +kernel), List.mem_of_getElem? (i := 1487) (by decide +kernel), List.mem_of_getElem? (i := 1488) (by decide +kernel)⟩
theorem lw_p75 : lw_okq (⟨"StartedByAYawnModel", "lineOf", "(I)I"⟩, 51) := ⟨⟨by decide +kernel, by decide +kernel⟩, List.mem_of_getElem? (i := 1116) (by decide +kernel), List.mem_of_getElem? (i := 1491) (by decide +kernel), List.mem_of_getElem? (i := 1492) (by decide +kernel)⟩
theorem lw_p76 : lw_okq (⟨"StartedByAYawnModel", "beginThen", "()V"⟩, 51) := ⟨⟨by decide +kernel, by decide +kernel⟩, List.mem_of_getElem? (i := 1116) (by decide +kernel), List.mem_of_getElem? (i := 1503) (by decide +kernel), List.mem_of_getElem? (i := 1504) (by decide +kernel)⟩
theorem lw_p77 : lw_okq (⟨"StartedByAYawnModel", "findStart", "(I)I"⟩, 51) := ⟨⟨by decide +kernel, by decide +kernel⟩, List.mem_of_getElem? (i := 1116) (by decide +kernel), List.mem_of_getElem? (i := 1507) (by decide +kernel), List.mem_of_getElem? (i := 1508) (by decide +kernel)⟩
theorem lw_p78 : lw_okq (⟨"StartedByAYawnModel", "count0", "(I)I"⟩, 51) := ⟨⟨by decide +kernel, by decide +kernel⟩, List.mem_of_getElem? (i := 1116) (by decide +kernel), List.mem_of_getElem? (i := 1515) (by decide +kernel), List.mem_of_getElem? (i := 1516) (by decide +kernel)⟩
theorem lw_p79 : lw_okq (⟨"StartedByAYawnModel", "whoYawns", "()I"⟩, 51) := ⟨⟨by decide +kernel, by decide +kernel⟩, List.mem_of_getElem? (i := 1116) (by decide +kernel), List.mem_of_getElem? (i := 1534) (by decide +kernel), List.mem_of_getElem? (i := 1535) (by decide +kernel)⟩
def lw_privs_5 : List (MethodName × Nat) := [(⟨"StartedByAYawnModel", "remember", "([I)V"⟩, 51), (⟨"StartedByAYawnModel", "goAway", "(I)V"⟩, 51), (⟨"StartedByAYawnModel", "catches", "([IIIII)Z"⟩, 51), (⟨"StartedByAYawnModel", "tell", "(I)V"⟩, 51), (⟨"StartedByAYawnModel", "goMinute", "([I)V"⟩, 51), (⟨"StartedByAYawnModel", "goYawn", "([III)V"⟩, 51), (⟨"StartedByAYawnModel", "goCatch", "([III)V"⟩, 51), (⟨"StartedByAYawnModel", "falseOnes", "()I"⟩, 51), (⟨"StartedByAYawnModel", "readAct", "(I)V"⟩, 51), (⟨"StartedByAYawnModel", "act", "(I)Z"⟩, 51), (⟨"StartedByAYawnModel", "bookMany", "()I"⟩, 51), (⟨"StartedByAYawnModel", "lineOf", "(I)I"⟩, 51), (⟨"StartedByAYawnModel", "beginThen", "()V"⟩, 51), (⟨"StartedByAYawnModel", "findStart", "(I)I"⟩, 51), (⟨"StartedByAYawnModel", "count0", "(I)I"⟩, 51), (⟨"StartedByAYawnModel", "whoYawns", "()I"⟩, 51)]
theorem lw_r5 : ∀ q ∈ lw_privs_5, lw_okq q := List.forall_mem_cons.mpr ⟨lw_p64, List.forall_mem_cons.mpr ⟨lw_p65, List.forall_mem_cons.mpr ⟨lw_p66, List.forall_mem_cons.mpr ⟨lw_p67, List.forall_mem_cons.mpr ⟨lw_p68, List.forall_mem_cons.mpr ⟨lw_p69, List.forall_mem_cons.mpr ⟨lw_p70, List.forall_mem_cons.mpr ⟨lw_p71, List.forall_mem_cons.mpr ⟨lw_p72, List.forall_mem_cons.mpr ⟨lw_p73, List.forall_mem_cons.mpr ⟨lw_p74, List.forall_mem_cons.mpr ⟨lw_p75, List.forall_mem_cons.mpr ⟨lw_p76, List.forall_mem_cons.mpr ⟨lw_p77, List.forall_mem_cons.mpr ⟨lw_p78, List.forall_mem_cons.mpr ⟨lw_p79, fun _ h => absurd h List.not_mem_nil⟩⟩⟩⟩⟩⟩⟩⟩⟩⟩⟩⟩⟩⟩⟩⟩
theorem lw_p80 : lw_okq (⟨"StartedByAYawnModel", "diesIn", "(II)I"⟩, 51) := ⟨⟨by decide +kernel, by decide +kernel⟩, List.mem_of_getElem? (i := 1116) (by decide +kernel), List.mem_of_getElem? (i := 1542) (by decide +kernel), List.mem_of_getElem? (i := 1543) (by decide +kernel)⟩
theorem lw_p81 : lw_okq (⟨"StartedByAYawnModel", "isDue", "()Z"⟩, 51) := ⟨⟨by decide +kernel, by decide +kernel⟩, List.mem_of_getElem? (i := 1116) (by decide +kernel), List.mem_of_getElem? (i := 1546) (by decide +kernel), List.mem_of_getElem? (i := 1547) (by decide +kernel)⟩
theorem lw_p82 : lw_okq (⟨"StartedByAYawnModel", "findFar", "(IZ)V"⟩, 51) := ⟨⟨by decide +kernel, by decide +kernel⟩, List.mem_of_getElem? (i := 1116) (by decide +kernel), List.mem_of_getElem? (i := 1562) (by decide +kernel), List.mem_of_getElem? (i := 1563) (by decide +kernel)⟩
theorem lw_p83 : lw_okq (⟨"StartedByAYawnModel", "leads", "(II)Z"⟩, 51) := ⟨⟨by decide +kernel, by decide +kernel⟩, List.mem_of_getElem? (i := 1116) (by decide +kernel), List.mem_of_getElem? (i := 1571) (by decide +kernel), List.mem_of_getElem? (i := 1572) (by decide +kernel)⟩
theorem lw_p84 : lw_okq (⟨"StartedByAYawnModel", "startWith", "(II)I"⟩, 51) := ⟨⟨by decide +kernel, by decide +kernel⟩, List.mem_of_getElem? (i := 1116) (by decide +kernel), List.mem_of_getElem? (i := 1584) (by decide +kernel), List.mem_of_getElem? (i := 1585) (by decide +kernel)⟩
theorem lw_p85 : lw_okq (⟨"StartedByAYawnModel", "causedBy", "(II)I"⟩, 51) := ⟨⟨by decide +kernel, by decide +kernel⟩, List.mem_of_getElem? (i := 1116) (by decide +kernel), List.mem_of_getElem? (i := 1611) (by decide +kernel), List.mem_of_getElem? (i := 1612) (by decide +kernel)⟩
theorem lw_p86 : lw_okq (⟨"StartedByAYawnModel", "startBy", "()I"⟩, 51) := ⟨⟨by decide +kernel, by decide +kernel⟩, List.mem_of_getElem? (i := 1116) (by decide +kernel), List.mem_of_getElem? (i := 1619) (by decide +kernel), List.mem_of_getElem? (i := 1620) (by decide +kernel)⟩
theorem lw_p87 : lw_okq (⟨"StartedByAYawnModel", "costOf", "(III)I"⟩, 51) := ⟨⟨by decide +kernel, by decide +kernel⟩, List.mem_of_getElem? (i := 1116) (by decide +kernel), List.mem_of_getElem? (i := 1635) (by decide +kernel), List.mem_of_getElem? (i := 1636) (by decide +kernel)⟩
theorem lw_p88 : lw_okq (⟨"StartedByAYawnModel", "able", "()I"⟩, 51) := ⟨⟨by decide +kernel, by decide +kernel⟩, List.mem_of_getElem? (i := 1116) (by decide +kernel), List.mem_of_getElem? (i := 1656) (by decide +kernel), List.mem_of_getElem? (i := 1657) (by decide +kernel)⟩
theorem lw_p89 : lw_okq (⟨"StartedByAYawnModel", "comes", "(I)Z"⟩, 51) := ⟨⟨by decide +kernel, by decide +kernel⟩, List.mem_of_getElem? (i := 1116) (by decide +kernel), List.mem_of_getElem? (i := 1660) (by decide +kernel), List.mem_of_getElem? (i := 1661) (by decide +kernel)⟩
def lw_privs_6 : List (MethodName × Nat) := [(⟨"StartedByAYawnModel", "diesIn", "(II)I"⟩, 51), (⟨"StartedByAYawnModel", "isDue", "()Z"⟩, 51), (⟨"StartedByAYawnModel", "findFar", "(IZ)V"⟩, 51), (⟨"StartedByAYawnModel", "leads", "(II)Z"⟩, 51), (⟨"StartedByAYawnModel", "startWith", "(II)I"⟩, 51), (⟨"StartedByAYawnModel", "causedBy", "(II)I"⟩, 51), (⟨"StartedByAYawnModel", "startBy", "()I"⟩, 51), (⟨"StartedByAYawnModel", "costOf", "(III)I"⟩, 51), (⟨"StartedByAYawnModel", "able", "()I"⟩, 51), (⟨"StartedByAYawnModel", "comes", "(I)Z"⟩, 51)]
theorem lw_r6 : ∀ q ∈ lw_privs_6, lw_okq q := List.forall_mem_cons.mpr ⟨lw_p80, List.forall_mem_cons.mpr ⟨lw_p81, List.forall_mem_cons.mpr ⟨lw_p82, List.forall_mem_cons.mpr ⟨lw_p83, List.forall_mem_cons.mpr ⟨lw_p84, List.forall_mem_cons.mpr ⟨lw_p85, List.forall_mem_cons.mpr ⟨lw_p86, List.forall_mem_cons.mpr ⟨lw_p87, List.forall_mem_cons.mpr ⟨lw_p88, List.forall_mem_cons.mpr ⟨lw_p89, fun _ h => absurd h List.not_mem_nil⟩⟩⟩⟩⟩⟩⟩⟩⟩⟩
def lw_privs : List (MethodName × Nat) := lw_privs_1 ++ (lw_privs_2 ++ (lw_privs_3 ++ (lw_privs_4 ++ (lw_privs_5 ++ (lw_privs_6)))))
def lw_tbl : List Cond := k2_sels lw_privs ++ tables_1
theorem lw_privs_ok : ∀ q ∈ lw_privs, lw_okq q := by
  show ∀ q ∈ lw_privs_1 ++ (lw_privs_2 ++ (lw_privs_3 ++ (lw_privs_4 ++ (lw_privs_5 ++ (lw_privs_6))))), lw_okq q
  exact List.forall_mem_append.mpr ⟨lw_r1, List.forall_mem_append.mpr ⟨lw_r2, List.forall_mem_append.mpr ⟨lw_r3, List.forall_mem_append.mpr ⟨lw_r4, List.forall_mem_append.mpr ⟨lw_r5, lw_r6⟩⟩⟩⟩⟩
end
section
/-! the program as data: an entry an instruction (pc, instruction, what follows, three places, a number, a switch's rows) -/
abbrev zE : Type := Nat × Instr × Nat × Nat × Nat × Nat × Nat × Int32 × List (Int32 × Nat)
def zT0 : u_T := fun k => match k with
  | 0 => ("StartedByAYawn$Acts", "kind", "[I", true)
  | 1 => ("StartedByAYawn$Acts", "face", "[I", true)
  | 2 => ("StartedByAYawn$Acts", "much", "[I", true)
  | 3 => ("StartedByAYawn$Acts", "size", "I", false)
  | _ => ("StartedByAYawn$Acts", "text", "LStartedByAYawn$Text;", true)
def zt0 : Nat → FieldType := fun k => match k with
  | 0 => .array .int
  | 1 => .array .int
  | 2 => .array .int
  | 3 => .int
  | _ => .object "StartedByAYawn$Text"
theorem zn0 : ∀ a, a < 5 → ∀ b, b < 5 → a ≠ b → (zT0 a).2.1 ≠ (zT0 b).2.1 := by decide +kernel
theorem zt0_ok : ∀ k, k < 5 → parseFieldDescriptor (zT0 k).2.2.1 = some (zt0 k) := by decide +kernel
theorem zi0 : ∀ w ∈ u_ws "StartedByAYawn$Acts" zT0 5, w ∈ tables_1 := by decide +kernel
def zT1 : u_T := fun k => match k with
  | 0 => ("StartedByAYawn$Book", "minute", "[I", true)
  | 1 => ("StartedByAYawn$Book", "face", "[I", true)
  | 2 => ("StartedByAYawn$Book", "cause", "[I", true)
  | 3 => ("StartedByAYawn$Book", "meant", "[I", true)
  | 4 => ("StartedByAYawn$Book", "size", "I", false)
  | _ => ("StartedByAYawn$Book", "first", "I", false)
def zt1 : Nat → FieldType := fun k => match k with
  | 0 => .array .int
  | 1 => .array .int
  | 2 => .array .int
  | 3 => .array .int
  | 4 => .int
  | _ => .int
theorem zn1 : ∀ a, a < 6 → ∀ b, b < 6 → a ≠ b → (zT1 a).2.1 ≠ (zT1 b).2.1 := by decide +kernel
theorem zt1_ok : ∀ k, k < 6 → parseFieldDescriptor (zT1 k).2.2.1 = some (zt1 k) := by decide +kernel
theorem zi1 : ∀ w ∈ u_ws "StartedByAYawn$Book" zT1 6, w ∈ tables_1 := by decide +kernel
def zT2 : u_T := fun k => match k with
  | 0 => ("StartedByAYawn$Crews", "ready", "[I", true)
  | 1 => ("StartedByAYawn$Crews", "hold", "[I", true)
  | 2 => ("StartedByAYawn$Crews", "late", "[I", true)
  | _ => ("StartedByAYawn$Crews", "size", "I", false)
def zt2 : Nat → FieldType := fun k => match k with
  | 0 => .array .int
  | 1 => .array .int
  | 2 => .array .int
  | _ => .int
theorem zn2 : ∀ a, a < 4 → ∀ b, b < 4 → a ≠ b → (zT2 a).2.1 ≠ (zT2 b).2.1 := by decide +kernel
theorem zt2_ok : ∀ k, k < 4 → parseFieldDescriptor (zT2 k).2.2.1 = some (zt2 k) := by decide +kernel
theorem zi2 : ∀ w ∈ u_ws "StartedByAYawn$Crews" zT2 4, w ∈ tables_1 := by decide +kernel
def zT3 : u_T := fun k => match k with
  | 0 => ("StartedByAYawn$Kept", "filled", "Z", false)
  | 1 => ("StartedByAYawn$Kept", "faces", "I", false)
  | 2 => ("StartedByAYawn$Kept", "moment", "LStartedByAYawn$Moment;", true)
  | _ => ("StartedByAYawn$Kept", "yawns", "LStartedByAYawn$Book;", true)
def zt3 : Nat → FieldType := fun k => match k with
  | 0 => .boolean
  | 1 => .int
  | 2 => .object "StartedByAYawn$Moment"
  | _ => .object "StartedByAYawn$Book"
theorem zn3 : ∀ a, a < 4 → ∀ b, b < 4 → a ≠ b → (zT3 a).2.1 ≠ (zT3 b).2.1 := by decide +kernel
theorem zt3_ok : ∀ k, k < 4 → parseFieldDescriptor (zT3 k).2.2.1 = some (zt3 k) := by decide +kernel
theorem zi3 : ∀ w ∈ u_ws "StartedByAYawn$Kept" zT3 4, w ∈ tables_1 := by decide +kernel
def zT4 : u_T := fun k => match k with
  | 0 => ("StartedByAYawn$Moment", "tired", "[I", true)
  | 1 => ("StartedByAYawn$Moment", "yawned", "[I", true)
  | 2 => ("StartedByAYawn$Moment", "due", "[I", true)
  | 3 => ("StartedByAYawn$Moment", "cause", "[I", true)
  | 4 => ("StartedByAYawn$Moment", "meaning", "I", false)
  | 5 => ("StartedByAYawn$Moment", "away", "I", false)
  | _ => ("StartedByAYawn$Moment", "now", "I", false)
def zt4 : Nat → FieldType := fun k => match k with
  | 0 => .array .int
  | 1 => .array .int
  | 2 => .array .int
  | 3 => .array .int
  | 4 => .int
  | 5 => .int
  | _ => .int
theorem zn4 : ∀ a, a < 7 → ∀ b, b < 7 → a ≠ b → (zT4 a).2.1 ≠ (zT4 b).2.1 := by decide +kernel
theorem zt4_ok : ∀ k, k < 7 → parseFieldDescriptor (zT4 k).2.2.1 = some (zt4 k) := by decide +kernel
theorem zi4 : ∀ w ∈ u_ws "StartedByAYawn$Moment" zT4 7, w ∈ tables_1 := by decide +kernel
def zT5 : u_T := fun k => match k with
  | 0 => ("StartedByAYawn$Past", "size", "I", false)
  | 1 => ("StartedByAYawn$Past", "places", "[LStartedByAYawn$Kept;", true)
  | _ => ("StartedByAYawn$Past", "next", "I", false)
def zt5 : Nat → FieldType := fun k => match k with
  | 0 => .int
  | 1 => .array (.object "StartedByAYawn$Kept")
  | _ => .int
theorem zn5 : ∀ a, a < 3 → ∀ b, b < 3 → a ≠ b → (zT5 a).2.1 ≠ (zT5 b).2.1 := by decide +kernel
theorem zt5_ok : ∀ k, k < 3 → parseFieldDescriptor (zT5 k).2.2.1 = some (zt5 k) := by decide +kernel
theorem zi5 : ∀ w ∈ u_ws "StartedByAYawn$Past" zT5 3, w ∈ tables_1 := by decide +kernel
def zT6 : u_T := fun k => match k with
  | 0 => ("StartedByAYawn$Rule", "values", "[I", true)
  | 1 => ("StartedByAYawn$Rule", "code", "[I", true)
  | 2 => ("StartedByAYawn$Rule", "size", "I", false)
  | 3 => ("StartedByAYawn$Rule", "pile", "[I", true)
  | 4 => ("StartedByAYawn$Rule", "wind", "[I", true)
  | _ => ("StartedByAYawn$Rule", "windSize", "I", false)
def zt6 : Nat → FieldType := fun k => match k with
  | 0 => .array .int
  | 1 => .array .int
  | 2 => .int
  | 3 => .array .int
  | 4 => .array .int
  | _ => .int
theorem zn6 : ∀ a, a < 6 → ∀ b, b < 6 → a ≠ b → (zT6 a).2.1 ≠ (zT6 b).2.1 := by decide +kernel
theorem zt6_ok : ∀ k, k < 6 → parseFieldDescriptor (zT6 k).2.2.1 = some (zt6 k) := by decide +kernel
theorem zi6 : ∀ w ∈ u_ws "StartedByAYawn$Rule" zT6 6, w ∈ tables_1 := by decide +kernel
def zT7 : u_T := fun k => match k with
  | 0 => ("StartedByAYawn$RuleReader", "code", "[I", true)
  | 1 => ("StartedByAYawn$RuleReader", "size", "I", false)
  | _ => ("StartedByAYawn$RuleReader", "text", "LStartedByAYawn$Text;", true)
def zt7 : Nat → FieldType := fun k => match k with
  | 0 => .array .int
  | 1 => .int
  | _ => .object "StartedByAYawn$Text"
theorem zn7 : ∀ a, a < 3 → ∀ b, b < 3 → a ≠ b → (zT7 a).2.1 ≠ (zT7 b).2.1 := by decide +kernel
theorem zt7_ok : ∀ k, k < 3 → parseFieldDescriptor (zT7 k).2.2.1 = some (zt7 k) := by decide +kernel
theorem zi7 : ∀ w ∈ u_ws "StartedByAYawn$RuleReader" zT7 3, w ∈ tables_1 := by decide +kernel
def zT8 : u_T := fun k => match k with
  | 0 => ("StartedByAYawn$Sightings", "size", "I", false)
  | 1 => ("StartedByAYawn$Sightings", "face", "[I", true)
  | _ => ("StartedByAYawn$Sightings", "after", "[I", true)
def zt8 : Nat → FieldType := fun k => match k with
  | 0 => .int
  | 1 => .array .int
  | _ => .array .int
theorem zn8 : ∀ a, a < 3 → ∀ b, b < 3 → a ≠ b → (zT8 a).2.1 ≠ (zT8 b).2.1 := by decide +kernel
theorem zt8_ok : ∀ k, k < 3 → parseFieldDescriptor (zT8 k).2.2.1 = some (zt8 k) := by decide +kernel
theorem zi8 : ∀ w ∈ u_ws "StartedByAYawn$Sightings" zT8 3, w ∈ tables_1 := by decide +kernel
def zT9 : u_T := fun k => match k with
  | 0 => ("StartedByAYawn$Text", "signs", "[I", true)
  | 1 => ("StartedByAYawn$Text", "size", "I", false)
  | 2 => ("StartedByAYawn$Text", "at", "I", false)
  | 3 => ("StartedByAYawn$Text", "limit", "I", false)
  | _ => ("StartedByAYawn$Text", "more", "Z", false)
def zt9 : Nat → FieldType := fun k => match k with
  | 0 => .array .int
  | 1 => .int
  | 2 => .int
  | 3 => .int
  | _ => .boolean
theorem zn9 : ∀ a, a < 5 → ∀ b, b < 5 → a ≠ b → (zT9 a).2.1 ≠ (zT9 b).2.1 := by decide +kernel
theorem zt9_ok : ∀ k, k < 5 → parseFieldDescriptor (zT9 k).2.2.1 = some (zt9 k) := by decide +kernel
theorem zi9 : ∀ w ∈ u_ws "StartedByAYawn$Text" zT9 5, w ∈ tables_1 := by decide +kernel
def zT10 : u_T := fun k => match k with
  | 0 => ("StartedByAYawn$Wall", "delay", "[I", true)
  | 1 => ("StartedByAYawn$Wall", "sees", "[I", true)
  | 2 => ("StartedByAYawn$Wall", "moment", "LStartedByAYawn$Moment;", true)
  | 3 => ("StartedByAYawn$Wall", "faces", "I", false)
  | 4 => ("StartedByAYawn$Wall", "yawners", "I", false)
  | 5 => ("StartedByAYawn$Wall", "meant", "I", false)
  | 6 => ("StartedByAYawn$Wall", "caught", "I", false)
  | 7 => ("StartedByAYawn$Wall", "led", "[I", true)
  | _ => ("StartedByAYawn$Wall", "rule", "LStartedByAYawn$Rule;", true)
def zt10 : Nat → FieldType := fun k => match k with
  | 0 => .array .int
  | 1 => .array .int
  | 2 => .object "StartedByAYawn$Moment"
  | 3 => .int
  | 4 => .int
  | 5 => .int
  | 6 => .int
  | 7 => .array .int
  | _ => .object "StartedByAYawn$Rule"
theorem zn10 : ∀ a, a < 9 → ∀ b, b < 9 → a ≠ b → (zT10 a).2.1 ≠ (zT10 b).2.1 := by decide +kernel
theorem zt10_ok : ∀ k, k < 9 → parseFieldDescriptor (zT10 k).2.2.1 = some (zt10 k) := by decide +kernel
theorem zi10 : ∀ w ∈ u_ws "StartedByAYawn$Wall" zT10 9, w ∈ tables_1 := by decide +kernel
def zT11 : u_T := fun k => match k with
  | 0 => ("StartedByAYawn", "text", "LStartedByAYawn$Text;", true)
  | 1 => ("StartedByAYawn", "rule", "LStartedByAYawn$Rule;", true)
  | 2 => ("StartedByAYawn", "ruleReader", "LStartedByAYawn$RuleReader;", true)
  | 3 => ("StartedByAYawn", "acts", "LStartedByAYawn$Acts;", true)
  | 4 => ("StartedByAYawn", "wall", "LStartedByAYawn$Wall;", true)
  | 5 => ("StartedByAYawn", "trial", "LStartedByAYawn$Wall;", true)
  | 6 => ("StartedByAYawn", "yawns", "LStartedByAYawn$Book;", true)
  | 7 => ("StartedByAYawn", "past", "LStartedByAYawn$Past;", true)
  | 8 => ("StartedByAYawn", "kept", "[LStartedByAYawn$Kept;", true)
  | 9 => ("StartedByAYawn", "crews", "LStartedByAYawn$Crews;", true)
  | 10 => ("StartedByAYawn", "sightings", "LStartedByAYawn$Sightings;", true)
  | 11 => ("StartedByAYawn", "told", "[I", true)
  | 12 => ("StartedByAYawn", "toldSize", "I", false)
  | 13 => ("StartedByAYawn", "judging", "I", false)
  | 14 => ("StartedByAYawn", "starter", "I", false)
  | 15 => ("StartedByAYawn", "falseAhead", "I", false)
  | _ => ("StartedByAYawn", "tally", "[I", true)
def zt11 : Nat → FieldType := fun k => match k with
  | 0 => .object "StartedByAYawn$Text"
  | 1 => .object "StartedByAYawn$Rule"
  | 2 => .object "StartedByAYawn$RuleReader"
  | 3 => .object "StartedByAYawn$Acts"
  | 4 => .object "StartedByAYawn$Wall"
  | 5 => .object "StartedByAYawn$Wall"
  | 6 => .object "StartedByAYawn$Book"
  | 7 => .object "StartedByAYawn$Past"
  | 8 => .array (.object "StartedByAYawn$Kept")
  | 9 => .object "StartedByAYawn$Crews"
  | 10 => .object "StartedByAYawn$Sightings"
  | 11 => .array .int
  | 12 => .int
  | 13 => .int
  | 14 => .int
  | 15 => .int
  | _ => .array .int
theorem zn11 : ∀ a, a < 17 → ∀ b, b < 17 → a ≠ b → (zT11 a).2.1 ≠ (zT11 b).2.1 := by decide +kernel
theorem zt11_ok : ∀ k, k < 17 → parseFieldDescriptor (zT11 k).2.2.1 = some (zt11 k) := by decide +kernel
theorem zi11 : ∀ w ∈ u_ws "StartedByAYawn" zT11 17, w ∈ tables_1 := by decide +kernel
def zT12 : u_T := fun k => match k with
  | 0 => ("StartedByAYawnModel", "now", "[I", true)
  | 1 => ("StartedByAYawnModel", "faces", "I", false)
  | 2 => ("StartedByAYawnModel", "delay", "[I", true)
  | 3 => ("StartedByAYawnModel", "sees", "[I", true)
  | 4 => ("StartedByAYawnModel", "judges", "I", false)
  | 5 => ("StartedByAYawnModel", "wind", "[I", true)
  | 6 => ("StartedByAYawnModel", "windMany", "I", false)
  | 7 => ("StartedByAYawnModel", "isFrozen", "Z", false)
  | 8 => ("StartedByAYawnModel", "text", "[B", true)
  | 9 => ("StartedByAYawnModel", "typed", "I", false)
  | 10 => ("StartedByAYawnModel", "row", "[I", true)
  | 11 => ("StartedByAYawnModel", "rowMany", "I", false)
  | 12 => ("StartedByAYawnModel", "thrown", "I", false)
  | 13 => ("StartedByAYawnModel", "read", "[B", false)
  | 14 => ("StartedByAYawnModel", "length", "I", false)
  | 15 => ("StartedByAYawnModel", "top", "I", false)
  | 16 => ("StartedByAYawnModel", "at", "I", false)
  | 17 => ("StartedByAYawnModel", "wrong", "I", false)
  | 18 => ("StartedByAYawnModel", "comes", "[I", true)
  | 19 => ("StartedByAYawnModel", "rule", "[B", true)
  | 20 => ("StartedByAYawnModel", "ruleSize", "I", false)
  | 21 => ("StartedByAYawnModel", "askedState", "[I", false)
  | 22 => ("StartedByAYawnModel", "askedFace", "I", false)
  | 23 => ("StartedByAYawnModel", "askedOther", "I", false)
  | 24 => ("StartedByAYawnModel", "askedMany", "I", false)
  | 25 => ("StartedByAYawnModel", "askedMeant", "I", false)
  | 26 => ("StartedByAYawnModel", "yawned", "I", false)
  | 27 => ("StartedByAYawnModel", "caught", "I", false)
  | 28 => ("StartedByAYawnModel", "meant", "I", false)
  | 29 => ("StartedByAYawnModel", "undos", "[I", true)
  | 30 => ("StartedByAYawnModel", "undoMany", "I", false)
  | 31 => ("StartedByAYawnModel", "aside", "[I", true)
  | 32 => ("StartedByAYawnModel", "acts", "[I", true)
  | 33 => ("StartedByAYawnModel", "hourYawns", "I", false)
  | 34 => ("StartedByAYawnModel", "then", "[I", true)
  | 35 => ("StartedByAYawnModel", "startFace", "I", false)
  | 36 => ("StartedByAYawnModel", "falseAhead", "I", false)
  | 37 => ("StartedByAYawnModel", "counts", "[I", true)
  | 38 => ("StartedByAYawnModel", "quiet", "I", false)
  | 39 => ("StartedByAYawnModel", "far", "[I", true)
  | 40 => ("StartedByAYawnModel", "left", "[I", true)
  | 41 => ("StartedByAYawnModel", "men", "[I", true)
  | 42 => ("StartedByAYawnModel", "crews", "[I", true)
  | 43 => ("StartedByAYawnModel", "crewMany", "I", false)
  | 44 => ("StartedByAYawnModel", "starts", "[I", true)
  | 45 => ("StartedByAYawnModel", "sights", "[I", true)
  | 46 => ("StartedByAYawnModel", "sightMany", "I", false)
  | 47 => ("StartedByAYawnModel", "came", "I", false)
  | 48 => ("StartedByAYawnModel", "kept", "[I", true)
  | 49 => ("StartedByAYawnModel", "isKept", "[Z", true)
  | _ => ("StartedByAYawnModel", "keptCame", "[I", true)
def zt12 : Nat → FieldType := fun k => match k with
  | 0 => .array .int
  | 1 => .int
  | 2 => .array .int
  | 3 => .array .int
  | 4 => .int
  | 5 => .array .int
  | 6 => .int
  | 7 => .boolean
  | 8 => .array .byte
  | 9 => .int
  | 10 => .array .int
  | 11 => .int
  | 12 => .int
  | 13 => .array .byte
  | 14 => .int
  | 15 => .int
  | 16 => .int
  | 17 => .int
  | 18 => .array .int
  | 19 => .array .byte
  | 20 => .int
  | 21 => .array .int
  | 22 => .int
  | 23 => .int
  | 24 => .int
  | 25 => .int
  | 26 => .int
  | 27 => .int
  | 28 => .int
  | 29 => .array .int
  | 30 => .int
  | 31 => .array .int
  | 32 => .array .int
  | 33 => .int
  | 34 => .array .int
  | 35 => .int
  | 36 => .int
  | 37 => .array .int
  | 38 => .int
  | 39 => .array .int
  | 40 => .array .int
  | 41 => .array .int
  | 42 => .array .int
  | 43 => .int
  | 44 => .array .int
  | 45 => .array .int
  | 46 => .int
  | 47 => .int
  | 48 => .array .int
  | 49 => .array .boolean
  | _ => .array .int
theorem zn12 : ∀ a, a < 51 → ∀ b, b < 51 → a ≠ b → (zT12 a).2.1 ≠ (zT12 b).2.1 := by decide +kernel
theorem zt12_ok : ∀ k, k < 51 → parseFieldDescriptor (zT12 k).2.2.1 = some (zt12 k) := by decide +kernel
theorem zi12 : ∀ w ∈ u_ws "StartedByAYawnModel" zT12 51, w ∈ tables_1 := by decide +kernel
abbrev zCl : List vw_C := [("StartedByAYawn$Acts", zT0, 5), ("StartedByAYawn$Book", zT1, 6), ("StartedByAYawn$Crews", zT2, 4), ("StartedByAYawn$Kept", zT3, 4), ("StartedByAYawn$Moment", zT4, 7), ("StartedByAYawn$Past", zT5, 3), ("StartedByAYawn$Rule", zT6, 6), ("StartedByAYawn$RuleReader", zT7, 3), ("StartedByAYawn$Sightings", zT8, 3), ("StartedByAYawn$Text", zT9, 5), ("StartedByAYawn$Wall", zT10, 9), ("StartedByAYawn", zT11, 17), ("StartedByAYawnModel", zT12, 51)]
def zCn : List String := ["StartedByAYawn$Acts", "StartedByAYawn$Book", "StartedByAYawn$Crews", "StartedByAYawn$Kept", "StartedByAYawn$Moment", "StartedByAYawn$Past", "StartedByAYawn$Rule", "StartedByAYawn$RuleReader", "StartedByAYawn$Sightings", "StartedByAYawn$Text", "StartedByAYawn$Wall", "StartedByAYawn", "StartedByAYawnModel", "java/lang/Integer", "java/lang/Math", "java/util/Arrays"]
def zc_0 : List zE := [(0, .iload_n 0, 1, 0, 0, 0, 0, 0, []), (1, .iload_n 0, 2, 0, 0, 0, 0, 0, []), (2, .iconst 1, 3, 0, 0, 0, 0, 1, []), (3, .iushr, 4, 0, 0, 0, 0, 0, []), (4, .ldc_w 265, 7, 0, 0, 0, 0, 1431655765, []), (7, .iand, 8, 0, 0, 0, 0, 0, []), (8, .isub, 9, 0, 0, 0, 0, 0, []), (9, .istore_n 0, 10, 0, 0, 0, 0, 0, []), (10, .iload_n 0, 11, 0, 0, 0, 0, 0, []), (11, .ldc_w 266, 14, 0, 0, 0, 0, 858993459, []), (14, .iand, 15, 0, 0, 0, 0, 0, []), (15, .iload_n 0, 16, 0, 0, 0, 0, 0, []), (16, .iconst 2, 17, 0, 0, 0, 0, 2, []), (17, .iushr, 18, 0, 0, 0, 0, 0, []), (18, .ldc_w 266, 21, 0, 0, 0, 0, 858993459, []), (21, .iand, 22, 0, 0, 0, 0, 0, []), (22, .iadd, 23, 0, 0, 0, 0, 0, []), (23, .istore_n 0, 24, 0, 0, 0, 0, 0, []), (24, .iload_n 0, 25, 0, 0, 0, 0, 0, []), (25, .iload_n 0, 26, 0, 0, 0, 0, 0, []), (26, .iconst 4, 27, 0, 0, 0, 0, 4, []), (27, .iushr, 28, 0, 0, 0, 0, 0, []), (28, .iadd, 29, 0, 0, 0, 0, 0, []), (29, .ldc_w 267, 32, 0, 0, 0, 0, 252645135, []), (32, .iand, 33, 0, 0, 0, 0, 0, []), (33, .istore_n 0, 34, 0, 0, 0, 0, 0, []), (34, .iload_n 0, 35, 0, 0, 0, 0, 0, []), (35, .iload_n 0, 36, 0, 0, 0, 0, 0, []), (36, .bipush 8, 38, 0, 0, 0, 0, 8, []), (38, .iushr, 39, 0, 0, 0, 0, 0, []), (39, .iadd, 40, 0, 0, 0, 0, 0, []), (40, .istore_n 0, 41, 0, 0, 0, 0, 0, []), (41, .iload_n 0, 42, 0, 0, 0, 0, 0, []), (42, .iload_n 0, 43, 0, 0, 0, 0, 0, []), (43, .bipush 16, 45, 0, 0, 0, 0, 16, []), (45, .iushr, 46, 0, 0, 0, 0, 0, []), (46, .iadd, 47, 0, 0, 0, 0, 0, []), (47, .istore_n 0, 48, 0, 0, 0, 0, 0, []), (48, .iload_n 0, 49, 0, 0, 0, 0, 0, []), (49, .bipush 63, 51, 0, 0, 0, 0, 63, []), (51, .iand, 52, 0, 0, 0, 0, 0, []), (52, .ireturn, 53, 0, 0, 0, 0, 0, [])]
def zc_1 : List zE := [(0, .iload_n 0, 1, 0, 0, 0, 0, 0, []), (1, .iload_n 1, 2, 1, 0, 0, 0, 0, []), (2, .irem, 3, 0, 0, 0, 0, 0, []), (3, .istore_n 2, 4, 2, 0, 0, 0, 0, []), (4, .iload_n 0, 5, 0, 0, 0, 0, 0, []), (5, .iload_n 1, 6, 1, 0, 0, 0, 0, []), (6, .ixor, 7, 0, 0, 0, 0, 0, []), (7, .ifCond .ge 11, 10, 18, 0, 0, 0, 0, []), (10, .iload_n 2, 11, 2, 0, 0, 0, 0, []), (11, .ifCond .eq 7, 14, 18, 0, 0, 0, 0, []), (14, .iload_n 2, 15, 2, 0, 0, 0, 0, []), (15, .iload_n 1, 16, 1, 0, 0, 0, 0, []), (16, .iadd, 17, 0, 0, 0, 0, 0, []), (17, .ireturn, 18, 0, 0, 0, 0, 0, []), (18, .iload_n 2, 19, 2, 0, 0, 0, 0, []), (19, .ireturn, 20, 0, 0, 0, 0, 0, [])]
def zc_2 : List zE := [(0, .iload_n 0, 1, 0, 0, 0, 0, 0, []), (1, .ifCond .ge 8, 4, 9, 0, 0, 0, 0, []), (4, .iload_n 0, 5, 0, 0, 0, 0, 0, []), (5, .ineg, 6, 0, 0, 0, 0, 0, []), (6, .goto 4, 9, 10, 0, 0, 0, 0, []), (9, .iload_n 0, 10, 0, 0, 0, 0, 0, []), (10, .ireturn, 11, 0, 0, 0, 0, 0, [])]
def zc_3 : List zE := [(0, .iload_n 0, 1, 0, 0, 0, 0, 0, []), (1, .iload_n 1, 2, 1, 0, 0, 0, 0, []), (2, .if_icmp .lt 7, 5, 9, 0, 0, 0, 0, []), (5, .iload_n 0, 6, 0, 0, 0, 0, 0, []), (6, .goto 4, 9, 10, 0, 0, 0, 0, []), (9, .iload_n 1, 10, 1, 0, 0, 0, 0, []), (10, .ireturn, 11, 0, 0, 0, 0, 0, [])]
def zc_4 : List zE := [(0, .iload_n 0, 1, 0, 0, 0, 0, 0, []), (1, .iload_n 1, 2, 1, 0, 0, 0, 0, []), (2, .if_icmp .gt 7, 5, 9, 0, 0, 0, 0, []), (5, .iload_n 0, 6, 0, 0, 0, 0, 0, []), (6, .goto 4, 9, 10, 0, 0, 0, 0, []), (9, .iload_n 1, 10, 1, 0, 0, 0, 0, []), (10, .ireturn, 11, 0, 0, 0, 0, 0, [])]
def zc_5 : List zE := [(0, .iconst 0, 1, 0, 0, 0, 0, 0, []), (1, .istore_n 2, 2, 2, 0, 0, 0, 0, []), (2, .aload_n 0, 3, 0, 0, 0, 0, 0, []), (3, .arraylength, 4, 0, 0, 0, 0, 0, []), (4, .istore_n 3, 5, 3, 0, 0, 0, 0, []), (5, .iload_n 2, 6, 2, 0, 0, 0, 0, []), (6, .iload_n 3, 7, 3, 0, 0, 0, 0, []), (7, .if_icmp .ge 13, 10, 20, 0, 0, 0, 0, []), (10, .aload_n 0, 11, 0, 0, 0, 0, 0, []), (11, .iload_n 2, 12, 2, 0, 0, 0, 0, []), (12, .iload_n 1, 13, 1, 0, 0, 0, 0, []), (13, .iastore, 14, 0, 0, 0, 0, 0, []), (14, .iinc 2 1, 17, 2, 0, 0, 0, 1, []), (17, .goto (-12), 20, 5, 0, 0, 0, 0, []), (20, .return_, 21, 0, 0, 0, 0, 0, [])]
def zc_6 : List zE := [(0, .aload_n 0, 1, 0, 0, 0, 0, 0, []), (1, .invokespecial 3, 4, 0, 0, 6, 0, 0, []), (4, .aload_n 0, 5, 0, 0, 0, 0, 0, []), (5, .bipush 20, 7, 0, 0, 0, 0, 20, []), (7, .newarray .int, 9, 1, 0, 0, 0, 0, []), (9, .putfield 11, 12, 0, 0, 2, 1, 0, []), (12, .aload_n 0, 13, 0, 0, 0, 0, 0, []), (13, .bipush 20, 15, 0, 0, 0, 0, 20, []), (15, .newarray .int, 17, 1, 0, 0, 0, 0, []), (17, .putfield 15, 20, 0, 1, 2, 1, 0, []), (20, .aload_n 0, 21, 0, 0, 0, 0, 0, []), (21, .bipush 20, 23, 0, 0, 0, 0, 20, []), (23, .newarray .int, 25, 1, 0, 0, 0, 0, []), (25, .putfield 18, 28, 0, 2, 2, 1, 0, []), (28, .aload_n 0, 29, 0, 0, 0, 0, 0, []), (29, .aload_n 1, 30, 1, 0, 0, 0, 0, []), (30, .putfield 21, 33, 0, 4, 2, 1, 0, []), (33, .return_, 34, 0, 0, 0, 0, 0, [])]
def zc_7 : List zE := [(0, .aload_n 0, 1, 0, 0, 0, 0, 0, []), (1, .iconst 0, 2, 0, 0, 0, 0, 0, []), (2, .putfield 25, 5, 0, 3, 0, 0, 0, []), (5, .aload_n 0, 6, 0, 0, 0, 0, 0, []), (6, .getfield 21, 9, 0, 4, 2, 0, 0, []), (9, .invokevirtual 29, 12, 61, 1, 1, 18, 0, []), (12, .ifCond .eq 5, 15, 17, 0, 0, 0, 0, []), (15, .iconst 1, 16, 0, 0, 0, 0, 1, []), (16, .ireturn, 17, 0, 0, 1, 0, 0, []), (17, .iconst 0, 18, 0, 0, 0, 0, 0, []), (18, .istore_n 1, 19, 1, 0, 0, 0, 0, []), (19, .iload_n 1, 20, 1, 0, 0, 0, 0, []), (20, .bipush 60, 22, 0, 0, 0, 0, 60, []), (22, .if_icmp .ge 44, 25, 66, 0, 0, 0, 0, []), (25, .aload_n 0, 26, 0, 0, 0, 0, 0, []), (26, .invokevirtual 35, 29, 8, 1, 1, 0, 0, []), (29, .ifCond .ne 5, 32, 34, 0, 0, 0, 0, []), (32, .iconst 0, 33, 0, 0, 0, 0, 0, []), (33, .ireturn, 34, 0, 0, 1, 0, 0, []), (34, .aload_n 0, 35, 0, 0, 0, 0, 0, []), (35, .getfield 21, 38, 0, 4, 2, 0, 0, []), (38, .invokevirtual 29, 41, 61, 1, 1, 18, 0, []), (41, .ifCond .eq 5, 44, 46, 0, 0, 0, 0, []), (44, .iconst 1, 45, 0, 0, 0, 0, 1, []), (45, .ireturn, 46, 0, 0, 1, 0, 0, []), (46, .aload_n 0, 47, 0, 0, 0, 0, 0, []), (47, .getfield 21, 50, 0, 4, 2, 0, 0, []), (50, .bipush 59, 52, 0, 0, 0, 0, 59, []), (52, .invokevirtual 38, 55, 66, 2, 1, 18, 0, []), (55, .ifCond .ne 5, 58, 60, 0, 0, 0, 0, []), (58, .iconst 0, 59, 0, 0, 0, 0, 0, []), (59, .ireturn, 60, 0, 0, 1, 0, 0, []), (60, .iinc 1 1, 63, 1, 0, 0, 0, 1, []), (63, .goto (-44), 66, 19, 0, 0, 0, 0, []), (66, .iconst 0, 67, 0, 0, 0, 0, 0, []), (67, .ireturn, 68, 0, 0, 1, 0, 0, [])]
def zc_8 : List zE := [(0, .aload_n 0, 1, 0, 0, 0, 0, 0, []), (1, .getfield 21, 4, 0, 4, 2, 0, 0, []), (4, .invokevirtual 42, 7, 64, 1, 1, 18, 0, []), (7, .istore_n 1, 8, 1, 0, 0, 0, 0, []), (8, .iload_n 1, 9, 1, 0, 0, 0, 0, []), (9, .bipush 109, 11, 0, 0, 0, 0, 109, []), (11, .if_icmp .ne 15, 14, 26, 0, 0, 0, 0, []), (14, .aload_n 0, 15, 0, 0, 0, 0, 0, []), (15, .getfield 21, 18, 0, 4, 2, 0, 0, []), (18, .invokevirtual 46, 21, 65, 1, 1, 19, 0, []), (21, .aload_n 0, 22, 0, 0, 0, 0, 0, []), (22, .invokevirtual 49, 25, 9, 1, 1, 0, 0, []), (25, .ireturn, 26, 0, 0, 1, 0, 0, []), (26, .iload_n 1, 27, 1, 0, 0, 0, 0, []), (27, .bipush 121, 29, 0, 0, 0, 0, 121, []), (29, .if_icmp .eq 23, 32, 52, 0, 0, 0, 0, []), (32, .iload_n 1, 33, 1, 0, 0, 0, 0, []), (33, .bipush 102, 35, 0, 0, 0, 0, 102, []), (35, .if_icmp .eq 17, 38, 52, 0, 0, 0, 0, []), (38, .iload_n 1, 39, 1, 0, 0, 0, 0, []), (39, .bipush 97, 41, 0, 0, 0, 0, 97, []), (41, .if_icmp .eq 11, 44, 52, 0, 0, 0, 0, []), (44, .iload_n 1, 45, 1, 0, 0, 0, 0, []), (45, .bipush 116, 47, 0, 0, 0, 0, 116, []), (47, .if_icmp .eq 5, 50, 52, 0, 0, 0, 0, []), (50, .iconst 0, 51, 0, 0, 0, 0, 0, []), (51, .ireturn, 52, 0, 0, 1, 0, 0, []), (52, .aload_n 0, 53, 0, 0, 0, 0, 0, []), (53, .getfield 21, 56, 0, 4, 2, 0, 0, []), (56, .invokevirtual 46, 59, 65, 1, 1, 19, 0, []), (59, .aload_n 0, 60, 0, 0, 0, 0, 0, []), (60, .getfield 21, 63, 0, 4, 2, 0, 0, []), (63, .iconst 0, 64, 0, 0, 0, 0, 0, []), (64, .invokevirtual 52, 67, 68, 2, 1, 18, 0, []), (67, .istore_n 2, 68, 2, 0, 0, 0, 0, []), (68, .iload_n 2, 69, 2, 0, 0, 0, 0, []), (69, .iconst (-1), 70, 0, 0, 0, 0, (-1), []), (70, .if_icmp .ne 5, 73, 75, 0, 0, 0, 0, []), (73, .iconst 0, 74, 0, 0, 0, 0, 0, []), (74, .ireturn, 75, 0, 0, 1, 0, 0, []), (75, .iload_n 1, 76, 1, 0, 0, 0, 0, []), (76, .bipush 116, 78, 0, 0, 0, 0, 116, []), (78, .if_icmp .ne 14, 81, 92, 0, 0, 0, 0, []), (81, .aload_n 0, 82, 0, 0, 0, 0, 0, []), (82, .getfield 21, 85, 0, 4, 2, 0, 0, []), (85, .iconst 0, 86, 0, 0, 0, 0, 0, []), (86, .invokevirtual 56, 89, 67, 2, 1, 18, 0, []), (89, .goto 4, 92, 93, 0, 0, 0, 0, []), (92, .iconst 0, 93, 0, 0, 0, 0, 0, []), (93, .istore_n 3, 94, 3, 0, 0, 0, 0, []), (94, .iload_n 3, 95, 3, 0, 0, 0, 0, []), (95, .iconst (-1), 96, 0, 0, 0, 0, (-1), []), (96, .if_icmp .eq 17, 99, 113, 0, 0, 0, 0, []), (99, .aload_n 0, 100, 0, 0, 0, 0, 0, []), (100, .iload_n 1, 101, 1, 0, 0, 0, 0, []), (101, .iload_n 2, 102, 2, 0, 0, 0, 0, []), (102, .iload_n 3, 103, 3, 0, 0, 0, 0, []), (103, .invokevirtual 59, 106, 10, 4, 1, 0, 0, []), (106, .ifCond .eq 7, 109, 113, 0, 0, 0, 0, []), (109, .iconst 1, 110, 0, 0, 0, 0, 1, []), (110, .goto 4, 113, 114, 0, 0, 0, 0, []), (113, .iconst 0, 114, 0, 0, 0, 0, 0, []), (114, .ireturn, 115, 0, 0, 1, 0, 0, [])]
def zc_9 : List zE := [(0, .aload_n 0, 1, 0, 0, 0, 0, 0, []), (1, .getfield 21, 4, 0, 4, 2, 0, 0, []), (4, .iconst 0, 5, 0, 0, 0, 0, 0, []), (5, .invokevirtual 56, 8, 67, 2, 1, 18, 0, []), (8, .istore_n 1, 9, 1, 0, 0, 0, 0, []), (9, .iload_n 1, 10, 1, 0, 0, 0, 0, []), (10, .iconst (-1), 11, 0, 0, 0, 0, (-1), []), (11, .if_icmp .ne 5, 14, 16, 0, 0, 0, 0, []), (14, .iconst 0, 15, 0, 0, 0, 0, 0, []), (15, .ireturn, 16, 0, 0, 1, 0, 0, []), (16, .aload_n 0, 17, 0, 0, 0, 0, 0, []), (17, .getfield 21, 20, 0, 4, 2, 0, 0, []), (20, .iconst 0, 21, 0, 0, 0, 0, 0, []), (21, .invokevirtual 56, 24, 67, 2, 1, 18, 0, []), (24, .istore_n 2, 25, 2, 0, 0, 0, 0, []), (25, .aload_n 0, 26, 0, 0, 0, 0, 0, []), (26, .bipush 109, 28, 0, 0, 0, 0, 109, []), (28, .iconst (-1), 29, 0, 0, 0, 0, (-1), []), (29, .iload_n 2, 30, 2, 0, 0, 0, 0, []), (30, .iconst (-1), 31, 0, 0, 0, 0, (-1), []), (31, .if_icmp .ne 7, 34, 38, 0, 0, 0, 0, []), (34, .iload_n 1, 35, 1, 0, 0, 0, 0, []), (35, .goto 9, 38, 44, 0, 0, 0, 0, []), (38, .bipush 10, 40, 0, 0, 0, 0, 10, []), (40, .iload_n 1, 41, 1, 0, 0, 0, 0, []), (41, .imul, 42, 0, 0, 0, 0, 0, []), (42, .iload_n 2, 43, 2, 0, 0, 0, 0, []), (43, .iadd, 44, 0, 0, 0, 0, 0, []), (44, .invokevirtual 59, 47, 10, 4, 1, 0, 0, []), (47, .ireturn, 48, 0, 0, 1, 0, 0, [])]
def zc_10 : List zE := [(0, .aload_n 0, 1, 0, 0, 0, 0, 0, []), (1, .getfield 25, 4, 0, 3, 0, 0, 0, []), (4, .ifCond .lt 12, 7, 16, 0, 0, 0, 0, []), (7, .aload_n 0, 8, 0, 0, 0, 0, 0, []), (8, .getfield 25, 11, 0, 3, 0, 0, 0, []), (11, .bipush 20, 13, 0, 0, 0, 0, 20, []), (13, .if_icmp .lt 5, 16, 18, 0, 0, 0, 0, []), (16, .iconst 0, 17, 0, 0, 0, 0, 0, []), (17, .ireturn, 18, 0, 0, 1, 0, 0, []), (18, .aload_n 0, 19, 0, 0, 0, 0, 0, []), (19, .getfield 11, 22, 0, 0, 2, 0, 0, []), (22, .aload_n 0, 23, 0, 0, 0, 0, 0, []), (23, .getfield 25, 26, 0, 3, 0, 0, 0, []), (26, .iload_n 1, 27, 1, 0, 0, 0, 0, []), (27, .iastore, 28, 0, 0, 0, 0, 0, []), (28, .aload_n 0, 29, 0, 0, 0, 0, 0, []), (29, .getfield 15, 32, 0, 1, 2, 0, 0, []), (32, .aload_n 0, 33, 0, 0, 0, 0, 0, []), (33, .getfield 25, 36, 0, 3, 0, 0, 0, []), (36, .iload_n 2, 37, 2, 0, 0, 0, 0, []), (37, .iastore, 38, 0, 0, 0, 0, 0, []), (38, .aload_n 0, 39, 0, 0, 0, 0, 0, []), (39, .getfield 18, 42, 0, 2, 2, 0, 0, []), (42, .aload_n 0, 43, 0, 0, 0, 0, 0, []), (43, .getfield 25, 46, 0, 3, 0, 0, 0, []), (46, .iload_n 3, 47, 3, 0, 0, 0, 0, []), (47, .iastore, 48, 0, 0, 0, 0, 0, []), (48, .aload_n 0, 49, 0, 0, 0, 0, 0, []), (49, .dup, 50, 0, 0, 0, 0, 0, []), (50, .getfield 25, 53, 0, 3, 0, 0, 0, []), (53, .iconst 1, 54, 0, 0, 0, 0, 1, []), (54, .iadd, 55, 0, 0, 0, 0, 0, []), (55, .putfield 25, 58, 0, 3, 0, 0, 0, []), (58, .iconst 1, 59, 0, 0, 0, 0, 1, []), (59, .ireturn, 60, 0, 0, 1, 0, 0, [])]
def zc_11 : List zE := [(0, .aload_n 0, 1, 0, 0, 0, 0, 0, []), (1, .invokespecial 3, 4, 0, 0, 6, 0, 0, []), (4, .aload_n 0, 5, 0, 0, 0, 0, 0, []), (5, .bipush 60, 7, 0, 0, 0, 0, 60, []), (7, .newarray .int, 9, 1, 0, 0, 0, 0, []), (9, .putfield 9, 12, 1, 0, 2, 1, 0, []), (12, .aload_n 0, 13, 0, 0, 0, 0, 0, []), (13, .bipush 60, 15, 0, 0, 0, 0, 60, []), (15, .newarray .int, 17, 1, 0, 0, 0, 0, []), (17, .putfield 15, 20, 1, 1, 2, 1, 0, []), (20, .aload_n 0, 21, 0, 0, 0, 0, 0, []), (21, .bipush 60, 23, 0, 0, 0, 0, 60, []), (23, .newarray .int, 25, 1, 0, 0, 0, 0, []), (25, .putfield 18, 28, 1, 2, 2, 1, 0, []), (28, .aload_n 0, 29, 0, 0, 0, 0, 0, []), (29, .bipush 60, 31, 0, 0, 0, 0, 60, []), (31, .newarray .int, 33, 1, 0, 0, 0, 0, []), (33, .putfield 21, 36, 1, 3, 2, 1, 0, []), (36, .return_, 37, 0, 0, 0, 0, 0, [])]
def zc_12 : List zE := [(0, .aload_n 1, 1, 1, 0, 0, 0, 0, []), (1, .getfield 9, 4, 1, 0, 2, 0, 0, []), (4, .iconst 0, 5, 0, 0, 0, 0, 0, []), (5, .aload_n 0, 6, 0, 0, 0, 0, 0, []), (6, .getfield 9, 9, 1, 0, 2, 0, 0, []), (9, .iconst 0, 10, 0, 0, 0, 0, 0, []), (10, .bipush 60, 12, 0, 0, 0, 0, 60, []), (12, .invokestatic 24, 15, 0, 0, 5, 0, 0, []), (15, .aload_n 1, 16, 1, 0, 0, 0, 0, []), (16, .getfield 15, 19, 1, 1, 2, 0, 0, []), (19, .iconst 0, 20, 0, 0, 0, 0, 0, []), (20, .aload_n 0, 21, 0, 0, 0, 0, 0, []), (21, .getfield 15, 24, 1, 1, 2, 0, 0, []), (24, .iconst 0, 25, 0, 0, 0, 0, 0, []), (25, .bipush 60, 27, 0, 0, 0, 0, 60, []), (27, .invokestatic 24, 30, 0, 0, 5, 0, 0, []), (30, .aload_n 1, 31, 1, 0, 0, 0, 0, []), (31, .getfield 18, 34, 1, 2, 2, 0, 0, []), (34, .iconst 0, 35, 0, 0, 0, 0, 0, []), (35, .aload_n 0, 36, 0, 0, 0, 0, 0, []), (36, .getfield 18, 39, 1, 2, 2, 0, 0, []), (39, .iconst 0, 40, 0, 0, 0, 0, 0, []), (40, .bipush 60, 42, 0, 0, 0, 0, 60, []), (42, .invokestatic 24, 45, 0, 0, 5, 0, 0, []), (45, .aload_n 1, 46, 1, 0, 0, 0, 0, []), (46, .getfield 21, 49, 1, 3, 2, 0, 0, []), (49, .iconst 0, 50, 0, 0, 0, 0, 0, []), (50, .aload_n 0, 51, 0, 0, 0, 0, 0, []), (51, .getfield 21, 54, 1, 3, 2, 0, 0, []), (54, .iconst 0, 55, 0, 0, 0, 0, 0, []), (55, .bipush 60, 57, 0, 0, 0, 0, 60, []), (57, .invokestatic 24, 60, 0, 0, 5, 0, 0, []), (60, .aload_n 0, 61, 0, 0, 0, 0, 0, []), (61, .aload_n 1, 62, 1, 0, 0, 0, 0, []), (62, .getfield 30, 65, 1, 4, 0, 0, 0, []), (65, .putfield 30, 68, 1, 4, 0, 0, 0, []), (68, .aload_n 0, 69, 0, 0, 0, 0, 0, []), (69, .aload_n 1, 70, 1, 0, 0, 0, 0, []), (70, .getfield 34, 73, 1, 5, 0, 0, 0, []), (73, .putfield 34, 76, 1, 5, 0, 0, 0, []), (76, .return_, 77, 0, 0, 0, 0, 0, [])]
def zc_13 : List zE := [(0, .iload_n 1, 1, 1, 0, 0, 0, 0, []), (1, .ifCond .lt 15, 4, 16, 0, 0, 0, 0, []), (4, .iload_n 1, 5, 1, 0, 0, 0, 0, []), (5, .aload_n 0, 6, 0, 0, 0, 0, 0, []), (6, .getfield 30, 9, 1, 4, 0, 0, 0, []), (9, .if_icmp .ge 7, 12, 16, 0, 0, 0, 0, []), (12, .iconst 1, 13, 0, 0, 0, 0, 1, []), (13, .goto 4, 16, 17, 0, 0, 0, 0, []), (16, .iconst 0, 17, 0, 0, 0, 0, 0, []), (17, .ireturn, 18, 0, 0, 1, 0, 0, [])]
def zc_14 : List zE := [(0, .aload_n 0, 1, 0, 0, 0, 0, 0, []), (1, .getfield 34, 4, 1, 5, 0, 0, 0, []), (4, .iload_n 1, 5, 1, 0, 0, 0, 0, []), (5, .iadd, 6, 0, 0, 0, 0, 0, []), (6, .bipush 60, 8, 0, 0, 0, 0, 60, []), (8, .invokestatic 37, 11, 1, 2, 0, 28, 0, []), (11, .ireturn, 12, 0, 0, 0, 0, 0, [])]
def zc_15 : List zE := [(0, .aload_n 0, 1, 0, 0, 0, 0, 0, []), (1, .aload_n 0, 2, 0, 0, 0, 0, 0, []), (2, .getfield 30, 5, 1, 4, 0, 0, 0, []), (5, .invokevirtual 43, 8, 14, 2, 1, 2, 0, []), (8, .istore 5, 10, 5, 0, 0, 0, 0, []), (10, .aload_n 0, 11, 0, 0, 0, 0, 0, []), (11, .getfield 9, 14, 1, 0, 2, 0, 0, []), (14, .iload 5, 16, 5, 0, 0, 0, 0, []), (16, .iload_n 1, 17, 1, 0, 0, 0, 0, []), (17, .iastore, 18, 0, 0, 0, 0, 0, []), (18, .aload_n 0, 19, 0, 0, 0, 0, 0, []), (19, .getfield 15, 22, 1, 1, 2, 0, 0, []), (22, .iload 5, 24, 5, 0, 0, 0, 0, []), (24, .iload_n 2, 25, 2, 0, 0, 0, 0, []), (25, .iastore, 26, 0, 0, 0, 0, 0, []), (26, .aload_n 0, 27, 0, 0, 0, 0, 0, []), (27, .getfield 18, 30, 1, 2, 2, 0, 0, []), (30, .iload 5, 32, 5, 0, 0, 0, 0, []), (32, .iload_n 3, 33, 3, 0, 0, 0, 0, []), (33, .iastore, 34, 0, 0, 0, 0, 0, []), (34, .aload_n 0, 35, 0, 0, 0, 0, 0, []), (35, .getfield 21, 38, 1, 3, 2, 0, 0, []), (38, .iload 5, 40, 5, 0, 0, 0, 0, []), (40, .iload 4, 42, 4, 0, 0, 0, 0, []), (42, .iastore, 43, 0, 0, 0, 0, 0, []), (43, .aload_n 0, 44, 0, 0, 0, 0, 0, []), (44, .getfield 30, 47, 1, 4, 0, 0, 0, []), (47, .bipush 60, 49, 0, 0, 0, 0, 60, []), (49, .if_icmp .ge 16, 52, 65, 0, 0, 0, 0, []), (52, .aload_n 0, 53, 0, 0, 0, 0, 0, []), (53, .dup, 54, 0, 0, 0, 0, 0, []), (54, .getfield 30, 57, 1, 4, 0, 0, 0, []), (57, .iconst 1, 58, 0, 0, 0, 0, 1, []), (58, .iadd, 59, 0, 0, 0, 0, 0, []), (59, .putfield 30, 62, 1, 4, 0, 0, 0, []), (62, .goto 12, 65, 74, 0, 0, 0, 0, []), (65, .aload_n 0, 66, 0, 0, 0, 0, 0, []), (66, .aload_n 0, 67, 0, 0, 0, 0, 0, []), (67, .iconst 1, 68, 0, 0, 0, 0, 1, []), (68, .invokevirtual 43, 71, 14, 2, 1, 2, 0, []), (71, .putfield 34, 74, 1, 5, 0, 0, 0, []), (74, .return_, 75, 0, 0, 0, 0, 0, [])]
def zc_16 : List zE := [(0, .aload_n 0, 1, 0, 0, 0, 0, 0, []), (1, .getfield 18, 4, 1, 2, 2, 0, 0, []), (4, .aload_n 0, 5, 0, 0, 0, 0, 0, []), (5, .iload_n 1, 6, 1, 0, 0, 0, 0, []), (6, .invokevirtual 43, 9, 14, 2, 1, 2, 0, []), (9, .iaload, 10, 0, 0, 0, 0, 0, []), (10, .ireturn, 11, 0, 0, 0, 0, 0, [])]
def zc_17 : List zE := [(0, .aload_n 0, 1, 0, 0, 0, 0, 0, []), (1, .getfield 15, 4, 1, 1, 2, 0, 0, []), (4, .aload_n 0, 5, 0, 0, 0, 0, 0, []), (5, .iload_n 1, 6, 1, 0, 0, 0, 0, []), (6, .invokevirtual 43, 9, 14, 2, 1, 2, 0, []), (9, .iaload, 10, 0, 0, 0, 0, 0, []), (10, .ireturn, 11, 0, 0, 0, 0, 0, [])]
def zc_18 : List zE := [(0, .aload_n 0, 1, 0, 0, 0, 0, 0, []), (1, .getfield 9, 4, 1, 0, 2, 0, 0, []), (4, .aload_n 0, 5, 0, 0, 0, 0, 0, []), (5, .iload_n 1, 6, 1, 0, 0, 0, 0, []), (6, .invokevirtual 43, 9, 14, 2, 1, 2, 0, []), (9, .iaload, 10, 0, 0, 0, 0, 0, []), (10, .istore_n 3, 11, 3, 0, 0, 0, 0, []), (11, .iload_n 1, 12, 1, 0, 0, 0, 0, []), (12, .iconst 1, 13, 0, 0, 0, 0, 1, []), (13, .isub, 14, 0, 0, 0, 0, 0, []), (14, .istore 4, 16, 4, 0, 0, 0, 0, []), (16, .iload 4, 18, 4, 0, 0, 0, 0, []), (18, .ifCond .lt 42, 21, 60, 0, 0, 0, 0, []), (21, .aload_n 0, 22, 0, 0, 0, 0, 0, []), (22, .getfield 15, 25, 1, 1, 2, 0, 0, []), (25, .aload_n 0, 26, 0, 0, 0, 0, 0, []), (26, .iload 4, 28, 4, 0, 0, 0, 0, []), (28, .invokevirtual 43, 31, 14, 2, 1, 2, 0, []), (31, .iaload, 32, 0, 0, 0, 0, 0, []), (32, .iload_n 2, 33, 2, 0, 0, 0, 0, []), (33, .if_icmp .ne 21, 36, 54, 0, 0, 0, 0, []), (36, .aload_n 0, 37, 0, 0, 0, 0, 0, []), (37, .getfield 9, 40, 1, 0, 2, 0, 0, []), (40, .aload_n 0, 41, 0, 0, 0, 0, 0, []), (41, .iload 4, 43, 4, 0, 0, 0, 0, []), (43, .invokevirtual 43, 46, 14, 2, 1, 2, 0, []), (46, .iaload, 47, 0, 0, 0, 0, 0, []), (47, .iload_n 3, 48, 3, 0, 0, 0, 0, []), (48, .if_icmp .ge 6, 51, 54, 0, 0, 0, 0, []), (51, .iload 4, 53, 4, 0, 0, 0, 0, []), (53, .ireturn, 54, 0, 0, 0, 0, 0, []), (54, .iinc 4 (-1), 57, 4, 0, 0, 0, (-1), []), (57, .goto (-41), 60, 16, 0, 0, 0, 0, []), (60, .iconst (-1), 61, 0, 0, 0, 0, (-1), []), (61, .ireturn, 62, 0, 0, 0, 0, 0, [])]
def zc_19 : List zE := [(0, .aload_n 0, 1, 0, 0, 0, 0, 0, []), (1, .invokespecial 1, 4, 0, 0, 6, 0, 0, []), (4, .aload_n 0, 5, 0, 0, 0, 0, 0, []), (5, .iconst 5, 6, 0, 0, 0, 0, 5, []), (6, .newarray .int, 8, 1, 0, 0, 0, 0, []), (8, .putfield 9, 11, 2, 0, 2, 1, 0, []), (11, .aload_n 0, 12, 0, 0, 0, 0, 0, []), (12, .iconst 5, 13, 0, 0, 0, 0, 5, []), (13, .newarray .int, 15, 1, 0, 0, 0, 0, []), (15, .putfield 13, 18, 2, 1, 2, 1, 0, []), (18, .aload_n 0, 19, 0, 0, 0, 0, 0, []), (19, .iconst 5, 20, 0, 0, 0, 0, 5, []), (20, .newarray .int, 22, 1, 0, 0, 0, 0, []), (22, .putfield 16, 25, 2, 2, 2, 1, 0, []), (25, .return_, 26, 0, 0, 0, 0, 0, [])]
def zc_20 : List zE := [(0, .aload_n 0, 1, 0, 0, 0, 0, 0, []), (1, .getfield 19, 4, 2, 3, 0, 0, 0, []), (4, .ifCond .lt 11, 7, 15, 0, 0, 0, 0, []), (7, .aload_n 0, 8, 0, 0, 0, 0, 0, []), (8, .getfield 19, 11, 2, 3, 0, 0, 0, []), (11, .iconst 5, 12, 0, 0, 0, 0, 5, []), (12, .if_icmp .lt 5, 15, 17, 0, 0, 0, 0, []), (15, .iconst 0, 16, 0, 0, 0, 0, 0, []), (16, .ireturn, 17, 0, 0, 1, 0, 0, []), (17, .aload_n 0, 18, 0, 0, 0, 0, 0, []), (18, .getfield 9, 21, 2, 0, 2, 0, 0, []), (21, .aload_n 0, 22, 0, 0, 0, 0, 0, []), (22, .getfield 19, 25, 2, 3, 0, 0, 0, []), (25, .iload_n 1, 26, 1, 0, 0, 0, 0, []), (26, .iastore, 27, 0, 0, 0, 0, 0, []), (27, .aload_n 0, 28, 0, 0, 0, 0, 0, []), (28, .getfield 13, 31, 2, 1, 2, 0, 0, []), (31, .aload_n 0, 32, 0, 0, 0, 0, 0, []), (32, .getfield 19, 35, 2, 3, 0, 0, 0, []), (35, .iload_n 2, 36, 2, 0, 0, 0, 0, []), (36, .iastore, 37, 0, 0, 0, 0, 0, []), (37, .aload_n 0, 38, 0, 0, 0, 0, 0, []), (38, .getfield 16, 41, 2, 2, 2, 0, 0, []), (41, .aload_n 0, 42, 0, 0, 0, 0, 0, []), (42, .getfield 19, 45, 2, 3, 0, 0, 0, []), (45, .iload_n 3, 46, 3, 0, 0, 0, 0, []), (46, .iastore, 47, 0, 0, 0, 0, 0, []), (47, .aload_n 0, 48, 0, 0, 0, 0, 0, []), (48, .dup, 49, 0, 0, 0, 0, 0, []), (49, .getfield 19, 52, 2, 3, 0, 0, 0, []), (52, .iconst 1, 53, 0, 0, 0, 0, 1, []), (53, .iadd, 54, 0, 0, 0, 0, 0, []), (54, .putfield 19, 57, 2, 3, 0, 0, 0, []), (57, .iconst 1, 58, 0, 0, 0, 0, 1, []), (58, .ireturn, 59, 0, 0, 1, 0, 0, [])]
def zc_21 : List zE := [(0, .iload_n 1, 1, 1, 0, 0, 0, 0, []), (1, .ifCond .lt 8, 4, 9, 0, 0, 0, 0, []), (4, .iload_n 1, 5, 1, 0, 0, 0, 0, []), (5, .iconst 5, 6, 0, 0, 0, 0, 5, []), (6, .if_icmp .lt 5, 9, 11, 0, 0, 0, 0, []), (9, .iconst 0, 10, 0, 0, 0, 0, 0, []), (10, .ireturn, 11, 0, 0, 0, 0, 0, []), (11, .iload_n 2, 12, 2, 0, 0, 0, 0, []), (12, .iload_n 3, 13, 3, 0, 0, 0, 0, []), (13, .if_icmp .gt 16, 16, 29, 0, 0, 0, 0, []), (16, .aload_n 0, 17, 0, 0, 0, 0, 0, []), (17, .getfield 13, 20, 2, 1, 2, 0, 0, []), (20, .iload_n 1, 21, 1, 0, 0, 0, 0, []), (21, .iaload, 22, 0, 0, 0, 0, 0, []), (22, .iload_n 3, 23, 3, 0, 0, 0, 0, []), (23, .iload_n 2, 24, 2, 0, 0, 0, 0, []), (24, .isub, 25, 0, 0, 0, 0, 0, []), (25, .imul, 26, 0, 0, 0, 0, 0, []), (26, .goto 13, 29, 39, 0, 0, 0, 0, []), (29, .aload_n 0, 30, 0, 0, 0, 0, 0, []), (30, .getfield 16, 33, 2, 2, 2, 0, 0, []), (33, .iload_n 1, 34, 1, 0, 0, 0, 0, []), (34, .iaload, 35, 0, 0, 0, 0, 0, []), (35, .iload_n 2, 36, 2, 0, 0, 0, 0, []), (36, .iload_n 3, 37, 3, 0, 0, 0, 0, []), (37, .isub, 38, 0, 0, 0, 0, 0, []), (38, .imul, 39, 0, 0, 0, 0, 0, []), (39, .ireturn, 40, 0, 0, 0, 0, 0, [])]
def zc_22 : List zE := [(0, .aload_n 0, 1, 0, 0, 0, 0, 0, []), (1, .invokespecial 1, 4, 0, 0, 6, 0, 0, []), (4, .aload_n 0, 5, 0, 0, 0, 0, 0, []), (5, .new 7, 8, 4, 0, 0, 0, 0, []), (8, .dup, 9, 0, 0, 0, 0, 0, []), (9, .invokespecial 9, 12, 25, 1, 2, 9, 0, []), (12, .putfield 10, 15, 3, 2, 2, 1, 0, []), (15, .aload_n 0, 16, 0, 0, 0, 0, 0, []), (16, .new 16, 19, 1, 0, 0, 0, 0, []), (19, .dup, 20, 0, 0, 0, 0, 0, []), (20, .invokespecial 18, 23, 11, 1, 4, 3, 0, []), (23, .putfield 19, 26, 3, 3, 2, 1, 0, []), (26, .return_, 27, 0, 0, 0, 0, 0, [])]
def zc_23 : List zE := [(0, .aload_n 0, 1, 0, 0, 0, 0, 0, []), (1, .getfield 10, 4, 3, 2, 2, 0, 0, []), (4, .aload_n 1, 5, 1, 0, 0, 0, 0, []), (5, .getfield 23, 8, 10, 2, 2, 0, 0, []), (8, .invokevirtual 26, 11, 26, 2, 1, 9, 0, []), (11, .aload_n 0, 12, 0, 0, 0, 0, 0, []), (12, .getfield 19, 15, 3, 3, 2, 0, 0, []), (15, .aload_n 2, 16, 2, 0, 0, 0, 0, []), (16, .invokevirtual 30, 19, 12, 2, 1, 3, 0, []), (19, .aload_n 0, 20, 0, 0, 0, 0, 0, []), (20, .aload_n 1, 21, 1, 0, 0, 0, 0, []), (21, .getfield 33, 24, 10, 3, 0, 0, 0, []), (24, .putfield 37, 27, 3, 1, 0, 0, 0, []), (27, .aload_n 0, 28, 0, 0, 0, 0, 0, []), (28, .iconst 1, 29, 0, 0, 0, 0, 1, []), (29, .putfield 38, 32, 3, 0, 1, 0, 0, []), (32, .return_, 33, 0, 0, 0, 0, 0, [])]
def zc_24 : List zE := [(0, .aload_n 1, 1, 1, 0, 0, 0, 0, []), (1, .getfield 23, 4, 10, 2, 2, 0, 0, []), (4, .aload_n 0, 5, 0, 0, 0, 0, 0, []), (5, .getfield 10, 8, 3, 2, 2, 0, 0, []), (8, .invokevirtual 26, 11, 26, 2, 1, 9, 0, []), (11, .aload_n 2, 12, 2, 0, 0, 0, 0, []), (12, .aload_n 0, 13, 0, 0, 0, 0, 0, []), (13, .getfield 19, 16, 3, 3, 2, 0, 0, []), (16, .invokevirtual 30, 19, 12, 2, 1, 3, 0, []), (19, .return_, 20, 0, 0, 0, 0, 0, [])]
def zc_25 : List zE := [(0, .aload_n 0, 1, 0, 0, 0, 0, 0, []), (1, .invokespecial 3, 4, 0, 0, 6, 0, 0, []), (4, .aload_n 0, 5, 0, 0, 0, 0, 0, []), (5, .bipush 9, 7, 0, 0, 0, 0, 9, []), (7, .newarray .int, 9, 1, 0, 0, 0, 0, []), (9, .putfield 9, 12, 4, 0, 2, 1, 0, []), (12, .aload_n 0, 13, 0, 0, 0, 0, 0, []), (13, .bipush 9, 15, 0, 0, 0, 0, 9, []), (15, .newarray .int, 17, 1, 0, 0, 0, 0, []), (17, .putfield 15, 20, 4, 1, 2, 1, 0, []), (20, .aload_n 0, 21, 0, 0, 0, 0, 0, []), (21, .bipush 9, 23, 0, 0, 0, 0, 9, []), (23, .newarray .int, 25, 1, 0, 0, 0, 0, []), (25, .putfield 18, 28, 4, 2, 2, 1, 0, []), (28, .aload_n 0, 29, 0, 0, 0, 0, 0, []), (29, .bipush 9, 31, 0, 0, 0, 0, 9, []), (31, .newarray .int, 33, 1, 0, 0, 0, 0, []), (33, .putfield 21, 36, 4, 3, 2, 1, 0, []), (36, .aload_n 0, 37, 0, 0, 0, 0, 0, []), (37, .invokevirtual 24, 40, 29, 1, 1, 9, 0, []), (40, .return_, 41, 0, 0, 0, 0, 0, [])]
def zc_26 : List zE := [(0, .aload_n 1, 1, 1, 0, 0, 0, 0, []), (1, .getfield 9, 4, 4, 0, 2, 0, 0, []), (4, .iconst 0, 5, 0, 0, 0, 0, 0, []), (5, .aload_n 0, 6, 0, 0, 0, 0, 0, []), (6, .getfield 9, 9, 4, 0, 2, 0, 0, []), (9, .iconst 0, 10, 0, 0, 0, 0, 0, []), (10, .bipush 9, 12, 0, 0, 0, 0, 9, []), (12, .invokestatic 27, 15, 0, 0, 5, 0, 0, []), (15, .aload_n 1, 16, 1, 0, 0, 0, 0, []), (16, .getfield 15, 19, 4, 1, 2, 0, 0, []), (19, .iconst 0, 20, 0, 0, 0, 0, 0, []), (20, .aload_n 0, 21, 0, 0, 0, 0, 0, []), (21, .getfield 15, 24, 4, 1, 2, 0, 0, []), (24, .iconst 0, 25, 0, 0, 0, 0, 0, []), (25, .bipush 9, 27, 0, 0, 0, 0, 9, []), (27, .invokestatic 27, 30, 0, 0, 5, 0, 0, []), (30, .aload_n 1, 31, 1, 0, 0, 0, 0, []), (31, .getfield 18, 34, 4, 2, 2, 0, 0, []), (34, .iconst 0, 35, 0, 0, 0, 0, 0, []), (35, .aload_n 0, 36, 0, 0, 0, 0, 0, []), (36, .getfield 18, 39, 4, 2, 2, 0, 0, []), (39, .iconst 0, 40, 0, 0, 0, 0, 0, []), (40, .bipush 9, 42, 0, 0, 0, 0, 9, []), (42, .invokestatic 27, 45, 0, 0, 5, 0, 0, []), (45, .aload_n 1, 46, 1, 0, 0, 0, 0, []), (46, .getfield 21, 49, 4, 3, 2, 0, 0, []), (49, .iconst 0, 50, 0, 0, 0, 0, 0, []), (50, .aload_n 0, 51, 0, 0, 0, 0, 0, []), (51, .getfield 21, 54, 4, 3, 2, 0, 0, []), (54, .iconst 0, 55, 0, 0, 0, 0, 0, []), (55, .bipush 9, 57, 0, 0, 0, 0, 9, []), (57, .invokestatic 27, 60, 0, 0, 5, 0, 0, []), (60, .aload_n 0, 61, 0, 0, 0, 0, 0, []), (61, .aload_n 1, 62, 1, 0, 0, 0, 0, []), (62, .getfield 33, 65, 4, 4, 0, 0, 0, []), (65, .putfield 33, 68, 4, 4, 0, 0, 0, []), (68, .aload_n 0, 69, 0, 0, 0, 0, 0, []), (69, .aload_n 1, 70, 1, 0, 0, 0, 0, []), (70, .getfield 37, 73, 4, 5, 0, 0, 0, []), (73, .putfield 37, 76, 4, 5, 0, 0, 0, []), (76, .aload_n 0, 77, 0, 0, 0, 0, 0, []), (77, .aload_n 1, 78, 1, 0, 0, 0, 0, []), (78, .getfield 40, 81, 4, 6, 0, 0, 0, []), (81, .putfield 40, 84, 4, 6, 0, 0, 0, []), (84, .return_, 85, 0, 0, 0, 0, 0, [])]
def zc_27 : List zE := [(0, .iload_n 1, 1, 1, 0, 0, 0, 0, []), (1, .ifCond .lt 9, 4, 10, 0, 0, 0, 0, []), (4, .iload_n 1, 5, 1, 0, 0, 0, 0, []), (5, .bipush 9, 7, 0, 0, 0, 0, 9, []), (7, .if_icmp .lt 4, 10, 11, 0, 0, 0, 0, []), (10, .return_, 11, 0, 0, 0, 0, 0, []), (11, .aload_n 0, 12, 0, 0, 0, 0, 0, []), (12, .getfield 18, 15, 4, 2, 2, 0, 0, []), (15, .iload_n 1, 16, 1, 0, 0, 0, 0, []), (16, .iload_n 2, 17, 2, 0, 0, 0, 0, []), (17, .iastore, 18, 0, 0, 0, 0, 0, []), (18, .aload_n 0, 19, 0, 0, 0, 0, 0, []), (19, .getfield 21, 22, 4, 3, 2, 0, 0, []), (22, .iload_n 1, 23, 1, 0, 0, 0, 0, []), (23, .iload_n 3, 24, 3, 0, 0, 0, 0, []), (24, .iastore, 25, 0, 0, 0, 0, 0, []), (25, .aload_n 0, 26, 0, 0, 0, 0, 0, []), (26, .iload 4, 28, 4, 0, 0, 0, 0, []), (28, .iconst 1, 29, 0, 0, 0, 0, 1, []), (29, .if_icmp .ne 15, 32, 44, 0, 0, 0, 0, []), (32, .aload_n 0, 33, 0, 0, 0, 0, 0, []), (33, .getfield 33, 36, 4, 4, 0, 0, 0, []), (36, .iload_n 1, 37, 1, 0, 0, 0, 0, []), (37, .invokestatic 43, 40, 131, 1, 3, 22, 0, []), (40, .ior, 41, 0, 0, 0, 0, 0, []), (41, .goto 14, 44, 55, 0, 0, 0, 0, []), (44, .aload_n 0, 45, 0, 0, 0, 0, 0, []), (45, .getfield 33, 48, 4, 4, 0, 0, 0, []), (48, .iload_n 1, 49, 1, 0, 0, 0, 0, []), (49, .invokestatic 43, 52, 131, 1, 3, 22, 0, []), (52, .iconst (-1), 53, 0, 0, 0, 0, (-1), []), (53, .ixor, 54, 0, 0, 0, 0, 0, []), (54, .iand, 55, 0, 0, 0, 0, 0, []), (55, .putfield 33, 58, 4, 4, 0, 0, 0, []), (58, .return_, 59, 0, 0, 0, 0, 0, [])]
def zc_28 : List zE := [(0, .aload_n 0, 1, 0, 0, 0, 0, 0, []), (1, .iload_n 1, 2, 1, 0, 0, 0, 0, []), (2, .iconst (-1), 3, 0, 0, 0, 0, (-1), []), (3, .iconst (-1), 4, 0, 0, 0, 0, (-1), []), (4, .iconst 0, 5, 0, 0, 0, 0, 0, []), (5, .invokevirtual 47, 8, 27, 5, 1, 9, 0, []), (8, .return_, 9, 0, 0, 0, 0, 0, [])]
def zc_29 : List zE := [(0, .aload_n 0, 1, 0, 0, 0, 0, 0, []), (1, .getfield 18, 4, 4, 2, 2, 0, 0, []), (4, .iconst (-1), 5, 0, 0, 0, 0, (-1), []), (5, .invokestatic 51, 8, 5, 2, 0, 31, 0, []), (8, .aload_n 0, 9, 0, 0, 0, 0, 0, []), (9, .getfield 21, 12, 4, 3, 2, 0, 0, []), (12, .iconst (-1), 13, 0, 0, 0, 0, (-1), []), (13, .invokestatic 51, 16, 5, 2, 0, 31, 0, []), (16, .aload_n 0, 17, 0, 0, 0, 0, 0, []), (17, .iconst 0, 18, 0, 0, 0, 0, 0, []), (18, .putfield 33, 21, 4, 4, 0, 0, 0, []), (21, .return_, 22, 0, 0, 0, 0, 0, [])]
def zc_30 : List zE := [(0, .iconst 0, 1, 0, 0, 0, 0, 0, []), (1, .istore_n 1, 2, 1, 0, 0, 0, 0, []), (2, .iconst 0, 3, 0, 0, 0, 0, 0, []), (3, .istore_n 2, 4, 2, 0, 0, 0, 0, []), (4, .iload_n 2, 5, 2, 0, 0, 0, 0, []), (5, .bipush 9, 7, 0, 0, 0, 0, 9, []), (7, .if_icmp .ge 30, 10, 37, 0, 0, 0, 0, []), (10, .iload_n 1, 11, 1, 0, 0, 0, 0, []), (11, .aload_n 0, 12, 0, 0, 0, 0, 0, []), (12, .getfield 18, 15, 4, 2, 2, 0, 0, []), (15, .iload_n 2, 16, 2, 0, 0, 0, 0, []), (16, .iaload, 17, 0, 0, 0, 0, 0, []), (17, .iconst (-1), 18, 0, 0, 0, 0, (-1), []), (18, .if_icmp .eq 10, 21, 28, 0, 0, 0, 0, []), (21, .iload_n 2, 22, 2, 0, 0, 0, 0, []), (22, .invokestatic 43, 25, 131, 1, 3, 22, 0, []), (25, .goto 4, 28, 29, 0, 0, 0, 0, []), (28, .iconst 0, 29, 0, 0, 0, 0, 0, []), (29, .ior, 30, 0, 0, 0, 0, 0, []), (30, .istore_n 1, 31, 1, 0, 0, 0, 0, []), (31, .iinc 2 1, 34, 2, 0, 0, 0, 1, []), (34, .goto (-30), 37, 4, 0, 0, 0, 0, []), (37, .iload_n 1, 38, 1, 0, 0, 0, 0, []), (38, .ireturn, 39, 0, 0, 0, 0, 0, [])]
def zc_31 : List zE := [(0, .aload_n 0, 1, 0, 0, 0, 0, 0, []), (1, .dup, 2, 0, 0, 0, 0, 0, []), (2, .getfield 37, 5, 4, 5, 0, 0, 0, []), (5, .iload_n 1, 6, 1, 0, 0, 0, 0, []), (6, .invokestatic 43, 9, 131, 1, 3, 22, 0, []), (9, .ixor, 10, 0, 0, 0, 0, 0, []), (10, .putfield 37, 13, 4, 5, 0, 0, 0, []), (13, .aload_n 0, 14, 0, 0, 0, 0, 0, []), (14, .iload_n 1, 15, 1, 0, 0, 0, 0, []), (15, .invokevirtual 57, 18, 28, 2, 1, 9, 0, []), (18, .return_, 19, 0, 0, 0, 0, 0, [])]
def zc_32 : List zE := [(0, .iconst 0, 1, 0, 0, 0, 0, 0, []), (1, .istore_n 2, 2, 2, 0, 0, 0, 0, []), (2, .iload_n 2, 3, 2, 0, 0, 0, 0, []), (3, .bipush 9, 5, 0, 0, 0, 0, 9, []), (5, .if_icmp .ge 29, 8, 34, 0, 0, 0, 0, []), (8, .iload_n 1, 9, 1, 0, 0, 0, 0, []), (9, .aload_n 0, 10, 0, 0, 0, 0, 0, []), (10, .getfield 37, 13, 4, 5, 0, 0, 0, []), (13, .iconst (-1), 14, 0, 0, 0, 0, (-1), []), (14, .ixor, 15, 0, 0, 0, 0, 0, []), (15, .iand, 16, 0, 0, 0, 0, 0, []), (16, .iload_n 2, 17, 2, 0, 0, 0, 0, []), (17, .invokestatic 61, 20, 132, 2, 3, 22, 0, []), (20, .ifCond .eq 8, 23, 28, 0, 0, 0, 0, []), (23, .aload_n 0, 24, 0, 0, 0, 0, 0, []), (24, .iload_n 2, 25, 2, 0, 0, 0, 0, []), (25, .invokevirtual 65, 28, 31, 2, 1, 9, 0, []), (28, .iinc 2 1, 31, 2, 0, 0, 0, 1, []), (31, .goto (-29), 34, 2, 0, 0, 0, 0, []), (34, .return_, 35, 0, 0, 0, 0, 0, [])]
def zc_33 : List zE := [(0, .iload_n 1, 1, 1, 0, 0, 0, 0, []), (1, .ifCond .lt 32, 4, 33, 0, 0, 0, 0, []), (4, .iload_n 1, 5, 1, 0, 0, 0, 0, []), (5, .bipush 9, 7, 0, 0, 0, 0, 9, []), (7, .if_icmp .ge 26, 10, 33, 0, 0, 0, 0, []), (10, .aload_n 0, 11, 0, 0, 0, 0, 0, []), (11, .getfield 9, 14, 4, 0, 2, 0, 0, []), (14, .iload_n 1, 15, 1, 0, 0, 0, 0, []), (15, .iconst 0, 16, 0, 0, 0, 0, 0, []), (16, .bipush 9, 18, 0, 0, 0, 0, 9, []), (18, .aload_n 0, 19, 0, 0, 0, 0, 0, []), (19, .getfield 9, 22, 4, 0, 2, 0, 0, []), (22, .iload_n 1, 23, 1, 0, 0, 0, 0, []), (23, .iaload, 24, 0, 0, 0, 0, 0, []), (24, .iload_n 2, 25, 2, 0, 0, 0, 0, []), (25, .iadd, 26, 0, 0, 0, 0, 0, []), (26, .invokestatic 68, 29, 4, 2, 0, 28, 0, []), (29, .invokestatic 74, 32, 3, 2, 0, 28, 0, []), (32, .iastore, 33, 0, 0, 0, 0, 0, []), (33, .return_, 34, 0, 0, 0, 0, 0, [])]
def zc_34 : List zE := [(0, .aload_n 0, 1, 0, 0, 0, 0, 0, []), (1, .invokespecial 3, 4, 0, 0, 6, 0, 0, []), (4, .aload_n 0, 5, 0, 0, 0, 0, 0, []), (5, .bipush 13, 7, 0, 0, 0, 0, 13, []), (7, .anewarray 11, 10, 5, 0, 0, 0, 0, []), (10, .putfield 13, 13, 5, 1, 2, 1, 0, []), (13, .iconst 0, 14, 0, 0, 0, 0, 0, []), (14, .istore_n 1, 15, 1, 0, 0, 0, 0, []), (15, .iload_n 1, 16, 1, 0, 0, 0, 0, []), (16, .bipush 13, 18, 0, 0, 0, 0, 13, []), (18, .if_icmp .ge 22, 21, 40, 0, 0, 0, 0, []), (21, .aload_n 0, 22, 0, 0, 0, 0, 0, []), (22, .getfield 13, 25, 5, 1, 2, 0, 0, []), (25, .iload_n 1, 26, 1, 0, 0, 0, 0, []), (26, .new 11, 29, 3, 0, 0, 0, 0, []), (29, .dup, 30, 0, 0, 0, 0, 0, []), (30, .invokespecial 17, 33, 22, 1, 4, 7, 0, []), (33, .aastore, 34, 0, 0, 0, 0, 0, []), (34, .iinc 1 1, 37, 1, 0, 0, 0, 1, []), (37, .goto (-22), 40, 15, 0, 0, 0, 0, []), (40, .return_, 41, 0, 0, 0, 0, 0, [])]
def zc_35 : List zE := [(0, .aload_n 0, 1, 0, 0, 0, 0, 0, []), (1, .getfield 13, 4, 5, 1, 2, 0, 0, []), (4, .aload_n 0, 5, 0, 0, 0, 0, 0, []), (5, .getfield 18, 8, 5, 2, 0, 0, 0, []), (8, .aaload, 9, 0, 0, 0, 0, 0, []), (9, .astore_n 3, 10, 3, 0, 0, 0, 0, []), (10, .aload_n 3, 11, 3, 0, 0, 0, 0, []), (11, .ifnull 9, 14, 20, 0, 0, 0, 0, []), (14, .aload_n 3, 15, 3, 0, 0, 0, 0, []), (15, .aload_n 1, 16, 1, 0, 0, 0, 0, []), (16, .aload_n 2, 17, 2, 0, 0, 0, 0, []), (17, .invokevirtual 22, 20, 23, 3, 1, 7, 0, []), (20, .return_, 21, 0, 0, 0, 0, 0, [])]
def zc_36 : List zE := [(0, .aload_n 0, 1, 0, 0, 0, 0, 0, []), (1, .aload_n 0, 2, 0, 0, 0, 0, 0, []), (2, .getfield 18, 5, 5, 2, 0, 0, 0, []), (5, .iconst 1, 6, 0, 0, 0, 0, 1, []), (6, .iadd, 7, 0, 0, 0, 0, 0, []), (7, .bipush 13, 9, 0, 0, 0, 0, 13, []), (9, .irem, 10, 0, 0, 0, 0, 0, []), (10, .putfield 18, 13, 5, 2, 0, 0, 0, []), (13, .aload_n 0, 14, 0, 0, 0, 0, 0, []), (14, .aload_n 0, 15, 0, 0, 0, 0, 0, []), (15, .getfield 26, 18, 5, 0, 0, 0, 0, []), (18, .iconst 1, 19, 0, 0, 0, 0, 1, []), (19, .iadd, 20, 0, 0, 0, 0, 0, []), (20, .bipush 12, 22, 0, 0, 0, 0, 12, []), (22, .invokestatic 29, 25, 4, 2, 0, 28, 0, []), (25, .putfield 26, 28, 5, 0, 0, 0, 0, []), (28, .return_, 29, 0, 0, 0, 0, 0, [])]
def zc_37 : List zE := [(0, .aload_n 0, 1, 0, 0, 0, 0, 0, []), (1, .getfield 26, 4, 5, 0, 0, 0, 0, []), (4, .ifCond .gt 5, 7, 9, 0, 0, 0, 0, []), (7, .iconst 0, 8, 0, 0, 0, 0, 0, []), (8, .ireturn, 9, 0, 0, 1, 0, 0, []), (9, .aload_n 0, 10, 0, 0, 0, 0, 0, []), (10, .aload_n 0, 11, 0, 0, 0, 0, 0, []), (11, .getfield 18, 14, 5, 2, 0, 0, 0, []), (14, .bipush 13, 16, 0, 0, 0, 0, 13, []), (16, .iadd, 17, 0, 0, 0, 0, 0, []), (17, .iconst 1, 18, 0, 0, 0, 0, 1, []), (18, .isub, 19, 0, 0, 0, 0, 0, []), (19, .bipush 13, 21, 0, 0, 0, 0, 13, []), (21, .irem, 22, 0, 0, 0, 0, 0, []), (22, .putfield 18, 25, 5, 2, 0, 0, 0, []), (25, .aload_n 0, 26, 0, 0, 0, 0, 0, []), (26, .dup, 27, 0, 0, 0, 0, 0, []), (27, .getfield 26, 30, 5, 0, 0, 0, 0, []), (30, .iconst 1, 31, 0, 0, 0, 0, 1, []), (31, .isub, 32, 0, 0, 0, 0, 0, []), (32, .putfield 26, 35, 5, 0, 0, 0, 0, []), (35, .aload_n 0, 36, 0, 0, 0, 0, 0, []), (36, .getfield 13, 39, 5, 1, 2, 0, 0, []), (39, .aload_n 0, 40, 0, 0, 0, 0, 0, []), (40, .getfield 18, 43, 5, 2, 0, 0, 0, []), (43, .aaload, 44, 0, 0, 0, 0, 0, []), (44, .astore_n 3, 45, 3, 0, 0, 0, 0, []), (45, .aload_n 3, 46, 3, 0, 0, 0, 0, []), (46, .ifnull 9, 49, 55, 0, 0, 0, 0, []), (49, .aload_n 3, 50, 3, 0, 0, 0, 0, []), (50, .aload_n 1, 51, 1, 0, 0, 0, 0, []), (51, .aload_n 2, 52, 2, 0, 0, 0, 0, []), (52, .invokevirtual 35, 55, 24, 3, 1, 7, 0, []), (55, .iconst 1, 56, 0, 0, 0, 0, 1, []), (56, .ireturn, 57, 0, 0, 1, 0, 0, [])]
def zc_38 : List zE := [(0, .aload_n 0, 1, 0, 0, 0, 0, 0, []), (1, .invokespecial 3, 4, 0, 0, 6, 0, 0, []), (4, .aload_n 0, 5, 0, 0, 0, 0, 0, []), (5, .bipush 9, 7, 0, 0, 0, 0, 9, []), (7, .newarray .int, 9, 1, 0, 0, 0, 0, []), (9, .putfield 9, 12, 6, 0, 2, 1, 0, []), (12, .aload_n 0, 13, 0, 0, 0, 0, 0, []), (13, .bipush 40, 15, 0, 0, 0, 0, 40, []), (15, .newarray .int, 17, 1, 0, 0, 0, 0, []), (17, .putfield 15, 20, 6, 1, 2, 1, 0, []), (20, .aload_n 0, 21, 0, 0, 0, 0, 0, []), (21, .bipush 40, 23, 0, 0, 0, 0, 40, []), (23, .newarray .int, 25, 1, 0, 0, 0, 0, []), (25, .putfield 18, 28, 6, 3, 2, 1, 0, []), (28, .aload_n 0, 29, 0, 0, 0, 0, 0, []), (29, .bipush 40, 31, 0, 0, 0, 0, 40, []), (31, .newarray .int, 33, 1, 0, 0, 0, 0, []), (33, .putfield 21, 36, 6, 4, 2, 1, 0, []), (36, .aload_n 0, 37, 0, 0, 0, 0, 0, []), (37, .invokevirtual 24, 40, 39, 1, 1, 13, 0, []), (40, .return_, 41, 0, 0, 0, 0, 0, [])]
def zc_39 : List zE := [(0, .aload_n 0, 1, 0, 0, 0, 0, 0, []), (1, .getfield 15, 4, 6, 1, 2, 0, 0, []), (4, .iconst 0, 5, 0, 0, 0, 0, 0, []), (5, .sipush 1000, 8, 0, 0, 0, 0, 1000, []), (8, .iastore, 9, 0, 0, 0, 0, 0, []), (9, .aload_n 0, 10, 0, 0, 0, 0, 0, []), (10, .getfield 15, 13, 6, 1, 2, 0, 0, []), (13, .iconst 1, 14, 0, 0, 0, 0, 1, []), (14, .iconst 3, 15, 0, 0, 0, 0, 3, []), (15, .iastore, 16, 0, 0, 0, 0, 0, []), (16, .aload_n 0, 17, 0, 0, 0, 0, 0, []), (17, .getfield 15, 20, 6, 1, 2, 0, 0, []), (20, .iconst 2, 21, 0, 0, 0, 0, 2, []), (21, .bipush (-62), 23, 0, 0, 0, 0, (-62), []), (23, .iastore, 24, 0, 0, 0, 0, 0, []), (24, .aload_n 0, 25, 0, 0, 0, 0, 0, []), (25, .iconst 3, 26, 0, 0, 0, 0, 3, []), (26, .putfield 27, 29, 6, 2, 0, 0, 0, []), (29, .return_, 30, 0, 0, 0, 0, 0, [])]
def zc_40 : List zE := [(0, .aload_n 1, 1, 1, 0, 0, 0, 0, []), (1, .getfield 31, 4, 7, 0, 2, 0, 0, []), (4, .iconst 0, 5, 0, 0, 0, 0, 0, []), (5, .aload_n 0, 6, 0, 0, 0, 0, 0, []), (6, .getfield 15, 9, 6, 1, 2, 0, 0, []), (9, .iconst 0, 10, 0, 0, 0, 0, 0, []), (10, .bipush 40, 12, 0, 0, 0, 0, 40, []), (12, .invokestatic 34, 15, 0, 0, 5, 0, 0, []), (15, .aload_n 0, 16, 0, 0, 0, 0, 0, []), (16, .aload_n 1, 17, 1, 0, 0, 0, 0, []), (17, .getfield 40, 20, 7, 1, 0, 0, 0, []), (20, .putfield 27, 23, 6, 2, 0, 0, 0, []), (23, .return_, 24, 0, 0, 0, 0, 0, [])]
def zc_41 : List zE := [(0, .aload_n 0, 1, 0, 0, 0, 0, 0, []), (1, .iload_n 2, 2, 2, 0, 0, 0, 0, []), (2, .bipush 40, 4, 0, 0, 0, 0, 40, []), (4, .aload_n 1, 5, 1, 0, 0, 0, 0, []), (5, .arraylength, 6, 0, 0, 0, 0, 0, []), (6, .invokestatic 41, 9, 4, 2, 0, 28, 0, []), (9, .invokestatic 41, 12, 4, 2, 0, 28, 0, []), (12, .putfield 47, 15, 6, 5, 0, 0, 0, []), (15, .iconst 0, 16, 0, 0, 0, 0, 0, []), (16, .istore_n 3, 17, 3, 0, 0, 0, 0, []), (17, .iload_n 3, 18, 3, 0, 0, 0, 0, []), (18, .aload_n 0, 19, 0, 0, 0, 0, 0, []), (19, .getfield 47, 22, 6, 5, 0, 0, 0, []), (22, .if_icmp .ge 21, 25, 43, 0, 0, 0, 0, []), (25, .aload_n 0, 26, 0, 0, 0, 0, 0, []), (26, .getfield 21, 29, 6, 4, 2, 0, 0, []), (29, .iload_n 3, 30, 3, 0, 0, 0, 0, []), (30, .aload_n 1, 31, 1, 0, 0, 0, 0, []), (31, .iload_n 3, 32, 3, 0, 0, 0, 0, []), (32, .iaload, 33, 0, 0, 0, 0, 0, []), (33, .bipush 48, 35, 0, 0, 0, 0, 48, []), (35, .isub, 36, 0, 0, 0, 0, 0, []), (36, .iastore, 37, 0, 0, 0, 0, 0, []), (37, .iinc 3 1, 40, 3, 0, 0, 0, 1, []), (40, .goto (-23), 43, 17, 0, 0, 0, 0, []), (43, .return_, 44, 0, 0, 0, 0, 0, [])]
def zc_42 : List zE := [(0, .aload_n 0, 1, 0, 0, 0, 0, 0, []), (1, .getfield 47, 4, 6, 5, 0, 0, 0, []), (4, .ifCond .le 7, 7, 11, 0, 0, 0, 0, []), (7, .iload_n 1, 8, 1, 0, 0, 0, 0, []), (8, .ifCond .ge 7, 11, 15, 0, 0, 0, 0, []), (11, .iconst 0, 12, 0, 0, 0, 0, 0, []), (12, .goto 14, 15, 26, 0, 0, 0, 0, []), (15, .aload_n 0, 16, 0, 0, 0, 0, 0, []), (16, .getfield 21, 19, 6, 4, 2, 0, 0, []), (19, .iload_n 1, 20, 1, 0, 0, 0, 0, []), (20, .aload_n 0, 21, 0, 0, 0, 0, 0, []), (21, .getfield 47, 24, 6, 5, 0, 0, 0, []), (24, .irem, 25, 0, 0, 0, 0, 0, []), (25, .iaload, 26, 0, 0, 0, 0, 0, []), (26, .ireturn, 27, 0, 0, 0, 0, 0, [])]
def zc_43 : List zE := [(0, .iconst 0, 1, 0, 0, 0, 0, 0, []), (1, .istore_n 1, 2, 1, 0, 0, 0, 0, []), (2, .iconst 0, 3, 0, 0, 0, 0, 0, []), (3, .istore_n 2, 4, 2, 0, 0, 0, 0, []), (4, .iload_n 2, 5, 2, 0, 0, 0, 0, []), (5, .aload_n 0, 6, 0, 0, 0, 0, 0, []), (6, .getfield 27, 9, 6, 2, 0, 0, 0, []), (9, .if_icmp .ge 136, 12, 145, 0, 0, 0, 0, []), (12, .aload_n 0, 13, 0, 0, 0, 0, 0, []), (13, .getfield 15, 16, 6, 1, 2, 0, 0, []), (16, .iload_n 2, 17, 2, 0, 0, 0, 0, []), (17, .iaload, 18, 0, 0, 0, 0, 0, []), (18, .istore_n 3, 19, 3, 0, 0, 0, 0, []), (19, .iload_n 3, 20, 3, 0, 0, 0, 0, []), (20, .bipush (-126), 22, 0, 0, 0, 0, (-126), []), (22, .if_icmp .ne 27, 25, 49, 0, 0, 0, 0, []), (25, .iload_n 1, 26, 1, 0, 0, 0, 0, []), (26, .ifCond .le 113, 29, 139, 0, 0, 0, 0, []), (29, .aload_n 0, 30, 0, 0, 0, 0, 0, []), (30, .getfield 18, 33, 6, 3, 2, 0, 0, []), (33, .iload_n 1, 34, 1, 0, 0, 0, 0, []), (34, .iconst 1, 35, 0, 0, 0, 0, 1, []), (35, .isub, 36, 0, 0, 0, 0, 0, []), (36, .aload_n 0, 37, 0, 0, 0, 0, 0, []), (37, .getfield 18, 40, 6, 3, 2, 0, 0, []), (40, .iload_n 1, 41, 1, 0, 0, 0, 0, []), (41, .iconst 1, 42, 0, 0, 0, 0, 1, []), (42, .isub, 43, 0, 0, 0, 0, 0, []), (43, .iaload, 44, 0, 0, 0, 0, 0, []), (44, .ineg, 45, 0, 0, 0, 0, 0, []), (45, .iastore, 46, 0, 0, 0, 0, 0, []), (46, .goto 93, 49, 139, 0, 0, 0, 0, []), (49, .iload_n 3, 50, 3, 0, 0, 0, 0, []), (50, .ifCond .ge 41, 53, 91, 0, 0, 0, 0, []), (53, .iload_n 1, 54, 1, 0, 0, 0, 0, []), (54, .iconst 1, 55, 0, 0, 0, 0, 1, []), (55, .if_icmp .le 84, 58, 139, 0, 0, 0, 0, []), (58, .iinc 1 (-1), 61, 1, 0, 0, 0, (-1), []), (61, .aload_n 0, 62, 0, 0, 0, 0, 0, []), (62, .getfield 18, 65, 6, 3, 2, 0, 0, []), (65, .iload_n 1, 66, 1, 0, 0, 0, 0, []), (66, .iconst 1, 67, 0, 0, 0, 0, 1, []), (67, .isub, 68, 0, 0, 0, 0, 0, []), (68, .iload_n 3, 69, 3, 0, 0, 0, 0, []), (69, .ineg, 70, 0, 0, 0, 0, 0, []), (70, .aload_n 0, 71, 0, 0, 0, 0, 0, []), (71, .getfield 18, 74, 6, 3, 2, 0, 0, []), (74, .iload_n 1, 75, 1, 0, 0, 0, 0, []), (75, .iconst 1, 76, 0, 0, 0, 0, 1, []), (76, .isub, 77, 0, 0, 0, 0, 0, []), (77, .iaload, 78, 0, 0, 0, 0, 0, []), (78, .aload_n 0, 79, 0, 0, 0, 0, 0, []), (79, .getfield 18, 82, 6, 3, 2, 0, 0, []), (82, .iload_n 1, 83, 1, 0, 0, 0, 0, []), (83, .iaload, 84, 0, 0, 0, 0, 0, []), (84, .invokestatic 50, 87, 44, 3, 0, 12, 0, []), (87, .iastore, 88, 0, 0, 0, 0, 0, []), (88, .goto 51, 91, 139, 0, 0, 0, 0, []), (91, .iload_n 1, 92, 1, 0, 0, 0, 0, []), (92, .bipush 40, 94, 0, 0, 0, 0, 40, []), (94, .if_icmp .ge 45, 97, 139, 0, 0, 0, 0, []), (97, .iload_n 3, 98, 3, 0, 0, 0, 0, []), (98, .sipush 1000, 101, 0, 0, 0, 0, 1000, []), (101, .isub, 102, 0, 0, 0, 0, 0, []), (102, .istore 4, 104, 4, 0, 0, 0, 0, []), (104, .aload_n 0, 105, 0, 0, 0, 0, 0, []), (105, .getfield 18, 108, 6, 3, 2, 0, 0, []), (108, .iload_n 1, 109, 1, 0, 0, 0, 0, []), (109, .iload 4, 111, 4, 0, 0, 0, 0, []), (111, .ifCond .lt 23, 114, 134, 0, 0, 0, 0, []), (114, .iload 4, 116, 4, 0, 0, 0, 0, []), (116, .aload_n 0, 117, 0, 0, 0, 0, 0, []), (117, .getfield 9, 120, 6, 0, 2, 0, 0, []), (120, .arraylength, 121, 0, 0, 0, 0, 0, []), (121, .if_icmp .ge 13, 124, 134, 0, 0, 0, 0, []), (124, .aload_n 0, 125, 0, 0, 0, 0, 0, []), (125, .getfield 9, 128, 6, 0, 2, 0, 0, []), (128, .iload 4, 130, 4, 0, 0, 0, 0, []), (130, .iaload, 131, 0, 0, 0, 0, 0, []), (131, .goto 4, 134, 135, 0, 0, 0, 0, []), (134, .iload_n 3, 135, 3, 0, 0, 0, 0, []), (135, .iastore, 136, 0, 0, 0, 0, 0, []), (136, .iinc 1 1, 139, 1, 0, 0, 0, 1, []), (139, .iinc 2 1, 142, 2, 0, 0, 0, 1, []), (142, .goto (-138), 145, 4, 0, 0, 0, 0, []), (145, .aload_n 0, 146, 0, 0, 0, 0, 0, []), (146, .getfield 18, 149, 6, 3, 2, 0, 0, []), (149, .iconst 0, 150, 0, 0, 0, 0, 0, []), (150, .iaload, 151, 0, 0, 0, 0, 0, []), (151, .ifCond .eq 7, 154, 158, 0, 0, 0, 0, []), (154, .iconst 1, 155, 0, 0, 0, 0, 1, []), (155, .goto 4, 158, 159, 0, 0, 0, 0, []), (158, .iconst 0, 159, 0, 0, 0, 0, 0, []), (159, .ireturn, 160, 0, 0, 1, 0, 0, [])]
def zc_44 : List zE := [(0, .iload_n 0, 1, 0, 0, 0, 0, 0, []), (1, .lookupswitch 104 #[(42, 100), (43, 92), (45, 96), (60, 59), (61, 81), (62, 70)], 60, 105, 0, 0, 0, 0, [(42, 101), (43, 93), (45, 97), (60, 60), (61, 82), (62, 71)]), (60, .iload_n 1, 61, 1, 0, 0, 0, 0, []), (61, .iload_n 2, 62, 2, 0, 0, 0, 0, []), (62, .if_icmp .ge 7, 65, 69, 0, 0, 0, 0, []), (65, .iconst 1, 66, 0, 0, 0, 0, 1, []), (66, .goto 4, 69, 70, 0, 0, 0, 0, []), (69, .iconst 0, 70, 0, 0, 0, 0, 0, []), (70, .ireturn, 71, 0, 0, 0, 0, 0, []), (71, .iload_n 1, 72, 1, 0, 0, 0, 0, []), (72, .iload_n 2, 73, 2, 0, 0, 0, 0, []), (73, .if_icmp .le 7, 76, 80, 0, 0, 0, 0, []), (76, .iconst 1, 77, 0, 0, 0, 0, 1, []), (77, .goto 4, 80, 81, 0, 0, 0, 0, []), (80, .iconst 0, 81, 0, 0, 0, 0, 0, []), (81, .ireturn, 82, 0, 0, 0, 0, 0, []), (82, .iload_n 1, 83, 1, 0, 0, 0, 0, []), (83, .iload_n 2, 84, 2, 0, 0, 0, 0, []), (84, .if_icmp .ne 7, 87, 91, 0, 0, 0, 0, []), (87, .iconst 1, 88, 0, 0, 0, 0, 1, []), (88, .goto 4, 91, 92, 0, 0, 0, 0, []), (91, .iconst 0, 92, 0, 0, 0, 0, 0, []), (92, .ireturn, 93, 0, 0, 0, 0, 0, []), (93, .iload_n 1, 94, 1, 0, 0, 0, 0, []), (94, .iload_n 2, 95, 2, 0, 0, 0, 0, []), (95, .iadd, 96, 0, 0, 0, 0, 0, []), (96, .ireturn, 97, 0, 0, 0, 0, 0, []), (97, .iload_n 1, 98, 1, 0, 0, 0, 0, []), (98, .iload_n 2, 99, 2, 0, 0, 0, 0, []), (99, .isub, 100, 0, 0, 0, 0, 0, []), (100, .ireturn, 101, 0, 0, 0, 0, 0, []), (101, .iload_n 1, 102, 1, 0, 0, 0, 0, []), (102, .iload_n 2, 103, 2, 0, 0, 0, 0, []), (103, .imul, 104, 0, 0, 0, 0, 0, []), (104, .ireturn, 105, 0, 0, 0, 0, 0, []), (105, .iload_n 2, 106, 2, 0, 0, 0, 0, []), (106, .ifCond .ne 7, 109, 113, 0, 0, 0, 0, []), (109, .iconst 0, 110, 0, 0, 0, 0, 0, []), (110, .goto 6, 113, 116, 0, 0, 0, 0, []), (113, .iload_n 1, 114, 1, 0, 0, 0, 0, []), (114, .iload_n 2, 115, 2, 0, 0, 0, 0, []), (115, .idiv, 116, 0, 0, 0, 0, 0, []), (116, .ireturn, 117, 0, 0, 0, 0, 0, [])]
def zc_45 : List zE := [(0, .aload_n 0, 1, 0, 0, 0, 0, 0, []), (1, .invokespecial 3, 4, 0, 0, 6, 0, 0, []), (4, .aload_n 0, 5, 0, 0, 0, 0, 0, []), (5, .bipush 40, 7, 0, 0, 0, 0, 40, []), (7, .newarray .int, 9, 1, 0, 0, 0, 0, []), (9, .putfield 9, 12, 7, 0, 2, 1, 0, []), (12, .aload_n 0, 13, 0, 0, 0, 0, 0, []), (13, .aload_n 1, 14, 1, 0, 0, 0, 0, []), (14, .putfield 15, 17, 7, 2, 2, 1, 0, []), (17, .return_, 18, 0, 0, 0, 0, 0, [])]
def zc_46 : List zE := [(0, .aload_n 0, 1, 0, 0, 0, 0, 0, []), (1, .iconst 0, 2, 0, 0, 0, 0, 0, []), (2, .putfield 19, 5, 7, 1, 0, 0, 0, []), (5, .aload_n 0, 6, 0, 0, 0, 0, 0, []), (6, .iconst 0, 7, 0, 0, 0, 0, 0, []), (7, .invokevirtual 23, 10, 48, 2, 1, 14, 0, []), (10, .ireturn, 11, 0, 0, 1, 0, 0, [])]
def zc_47 : List zE := [(0, .aload_n 0, 1, 0, 0, 0, 0, 0, []), (1, .getfield 19, 4, 7, 1, 0, 0, 0, []), (4, .bipush 40, 6, 0, 0, 0, 0, 40, []), (6, .if_icmp .ge 23, 9, 29, 0, 0, 0, 0, []), (9, .aload_n 0, 10, 0, 0, 0, 0, 0, []), (10, .getfield 9, 13, 7, 0, 2, 0, 0, []), (13, .aload_n 0, 14, 0, 0, 0, 0, 0, []), (14, .getfield 19, 17, 7, 1, 0, 0, 0, []), (17, .iload_n 1, 18, 1, 0, 0, 0, 0, []), (18, .iastore, 19, 0, 0, 0, 0, 0, []), (19, .aload_n 0, 20, 0, 0, 0, 0, 0, []), (20, .dup, 21, 0, 0, 0, 0, 0, []), (21, .getfield 19, 24, 7, 1, 0, 0, 0, []), (24, .iconst 1, 25, 0, 0, 0, 0, 1, []), (25, .iadd, 26, 0, 0, 0, 0, 0, []), (26, .putfield 19, 29, 7, 1, 0, 0, 0, []), (29, .return_, 30, 0, 0, 0, 0, 0, [])]
def zc_48 : List zE := [(0, .aload_n 0, 1, 0, 0, 0, 0, 0, []), (1, .iload_n 1, 2, 1, 0, 0, 0, 0, []), (2, .invokevirtual 27, 5, 49, 2, 1, 14, 0, []), (5, .ifCond .ne 5, 8, 10, 0, 0, 0, 0, []), (8, .iconst 0, 9, 0, 0, 0, 0, 0, []), (9, .ireturn, 10, 0, 0, 1, 0, 0, []), (10, .aload_n 0, 11, 0, 0, 0, 0, 0, []), (11, .getfield 15, 14, 7, 2, 2, 0, 0, []), (14, .invokevirtual 30, 17, 64, 1, 1, 18, 0, []), (17, .istore_n 2, 18, 2, 0, 0, 0, 0, []), (18, .iload_n 2, 19, 2, 0, 0, 0, 0, []), (19, .bipush 60, 21, 0, 0, 0, 0, 60, []), (21, .if_icmp .eq 17, 24, 38, 0, 0, 0, 0, []), (24, .iload_n 2, 25, 2, 0, 0, 0, 0, []), (25, .bipush 62, 27, 0, 0, 0, 0, 62, []), (27, .if_icmp .eq 11, 30, 38, 0, 0, 0, 0, []), (30, .iload_n 2, 31, 2, 0, 0, 0, 0, []), (31, .bipush 61, 33, 0, 0, 0, 0, 61, []), (33, .if_icmp .eq 5, 36, 38, 0, 0, 0, 0, []), (36, .iconst 1, 37, 0, 0, 0, 0, 1, []), (37, .ireturn, 38, 0, 0, 1, 0, 0, []), (38, .aload_n 0, 39, 0, 0, 0, 0, 0, []), (39, .getfield 15, 42, 7, 2, 2, 0, 0, []), (42, .invokevirtual 36, 45, 65, 1, 1, 19, 0, []), (45, .aload_n 0, 46, 0, 0, 0, 0, 0, []), (46, .iload_n 1, 47, 1, 0, 0, 0, 0, []), (47, .invokevirtual 27, 50, 49, 2, 1, 14, 0, []), (50, .ifCond .ne 5, 53, 55, 0, 0, 0, 0, []), (53, .iconst 0, 54, 0, 0, 0, 0, 0, []), (54, .ireturn, 55, 0, 0, 1, 0, 0, []), (55, .aload_n 0, 56, 0, 0, 0, 0, 0, []), (56, .iload_n 2, 57, 2, 0, 0, 0, 0, []), (57, .ineg, 58, 0, 0, 0, 0, 0, []), (58, .invokevirtual 39, 61, 47, 2, 1, 15, 0, []), (61, .iconst 1, 62, 0, 0, 0, 0, 1, []), (62, .ireturn, 63, 0, 0, 1, 0, 0, [])]
def zc_49 : List zE := [(0, .aload_n 0, 1, 0, 0, 0, 0, 0, []), (1, .iload_n 1, 2, 1, 0, 0, 0, 0, []), (2, .invokevirtual 43, 5, 50, 2, 1, 14, 0, []), (5, .istore_n 2, 6, 2, 0, 0, 0, 0, []), (6, .aload_n 0, 7, 0, 0, 0, 0, 0, []), (7, .getfield 15, 10, 7, 2, 2, 0, 0, []), (10, .invokevirtual 30, 13, 64, 1, 1, 18, 0, []), (13, .istore_n 3, 14, 3, 0, 0, 0, 0, []), (14, .iconst 0, 15, 0, 0, 0, 0, 0, []), (15, .istore 4, 17, 4, 0, 0, 0, 0, []), (17, .iload 4, 19, 4, 0, 0, 0, 0, []), (19, .bipush 40, 21, 0, 0, 0, 0, 40, []), (21, .if_icmp .ge 52, 24, 73, 0, 0, 0, 0, []), (24, .iload_n 2, 25, 2, 0, 0, 0, 0, []), (25, .ifCond .eq 48, 28, 73, 0, 0, 0, 0, []), (28, .iload_n 3, 29, 3, 0, 0, 0, 0, []), (29, .bipush 43, 31, 0, 0, 0, 0, 43, []), (31, .if_icmp .eq 9, 34, 40, 0, 0, 0, 0, []), (34, .iload_n 3, 35, 3, 0, 0, 0, 0, []), (35, .bipush 45, 37, 0, 0, 0, 0, 45, []), (37, .if_icmp .ne 36, 40, 73, 0, 0, 0, 0, []), (40, .aload_n 0, 41, 0, 0, 0, 0, 0, []), (41, .getfield 15, 44, 7, 2, 2, 0, 0, []), (44, .invokevirtual 36, 47, 65, 1, 1, 19, 0, []), (47, .aload_n 0, 48, 0, 0, 0, 0, 0, []), (48, .iload_n 1, 49, 1, 0, 0, 0, 0, []), (49, .invokevirtual 43, 52, 50, 2, 1, 14, 0, []), (52, .istore_n 2, 53, 2, 0, 0, 0, 0, []), (53, .aload_n 0, 54, 0, 0, 0, 0, 0, []), (54, .iload_n 3, 55, 3, 0, 0, 0, 0, []), (55, .ineg, 56, 0, 0, 0, 0, 0, []), (56, .invokevirtual 39, 59, 47, 2, 1, 15, 0, []), (59, .aload_n 0, 60, 0, 0, 0, 0, 0, []), (60, .getfield 15, 63, 7, 2, 2, 0, 0, []), (63, .invokevirtual 30, 66, 64, 1, 1, 18, 0, []), (66, .istore_n 3, 67, 3, 0, 0, 0, 0, []), (67, .iinc 4 1, 70, 4, 0, 0, 0, 1, []), (70, .goto (-53), 73, 17, 0, 0, 0, 0, []), (73, .iload_n 2, 74, 2, 0, 0, 0, 0, []), (74, .ireturn, 75, 0, 0, 1, 0, 0, [])]
def zc_50 : List zE := [(0, .aload_n 0, 1, 0, 0, 0, 0, 0, []), (1, .iload_n 1, 2, 1, 0, 0, 0, 0, []), (2, .invokevirtual 46, 5, 51, 2, 1, 14, 0, []), (5, .istore_n 2, 6, 2, 0, 0, 0, 0, []), (6, .aload_n 0, 7, 0, 0, 0, 0, 0, []), (7, .getfield 15, 10, 7, 2, 2, 0, 0, []), (10, .invokevirtual 30, 13, 64, 1, 1, 18, 0, []), (13, .istore_n 3, 14, 3, 0, 0, 0, 0, []), (14, .iconst 0, 15, 0, 0, 0, 0, 0, []), (15, .istore 4, 17, 4, 0, 0, 0, 0, []), (17, .iload 4, 19, 4, 0, 0, 0, 0, []), (19, .bipush 40, 21, 0, 0, 0, 0, 40, []), (21, .if_icmp .ge 52, 24, 73, 0, 0, 0, 0, []), (24, .iload_n 2, 25, 2, 0, 0, 0, 0, []), (25, .ifCond .eq 48, 28, 73, 0, 0, 0, 0, []), (28, .iload_n 3, 29, 3, 0, 0, 0, 0, []), (29, .bipush 42, 31, 0, 0, 0, 0, 42, []), (31, .if_icmp .eq 9, 34, 40, 0, 0, 0, 0, []), (34, .iload_n 3, 35, 3, 0, 0, 0, 0, []), (35, .bipush 47, 37, 0, 0, 0, 0, 47, []), (37, .if_icmp .ne 36, 40, 73, 0, 0, 0, 0, []), (40, .aload_n 0, 41, 0, 0, 0, 0, 0, []), (41, .getfield 15, 44, 7, 2, 2, 0, 0, []), (44, .invokevirtual 36, 47, 65, 1, 1, 19, 0, []), (47, .aload_n 0, 48, 0, 0, 0, 0, 0, []), (48, .iload_n 1, 49, 1, 0, 0, 0, 0, []), (49, .invokevirtual 46, 52, 51, 2, 1, 14, 0, []), (52, .istore_n 2, 53, 2, 0, 0, 0, 0, []), (53, .aload_n 0, 54, 0, 0, 0, 0, 0, []), (54, .iload_n 3, 55, 3, 0, 0, 0, 0, []), (55, .ineg, 56, 0, 0, 0, 0, 0, []), (56, .invokevirtual 39, 59, 47, 2, 1, 15, 0, []), (59, .aload_n 0, 60, 0, 0, 0, 0, 0, []), (60, .getfield 15, 63, 7, 2, 2, 0, 0, []), (63, .invokevirtual 30, 66, 64, 1, 1, 18, 0, []), (66, .istore_n 3, 67, 3, 0, 0, 0, 0, []), (67, .iinc 4 1, 70, 4, 0, 0, 0, 1, []), (70, .goto (-53), 73, 17, 0, 0, 0, 0, []), (73, .iload_n 2, 74, 2, 0, 0, 0, 0, []), (74, .ireturn, 75, 0, 0, 1, 0, 0, [])]
def zc_51 : List zE := [(0, .iconst 0, 1, 0, 0, 0, 0, 0, []), (1, .istore_n 2, 2, 2, 0, 0, 0, 0, []), (2, .iload_n 2, 3, 2, 0, 0, 0, 0, []), (3, .bipush 40, 5, 0, 0, 0, 0, 40, []), (5, .if_icmp .ge 21, 8, 26, 0, 0, 0, 0, []), (8, .aload_n 0, 9, 0, 0, 0, 0, 0, []), (9, .getfield 15, 12, 7, 2, 2, 0, 0, []), (12, .bipush 45, 14, 0, 0, 0, 0, 45, []), (14, .invokevirtual 49, 17, 66, 2, 1, 18, 0, []), (17, .ifCond .eq 9, 20, 26, 0, 0, 0, 0, []), (20, .iinc 2 1, 23, 2, 0, 0, 0, 1, []), (23, .goto (-21), 26, 2, 0, 0, 0, 0, []), (26, .aload_n 0, 27, 0, 0, 0, 0, 0, []), (27, .iload_n 1, 28, 1, 0, 0, 0, 0, []), (28, .invokevirtual 52, 31, 52, 2, 1, 14, 0, []), (31, .ifCond .ne 5, 34, 36, 0, 0, 0, 0, []), (34, .iconst 0, 35, 0, 0, 0, 0, 0, []), (35, .ireturn, 36, 0, 0, 1, 0, 0, []), (36, .iload_n 2, 37, 2, 0, 0, 0, 0, []), (37, .iconst 2, 38, 0, 0, 0, 0, 2, []), (38, .irem, 39, 0, 0, 0, 0, 0, []), (39, .iconst 1, 40, 0, 0, 0, 0, 1, []), (40, .if_icmp .ne 9, 43, 49, 0, 0, 0, 0, []), (43, .aload_n 0, 44, 0, 0, 0, 0, 0, []), (44, .bipush (-126), 46, 0, 0, 0, 0, (-126), []), (46, .invokevirtual 39, 49, 47, 2, 1, 15, 0, []), (49, .iconst 1, 50, 0, 0, 0, 0, 1, []), (50, .ireturn, 51, 0, 0, 1, 0, 0, [])]
def zc_52 : List zE := [(0, .aload_n 0, 1, 0, 0, 0, 0, 0, []), (1, .getfield 15, 4, 7, 2, 2, 0, 0, []), (4, .invokevirtual 30, 7, 64, 1, 1, 18, 0, []), (7, .bipush 40, 9, 0, 0, 0, 0, 40, []), (9, .if_icmp .ne 45, 12, 54, 0, 0, 0, 0, []), (12, .iload_n 1, 13, 1, 0, 0, 0, 0, []), (13, .iconst 4, 14, 0, 0, 0, 0, 4, []), (14, .if_icmp .lt 5, 17, 19, 0, 0, 0, 0, []), (17, .iconst 0, 18, 0, 0, 0, 0, 0, []), (18, .ireturn, 19, 0, 0, 1, 0, 0, []), (19, .aload_n 0, 20, 0, 0, 0, 0, 0, []), (20, .getfield 15, 23, 7, 2, 2, 0, 0, []), (23, .invokevirtual 36, 26, 65, 1, 1, 19, 0, []), (26, .aload_n 0, 27, 0, 0, 0, 0, 0, []), (27, .iload_n 1, 28, 1, 0, 0, 0, 0, []), (28, .iconst 1, 29, 0, 0, 0, 0, 1, []), (29, .iadd, 30, 0, 0, 0, 0, 0, []), (30, .invokevirtual 23, 33, 48, 2, 1, 14, 0, []), (33, .ifCond .eq 19, 36, 52, 0, 0, 0, 0, []), (36, .aload_n 0, 37, 0, 0, 0, 0, 0, []), (37, .getfield 15, 40, 7, 2, 2, 0, 0, []), (40, .bipush 41, 42, 0, 0, 0, 0, 41, []), (42, .invokevirtual 49, 45, 66, 2, 1, 18, 0, []), (45, .ifCond .eq 7, 48, 52, 0, 0, 0, 0, []), (48, .iconst 1, 49, 0, 0, 0, 0, 1, []), (49, .goto 4, 52, 53, 0, 0, 0, 0, []), (52, .iconst 0, 53, 0, 0, 0, 0, 0, []), (53, .ireturn, 54, 0, 0, 1, 0, 0, []), (54, .aload_n 0, 55, 0, 0, 0, 0, 0, []), (55, .getfield 15, 58, 7, 2, 2, 0, 0, []), (58, .iconst 0, 59, 0, 0, 0, 0, 0, []), (59, .invokevirtual 55, 62, 67, 2, 1, 18, 0, []), (62, .istore_n 2, 63, 2, 0, 0, 0, 0, []), (63, .iload_n 2, 64, 2, 0, 0, 0, 0, []), (64, .iconst (-1), 65, 0, 0, 0, 0, (-1), []), (65, .if_icmp .eq 14, 68, 79, 0, 0, 0, 0, []), (68, .aload_n 0, 69, 0, 0, 0, 0, 0, []), (69, .aload_n 0, 70, 0, 0, 0, 0, 0, []), (70, .iload_n 2, 71, 2, 0, 0, 0, 0, []), (71, .invokevirtual 59, 74, 53, 2, 1, 14, 0, []), (74, .invokevirtual 39, 77, 47, 2, 1, 15, 0, []), (77, .iconst 1, 78, 0, 0, 0, 0, 1, []), (78, .ireturn, 79, 0, 0, 1, 0, 0, []), (79, .aload_n 0, 80, 0, 0, 0, 0, 0, []), (80, .getfield 15, 83, 7, 2, 2, 0, 0, []), (83, .invokevirtual 30, 86, 64, 1, 1, 18, 0, []), (86, .invokestatic 62, 89, 54, 1, 0, 14, 0, []), (89, .istore_n 3, 90, 3, 0, 0, 0, 0, []), (90, .iload_n 3, 91, 3, 0, 0, 0, 0, []), (91, .iconst (-1), 92, 0, 0, 0, 0, (-1), []), (92, .if_icmp .ne 5, 95, 97, 0, 0, 0, 0, []), (95, .iconst 0, 96, 0, 0, 0, 0, 0, []), (96, .ireturn, 97, 0, 0, 1, 0, 0, []), (97, .aload_n 0, 98, 0, 0, 0, 0, 0, []), (98, .getfield 15, 101, 7, 2, 2, 0, 0, []), (101, .invokevirtual 36, 104, 65, 1, 1, 19, 0, []), (104, .aload_n 0, 105, 0, 0, 0, 0, 0, []), (105, .sipush 1000, 108, 0, 0, 0, 0, 1000, []), (108, .iload_n 3, 109, 3, 0, 0, 0, 0, []), (109, .iadd, 110, 0, 0, 0, 0, 0, []), (110, .invokevirtual 39, 113, 47, 2, 1, 15, 0, []), (113, .iconst 1, 114, 0, 0, 0, 0, 1, []), (114, .ireturn, 115, 0, 0, 1, 0, 0, [])]
def zc_53 : List zE := [(0, .iload_n 1, 1, 1, 0, 0, 0, 0, []), (1, .istore_n 2, 2, 2, 0, 0, 0, 0, []), (2, .iconst 1, 3, 0, 0, 0, 0, 1, []), (3, .istore_n 3, 4, 3, 0, 0, 0, 0, []), (4, .iload_n 3, 5, 3, 0, 0, 0, 0, []), (5, .iconst 3, 6, 0, 0, 0, 0, 3, []), (6, .if_icmp .ge 37, 9, 43, 0, 0, 0, 0, []), (9, .aload_n 0, 10, 0, 0, 0, 0, 0, []), (10, .getfield 15, 13, 7, 2, 2, 0, 0, []), (13, .iconst 0, 14, 0, 0, 0, 0, 0, []), (14, .invokevirtual 55, 17, 67, 2, 1, 18, 0, []), (17, .istore 4, 19, 4, 0, 0, 0, 0, []), (19, .iload 4, 21, 4, 0, 0, 0, 0, []), (21, .iconst (-1), 22, 0, 0, 0, 0, (-1), []), (22, .if_icmp .ne 7, 25, 29, 0, 0, 0, 0, []), (25, .iload_n 2, 26, 2, 0, 0, 0, 0, []), (26, .goto 10, 29, 36, 0, 0, 0, 0, []), (29, .bipush 10, 31, 0, 0, 0, 0, 10, []), (31, .iload_n 2, 32, 2, 0, 0, 0, 0, []), (32, .imul, 33, 0, 0, 0, 0, 0, []), (33, .iload 4, 35, 4, 0, 0, 0, 0, []), (35, .iadd, 36, 0, 0, 0, 0, 0, []), (36, .istore_n 2, 37, 2, 0, 0, 0, 0, []), (37, .iinc 3 1, 40, 3, 0, 0, 0, 1, []), (40, .goto (-36), 43, 4, 0, 0, 0, 0, []), (43, .iload_n 2, 44, 2, 0, 0, 0, 0, []), (44, .ireturn, 45, 0, 0, 0, 0, 0, [])]
def zc_54 : List zE := [(0, .iload_n 0, 1, 0, 0, 0, 0, 0, []), (1, .tableswitch 104 105 121 #[95, 98, 87, 104, 93, 89, 104, 104, 104, 104, 104, 83, 104, 104, 91, 101, 85], 84, 105, 0, 0, 0, 0, [(105, 96), (106, 99), (107, 88), (108, 105), (109, 94), (110, 90), (111, 105), (112, 105), (113, 105), (114, 105), (115, 105), (116, 84), (117, 105), (118, 105), (119, 92), (120, 102), (121, 86)]), (84, .iconst 0, 85, 0, 0, 0, 0, 0, []), (85, .ireturn, 86, 0, 0, 0, 0, 0, []), (86, .iconst 1, 87, 0, 0, 0, 0, 1, []), (87, .ireturn, 88, 0, 0, 0, 0, 0, []), (88, .iconst 2, 89, 0, 0, 0, 0, 2, []), (89, .ireturn, 90, 0, 0, 0, 0, 0, []), (90, .iconst 3, 91, 0, 0, 0, 0, 3, []), (91, .ireturn, 92, 0, 0, 0, 0, 0, []), (92, .iconst 4, 93, 0, 0, 0, 0, 4, []), (93, .ireturn, 94, 0, 0, 0, 0, 0, []), (94, .iconst 5, 95, 0, 0, 0, 0, 5, []), (95, .ireturn, 96, 0, 0, 0, 0, 0, []), (96, .bipush 6, 98, 0, 0, 0, 0, 6, []), (98, .ireturn, 99, 0, 0, 0, 0, 0, []), (99, .bipush 7, 101, 0, 0, 0, 0, 7, []), (101, .ireturn, 102, 0, 0, 0, 0, 0, []), (102, .bipush 8, 104, 0, 0, 0, 0, 8, []), (104, .ireturn, 105, 0, 0, 0, 0, 0, []), (105, .iconst (-1), 106, 0, 0, 0, 0, (-1), []), (106, .ireturn, 107, 0, 0, 0, 0, 0, [])]
def zc_55 : List zE := [(0, .aload_n 0, 1, 0, 0, 0, 0, 0, []), (1, .invokespecial 3, 4, 0, 0, 6, 0, 0, []), (4, .aload_n 0, 5, 0, 0, 0, 0, 0, []), (5, .bipush 10, 7, 0, 0, 0, 0, 10, []), (7, .newarray .int, 9, 1, 0, 0, 0, 0, []), (9, .putfield 11, 12, 8, 1, 2, 1, 0, []), (12, .aload_n 0, 13, 0, 0, 0, 0, 0, []), (13, .bipush 10, 15, 0, 0, 0, 0, 10, []), (15, .newarray .int, 17, 1, 0, 0, 0, 0, []), (17, .putfield 15, 20, 8, 2, 2, 1, 0, []), (20, .return_, 21, 0, 0, 0, 0, 0, [])]
def zc_56 : List zE := [(0, .aload_n 0, 1, 0, 0, 0, 0, 0, []), (1, .getfield 18, 4, 8, 0, 0, 0, 0, []), (4, .ifCond .lt 12, 7, 16, 0, 0, 0, 0, []), (7, .aload_n 0, 8, 0, 0, 0, 0, 0, []), (8, .getfield 18, 11, 8, 0, 0, 0, 0, []), (11, .bipush 10, 13, 0, 0, 0, 0, 10, []), (13, .if_icmp .lt 5, 16, 18, 0, 0, 0, 0, []), (16, .iconst 0, 17, 0, 0, 0, 0, 0, []), (17, .ireturn, 18, 0, 0, 1, 0, 0, []), (18, .aload_n 0, 19, 0, 0, 0, 0, 0, []), (19, .getfield 11, 22, 8, 1, 2, 0, 0, []), (22, .aload_n 0, 23, 0, 0, 0, 0, 0, []), (23, .getfield 18, 26, 8, 0, 0, 0, 0, []), (26, .iload_n 1, 27, 1, 0, 0, 0, 0, []), (27, .iastore, 28, 0, 0, 0, 0, 0, []), (28, .aload_n 0, 29, 0, 0, 0, 0, 0, []), (29, .getfield 15, 32, 8, 2, 2, 0, 0, []), (32, .aload_n 0, 33, 0, 0, 0, 0, 0, []), (33, .getfield 18, 36, 8, 0, 0, 0, 0, []), (36, .iload_n 2, 37, 2, 0, 0, 0, 0, []), (37, .iastore, 38, 0, 0, 0, 0, 0, []), (38, .aload_n 0, 39, 0, 0, 0, 0, 0, []), (39, .dup, 40, 0, 0, 0, 0, 0, []), (40, .getfield 18, 43, 8, 0, 0, 0, 0, []), (43, .iconst 1, 44, 0, 0, 0, 0, 1, []), (44, .iadd, 45, 0, 0, 0, 0, 0, []), (45, .putfield 18, 48, 8, 0, 0, 0, 0, []), (48, .iconst 1, 49, 0, 0, 0, 0, 1, []), (49, .ireturn, 50, 0, 0, 1, 0, 0, [])]
def zc_57 : List zE := [(0, .iconst (-1), 1, 0, 0, 0, 0, (-1), []), (1, .istore_n 2, 2, 2, 0, 0, 0, 0, []), (2, .iconst 0, 3, 0, 0, 0, 0, 0, []), (3, .istore_n 3, 4, 3, 0, 0, 0, 0, []), (4, .iload_n 3, 5, 3, 0, 0, 0, 0, []), (5, .aload_n 0, 6, 0, 0, 0, 0, 0, []), (6, .getfield 18, 9, 8, 0, 0, 0, 0, []), (9, .if_icmp .ge 20, 12, 29, 0, 0, 0, 0, []), (12, .iload_n 2, 13, 2, 0, 0, 0, 0, []), (13, .aload_n 0, 14, 0, 0, 0, 0, 0, []), (14, .getfield 15, 17, 8, 2, 2, 0, 0, []), (17, .iload_n 3, 18, 3, 0, 0, 0, 0, []), (18, .iaload, 19, 0, 0, 0, 0, 0, []), (19, .invokestatic 22, 22, 3, 2, 0, 28, 0, []), (22, .istore_n 2, 23, 2, 0, 0, 0, 0, []), (23, .iinc 3 1, 26, 3, 0, 0, 0, 1, []), (26, .goto (-22), 29, 4, 0, 0, 0, 0, []), (29, .iconst 0, 30, 0, 0, 0, 0, 0, []), (30, .istore_n 3, 31, 3, 0, 0, 0, 0, []), (31, .iload_n 3, 32, 3, 0, 0, 0, 0, []), (32, .iload_n 2, 33, 2, 0, 0, 0, 0, []), (33, .if_icmp .gt 62, 36, 95, 0, 0, 0, 0, []), (36, .aload_n 1, 37, 1, 0, 0, 0, 0, []), (37, .iconst 0, 38, 0, 0, 0, 0, 0, []), (38, .invokevirtual 28, 41, 77, 2, 1, 21, 0, []), (41, .iconst 0, 42, 0, 0, 0, 0, 0, []), (42, .istore 4, 44, 4, 0, 0, 0, 0, []), (44, .iload 4, 46, 4, 0, 0, 0, 0, []), (46, .aload_n 0, 47, 0, 0, 0, 0, 0, []), (47, .getfield 18, 50, 8, 0, 0, 0, 0, []), (50, .if_icmp .ge 39, 53, 89, 0, 0, 0, 0, []), (53, .aload_n 0, 54, 0, 0, 0, 0, 0, []), (54, .getfield 15, 57, 8, 2, 2, 0, 0, []), (57, .iload 4, 59, 4, 0, 0, 0, 0, []), (59, .iaload, 60, 0, 0, 0, 0, 0, []), (60, .iload_n 3, 61, 3, 0, 0, 0, 0, []), (61, .if_icmp .ne 22, 64, 83, 0, 0, 0, 0, []), (64, .aload_n 1, 65, 1, 0, 0, 0, 0, []), (65, .getfield 34, 68, 10, 4, 0, 0, 0, []), (68, .aload_n 0, 69, 0, 0, 0, 0, 0, []), (69, .getfield 11, 72, 8, 1, 2, 0, 0, []), (72, .iload 4, 74, 4, 0, 0, 0, 0, []), (74, .iaload, 75, 0, 0, 0, 0, 0, []), (75, .invokestatic 37, 78, 132, 2, 3, 22, 0, []), (78, .ifCond .ne 5, 81, 83, 0, 0, 0, 0, []), (81, .iconst 0, 82, 0, 0, 0, 0, 0, []), (82, .ireturn, 83, 0, 0, 1, 0, 0, []), (83, .iinc 4 1, 86, 4, 0, 0, 0, 1, []), (86, .goto (-42), 89, 44, 0, 0, 0, 0, []), (89, .iinc 3 1, 92, 3, 0, 0, 0, 1, []), (92, .goto (-61), 95, 31, 0, 0, 0, 0, []), (95, .iconst 1, 96, 0, 0, 0, 0, 1, []), (96, .ireturn, 97, 0, 0, 1, 0, 0, [])]
def zc_58 : List zE := [(0, .aload_n 0, 1, 0, 0, 0, 0, 0, []), (1, .invokespecial 3, 4, 0, 0, 6, 0, 0, []), (4, .aload_n 0, 5, 0, 0, 0, 0, 0, []), (5, .bipush 80, 7, 0, 0, 0, 0, 80, []), (7, .newarray .int, 9, 1, 0, 0, 0, 0, []), (9, .putfield 9, 12, 9, 0, 2, 1, 0, []), (12, .return_, 13, 0, 0, 0, 0, 0, [])]
def zc_59 : List zE := [(0, .aload_n 0, 1, 0, 0, 0, 0, 0, []), (1, .getfield 15, 4, 9, 1, 0, 0, 0, []), (4, .ifCond .lt 12, 7, 16, 0, 0, 0, 0, []), (7, .aload_n 0, 8, 0, 0, 0, 0, 0, []), (8, .getfield 15, 11, 9, 1, 0, 0, 0, []), (11, .bipush 76, 13, 0, 0, 0, 0, 76, []), (13, .if_icmp .le 5, 16, 18, 0, 0, 0, 0, []), (16, .iconst 0, 17, 0, 0, 0, 0, 0, []), (17, .ireturn, 18, 0, 0, 1, 0, 0, []), (18, .iconst 0, 19, 0, 0, 0, 0, 0, []), (19, .istore_n 2, 20, 2, 0, 0, 0, 0, []), (20, .iload_n 2, 21, 2, 0, 0, 0, 0, []), (21, .iconst 4, 22, 0, 0, 0, 0, 4, []), (22, .if_icmp .ge 33, 25, 55, 0, 0, 0, 0, []), (25, .aload_n 0, 26, 0, 0, 0, 0, 0, []), (26, .getfield 9, 29, 9, 0, 2, 0, 0, []), (29, .aload_n 0, 30, 0, 0, 0, 0, 0, []), (30, .getfield 15, 33, 9, 1, 0, 0, 0, []), (33, .iload_n 2, 34, 2, 0, 0, 0, 0, []), (34, .iadd, 35, 0, 0, 0, 0, 0, []), (35, .iload_n 1, 36, 1, 0, 0, 0, 0, []), (36, .bipush 24, 38, 0, 0, 0, 0, 24, []), (38, .bipush 8, 40, 0, 0, 0, 0, 8, []), (40, .iload_n 2, 41, 2, 0, 0, 0, 0, []), (41, .imul, 42, 0, 0, 0, 0, 0, []), (42, .isub, 43, 0, 0, 0, 0, 0, []), (43, .iushr, 44, 0, 0, 0, 0, 0, []), (44, .sipush 255, 47, 0, 0, 0, 0, 255, []), (47, .iand, 48, 0, 0, 0, 0, 0, []), (48, .iastore, 49, 0, 0, 0, 0, 0, []), (49, .iinc 2 1, 52, 2, 0, 0, 0, 1, []), (52, .goto (-32), 55, 20, 0, 0, 0, 0, []), (55, .aload_n 0, 56, 0, 0, 0, 0, 0, []), (56, .dup, 57, 0, 0, 0, 0, 0, []), (57, .getfield 15, 60, 9, 1, 0, 0, 0, []), (60, .iconst 4, 61, 0, 0, 0, 0, 4, []), (61, .iadd, 62, 0, 0, 0, 0, 0, []), (62, .putfield 15, 65, 9, 1, 0, 0, 0, []), (65, .iconst 1, 66, 0, 0, 0, 0, 1, []), (66, .ireturn, 67, 0, 0, 1, 0, 0, [])]
def zc_60 : List zE := [(0, .aload_n 0, 1, 0, 0, 0, 0, 0, []), (1, .iconst 0, 2, 0, 0, 0, 0, 0, []), (2, .putfield 19, 5, 9, 2, 0, 0, 0, []), (5, .aload_n 0, 6, 0, 0, 0, 0, 0, []), (6, .aload_n 0, 7, 0, 0, 0, 0, 0, []), (7, .getfield 15, 10, 9, 1, 0, 0, 0, []), (10, .iload_n 1, 11, 1, 0, 0, 0, 0, []), (11, .invokestatic 22, 14, 4, 2, 0, 28, 0, []), (14, .putfield 28, 17, 9, 3, 0, 0, 0, []), (17, .aload_n 0, 18, 0, 0, 0, 0, 0, []), (18, .aload_n 0, 19, 0, 0, 0, 0, 0, []), (19, .getfield 15, 22, 9, 1, 0, 0, 0, []), (22, .iload_n 1, 23, 1, 0, 0, 0, 0, []), (23, .if_icmp .le 7, 26, 30, 0, 0, 0, 0, []), (26, .iconst 1, 27, 0, 0, 0, 0, 1, []), (27, .goto 4, 30, 31, 0, 0, 0, 0, []), (30, .iconst 0, 31, 0, 0, 0, 0, 0, []), (31, .putfield 31, 34, 9, 4, 1, 0, 0, []), (34, .return_, 35, 0, 0, 0, 0, 0, [])]
def zc_61 : List zE := [(0, .aload_n 0, 1, 0, 0, 0, 0, 0, []), (1, .getfield 19, 4, 9, 2, 0, 0, 0, []), (4, .aload_n 0, 5, 0, 0, 0, 0, 0, []), (5, .getfield 28, 8, 9, 3, 0, 0, 0, []), (8, .if_icmp .lt 7, 11, 15, 0, 0, 0, 0, []), (11, .iconst 1, 12, 0, 0, 0, 0, 1, []), (12, .goto 4, 15, 16, 0, 0, 0, 0, []), (15, .iconst 0, 16, 0, 0, 0, 0, 0, []), (16, .ireturn, 17, 0, 0, 1, 0, 0, [])]
def zc_62 : List zE := [(0, .aload_n 0, 1, 0, 0, 0, 0, 0, []), (1, .iconst 0, 2, 0, 0, 0, 0, 0, []), (2, .putfield 15, 5, 9, 1, 0, 0, 0, []), (5, .iload_n 1, 6, 1, 0, 0, 0, 0, []), (6, .ifCond .eq 25, 9, 31, 0, 0, 0, 0, []), (9, .aload_n 0, 10, 0, 0, 0, 0, 0, []), (10, .getfield 19, 13, 9, 2, 0, 0, 0, []), (13, .aload_n 0, 14, 0, 0, 0, 0, 0, []), (14, .getfield 28, 17, 9, 3, 0, 0, 0, []), (17, .if_icmp .lt 14, 20, 31, 0, 0, 0, 0, []), (20, .aload_n 0, 21, 0, 0, 0, 0, 0, []), (21, .getfield 31, 24, 9, 4, 1, 0, 0, []), (24, .ifCond .ne 7, 27, 31, 0, 0, 0, 0, []), (27, .iconst 1, 28, 0, 0, 0, 0, 1, []), (28, .goto 4, 31, 32, 0, 0, 0, 0, []), (31, .iconst 0, 32, 0, 0, 0, 0, 0, []), (32, .ireturn, 33, 0, 0, 1, 0, 0, [])]
def zc_63 : List zE := [(0, .iconst (-1), 1, 0, 0, 0, 0, (-1), []), (1, .aload_n 0, 2, 0, 0, 0, 0, 0, []), (2, .getfield 19, 5, 9, 2, 0, 0, 0, []), (5, .isub, 6, 0, 0, 0, 0, 0, []), (6, .ireturn, 7, 0, 0, 0, 0, 0, [])]
def zc_64 : List zE := [(0, .aload_n 0, 1, 0, 0, 0, 0, 0, []), (1, .getfield 19, 4, 9, 2, 0, 0, 0, []), (4, .ifCond .lt 38, 7, 42, 0, 0, 0, 0, []), (7, .aload_n 0, 8, 0, 0, 0, 0, 0, []), (8, .getfield 19, 11, 9, 2, 0, 0, 0, []), (11, .aload_n 0, 12, 0, 0, 0, 0, 0, []), (12, .getfield 28, 15, 9, 3, 0, 0, 0, []), (15, .if_icmp .ge 27, 18, 42, 0, 0, 0, 0, []), (18, .aload_n 0, 19, 0, 0, 0, 0, 0, []), (19, .getfield 19, 22, 9, 2, 0, 0, 0, []), (22, .aload_n 0, 23, 0, 0, 0, 0, 0, []), (23, .getfield 9, 26, 9, 0, 2, 0, 0, []), (26, .arraylength, 27, 0, 0, 0, 0, 0, []), (27, .if_icmp .ge 15, 30, 42, 0, 0, 0, 0, []), (30, .aload_n 0, 31, 0, 0, 0, 0, 0, []), (31, .getfield 9, 34, 9, 0, 2, 0, 0, []), (34, .aload_n 0, 35, 0, 0, 0, 0, 0, []), (35, .getfield 19, 38, 9, 2, 0, 0, 0, []), (38, .iaload, 39, 0, 0, 0, 0, 0, []), (39, .goto 4, 42, 43, 0, 0, 0, 0, []), (42, .iconst (-1), 43, 0, 0, 0, 0, (-1), []), (43, .ireturn, 44, 0, 0, 0, 0, 0, [])]
def zc_65 : List zE := [(0, .aload_n 0, 1, 0, 0, 0, 0, 0, []), (1, .dup, 2, 0, 0, 0, 0, 0, []), (2, .getfield 19, 5, 9, 2, 0, 0, 0, []), (5, .iconst 1, 6, 0, 0, 0, 0, 1, []), (6, .iadd, 7, 0, 0, 0, 0, 0, []), (7, .putfield 19, 10, 9, 2, 0, 0, 0, []), (10, .return_, 11, 0, 0, 0, 0, 0, [])]
def zc_66 : List zE := [(0, .aload_n 0, 1, 0, 0, 0, 0, 0, []), (1, .invokevirtual 35, 4, 64, 1, 1, 18, 0, []), (4, .iload_n 1, 5, 1, 0, 0, 0, 0, []), (5, .if_icmp .eq 5, 8, 10, 0, 0, 0, 0, []), (8, .iconst 0, 9, 0, 0, 0, 0, 0, []), (9, .ireturn, 10, 0, 0, 1, 0, 0, []), (10, .aload_n 0, 11, 0, 0, 0, 0, 0, []), (11, .dup, 12, 0, 0, 0, 0, 0, []), (12, .getfield 19, 15, 9, 2, 0, 0, 0, []), (15, .iconst 1, 16, 0, 0, 0, 0, 1, []), (16, .iadd, 17, 0, 0, 0, 0, 0, []), (17, .putfield 19, 20, 9, 2, 0, 0, 0, []), (20, .iconst 1, 21, 0, 0, 0, 0, 1, []), (21, .ireturn, 22, 0, 0, 1, 0, 0, [])]
def zc_67 : List zE := [(0, .aload_n 0, 1, 0, 0, 0, 0, 0, []), (1, .bipush 48, 3, 0, 0, 0, 0, 48, []), (3, .iload_n 1, 4, 1, 0, 0, 0, 0, []), (4, .bipush 9, 6, 0, 0, 0, 0, 9, []), (6, .invokevirtual 39, 9, 69, 4, 1, 18, 0, []), (9, .ireturn, 10, 0, 0, 0, 0, 0, [])]
def zc_68 : List zE := [(0, .aload_n 0, 1, 0, 0, 0, 0, 0, []), (1, .bipush 97, 3, 0, 0, 0, 0, 97, []), (3, .iload_n 1, 4, 1, 0, 0, 0, 0, []), (4, .bipush 8, 6, 0, 0, 0, 0, 8, []), (6, .invokevirtual 39, 9, 69, 4, 1, 18, 0, []), (9, .ireturn, 10, 0, 0, 0, 0, 0, [])]
def zc_69 : List zE := [(0, .aload_n 0, 1, 0, 0, 0, 0, 0, []), (1, .invokevirtual 35, 4, 64, 1, 1, 18, 0, []), (4, .iload_n 1, 5, 1, 0, 0, 0, 0, []), (5, .isub, 6, 0, 0, 0, 0, 0, []), (6, .istore 4, 8, 4, 0, 0, 0, 0, []), (8, .iload 4, 10, 4, 0, 0, 0, 0, []), (10, .iload_n 2, 11, 2, 0, 0, 0, 0, []), (11, .if_icmp .lt 9, 14, 20, 0, 0, 0, 0, []), (14, .iload 4, 16, 4, 0, 0, 0, 0, []), (16, .iload_n 3, 17, 3, 0, 0, 0, 0, []), (17, .if_icmp .le 5, 20, 22, 0, 0, 0, 0, []), (20, .iconst (-1), 21, 0, 0, 0, 0, (-1), []), (21, .ireturn, 22, 0, 0, 0, 0, 0, []), (22, .aload_n 0, 23, 0, 0, 0, 0, 0, []), (23, .dup, 24, 0, 0, 0, 0, 0, []), (24, .getfield 19, 27, 9, 2, 0, 0, 0, []), (27, .iconst 1, 28, 0, 0, 0, 0, 1, []), (28, .iadd, 29, 0, 0, 0, 0, 0, []), (29, .putfield 19, 32, 9, 2, 0, 0, 0, []), (32, .iload 4, 34, 4, 0, 0, 0, 0, []), (34, .ireturn, 35, 0, 0, 0, 0, 0, [])]
def zc_70 : List zE := [(0, .aload_n 0, 1, 0, 0, 0, 0, 0, []), (1, .invokespecial 3, 4, 0, 0, 6, 0, 0, []), (4, .aload_n 0, 5, 0, 0, 0, 0, 0, []), (5, .bipush 9, 7, 0, 0, 0, 0, 9, []), (7, .newarray .int, 9, 1, 0, 0, 0, 0, []), (9, .putfield 9, 12, 10, 0, 2, 1, 0, []), (12, .aload_n 0, 13, 0, 0, 0, 0, 0, []), (13, .bipush 9, 15, 0, 0, 0, 0, 9, []), (15, .newarray .int, 17, 1, 0, 0, 0, 0, []), (17, .putfield 15, 20, 10, 1, 2, 1, 0, []), (20, .aload_n 0, 21, 0, 0, 0, 0, 0, []), (21, .new 18, 24, 4, 0, 0, 0, 0, []), (24, .dup, 25, 0, 0, 0, 0, 0, []), (25, .invokespecial 20, 28, 25, 1, 2, 9, 0, []), (28, .putfield 21, 31, 10, 2, 2, 1, 0, []), (31, .aload_n 0, 32, 0, 0, 0, 0, 0, []), (32, .bipush 9, 34, 0, 0, 0, 0, 9, []), (34, .newarray .int, 36, 1, 0, 0, 0, 0, []), (36, .putfield 25, 39, 10, 7, 2, 1, 0, []), (39, .aload_n 0, 40, 0, 0, 0, 0, 0, []), (40, .aload_n 1, 41, 1, 0, 0, 0, 0, []), (41, .putfield 28, 44, 10, 8, 2, 1, 0, []), (44, .return_, 45, 0, 0, 0, 0, 0, [])]
def zc_71 : List zE := [(0, .aload_n 1, 1, 1, 0, 0, 0, 0, []), (1, .getfield 9, 4, 10, 0, 2, 0, 0, []), (4, .iconst 0, 5, 0, 0, 0, 0, 0, []), (5, .aload_n 0, 6, 0, 0, 0, 0, 0, []), (6, .getfield 9, 9, 10, 0, 2, 0, 0, []), (9, .iconst 0, 10, 0, 0, 0, 0, 0, []), (10, .bipush 9, 12, 0, 0, 0, 0, 9, []), (12, .invokestatic 32, 15, 0, 0, 5, 0, 0, []), (15, .aload_n 1, 16, 1, 0, 0, 0, 0, []), (16, .getfield 15, 19, 10, 1, 2, 0, 0, []), (19, .iconst 0, 20, 0, 0, 0, 0, 0, []), (20, .aload_n 0, 21, 0, 0, 0, 0, 0, []), (21, .getfield 15, 24, 10, 1, 2, 0, 0, []), (24, .iconst 0, 25, 0, 0, 0, 0, 0, []), (25, .bipush 9, 27, 0, 0, 0, 0, 9, []), (27, .invokestatic 32, 30, 0, 0, 5, 0, 0, []), (30, .aload_n 0, 31, 0, 0, 0, 0, 0, []), (31, .getfield 21, 34, 10, 2, 2, 0, 0, []), (34, .aload_n 1, 35, 1, 0, 0, 0, 0, []), (35, .getfield 21, 38, 10, 2, 2, 0, 0, []), (38, .invokevirtual 38, 41, 26, 2, 1, 9, 0, []), (41, .aload_n 0, 42, 0, 0, 0, 0, 0, []), (42, .aload_n 1, 43, 1, 0, 0, 0, 0, []), (43, .getfield 42, 46, 10, 3, 0, 0, 0, []), (46, .putfield 42, 49, 10, 3, 0, 0, 0, []), (49, .return_, 50, 0, 0, 0, 0, 0, [])]
def zc_72 : List zE := [(0, .aload_n 0, 1, 0, 0, 0, 0, 0, []), (1, .getfield 42, 4, 10, 3, 0, 0, 0, []), (4, .invokestatic 46, 7, 131, 1, 3, 22, 0, []), (7, .iconst 1, 8, 0, 0, 0, 0, 1, []), (8, .isub, 9, 0, 0, 0, 0, 0, []), (9, .ireturn, 10, 0, 0, 0, 0, 0, [])]
def zc_73 : List zE := [(0, .aload_n 0, 1, 0, 0, 0, 0, 0, []), (1, .invokevirtual 50, 4, 72, 1, 1, 20, 0, []), (4, .aload_n 0, 5, 0, 0, 0, 0, 0, []), (5, .getfield 21, 8, 10, 2, 2, 0, 0, []), (8, .getfield 54, 11, 4, 5, 0, 0, 0, []), (11, .iconst (-1), 12, 0, 0, 0, 0, (-1), []), (12, .ixor, 13, 0, 0, 0, 0, 0, []), (13, .iand, 14, 0, 0, 0, 0, 0, []), (14, .ireturn, 15, 0, 0, 0, 0, 0, [])]
def zc_74 : List zE := [(0, .iload_n 1, 1, 1, 0, 0, 0, 0, []), (1, .ifCond .lt 9, 4, 10, 0, 0, 0, 0, []), (4, .iload_n 1, 5, 1, 0, 0, 0, 0, []), (5, .bipush 9, 7, 0, 0, 0, 0, 9, []), (7, .if_icmp .lt 7, 10, 14, 0, 0, 0, 0, []), (10, .iconst 0, 11, 0, 0, 0, 0, 0, []), (11, .goto 21, 14, 32, 0, 0, 0, 0, []), (14, .aload_n 0, 15, 0, 0, 0, 0, 0, []), (15, .getfield 15, 18, 10, 1, 2, 0, 0, []), (18, .iload_n 1, 19, 1, 0, 0, 0, 0, []), (19, .iaload, 20, 0, 0, 0, 0, 0, []), (20, .aload_n 0, 21, 0, 0, 0, 0, 0, []), (21, .invokevirtual 50, 24, 72, 1, 1, 20, 0, []), (24, .iand, 25, 0, 0, 0, 0, 0, []), (25, .iload_n 1, 26, 1, 0, 0, 0, 0, []), (26, .invokestatic 46, 29, 131, 1, 3, 22, 0, []), (29, .iconst (-1), 30, 0, 0, 0, 0, (-1), []), (30, .ixor, 31, 0, 0, 0, 0, 0, []), (31, .iand, 32, 0, 0, 0, 0, 0, []), (32, .ireturn, 33, 0, 0, 0, 0, 0, [])]
def zc_75 : List zE := [(0, .iconst 0, 1, 0, 0, 0, 0, 0, []), (1, .istore_n 2, 2, 2, 0, 0, 0, 0, []), (2, .iconst 0, 3, 0, 0, 0, 0, 0, []), (3, .istore_n 3, 4, 3, 0, 0, 0, 0, []), (4, .iload_n 3, 5, 3, 0, 0, 0, 0, []), (5, .aload_n 0, 6, 0, 0, 0, 0, 0, []), (6, .getfield 42, 9, 10, 3, 0, 0, 0, []), (9, .if_icmp .ge 29, 12, 38, 0, 0, 0, 0, []), (12, .iload_n 2, 13, 2, 0, 0, 0, 0, []), (13, .iload_n 1, 14, 1, 0, 0, 0, 0, []), (14, .iload_n 3, 15, 3, 0, 0, 0, 0, []), (15, .invokestatic 57, 18, 132, 2, 3, 22, 0, []), (18, .ifCond .eq 11, 21, 29, 0, 0, 0, 0, []), (21, .aload_n 0, 22, 0, 0, 0, 0, 0, []), (22, .iload_n 3, 23, 3, 0, 0, 0, 0, []), (23, .invokevirtual 61, 26, 74, 2, 1, 20, 0, []), (26, .goto 4, 29, 30, 0, 0, 0, 0, []), (29, .iconst 0, 30, 0, 0, 0, 0, 0, []), (30, .ior, 31, 0, 0, 0, 0, 0, []), (31, .istore_n 2, 32, 2, 0, 0, 0, 0, []), (32, .iinc 3 1, 35, 3, 0, 0, 0, 1, []), (35, .goto (-31), 38, 4, 0, 0, 0, 0, []), (38, .iload_n 2, 39, 2, 0, 0, 0, 0, []), (39, .ireturn, 40, 0, 0, 0, 0, 0, [])]
def zc_76 : List zE := [(0, .iconst 0, 1, 0, 0, 0, 0, 0, []), (1, .istore_n 2, 2, 2, 0, 0, 0, 0, []), (2, .iconst 0, 3, 0, 0, 0, 0, 0, []), (3, .istore_n 3, 4, 3, 0, 0, 0, 0, []), (4, .iload_n 3, 5, 3, 0, 0, 0, 0, []), (5, .aload_n 0, 6, 0, 0, 0, 0, 0, []), (6, .getfield 42, 9, 10, 3, 0, 0, 0, []), (9, .if_icmp .ge 30, 12, 39, 0, 0, 0, 0, []), (12, .iload_n 2, 13, 2, 0, 0, 0, 0, []), (13, .aload_n 0, 14, 0, 0, 0, 0, 0, []), (14, .iload_n 3, 15, 3, 0, 0, 0, 0, []), (15, .invokevirtual 61, 18, 74, 2, 1, 20, 0, []), (18, .iload_n 1, 19, 1, 0, 0, 0, 0, []), (19, .iand, 20, 0, 0, 0, 0, 0, []), (20, .ifCond .eq 10, 23, 30, 0, 0, 0, 0, []), (23, .iload_n 3, 24, 3, 0, 0, 0, 0, []), (24, .invokestatic 46, 27, 131, 1, 3, 22, 0, []), (27, .goto 4, 30, 31, 0, 0, 0, 0, []), (30, .iconst 0, 31, 0, 0, 0, 0, 0, []), (31, .ior, 32, 0, 0, 0, 0, 0, []), (32, .istore_n 2, 33, 2, 0, 0, 0, 0, []), (33, .iinc 3 1, 36, 3, 0, 0, 0, 1, []), (36, .goto (-32), 39, 4, 0, 0, 0, 0, []), (39, .iload_n 2, 40, 2, 0, 0, 0, 0, []), (40, .aload_n 0, 41, 0, 0, 0, 0, 0, []), (41, .getfield 21, 44, 10, 2, 2, 0, 0, []), (44, .getfield 54, 47, 4, 5, 0, 0, 0, []), (47, .iconst (-1), 48, 0, 0, 0, 0, (-1), []), (48, .ixor, 49, 0, 0, 0, 0, 0, []), (49, .iand, 50, 0, 0, 0, 0, 0, []), (50, .ireturn, 51, 0, 0, 0, 0, 0, [])]
def zc_77 : List zE := [(0, .aload_n 0, 1, 0, 0, 0, 0, 0, []), (1, .iload_n 1, 2, 1, 0, 0, 0, 0, []), (2, .invokevirtual 64, 5, 78, 2, 1, 21, 0, []), (5, .aload_n 0, 6, 0, 0, 0, 0, 0, []), (6, .invokevirtual 68, 9, 79, 1, 1, 21, 0, []), (9, .aload_n 0, 10, 0, 0, 0, 0, 0, []), (10, .getfield 21, 13, 10, 2, 2, 0, 0, []), (13, .dup, 14, 0, 0, 0, 0, 0, []), (14, .getfield 71, 17, 4, 6, 0, 0, 0, []), (17, .iconst 1, 18, 0, 0, 0, 0, 1, []), (18, .iadd, 19, 0, 0, 0, 0, 0, []), (19, .putfield 71, 22, 4, 6, 0, 0, 0, []), (22, .iload_n 1, 23, 1, 0, 0, 0, 0, []), (23, .ifCond .ne 41, 26, 64, 0, 0, 0, 0, []), (26, .aload_n 0, 27, 0, 0, 0, 0, 0, []), (27, .getfield 21, 30, 10, 2, 2, 0, 0, []), (30, .getfield 71, 33, 4, 6, 0, 0, 0, []), (33, .bipush 10, 35, 0, 0, 0, 0, 10, []), (35, .irem, 36, 0, 0, 0, 0, 0, []), (36, .ifCond .ne 28, 39, 64, 0, 0, 0, 0, []), (39, .iconst 0, 40, 0, 0, 0, 0, 0, []), (40, .istore_n 2, 41, 2, 0, 0, 0, 0, []), (41, .iload_n 2, 42, 2, 0, 0, 0, 0, []), (42, .aload_n 0, 43, 0, 0, 0, 0, 0, []), (43, .getfield 42, 46, 10, 3, 0, 0, 0, []), (46, .if_icmp .ge 18, 49, 64, 0, 0, 0, 0, []), (49, .aload_n 0, 50, 0, 0, 0, 0, 0, []), (50, .getfield 21, 53, 10, 2, 2, 0, 0, []), (53, .iload_n 2, 54, 2, 0, 0, 0, 0, []), (54, .iconst 1, 55, 0, 0, 0, 0, 1, []), (55, .invokevirtual 74, 58, 33, 3, 1, 9, 0, []), (58, .iinc 2 1, 61, 2, 0, 0, 0, 1, []), (61, .goto (-20), 64, 41, 0, 0, 0, 0, []), (64, .return_, 65, 0, 0, 0, 0, 0, [])]
def zc_78 : List zE := [(0, .aload_n 0, 1, 0, 0, 0, 0, 0, []), (1, .iconst 0, 2, 0, 0, 0, 0, 0, []), (2, .putfield 78, 5, 10, 4, 0, 0, 0, []), (5, .aload_n 0, 6, 0, 0, 0, 0, 0, []), (6, .iconst 0, 7, 0, 0, 0, 0, 0, []), (7, .putfield 81, 10, 10, 5, 0, 0, 0, []), (10, .iconst 0, 11, 0, 0, 0, 0, 0, []), (11, .istore_n 2, 12, 2, 0, 0, 0, 0, []), (12, .iload_n 2, 13, 2, 0, 0, 0, 0, []), (13, .aload_n 0, 14, 0, 0, 0, 0, 0, []), (14, .getfield 42, 17, 10, 3, 0, 0, 0, []), (17, .if_icmp .ge 170, 20, 187, 0, 0, 0, 0, []), (20, .iload_n 1, 21, 1, 0, 0, 0, 0, []), (21, .ifCond .ne 34, 24, 55, 0, 0, 0, 0, []), (24, .aload_n 0, 25, 0, 0, 0, 0, 0, []), (25, .getfield 21, 28, 10, 2, 2, 0, 0, []), (28, .getfield 84, 31, 4, 0, 2, 0, 0, []), (31, .iload_n 2, 32, 2, 0, 0, 0, 0, []), (32, .iaload, 33, 0, 0, 0, 0, 0, []), (33, .bipush 9, 35, 0, 0, 0, 0, 9, []), (35, .if_icmp .ne 20, 38, 55, 0, 0, 0, 0, []), (38, .aload_n 0, 39, 0, 0, 0, 0, 0, []), (39, .getfield 21, 42, 10, 2, 2, 0, 0, []), (42, .getfield 87, 45, 4, 2, 2, 0, 0, []), (45, .iload_n 2, 46, 2, 0, 0, 0, 0, []), (46, .iaload, 47, 0, 0, 0, 0, 0, []), (47, .iconst (-1), 48, 0, 0, 0, 0, (-1), []), (48, .if_icmp .ne 7, 51, 55, 0, 0, 0, 0, []), (51, .iconst 1, 52, 0, 0, 0, 0, 1, []), (52, .goto 4, 55, 56, 0, 0, 0, 0, []), (55, .iconst 0, 56, 0, 0, 0, 0, 0, []), (56, .istore_n 3, 57, 3, 0, 0, 0, 0, []), (57, .aload_n 0, 58, 0, 0, 0, 0, 0, []), (58, .getfield 21, 61, 10, 2, 2, 0, 0, []), (61, .getfield 54, 64, 4, 5, 0, 0, 0, []), (64, .iload_n 2, 65, 2, 0, 0, 0, 0, []), (65, .invokestatic 57, 68, 132, 2, 3, 22, 0, []), (68, .ifCond .ne 113, 71, 181, 0, 0, 0, 0, []), (71, .iload_n 3, 72, 3, 0, 0, 0, 0, []), (72, .ifCond .ne 22, 75, 94, 0, 0, 0, 0, []), (75, .aload_n 0, 76, 0, 0, 0, 0, 0, []), (76, .getfield 21, 79, 10, 2, 2, 0, 0, []), (79, .getfield 87, 82, 4, 2, 2, 0, 0, []), (82, .iload_n 2, 83, 2, 0, 0, 0, 0, []), (83, .iaload, 84, 0, 0, 0, 0, 0, []), (84, .aload_n 0, 85, 0, 0, 0, 0, 0, []), (85, .getfield 21, 88, 10, 2, 2, 0, 0, []), (88, .getfield 71, 91, 4, 6, 0, 0, 0, []), (91, .if_icmp .ne 90, 94, 181, 0, 0, 0, 0, []), (94, .aload_n 0, 95, 0, 0, 0, 0, 0, []), (95, .dup, 96, 0, 0, 0, 0, 0, []), (96, .getfield 78, 99, 10, 4, 0, 0, 0, []), (99, .iload_n 2, 100, 2, 0, 0, 0, 0, []), (100, .invokestatic 46, 103, 131, 1, 3, 22, 0, []), (103, .ior, 104, 0, 0, 0, 0, 0, []), (104, .putfield 78, 107, 10, 4, 0, 0, 0, []), (107, .aload_n 0, 108, 0, 0, 0, 0, 0, []), (108, .dup, 109, 0, 0, 0, 0, 0, []), (109, .getfield 81, 112, 10, 5, 0, 0, 0, []), (112, .aload_n 0, 113, 0, 0, 0, 0, 0, []), (113, .getfield 21, 116, 10, 2, 2, 0, 0, []), (116, .getfield 90, 119, 4, 4, 0, 0, 0, []), (119, .iload_n 2, 120, 2, 0, 0, 0, 0, []), (120, .invokestatic 46, 123, 131, 1, 3, 22, 0, []), (123, .iand, 124, 0, 0, 0, 0, 0, []), (124, .ior, 125, 0, 0, 0, 0, 0, []), (125, .putfield 81, 128, 10, 5, 0, 0, 0, []), (128, .aload_n 0, 129, 0, 0, 0, 0, 0, []), (129, .getfield 25, 132, 10, 7, 2, 0, 0, []), (132, .iload_n 2, 133, 2, 0, 0, 0, 0, []), (133, .aload_n 0, 134, 0, 0, 0, 0, 0, []), (134, .getfield 21, 137, 10, 2, 2, 0, 0, []), (137, .getfield 93, 140, 4, 3, 2, 0, 0, []), (140, .iload_n 2, 141, 2, 0, 0, 0, 0, []), (141, .iaload, 142, 0, 0, 0, 0, 0, []), (142, .iastore, 143, 0, 0, 0, 0, 0, []), (143, .aload_n 0, 144, 0, 0, 0, 0, 0, []), (144, .getfield 21, 147, 10, 2, 2, 0, 0, []), (147, .iload_n 2, 148, 2, 0, 0, 0, 0, []), (148, .invokevirtual 96, 151, 28, 2, 1, 9, 0, []), (151, .aload_n 0, 152, 0, 0, 0, 0, 0, []), (152, .getfield 21, 155, 10, 2, 2, 0, 0, []), (155, .getfield 100, 158, 4, 1, 2, 0, 0, []), (158, .iload_n 2, 159, 2, 0, 0, 0, 0, []), (159, .dup2, 160, 0, 0, 0, 0, 0, []), (160, .iaload, 161, 0, 0, 0, 0, 0, []), (161, .iconst 1, 162, 0, 0, 0, 0, 1, []), (162, .iadd, 163, 0, 0, 0, 0, 0, []), (163, .iastore, 164, 0, 0, 0, 0, 0, []), (164, .aload_n 0, 165, 0, 0, 0, 0, 0, []), (165, .getfield 21, 168, 10, 2, 2, 0, 0, []), (168, .iload_n 2, 169, 2, 0, 0, 0, 0, []), (169, .iload_n 1, 170, 1, 0, 0, 0, 0, []), (170, .ifCond .eq 7, 173, 177, 0, 0, 0, 0, []), (173, .iconst 0, 174, 0, 0, 0, 0, 0, []), (174, .goto 4, 177, 178, 0, 0, 0, 0, []), (177, .iconst (-1), 178, 0, 0, 0, 0, (-1), []), (178, .invokevirtual 74, 181, 33, 3, 1, 9, 0, []), (181, .iinc 2 1, 184, 2, 0, 0, 0, 1, []), (184, .goto (-172), 187, 12, 0, 0, 0, 0, []), (187, .return_, 188, 0, 0, 0, 0, 0, [])]
def zc_79 : List zE := [(0, .aload_n 0, 1, 0, 0, 0, 0, 0, []), (1, .iconst 0, 2, 0, 0, 0, 0, 0, []), (2, .putfield 103, 5, 10, 6, 0, 0, 0, []), (5, .aload_n 0, 6, 0, 0, 0, 0, 0, []), (6, .getfield 78, 9, 10, 4, 0, 0, 0, []), (9, .ifCond .ne 7, 12, 16, 0, 0, 0, 0, []), (12, .iconst 0, 13, 0, 0, 0, 0, 0, []), (13, .goto 14, 16, 27, 0, 0, 0, 0, []), (16, .aload_n 0, 17, 0, 0, 0, 0, 0, []), (17, .invokevirtual 106, 20, 73, 1, 1, 20, 0, []), (20, .aload_n 0, 21, 0, 0, 0, 0, 0, []), (21, .getfield 78, 24, 10, 4, 0, 0, 0, []), (24, .iconst (-1), 25, 0, 0, 0, 0, (-1), []), (25, .ixor, 26, 0, 0, 0, 0, 0, []), (26, .iand, 27, 0, 0, 0, 0, 0, []), (27, .istore_n 1, 28, 1, 0, 0, 0, 0, []), (28, .iconst 0, 29, 0, 0, 0, 0, 0, []), (29, .istore_n 2, 30, 2, 0, 0, 0, 0, []), (30, .iload_n 2, 31, 2, 0, 0, 0, 0, []), (31, .aload_n 0, 32, 0, 0, 0, 0, 0, []), (32, .getfield 42, 35, 10, 3, 0, 0, 0, []), (35, .if_icmp .ge 101, 38, 136, 0, 0, 0, 0, []), (38, .iload_n 1, 39, 1, 0, 0, 0, 0, []), (39, .iload_n 2, 40, 2, 0, 0, 0, 0, []), (40, .invokestatic 57, 43, 132, 2, 3, 22, 0, []), (43, .ifCond .eq 16, 46, 59, 0, 0, 0, 0, []), (46, .aload_n 0, 47, 0, 0, 0, 0, 0, []), (47, .iload_n 2, 48, 2, 0, 0, 0, 0, []), (48, .invokevirtual 61, 51, 74, 2, 1, 20, 0, []), (51, .aload_n 0, 52, 0, 0, 0, 0, 0, []), (52, .getfield 78, 55, 10, 4, 0, 0, 0, []), (55, .iand, 56, 0, 0, 0, 0, 0, []), (56, .goto 4, 59, 60, 0, 0, 0, 0, []), (59, .iconst 0, 60, 0, 0, 0, 0, 0, []), (60, .istore_n 3, 61, 3, 0, 0, 0, 0, []), (61, .iload_n 3, 62, 3, 0, 0, 0, 0, []), (62, .ifCond .eq 68, 65, 130, 0, 0, 0, 0, []), (65, .aload_n 0, 66, 0, 0, 0, 0, 0, []), (66, .getfield 21, 69, 10, 2, 2, 0, 0, []), (69, .getfield 87, 72, 4, 2, 2, 0, 0, []), (72, .iload_n 2, 73, 2, 0, 0, 0, 0, []), (73, .iaload, 74, 0, 0, 0, 0, 0, []), (74, .iconst (-1), 75, 0, 0, 0, 0, (-1), []), (75, .if_icmp .ne 55, 78, 130, 0, 0, 0, 0, []), (78, .aload_n 0, 79, 0, 0, 0, 0, 0, []), (79, .iload_n 2, 80, 2, 0, 0, 0, 0, []), (80, .iload_n 3, 81, 3, 0, 0, 0, 0, []), (81, .invokevirtual 109, 84, 80, 3, 1, 20, 0, []), (84, .istore 4, 86, 4, 0, 0, 0, 0, []), (86, .iload 4, 88, 4, 0, 0, 0, 0, []), (88, .iconst (-1), 89, 0, 0, 0, 0, (-1), []), (89, .if_icmp .eq 41, 92, 130, 0, 0, 0, 0, []), (92, .aload_n 0, 93, 0, 0, 0, 0, 0, []), (93, .getfield 21, 96, 10, 2, 2, 0, 0, []), (96, .iload_n 2, 97, 2, 0, 0, 0, 0, []), (97, .aload_n 0, 98, 0, 0, 0, 0, 0, []), (98, .getfield 21, 101, 10, 2, 2, 0, 0, []), (101, .getfield 71, 104, 4, 6, 0, 0, 0, []), (104, .aload_n 0, 105, 0, 0, 0, 0, 0, []), (105, .getfield 9, 108, 10, 0, 2, 0, 0, []), (108, .iload_n 2, 109, 2, 0, 0, 0, 0, []), (109, .iaload, 110, 0, 0, 0, 0, 0, []), (110, .iadd, 111, 0, 0, 0, 0, 0, []), (111, .iload 4, 113, 4, 0, 0, 0, 0, []), (113, .iconst 0, 114, 0, 0, 0, 0, 0, []), (114, .invokevirtual 113, 117, 27, 5, 1, 9, 0, []), (117, .aload_n 0, 118, 0, 0, 0, 0, 0, []), (118, .dup, 119, 0, 0, 0, 0, 0, []), (119, .getfield 103, 122, 10, 6, 0, 0, 0, []), (122, .iload_n 2, 123, 2, 0, 0, 0, 0, []), (123, .invokestatic 46, 126, 131, 1, 3, 22, 0, []), (126, .ior, 127, 0, 0, 0, 0, 0, []), (127, .putfield 103, 130, 10, 6, 0, 0, 0, []), (130, .iinc 2 1, 133, 2, 0, 0, 0, 1, []), (133, .goto (-103), 136, 30, 0, 0, 0, 0, []), (136, .return_, 137, 0, 0, 0, 0, 0, [])]
def zc_80 : List zE := [(0, .aload_n 0, 1, 0, 0, 0, 0, 0, []), (1, .getfield 28, 4, 10, 8, 2, 0, 0, []), (4, .getfield 117, 7, 6, 0, 2, 0, 0, []), (7, .astore_n 3, 8, 3, 0, 0, 0, 0, []), (8, .aload_n 3, 9, 3, 0, 0, 0, 0, []), (9, .iconst 0, 10, 0, 0, 0, 0, 0, []), (10, .aload_n 0, 11, 0, 0, 0, 0, 0, []), (11, .getfield 21, 14, 10, 2, 2, 0, 0, []), (14, .getfield 84, 17, 4, 0, 2, 0, 0, []), (17, .iload_n 1, 18, 1, 0, 0, 0, 0, []), (18, .iaload, 19, 0, 0, 0, 0, 0, []), (19, .iastore, 20, 0, 0, 0, 0, 0, []), (20, .aload_n 3, 21, 3, 0, 0, 0, 0, []), (21, .iconst 2, 22, 0, 0, 0, 0, 2, []), (22, .aload_n 0, 23, 0, 0, 0, 0, 0, []), (23, .getfield 21, 26, 10, 2, 2, 0, 0, []), (26, .getfield 100, 29, 4, 1, 2, 0, 0, []), (29, .iload_n 1, 30, 1, 0, 0, 0, 0, []), (30, .iaload, 31, 0, 0, 0, 0, 0, []), (31, .iastore, 32, 0, 0, 0, 0, 0, []), (32, .aload_n 3, 33, 3, 0, 0, 0, 0, []), (33, .iconst 3, 34, 0, 0, 0, 0, 3, []), (34, .iload_n 2, 35, 2, 0, 0, 0, 0, []), (35, .invokestatic 122, 38, 0, 1, 0, 26, 0, []), (38, .iastore, 39, 0, 0, 0, 0, 0, []), (39, .aload_n 3, 40, 3, 0, 0, 0, 0, []), (40, .iconst 4, 41, 0, 0, 0, 0, 4, []), (41, .aload_n 0, 42, 0, 0, 0, 0, 0, []), (42, .getfield 28, 45, 10, 8, 2, 0, 0, []), (45, .aload_n 0, 46, 0, 0, 0, 0, 0, []), (46, .getfield 21, 49, 10, 2, 2, 0, 0, []), (49, .getfield 71, 52, 4, 6, 0, 0, 0, []), (52, .invokevirtual 127, 55, 42, 2, 1, 12, 0, []), (55, .iastore, 56, 0, 0, 0, 0, 0, []), (56, .aload_n 3, 57, 3, 0, 0, 0, 0, []), (57, .iconst 5, 58, 0, 0, 0, 0, 5, []), (58, .aload_n 0, 59, 0, 0, 0, 0, 0, []), (59, .getfield 21, 62, 10, 2, 2, 0, 0, []), (62, .getfield 71, 65, 4, 6, 0, 0, 0, []), (65, .iastore, 66, 0, 0, 0, 0, 0, []), (66, .aload_n 3, 67, 3, 0, 0, 0, 0, []), (67, .bipush 6, 69, 0, 0, 0, 0, 6, []), (69, .iload_n 1, 70, 1, 0, 0, 0, 0, []), (70, .iastore, 71, 0, 0, 0, 0, 0, []), (71, .iconst 0, 72, 0, 0, 0, 0, 0, []), (72, .istore 4, 74, 4, 0, 0, 0, 0, []), (74, .iload 4, 76, 4, 0, 0, 0, 0, []), (76, .aload_n 0, 77, 0, 0, 0, 0, 0, []), (77, .getfield 42, 80, 10, 3, 0, 0, 0, []), (80, .if_icmp .ge 71, 83, 151, 0, 0, 0, 0, []), (83, .iload_n 2, 84, 2, 0, 0, 0, 0, []), (84, .iload 4, 86, 4, 0, 0, 0, 0, []), (86, .invokestatic 57, 89, 132, 2, 3, 22, 0, []), (89, .ifCond .eq 56, 92, 145, 0, 0, 0, 0, []), (92, .aload_n 3, 93, 3, 0, 0, 0, 0, []), (93, .iconst 1, 94, 0, 0, 0, 0, 1, []), (94, .aload_n 0, 95, 0, 0, 0, 0, 0, []), (95, .getfield 21, 98, 10, 2, 2, 0, 0, []), (98, .getfield 84, 101, 4, 0, 2, 0, 0, []), (101, .iload 4, 103, 4, 0, 0, 0, 0, []), (103, .iaload, 104, 0, 0, 0, 0, 0, []), (104, .iastore, 105, 0, 0, 0, 0, 0, []), (105, .aload_n 3, 106, 3, 0, 0, 0, 0, []), (106, .bipush 7, 108, 0, 0, 0, 0, 7, []), (108, .iload 4, 110, 4, 0, 0, 0, 0, []), (110, .iastore, 111, 0, 0, 0, 0, 0, []), (111, .aload_n 3, 112, 3, 0, 0, 0, 0, []), (112, .bipush 8, 114, 0, 0, 0, 0, 8, []), (114, .aload_n 0, 115, 0, 0, 0, 0, 0, []), (115, .getfield 81, 118, 10, 5, 0, 0, 0, []), (118, .iload 4, 120, 4, 0, 0, 0, 0, []), (120, .invokestatic 57, 123, 132, 2, 3, 22, 0, []), (123, .ifCond .eq 7, 126, 130, 0, 0, 0, 0, []), (126, .iconst 1, 127, 0, 0, 0, 0, 1, []), (127, .goto 4, 130, 131, 0, 0, 0, 0, []), (130, .iconst 0, 131, 0, 0, 0, 0, 0, []), (131, .iastore, 132, 0, 0, 0, 0, 0, []), (132, .aload_n 0, 133, 0, 0, 0, 0, 0, []), (133, .getfield 28, 136, 10, 8, 2, 0, 0, []), (136, .invokevirtual 130, 139, 43, 1, 1, 12, 0, []), (139, .ifCond .eq 6, 142, 145, 0, 0, 0, 0, []), (142, .iload 4, 144, 4, 0, 0, 0, 0, []), (144, .ireturn, 145, 0, 0, 0, 0, 0, []), (145, .iinc 4 1, 148, 4, 0, 0, 0, 1, []), (148, .goto (-74), 151, 74, 0, 0, 0, 0, []), (151, .iconst (-1), 152, 0, 0, 0, 0, (-1), []), (152, .ireturn, 153, 0, 0, 0, 0, 0, [])]
def zc_81 : List zE := [(0, .aload_n 0, 1, 0, 0, 0, 0, 0, []), (1, .invokespecial 1, 4, 0, 0, 6, 0, 0, []), (4, .aload_n 0, 5, 0, 0, 0, 0, 0, []), (5, .new 7, 8, 9, 0, 0, 0, 0, []), (8, .dup, 9, 0, 0, 0, 0, 0, []), (9, .invokespecial 9, 12, 58, 1, 4, 19, 0, []), (12, .putfield 10, 15, 11, 0, 2, 1, 0, []), (15, .aload_n 0, 16, 0, 0, 0, 0, 0, []), (16, .new 16, 19, 6, 0, 0, 0, 0, []), (19, .dup, 20, 0, 0, 0, 0, 0, []), (20, .invokespecial 18, 23, 38, 1, 2, 13, 0, []), (23, .putfield 19, 26, 11, 1, 2, 1, 0, []), (26, .aload_n 0, 27, 0, 0, 0, 0, 0, []), (27, .new 23, 30, 7, 0, 0, 0, 0, []), (30, .dup, 31, 0, 0, 0, 0, 0, []), (31, .aload_n 0, 32, 0, 0, 0, 0, 0, []), (32, .getfield 10, 35, 11, 0, 2, 0, 0, []), (35, .invokespecial 25, 38, 45, 2, 2, 15, 0, []), (38, .putfield 28, 41, 11, 2, 2, 1, 0, []), (41, .aload_n 0, 42, 0, 0, 0, 0, 0, []), (42, .new 32, 45, 0, 0, 0, 0, 0, []), (45, .dup, 46, 0, 0, 0, 0, 0, []), (46, .aload_n 0, 47, 0, 0, 0, 0, 0, []), (47, .getfield 10, 50, 11, 0, 2, 0, 0, []), (50, .invokespecial 34, 53, 6, 2, 2, 1, 0, []), (53, .putfield 35, 56, 11, 3, 2, 1, 0, []), (56, .aload_n 0, 57, 0, 0, 0, 0, 0, []), (57, .new 39, 60, 10, 0, 0, 0, 0, []), (60, .dup, 61, 0, 0, 0, 0, 0, []), (61, .aload_n 0, 62, 0, 0, 0, 0, 0, []), (62, .getfield 19, 65, 11, 1, 2, 0, 0, []), (65, .invokespecial 41, 68, 70, 2, 2, 21, 0, []), (68, .putfield 44, 71, 11, 4, 2, 1, 0, []), (71, .aload_n 0, 72, 0, 0, 0, 0, 0, []), (72, .new 39, 75, 10, 0, 0, 0, 0, []), (75, .dup, 76, 0, 0, 0, 0, 0, []), (76, .aload_n 0, 77, 0, 0, 0, 0, 0, []), (77, .getfield 19, 80, 11, 1, 2, 0, 0, []), (80, .invokespecial 41, 83, 70, 2, 2, 21, 0, []), (83, .putfield 48, 86, 11, 5, 2, 1, 0, []), (86, .aload_n 0, 87, 0, 0, 0, 0, 0, []), (87, .new 51, 90, 1, 0, 0, 0, 0, []), (90, .dup, 91, 0, 0, 0, 0, 0, []), (91, .invokespecial 53, 94, 11, 1, 4, 3, 0, []), (94, .putfield 54, 97, 11, 6, 2, 1, 0, []), (97, .aload_n 0, 98, 0, 0, 0, 0, 0, []), (98, .new 58, 101, 5, 0, 0, 0, 0, []), (101, .dup, 102, 0, 0, 0, 0, 0, []), (102, .invokespecial 60, 105, 34, 1, 2, 11, 0, []), (105, .putfield 61, 108, 11, 7, 2, 1, 0, []), (108, .aload_n 0, 109, 0, 0, 0, 0, 0, []), (109, .iconst 2, 110, 0, 0, 0, 0, 2, []), (110, .anewarray 65, 113, 5, 0, 0, 0, 0, []), (113, .putfield 67, 116, 11, 8, 2, 1, 0, []), (116, .aload_n 0, 117, 0, 0, 0, 0, 0, []), (117, .new 71, 120, 2, 0, 0, 0, 0, []), (120, .dup, 121, 0, 0, 0, 0, 0, []), (121, .invokespecial 73, 124, 19, 1, 4, 5, 0, []), (124, .putfield 74, 127, 11, 9, 2, 1, 0, []), (127, .aload_n 0, 128, 0, 0, 0, 0, 0, []), (128, .new 78, 131, 8, 0, 0, 0, 0, []), (131, .dup, 132, 0, 0, 0, 0, 0, []), (132, .invokespecial 80, 135, 55, 1, 4, 17, 0, []), (135, .putfield 81, 138, 11, 10, 2, 1, 0, []), (138, .aload_n 0, 139, 0, 0, 0, 0, 0, []), (139, .bipush 16, 141, 0, 0, 0, 0, 16, []), (141, .newarray .int, 143, 1, 0, 0, 0, 0, []), (143, .putfield 85, 146, 11, 11, 2, 1, 0, []), (146, .aload_n 0, 147, 0, 0, 0, 0, 0, []), (147, .bipush 10, 149, 0, 0, 0, 0, 10, []), (149, .newarray .int, 151, 1, 0, 0, 0, 0, []), (151, .putfield 89, 154, 11, 16, 2, 1, 0, []), (154, .iconst 0, 155, 0, 0, 0, 0, 0, []), (155, .istore_n 1, 156, 1, 0, 0, 0, 0, []), (156, .iload_n 1, 157, 1, 0, 0, 0, 0, []), (157, .aload_n 0, 158, 0, 0, 0, 0, 0, []), (158, .getfield 67, 161, 11, 8, 2, 0, 0, []), (161, .arraylength, 162, 0, 0, 0, 0, 0, []), (162, .if_icmp .ge 22, 165, 184, 0, 0, 0, 0, []), (165, .aload_n 0, 166, 0, 0, 0, 0, 0, []), (166, .getfield 67, 169, 11, 8, 2, 0, 0, []), (169, .iload_n 1, 170, 1, 0, 0, 0, 0, []), (170, .new 65, 173, 3, 0, 0, 0, 0, []), (173, .dup, 174, 0, 0, 0, 0, 0, []), (174, .invokespecial 92, 177, 22, 1, 4, 7, 0, []), (177, .aastore, 178, 0, 0, 0, 0, 0, []), (178, .iinc 1 1, 181, 1, 0, 0, 0, 1, []), (181, .goto (-25), 184, 156, 0, 0, 0, 0, []), (184, .return_, 185, 0, 0, 0, 0, 0, [])]
def zc_82 : List zE := [(0, .aload_n 0, 1, 0, 0, 0, 0, 0, []), (1, .getfield 10, 4, 11, 0, 2, 0, 0, []), (4, .iload_n 1, 5, 1, 0, 0, 0, 0, []), (5, .invokevirtual 93, 8, 59, 2, 1, 18, 0, []), (8, .ifCond .eq 13, 11, 21, 0, 0, 0, 0, []), (11, .aload_n 0, 12, 0, 0, 0, 0, 0, []), (12, .getfield 10, 15, 11, 0, 2, 0, 0, []), (15, .getfield 97, 18, 9, 1, 0, 0, 0, []), (18, .goto 4, 21, 22, 0, 0, 0, 0, []), (21, .iconst (-1), 22, 0, 0, 0, 0, (-1), []), (22, .ireturn, 23, 0, 0, 0, 0, 0, [])]
def zc_83 : List zE := [(0, .iload_n 1, 1, 1, 0, 0, 0, 0, []), (1, .ifCond .lt 14, 4, 15, 0, 0, 0, 0, []), (4, .iload_n 1, 5, 1, 0, 0, 0, 0, []), (5, .aload_n 0, 6, 0, 0, 0, 0, 0, []), (6, .getfield 10, 9, 11, 0, 2, 0, 0, []), (9, .getfield 97, 12, 9, 1, 0, 0, 0, []), (12, .if_icmp .le 5, 15, 17, 0, 0, 0, 0, []), (15, .iconst 0, 16, 0, 0, 0, 0, 0, []), (16, .ireturn, 17, 0, 0, 1, 0, 0, []), (17, .aload_n 0, 18, 0, 0, 0, 0, 0, []), (18, .getfield 10, 21, 11, 0, 2, 0, 0, []), (21, .iload_n 1, 22, 1, 0, 0, 0, 0, []), (22, .putfield 97, 25, 9, 1, 0, 0, 0, []), (25, .iconst 1, 26, 0, 0, 0, 0, 1, []), (26, .ireturn, 27, 0, 0, 1, 0, 0, [])]
def zc_84 : List zE := [(0, .aload_n 0, 1, 0, 0, 0, 0, 0, []), (1, .getfield 10, 4, 11, 0, 2, 0, 0, []), (4, .bipush 76, 6, 0, 0, 0, 0, 76, []), (6, .invokevirtual 101, 9, 60, 2, 1, 19, 0, []), (9, .aload_n 0, 10, 0, 0, 0, 0, 0, []), (10, .invokevirtual 105, 13, 141, 1, 1, 22, 0, []), (13, .istore_n 1, 14, 1, 0, 0, 0, 0, []), (14, .aload_n 0, 15, 0, 0, 0, 0, 0, []), (15, .getfield 10, 18, 11, 0, 2, 0, 0, []), (18, .iload_n 1, 19, 1, 0, 0, 0, 0, []), (19, .iconst (-1), 20, 0, 0, 0, 0, (-1), []), (20, .if_icmp .eq 7, 23, 27, 0, 0, 0, 0, []), (23, .iconst 1, 24, 0, 0, 0, 0, 1, []), (24, .goto 4, 27, 28, 0, 0, 0, 0, []), (27, .iconst 0, 28, 0, 0, 0, 0, 0, []), (28, .invokevirtual 109, 31, 62, 2, 1, 18, 0, []), (31, .ifCond .ne 11, 34, 42, 0, 0, 0, 0, []), (34, .aload_n 0, 35, 0, 0, 0, 0, 0, []), (35, .getfield 10, 38, 11, 0, 2, 0, 0, []), (38, .invokevirtual 113, 41, 63, 1, 1, 18, 0, []), (41, .ireturn, 42, 0, 0, 0, 0, 0, []), (42, .iload_n 1, 43, 1, 0, 0, 0, 0, []), (43, .ifCond .le 24, 46, 67, 0, 0, 0, 0, []), (46, .aload_n 0, 47, 0, 0, 0, 0, 0, []), (47, .getfield 44, 50, 11, 4, 2, 0, 0, []), (50, .dup, 51, 0, 0, 0, 0, 0, []), (51, .getfield 116, 54, 10, 3, 0, 0, 0, []), (54, .iload_n 1, 55, 1, 0, 0, 0, 0, []), (55, .iadd, 56, 0, 0, 0, 0, 0, []), (56, .putfield 116, 59, 10, 3, 0, 0, 0, []), (59, .aload_n 0, 60, 0, 0, 0, 0, 0, []), (60, .getfield 61, 63, 11, 7, 2, 0, 0, []), (63, .iconst 0, 64, 0, 0, 0, 0, 0, []), (64, .putfield 119, 67, 5, 0, 0, 0, 0, []), (67, .iload_n 1, 68, 1, 0, 0, 0, 0, []), (68, .ireturn, 69, 0, 0, 0, 0, 0, [])]
def zc_85 : List zE := [(0, .aload_n 0, 1, 0, 0, 0, 0, 0, []), (1, .getfield 10, 4, 11, 0, 2, 0, 0, []), (4, .bipush 40, 6, 0, 0, 0, 0, 40, []), (6, .invokevirtual 101, 9, 60, 2, 1, 19, 0, []), (9, .iconst 0, 10, 0, 0, 0, 0, 0, []), (10, .istore_n 1, 11, 1, 0, 0, 0, 0, []), (11, .iload_n 1, 12, 1, 0, 0, 0, 0, []), (12, .bipush 40, 14, 0, 0, 0, 0, 40, []), (14, .if_icmp .ge 21, 17, 35, 0, 0, 0, 0, []), (17, .aload_n 0, 18, 0, 0, 0, 0, 0, []), (18, .getfield 10, 21, 11, 0, 2, 0, 0, []), (21, .iconst 0, 22, 0, 0, 0, 0, 0, []), (22, .invokevirtual 120, 25, 67, 2, 1, 18, 0, []), (25, .iconst (-1), 26, 0, 0, 0, 0, (-1), []), (26, .if_icmp .eq 9, 29, 35, 0, 0, 0, 0, []), (29, .iinc 1 1, 32, 1, 0, 0, 0, 1, []), (32, .goto (-21), 35, 11, 0, 0, 0, 0, []), (35, .aload_n 0, 36, 0, 0, 0, 0, 0, []), (36, .getfield 10, 39, 11, 0, 2, 0, 0, []), (39, .iconst 1, 40, 0, 0, 0, 0, 1, []), (40, .invokevirtual 109, 43, 62, 2, 1, 18, 0, []), (43, .ifCond .ne 11, 46, 54, 0, 0, 0, 0, []), (46, .aload_n 0, 47, 0, 0, 0, 0, 0, []), (47, .getfield 10, 50, 11, 0, 2, 0, 0, []), (50, .invokevirtual 113, 53, 63, 1, 1, 18, 0, []), (53, .ireturn, 54, 0, 0, 0, 0, 0, []), (54, .aload_n 0, 55, 0, 0, 0, 0, 0, []), (55, .getfield 19, 58, 11, 1, 2, 0, 0, []), (58, .aload_n 0, 59, 0, 0, 0, 0, 0, []), (59, .getfield 10, 62, 11, 0, 2, 0, 0, []), (62, .getfield 124, 65, 9, 0, 2, 0, 0, []), (65, .iload_n 1, 66, 1, 0, 0, 0, 0, []), (66, .invokevirtual 127, 69, 41, 3, 1, 13, 0, []), (69, .iload_n 1, 70, 1, 0, 0, 0, 0, []), (70, .ireturn, 71, 0, 0, 0, 0, 0, [])]
def zc_86 : List zE := [(0, .aload_n 0, 1, 0, 0, 0, 0, 0, []), (1, .getfield 10, 4, 11, 0, 2, 0, 0, []), (4, .bipush 40, 6, 0, 0, 0, 0, 40, []), (6, .invokevirtual 101, 9, 60, 2, 1, 19, 0, []), (9, .aload_n 0, 10, 0, 0, 0, 0, 0, []), (10, .getfield 10, 13, 11, 0, 2, 0, 0, []), (13, .invokevirtual 131, 16, 61, 1, 1, 18, 0, []), (16, .istore_n 1, 17, 1, 0, 0, 0, 0, []), (17, .aload_n 0, 18, 0, 0, 0, 0, 0, []), (18, .getfield 10, 21, 11, 0, 2, 0, 0, []), (21, .iload_n 1, 22, 1, 0, 0, 0, 0, []), (22, .ifCond .ne 13, 25, 35, 0, 0, 0, 0, []), (25, .aload_n 0, 26, 0, 0, 0, 0, 0, []), (26, .getfield 28, 29, 11, 2, 2, 0, 0, []), (29, .invokevirtual 135, 32, 46, 1, 1, 14, 0, []), (32, .ifCond .eq 7, 35, 39, 0, 0, 0, 0, []), (35, .iconst 1, 36, 0, 0, 0, 0, 1, []), (36, .goto 4, 39, 40, 0, 0, 0, 0, []), (39, .iconst 0, 40, 0, 0, 0, 0, 0, []), (40, .invokevirtual 109, 43, 62, 2, 1, 18, 0, []), (43, .ifCond .ne 11, 46, 54, 0, 0, 0, 0, []), (46, .aload_n 0, 47, 0, 0, 0, 0, 0, []), (47, .getfield 10, 50, 11, 0, 2, 0, 0, []), (50, .invokevirtual 113, 53, 63, 1, 1, 18, 0, []), (53, .ireturn, 54, 0, 0, 0, 0, 0, []), (54, .iload_n 1, 55, 1, 0, 0, 0, 0, []), (55, .ifCond .eq 13, 58, 68, 0, 0, 0, 0, []), (58, .aload_n 0, 59, 0, 0, 0, 0, 0, []), (59, .getfield 19, 62, 11, 1, 2, 0, 0, []), (62, .invokevirtual 138, 65, 39, 1, 1, 13, 0, []), (65, .goto 14, 68, 79, 0, 0, 0, 0, []), (68, .aload_n 0, 69, 0, 0, 0, 0, 0, []), (69, .getfield 19, 72, 11, 1, 2, 0, 0, []), (72, .aload_n 0, 73, 0, 0, 0, 0, 0, []), (73, .getfield 28, 76, 11, 2, 2, 0, 0, []), (76, .invokevirtual 141, 79, 40, 2, 1, 13, 0, []), (79, .iconst 0, 80, 0, 0, 0, 0, 0, []), (80, .ireturn, 81, 0, 0, 0, 0, 0, [])]
def zc_87 : List zE := [(0, .aload_n 0, 1, 0, 0, 0, 0, 0, []), (1, .iload_n 1, 2, 1, 0, 0, 0, 0, []), (2, .invokevirtual 145, 5, 134, 2, 1, 22, 0, []), (5, .ifCond .eq 13, 8, 18, 0, 0, 0, 0, []), (8, .iload_n 2, 9, 2, 0, 0, 0, 0, []), (9, .ifCond .lt 9, 12, 18, 0, 0, 0, 0, []), (12, .iload_n 2, 13, 2, 0, 0, 0, 0, []), (13, .bipush 7, 15, 0, 0, 0, 0, 7, []), (15, .if_icmp .le 13, 18, 28, 0, 0, 0, 0, []), (18, .new 148, 21, 0, 0, 9, 0, 0, []), (21, .dup, 22, 0, 0, 0, 0, 0, []), (22, .ldc 150, 24, 0, 0, 9, 0, 0, []), (24, .invokespecial 152, 27, 0, 0, 9, 0, 0, []), (27, .athrow, 28, 0, 0, 0, 0, 0, []), (28, .aload_n 0, 29, 0, 0, 0, 0, 0, []), (29, .getfield 44, 32, 11, 4, 2, 0, 0, []), (32, .getfield 155, 35, 10, 2, 2, 0, 0, []), (35, .astore_n 3, 36, 3, 0, 0, 0, 0, []), (36, .aload_n 3, 37, 3, 0, 0, 0, 0, []), (37, .getfield 159, 40, 4, 2, 2, 0, 0, []), (40, .iload_n 1, 41, 1, 0, 0, 0, 0, []), (41, .iaload, 42, 0, 0, 0, 0, 0, []), (42, .iconst (-1), 43, 0, 0, 0, 0, (-1), []), (43, .if_icmp .eq 7, 46, 50, 0, 0, 0, 0, []), (46, .iconst 1, 47, 0, 0, 0, 0, 1, []), (47, .goto 4, 50, 51, 0, 0, 0, 0, []), (50, .iconst 0, 51, 0, 0, 0, 0, 0, []), (51, .istore 4, 53, 4, 0, 0, 0, 0, []), (53, .iload_n 2, 54, 2, 0, 0, 0, 0, []), (54, .tableswitch 134 0 6 #[42, 49, 59, 68, 75, 96, 112], 96, 188, 0, 0, 0, 0, [(0, 96), (1, 103), (2, 113), (3, 122), (4, 129), (5, 150), (6, 166)]), (96, .aload_n 3, 97, 3, 0, 0, 0, 0, []), (97, .getfield 164, 100, 4, 0, 2, 0, 0, []), (100, .iload_n 1, 101, 1, 0, 0, 0, 0, []), (101, .iaload, 102, 0, 0, 0, 0, 0, []), (102, .ireturn, 103, 0, 0, 0, 0, 0, []), (103, .aload_n 0, 104, 0, 0, 0, 0, 0, []), (104, .getfield 44, 107, 11, 4, 2, 0, 0, []), (107, .getfield 167, 110, 10, 0, 2, 0, 0, []), (110, .iload_n 1, 111, 1, 0, 0, 0, 0, []), (111, .iaload, 112, 0, 0, 0, 0, 0, []), (112, .ireturn, 113, 0, 0, 0, 0, 0, []), (113, .aload_n 0, 114, 0, 0, 0, 0, 0, []), (114, .getfield 44, 117, 11, 4, 2, 0, 0, []), (117, .iload_n 1, 118, 1, 0, 0, 0, 0, []), (118, .invokevirtual 170, 121, 74, 2, 1, 20, 0, []), (121, .ireturn, 122, 0, 0, 0, 0, 0, []), (122, .aload_n 3, 123, 3, 0, 0, 0, 0, []), (123, .getfield 173, 126, 4, 1, 2, 0, 0, []), (126, .iload_n 1, 127, 1, 0, 0, 0, 0, []), (127, .iaload, 128, 0, 0, 0, 0, 0, []), (128, .ireturn, 129, 0, 0, 0, 0, 0, []), (129, .iload 4, 131, 4, 0, 0, 0, 0, []), (131, .ifCond .eq 17, 134, 148, 0, 0, 0, 0, []), (134, .aload_n 3, 135, 3, 0, 0, 0, 0, []), (135, .getfield 159, 138, 4, 2, 2, 0, 0, []), (138, .iload_n 1, 139, 1, 0, 0, 0, 0, []), (139, .iaload, 140, 0, 0, 0, 0, 0, []), (140, .aload_n 3, 141, 3, 0, 0, 0, 0, []), (141, .getfield 176, 144, 4, 6, 0, 0, 0, []), (144, .isub, 145, 0, 0, 0, 0, 0, []), (145, .goto 4, 148, 149, 0, 0, 0, 0, []), (148, .iconst (-1), 149, 0, 0, 0, 0, (-1), []), (149, .ireturn, 150, 0, 0, 0, 0, 0, []), (150, .iload 4, 152, 4, 0, 0, 0, 0, []), (152, .ifCond .eq 12, 155, 164, 0, 0, 0, 0, []), (155, .aload_n 3, 156, 3, 0, 0, 0, 0, []), (156, .getfield 179, 159, 4, 3, 2, 0, 0, []), (159, .iload_n 1, 160, 1, 0, 0, 0, 0, []), (160, .iaload, 161, 0, 0, 0, 0, 0, []), (161, .goto 4, 164, 165, 0, 0, 0, 0, []), (164, .iconst (-1), 165, 0, 0, 0, 0, (-1), []), (165, .ireturn, 166, 0, 0, 0, 0, 0, []), (166, .iload 4, 168, 4, 0, 0, 0, 0, []), (168, .ifCond .eq 18, 171, 186, 0, 0, 0, 0, []), (171, .aload_n 3, 172, 3, 0, 0, 0, 0, []), (172, .getfield 182, 175, 4, 4, 0, 0, 0, []), (175, .iload_n 1, 176, 1, 0, 0, 0, 0, []), (176, .invokestatic 185, 179, 132, 2, 0, 22, 0, []), (179, .ifCond .eq 7, 182, 186, 0, 0, 0, 0, []), (182, .iconst 1, 183, 0, 0, 0, 0, 1, []), (183, .goto 4, 186, 187, 0, 0, 0, 0, []), (186, .iconst 0, 187, 0, 0, 0, 0, 0, []), (187, .ireturn, 188, 0, 0, 0, 0, 0, []), (188, .aload_n 3, 189, 3, 0, 0, 0, 0, []), (189, .getfield 189, 192, 4, 5, 0, 0, 0, []), (192, .iload_n 1, 193, 1, 0, 0, 0, 0, []), (193, .invokestatic 185, 196, 132, 2, 0, 22, 0, []), (196, .ifCond .eq 7, 199, 203, 0, 0, 0, 0, []), (199, .iconst 1, 200, 0, 0, 0, 0, 1, []), (200, .goto 4, 203, 204, 0, 0, 0, 0, []), (203, .iconst 0, 204, 0, 0, 0, 0, 0, []), (204, .ireturn, 205, 0, 0, 0, 0, 0, [])]
def zc_88 : List zE := [(0, .aload_n 0, 1, 0, 0, 0, 0, 0, []), (1, .iload_n 1, 2, 1, 0, 0, 0, 0, []), (2, .invokevirtual 145, 5, 134, 2, 1, 22, 0, []), (5, .ifCond .ne 5, 8, 10, 0, 0, 0, 0, []), (8, .iconst (-1), 9, 0, 0, 0, 0, (-1), []), (9, .ireturn, 10, 0, 0, 0, 0, 0, []), (10, .iload_n 2, 11, 2, 0, 0, 0, 0, []), (11, .ifCond .ne 29, 14, 40, 0, 0, 0, 0, []), (14, .iload_n 3, 15, 3, 0, 0, 0, 0, []), (15, .iconst 0, 16, 0, 0, 0, 0, 0, []), (16, .bipush 9, 18, 0, 0, 0, 0, 9, []), (18, .invokestatic 192, 21, 133, 3, 0, 22, 0, []), (21, .ifCond .eq 19, 24, 40, 0, 0, 0, 0, []), (24, .aload_n 0, 25, 0, 0, 0, 0, 0, []), (25, .getfield 44, 28, 11, 4, 2, 0, 0, []), (28, .getfield 155, 31, 10, 2, 2, 0, 0, []), (31, .getfield 164, 34, 4, 0, 2, 0, 0, []), (34, .iload_n 1, 35, 1, 0, 0, 0, 0, []), (35, .iload_n 3, 36, 3, 0, 0, 0, 0, []), (36, .invokestatic 196, 39, 144, 3, 0, 22, 0, []), (39, .ireturn, 40, 0, 0, 0, 0, 0, []), (40, .iload_n 2, 41, 2, 0, 0, 0, 0, []), (41, .iconst 1, 42, 0, 0, 0, 0, 1, []), (42, .if_icmp .ne 26, 45, 68, 0, 0, 0, 0, []), (45, .iload_n 3, 46, 3, 0, 0, 0, 0, []), (46, .iconst 1, 47, 0, 0, 0, 0, 1, []), (47, .bipush 9, 49, 0, 0, 0, 0, 9, []), (49, .invokestatic 192, 52, 133, 3, 0, 22, 0, []), (52, .ifCond .eq 16, 55, 68, 0, 0, 0, 0, []), (55, .aload_n 0, 56, 0, 0, 0, 0, 0, []), (56, .getfield 44, 59, 11, 4, 2, 0, 0, []), (59, .getfield 167, 62, 10, 0, 2, 0, 0, []), (62, .iload_n 1, 63, 1, 0, 0, 0, 0, []), (63, .iload_n 3, 64, 3, 0, 0, 0, 0, []), (64, .invokestatic 196, 67, 144, 3, 0, 22, 0, []), (67, .ireturn, 68, 0, 0, 0, 0, 0, []), (68, .iload_n 2, 69, 2, 0, 0, 0, 0, []), (69, .iconst 2, 70, 0, 0, 0, 0, 2, []), (70, .if_icmp .ne 27, 73, 97, 0, 0, 0, 0, []), (73, .iload_n 3, 74, 3, 0, 0, 0, 0, []), (74, .iconst 0, 75, 0, 0, 0, 0, 0, []), (75, .sipush 511, 78, 0, 0, 0, 0, 511, []), (78, .invokestatic 192, 81, 133, 3, 0, 22, 0, []), (81, .ifCond .eq 16, 84, 97, 0, 0, 0, 0, []), (84, .aload_n 0, 85, 0, 0, 0, 0, 0, []), (85, .getfield 44, 88, 11, 4, 2, 0, 0, []), (88, .getfield 200, 91, 10, 1, 2, 0, 0, []), (91, .iload_n 1, 92, 1, 0, 0, 0, 0, []), (92, .iload_n 3, 93, 3, 0, 0, 0, 0, []), (93, .invokestatic 196, 96, 144, 3, 0, 22, 0, []), (96, .ireturn, 97, 0, 0, 0, 0, 0, []), (97, .iconst (-1), 98, 0, 0, 0, 0, (-1), []), (98, .ireturn, 99, 0, 0, 0, 0, 0, [])]
def zc_89 : List zE := [(0, .iload_n 1, 1, 1, 0, 0, 0, 0, []), (1, .iconst 0, 2, 0, 0, 0, 0, 0, []), (2, .iconst 3, 3, 0, 0, 0, 0, 3, []), (3, .invokestatic 192, 6, 133, 3, 0, 22, 0, []), (6, .ifCond .eq 9, 9, 15, 0, 0, 0, 0, []), (9, .iload_n 2, 10, 2, 0, 0, 0, 0, []), (10, .bipush 9, 12, 0, 0, 0, 0, 9, []), (12, .if_icmp .le 5, 15, 17, 0, 0, 0, 0, []), (15, .iconst (-1), 16, 0, 0, 0, 0, (-1), []), (16, .ireturn, 17, 0, 0, 0, 0, 0, []), (17, .iload_n 1, 18, 1, 0, 0, 0, 0, []), (18, .iconst 3, 19, 0, 0, 0, 0, 3, []), (19, .if_icmp .ne 7, 22, 26, 0, 0, 0, 0, []), (22, .iconst 1, 23, 0, 0, 0, 0, 1, []), (23, .goto 4, 26, 27, 0, 0, 0, 0, []), (26, .iconst 0, 27, 0, 0, 0, 0, 0, []), (27, .istore 5, 29, 5, 0, 0, 0, 0, []), (29, .iload 5, 31, 5, 0, 0, 0, 0, []), (31, .ifCond .ne 10, 34, 41, 0, 0, 0, 0, []), (34, .iload_n 2, 35, 2, 0, 0, 0, 0, []), (35, .ifCond .ge 6, 38, 41, 0, 0, 0, 0, []), (38, .bipush (-2), 40, 0, 0, 0, 0, (-2), []), (40, .ireturn, 41, 0, 0, 0, 0, 0, []), (41, .iload_n 3, 42, 3, 0, 0, 0, 0, []), (42, .istore 6, 44, 6, 0, 0, 0, 0, []), (44, .iconst 0, 45, 0, 0, 0, 0, 0, []), (45, .istore 7, 47, 7, 0, 0, 0, 0, []), (47, .iload 7, 49, 7, 0, 0, 0, 0, []), (49, .aload_n 0, 50, 0, 0, 0, 0, 0, []), (50, .getfield 44, 53, 11, 4, 2, 0, 0, []), (53, .getfield 116, 56, 10, 3, 0, 0, 0, []), (56, .if_icmp .ge 50, 59, 106, 0, 0, 0, 0, []), (59, .aload_n 0, 60, 0, 0, 0, 0, 0, []), (60, .getfield 44, 63, 11, 4, 2, 0, 0, []), (63, .getfield 155, 66, 10, 2, 2, 0, 0, []), (66, .getfield 164, 69, 4, 0, 2, 0, 0, []), (69, .iload 7, 71, 7, 0, 0, 0, 0, []), (71, .iload 5, 73, 5, 0, 0, 0, 0, []), (73, .ifCond .ne 9, 76, 82, 0, 0, 0, 0, []), (76, .iload 7, 78, 7, 0, 0, 0, 0, []), (78, .iload_n 2, 79, 2, 0, 0, 0, 0, []), (79, .if_icmp .lt 7, 82, 86, 0, 0, 0, 0, []), (82, .iconst 0, 83, 0, 0, 0, 0, 0, []), (83, .goto 9, 86, 92, 0, 0, 0, 0, []), (86, .iload_n 1, 87, 1, 0, 0, 0, 0, []), (87, .iload 6, 89, 6, 0, 0, 0, 0, []), (89, .invokestatic 203, 92, 145, 2, 0, 22, 0, []), (92, .iastore, 93, 0, 0, 0, 0, 0, []), (93, .iload 6, 95, 6, 0, 0, 0, 0, []), (95, .iload 4, 97, 4, 0, 0, 0, 0, []), (97, .iadd, 98, 0, 0, 0, 0, 0, []), (98, .istore 6, 100, 6, 0, 0, 0, 0, []), (100, .iinc 7 1, 103, 7, 0, 0, 0, 1, []), (103, .goto (-56), 106, 47, 0, 0, 0, 0, []), (106, .iload 5, 108, 5, 0, 0, 0, 0, []), (108, .ifCond .eq 8, 111, 116, 0, 0, 0, 0, []), (111, .bipush (-3), 113, 0, 0, 0, 0, (-3), []), (113, .goto 7, 116, 120, 0, 0, 0, 0, []), (116, .aload_n 0, 117, 0, 0, 0, 0, 0, []), (117, .invokevirtual 207, 120, 146, 1, 1, 22, 0, []), (120, .ireturn, 121, 0, 0, 0, 0, 0, [])]
def zc_90 : List zE := [(0, .iload_n 1, 1, 1, 0, 0, 0, 0, []), (1, .ifCond .lt 17, 4, 18, 0, 0, 0, 0, []), (4, .iload_n 1, 5, 1, 0, 0, 0, 0, []), (5, .aload_n 0, 6, 0, 0, 0, 0, 0, []), (6, .getfield 44, 9, 11, 4, 2, 0, 0, []), (9, .invokevirtual 210, 12, 72, 1, 1, 20, 0, []), (12, .iconst (-1), 13, 0, 0, 0, 0, (-1), []), (13, .ixor, 14, 0, 0, 0, 0, 0, []), (14, .iand, 15, 0, 0, 0, 0, 0, []), (15, .ifCond .eq 5, 18, 20, 0, 0, 0, 0, []), (18, .iconst (-1), 19, 0, 0, 0, 0, (-1), []), (19, .ireturn, 20, 0, 0, 0, 0, 0, []), (20, .aload_n 0, 21, 0, 0, 0, 0, 0, []), (21, .iload_n 1, 22, 1, 0, 0, 0, 0, []), (22, .putfield 213, 25, 11, 13, 0, 0, 0, []), (25, .aload_n 0, 26, 0, 0, 0, 0, 0, []), (26, .getfield 44, 29, 11, 4, 2, 0, 0, []), (29, .aload_n 0, 30, 0, 0, 0, 0, 0, []), (30, .getfield 213, 33, 11, 13, 0, 0, 0, []), (33, .invokevirtual 216, 36, 75, 2, 1, 20, 0, []), (36, .invokestatic 219, 39, 0, 1, 0, 26, 0, []), (39, .ireturn, 40, 0, 0, 0, 0, 0, [])]
def zc_91 : List zE := [(0, .iload_n 2, 1, 2, 0, 0, 0, 0, []), (1, .iconst 0, 2, 0, 0, 0, 0, 0, []), (2, .iconst 1, 3, 0, 0, 0, 0, 1, []), (3, .invokestatic 192, 6, 133, 3, 0, 22, 0, []), (6, .ifCond .eq 11, 9, 17, 0, 0, 0, 0, []), (9, .aload_n 0, 10, 0, 0, 0, 0, 0, []), (10, .iload_n 1, 11, 1, 0, 0, 0, 0, []), (11, .invokevirtual 224, 14, 136, 2, 1, 22, 0, []), (14, .ifCond .ne 5, 17, 19, 0, 0, 0, 0, []), (17, .iconst 0, 18, 0, 0, 0, 0, 0, []), (18, .ireturn, 19, 0, 0, 1, 0, 0, []), (19, .aload_n 0, 20, 0, 0, 0, 0, 0, []), (20, .invokevirtual 227, 23, 137, 1, 1, 23, 0, []), (23, .aload_n 0, 24, 0, 0, 0, 0, 0, []), (24, .getfield 44, 27, 11, 4, 2, 0, 0, []), (27, .getfield 155, 30, 10, 2, 2, 0, 0, []), (30, .iload_n 1, 31, 1, 0, 0, 0, 0, []), (31, .aload_n 0, 32, 0, 0, 0, 0, 0, []), (32, .getfield 44, 35, 11, 4, 2, 0, 0, []), (35, .getfield 155, 38, 10, 2, 2, 0, 0, []), (38, .getfield 176, 41, 4, 6, 0, 0, 0, []), (41, .iconst (-1), 42, 0, 0, 0, 0, (-1), []), (42, .iload_n 2, 43, 2, 0, 0, 0, 0, []), (43, .invokevirtual 230, 46, 27, 5, 1, 9, 0, []), (46, .iconst 1, 47, 0, 0, 0, 0, 1, []), (47, .ireturn, 48, 0, 0, 1, 0, 0, [])]
def zc_92 : List zE := [(0, .aload_n 0, 1, 0, 0, 0, 0, 0, []), (1, .iload_n 1, 2, 1, 0, 0, 0, 0, []), (2, .invokevirtual 145, 5, 134, 2, 1, 22, 0, []), (5, .ifCond .ne 5, 8, 10, 0, 0, 0, 0, []), (8, .iconst (-1), 9, 0, 0, 0, 0, (-1), []), (9, .ireturn, 10, 0, 0, 0, 0, 0, []), (10, .aload_n 0, 11, 0, 0, 0, 0, 0, []), (11, .invokevirtual 227, 14, 137, 1, 1, 23, 0, []), (14, .aload_n 0, 15, 0, 0, 0, 0, 0, []), (15, .getfield 44, 18, 11, 4, 2, 0, 0, []), (18, .getfield 155, 21, 10, 2, 2, 0, 0, []), (21, .iload_n 1, 22, 1, 0, 0, 0, 0, []), (22, .invokevirtual 234, 25, 31, 2, 1, 9, 0, []), (25, .aload_n 0, 26, 0, 0, 0, 0, 0, []), (26, .getfield 44, 29, 11, 4, 2, 0, 0, []), (29, .getfield 155, 32, 10, 2, 2, 0, 0, []), (32, .getfield 189, 35, 4, 5, 0, 0, 0, []), (35, .invokestatic 219, 38, 0, 1, 0, 26, 0, []), (38, .ireturn, 39, 0, 0, 0, 0, 0, [])]
def zc_93 : List zE := [(0, .aload_n 0, 1, 0, 0, 0, 0, 0, []), (1, .iload_n 1, 2, 1, 0, 0, 0, 0, []), (2, .invokevirtual 145, 5, 134, 2, 1, 22, 0, []), (5, .ifCond .eq 12, 8, 17, 0, 0, 0, 0, []), (8, .iload_n 2, 9, 2, 0, 0, 0, 0, []), (9, .iconst 0, 10, 0, 0, 0, 0, 0, []), (10, .iconst 1, 11, 0, 0, 0, 0, 1, []), (11, .invokestatic 192, 14, 133, 3, 0, 22, 0, []), (14, .ifCond .ne 5, 17, 19, 0, 0, 0, 0, []), (17, .iconst (-1), 18, 0, 0, 0, 0, (-1), []), (18, .ireturn, 19, 0, 0, 0, 0, 0, []), (19, .aload_n 0, 20, 0, 0, 0, 0, 0, []), (20, .getfield 44, 23, 11, 4, 2, 0, 0, []), (23, .getfield 155, 26, 10, 2, 2, 0, 0, []), (26, .getfield 189, 29, 4, 5, 0, 0, 0, []), (29, .iload_n 1, 30, 1, 0, 0, 0, 0, []), (30, .invokestatic 185, 33, 132, 2, 0, 22, 0, []), (33, .ifCond .eq 6, 36, 39, 0, 0, 0, 0, []), (36, .bipush (-2), 38, 0, 0, 0, 0, (-2), []), (38, .ireturn, 39, 0, 0, 0, 0, 0, []), (39, .aload_n 0, 40, 0, 0, 0, 0, 0, []), (40, .getfield 48, 43, 11, 5, 2, 0, 0, []), (43, .aload_n 0, 44, 0, 0, 0, 0, 0, []), (44, .getfield 44, 47, 11, 4, 2, 0, 0, []), (47, .invokevirtual 237, 50, 71, 2, 1, 21, 0, []), (50, .aload_n 0, 51, 0, 0, 0, 0, 0, []), (51, .getfield 48, 54, 11, 5, 2, 0, 0, []), (54, .iload_n 1, 55, 1, 0, 0, 0, 0, []), (55, .invokestatic 240, 58, 131, 1, 0, 22, 0, []), (58, .putfield 243, 61, 10, 4, 0, 0, 0, []), (61, .aload_n 0, 62, 0, 0, 0, 0, 0, []), (62, .getfield 48, 65, 11, 5, 2, 0, 0, []), (65, .iload_n 2, 66, 2, 0, 0, 0, 0, []), (66, .iconst 1, 67, 0, 0, 0, 0, 1, []), (67, .if_icmp .ne 10, 70, 77, 0, 0, 0, 0, []), (70, .iload_n 1, 71, 1, 0, 0, 0, 0, []), (71, .invokestatic 240, 74, 131, 1, 0, 22, 0, []), (74, .goto 4, 77, 78, 0, 0, 0, 0, []), (77, .iconst 0, 78, 0, 0, 0, 0, 0, []), (78, .putfield 246, 81, 10, 5, 0, 0, 0, []), (81, .aload_n 0, 82, 0, 0, 0, 0, 0, []), (82, .getfield 48, 85, 11, 5, 2, 0, 0, []), (85, .invokevirtual 249, 88, 79, 1, 1, 21, 0, []), (88, .aload_n 0, 89, 0, 0, 0, 0, 0, []), (89, .aload_n 0, 90, 0, 0, 0, 0, 0, []), (90, .getfield 44, 93, 11, 4, 2, 0, 0, []), (93, .iload_n 1, 94, 1, 0, 0, 0, 0, []), (94, .invokestatic 240, 97, 131, 1, 0, 22, 0, []), (97, .invokevirtual 252, 100, 76, 2, 1, 20, 0, []), (100, .invokevirtual 255, 103, 138, 2, 1, 23, 0, []), (103, .aload_n 0, 104, 0, 0, 0, 0, 0, []), (104, .getfield 48, 107, 11, 5, 2, 0, 0, []), (107, .getfield 258, 110, 10, 6, 0, 0, 0, []), (110, .ireturn, 111, 0, 0, 0, 0, 0, [])]
def zc_94 : List zE := [(0, .aload_n 0, 1, 0, 0, 0, 0, 0, []), (1, .invokevirtual 227, 4, 137, 1, 1, 23, 0, []), (4, .aload_n 0, 5, 0, 0, 0, 0, 0, []), (5, .invokevirtual 261, 8, 148, 1, 1, 22, 0, []), (8, .pop, 9, 0, 0, 0, 0, 0, []), (9, .aload_n 0, 10, 0, 0, 0, 0, 0, []), (10, .aload_n 0, 11, 0, 0, 0, 0, 0, []), (11, .getfield 44, 14, 11, 4, 2, 0, 0, []), (14, .getfield 258, 17, 10, 6, 0, 0, 0, []), (17, .aload_n 0, 18, 0, 0, 0, 0, 0, []), (18, .aload_n 0, 19, 0, 0, 0, 0, 0, []), (19, .getfield 44, 22, 11, 4, 2, 0, 0, []), (22, .invokevirtual 264, 25, 147, 2, 1, 22, 0, []), (25, .invokevirtual 268, 28, 139, 3, 1, 23, 0, []), (28, .aload_n 0, 29, 0, 0, 0, 0, 0, []), (29, .getfield 44, 32, 11, 4, 2, 0, 0, []), (32, .getfield 243, 35, 10, 4, 0, 0, 0, []), (35, .ireturn, 36, 0, 0, 0, 0, 0, [])]
def zc_95 : List zE := [(0, .iload_n 1, 1, 1, 0, 0, 0, 0, []), (1, .iconst 0, 2, 0, 0, 0, 0, 0, []), (2, .sipush 300, 5, 0, 0, 0, 0, 300, []), (5, .invokestatic 192, 8, 133, 3, 0, 22, 0, []), (8, .ifCond .ne 5, 11, 13, 0, 0, 0, 0, []), (11, .iconst (-1), 12, 0, 0, 0, 0, (-1), []), (12, .ireturn, 13, 0, 0, 0, 0, 0, []), (13, .iload_n 1, 14, 1, 0, 0, 0, 0, []), (14, .ifCond .le 7, 17, 21, 0, 0, 0, 0, []), (17, .aload_n 0, 18, 0, 0, 0, 0, 0, []), (18, .invokevirtual 227, 21, 137, 1, 1, 23, 0, []), (21, .iconst 0, 22, 0, 0, 0, 0, 0, []), (22, .istore_n 2, 23, 2, 0, 0, 0, 0, []), (23, .iconst 0, 24, 0, 0, 0, 0, 0, []), (24, .istore_n 3, 25, 3, 0, 0, 0, 0, []), (25, .iconst (-1), 26, 0, 0, 0, 0, (-1), []), (26, .istore 4, 28, 4, 0, 0, 0, 0, []), (28, .iconst 0, 29, 0, 0, 0, 0, 0, []), (29, .istore 5, 31, 5, 0, 0, 0, 0, []), (31, .iload 5, 33, 5, 0, 0, 0, 0, []), (33, .iload_n 1, 34, 1, 0, 0, 0, 0, []), (34, .if_icmp .ge 55, 37, 89, 0, 0, 0, 0, []), (37, .aload_n 0, 38, 0, 0, 0, 0, 0, []), (38, .invokevirtual 261, 41, 148, 1, 1, 22, 0, []), (41, .istore 6, 43, 6, 0, 0, 0, 0, []), (43, .aload_n 0, 44, 0, 0, 0, 0, 0, []), (44, .aload_n 0, 45, 0, 0, 0, 0, 0, []), (45, .getfield 44, 48, 11, 4, 2, 0, 0, []), (48, .invokevirtual 264, 51, 147, 2, 1, 22, 0, []), (51, .invokestatic 219, 54, 0, 1, 0, 26, 0, []), (54, .istore 7, 56, 7, 0, 0, 0, 0, []), (56, .iload_n 2, 57, 2, 0, 0, 0, 0, []), (57, .iload 6, 59, 6, 0, 0, 0, 0, []), (59, .iadd, 60, 0, 0, 0, 0, 0, []), (60, .istore_n 2, 61, 2, 0, 0, 0, 0, []), (61, .iload_n 3, 62, 3, 0, 0, 0, 0, []), (62, .iload 7, 64, 7, 0, 0, 0, 0, []), (64, .iadd, 65, 0, 0, 0, 0, 0, []), (65, .istore_n 3, 66, 3, 0, 0, 0, 0, []), (66, .iload 4, 68, 4, 0, 0, 0, 0, []), (68, .iconst (-1), 69, 0, 0, 0, 0, (-1), []), (69, .if_icmp .ne 14, 72, 83, 0, 0, 0, 0, []), (72, .iload 6, 74, 6, 0, 0, 0, 0, []), (74, .iload 7, 76, 7, 0, 0, 0, 0, []), (76, .if_icmp .le 7, 79, 83, 0, 0, 0, 0, []), (79, .iload 5, 81, 5, 0, 0, 0, 0, []), (81, .istore 4, 83, 4, 0, 0, 0, 0, []), (83, .iinc 5 1, 86, 5, 0, 0, 0, 1, []), (86, .goto (-55), 89, 31, 0, 0, 0, 0, []), (89, .aload_n 0, 90, 0, 0, 0, 0, 0, []), (90, .iload_n 3, 91, 3, 0, 0, 0, 0, []), (91, .iload 4, 93, 4, 0, 0, 0, 0, []), (93, .invokevirtual 268, 96, 139, 3, 1, 23, 0, []), (96, .iload_n 2, 97, 2, 0, 0, 0, 0, []), (97, .ireturn, 98, 0, 0, 0, 0, 0, [])]
def zc_96 : List zE := [(0, .aload_n 0, 1, 0, 0, 0, 0, 0, []), (1, .getfield 10, 4, 11, 0, 2, 0, 0, []), (4, .bipush 60, 6, 0, 0, 0, 0, 60, []), (6, .invokevirtual 101, 9, 60, 2, 1, 19, 0, []), (9, .aload_n 0, 10, 0, 0, 0, 0, 0, []), (10, .getfield 10, 13, 11, 0, 2, 0, 0, []), (13, .aload_n 0, 14, 0, 0, 0, 0, 0, []), (14, .getfield 35, 17, 11, 3, 2, 0, 0, []), (17, .invokevirtual 271, 20, 7, 1, 1, 0, 0, []), (20, .invokevirtual 109, 23, 62, 2, 1, 18, 0, []), (23, .ifCond .ne 11, 26, 34, 0, 0, 0, 0, []), (26, .aload_n 0, 27, 0, 0, 0, 0, 0, []), (27, .getfield 10, 30, 11, 0, 2, 0, 0, []), (30, .invokevirtual 113, 33, 63, 1, 1, 18, 0, []), (33, .ireturn, 34, 0, 0, 0, 0, 0, []), (34, .aload_n 0, 35, 0, 0, 0, 0, 0, []), (35, .getfield 61, 38, 11, 7, 2, 0, 0, []), (38, .aload_n 0, 39, 0, 0, 0, 0, 0, []), (39, .getfield 44, 42, 11, 4, 2, 0, 0, []), (42, .aload_n 0, 43, 0, 0, 0, 0, 0, []), (43, .getfield 54, 46, 11, 6, 2, 0, 0, []), (46, .invokevirtual 272, 49, 35, 3, 1, 11, 0, []), (49, .iconst 0, 50, 0, 0, 0, 0, 0, []), (50, .istore_n 1, 51, 1, 0, 0, 0, 0, []), (51, .iconst 0, 52, 0, 0, 0, 0, 0, []), (52, .istore_n 2, 53, 2, 0, 0, 0, 0, []), (53, .iconst 0, 54, 0, 0, 0, 0, 0, []), (54, .istore_n 3, 55, 3, 0, 0, 0, 0, []), (55, .iload_n 3, 56, 3, 0, 0, 0, 0, []), (56, .aload_n 0, 57, 0, 0, 0, 0, 0, []), (57, .getfield 35, 60, 11, 3, 2, 0, 0, []), (60, .getfield 276, 63, 0, 3, 0, 0, 0, []), (63, .if_icmp .ge 59, 66, 122, 0, 0, 0, 0, []), (66, .aload_n 0, 67, 0, 0, 0, 0, 0, []), (67, .aload_n 0, 68, 0, 0, 0, 0, 0, []), (68, .getfield 35, 71, 11, 3, 2, 0, 0, []), (71, .getfield 277, 74, 0, 0, 2, 0, 0, []), (74, .iload_n 3, 75, 3, 0, 0, 0, 0, []), (75, .iaload, 76, 0, 0, 0, 0, 0, []), (76, .aload_n 0, 77, 0, 0, 0, 0, 0, []), (77, .getfield 35, 80, 11, 3, 2, 0, 0, []), (80, .getfield 280, 83, 0, 1, 2, 0, 0, []), (83, .iload_n 3, 84, 3, 0, 0, 0, 0, []), (84, .iaload, 85, 0, 0, 0, 0, 0, []), (85, .aload_n 0, 86, 0, 0, 0, 0, 0, []), (86, .getfield 35, 89, 11, 3, 2, 0, 0, []), (89, .getfield 283, 92, 0, 2, 2, 0, 0, []), (92, .iload_n 3, 93, 3, 0, 0, 0, 0, []), (93, .iaload, 94, 0, 0, 0, 0, 0, []), (94, .invokevirtual 286, 97, 149, 4, 1, 22, 0, []), (97, .istore 4, 99, 4, 0, 0, 0, 0, []), (99, .iload 4, 101, 4, 0, 0, 0, 0, []), (101, .iconst (-1), 102, 0, 0, 0, 0, (-1), []), (102, .if_icmp .ne 6, 105, 108, 0, 0, 0, 0, []), (105, .goto 17, 108, 122, 0, 0, 0, 0, []), (108, .iinc 1 1, 111, 1, 0, 0, 0, 1, []), (111, .iload_n 2, 112, 2, 0, 0, 0, 0, []), (112, .iload 4, 114, 4, 0, 0, 0, 0, []), (114, .iadd, 115, 0, 0, 0, 0, 0, []), (115, .istore_n 2, 116, 2, 0, 0, 0, 0, []), (116, .iinc 3 1, 119, 3, 0, 0, 0, 1, []), (119, .goto (-64), 122, 55, 0, 0, 0, 0, []), (122, .iload_n 1, 123, 1, 0, 0, 0, 0, []), (123, .ifCond .le 10, 126, 133, 0, 0, 0, 0, []), (126, .aload_n 0, 127, 0, 0, 0, 0, 0, []), (127, .getfield 61, 130, 11, 7, 2, 0, 0, []), (130, .invokevirtual 290, 133, 36, 1, 1, 11, 0, []), (133, .aload_n 0, 134, 0, 0, 0, 0, 0, []), (134, .iload_n 1, 135, 1, 0, 0, 0, 0, []), (135, .aload_n 0, 136, 0, 0, 0, 0, 0, []), (136, .getfield 35, 139, 11, 3, 2, 0, 0, []), (139, .getfield 276, 142, 0, 3, 0, 0, 0, []), (142, .if_icmp .ge 7, 145, 149, 0, 0, 0, 0, []), (145, .iconst 1, 146, 0, 0, 0, 0, 1, []), (146, .goto 4, 149, 150, 0, 0, 0, 0, []), (149, .iconst 0, 150, 0, 0, 0, 0, 0, []), (150, .iload_n 2, 151, 2, 0, 0, 0, 0, []), (151, .invokevirtual 268, 154, 139, 3, 1, 23, 0, []), (154, .iload_n 1, 155, 1, 0, 0, 0, 0, []), (155, .ireturn, 156, 0, 0, 0, 0, 0, [])]
def zc_97 : List zE := [(0, .aload_n 0, 1, 0, 0, 0, 0, 0, []), (1, .getfield 61, 4, 11, 7, 2, 0, 0, []), (4, .aload_n 0, 5, 0, 0, 0, 0, 0, []), (5, .getfield 44, 8, 11, 4, 2, 0, 0, []), (8, .aload_n 0, 9, 0, 0, 0, 0, 0, []), (9, .getfield 54, 12, 11, 6, 2, 0, 0, []), (12, .invokevirtual 293, 15, 37, 3, 1, 10, 0, []), (15, .ifCond .eq 13, 18, 28, 0, 0, 0, 0, []), (18, .aload_n 0, 19, 0, 0, 0, 0, 0, []), (19, .getfield 61, 22, 11, 7, 2, 0, 0, []), (22, .getfield 119, 25, 5, 0, 0, 0, 0, []), (25, .goto 4, 28, 29, 0, 0, 0, 0, []), (28, .iconst (-1), 29, 0, 0, 0, 0, (-1), []), (29, .ireturn, 30, 0, 0, 0, 0, 0, [])]
def zc_98 : List zE := [(0, .aload_n 0, 1, 0, 0, 0, 0, 0, []), (1, .getfield 54, 4, 11, 6, 2, 0, 0, []), (4, .iload_n 1, 5, 1, 0, 0, 0, 0, []), (5, .invokevirtual 297, 8, 13, 2, 1, 2, 0, []), (8, .ifCond .eq 12, 11, 20, 0, 0, 0, 0, []), (11, .iload_n 2, 12, 2, 0, 0, 0, 0, []), (12, .ifCond .lt 8, 15, 20, 0, 0, 0, 0, []), (15, .iload_n 2, 16, 2, 0, 0, 0, 0, []), (16, .iconst 4, 17, 0, 0, 0, 0, 4, []), (17, .if_icmp .le 14, 20, 31, 0, 0, 0, 0, []), (20, .new 148, 23, 0, 0, 9, 0, 0, []), (23, .dup, 24, 0, 0, 0, 0, 0, []), (24, .ldc_w 300, 27, 0, 0, 9, 0, 0, []), (27, .invokespecial 152, 30, 0, 0, 9, 0, 0, []), (30, .athrow, 31, 0, 0, 0, 0, 0, []), (31, .aload_n 0, 32, 0, 0, 0, 0, 0, []), (32, .getfield 54, 35, 11, 6, 2, 0, 0, []), (35, .iload_n 1, 36, 1, 0, 0, 0, 0, []), (36, .invokevirtual 302, 39, 14, 2, 1, 2, 0, []), (39, .istore_n 3, 40, 3, 0, 0, 0, 0, []), (40, .iload_n 2, 41, 2, 0, 0, 0, 0, []), (41, .tableswitch 71 0 3 #[31, 41, 51, 61], 72, 112, 0, 0, 0, 0, [(0, 72), (1, 82), (2, 92), (3, 102)]), (72, .aload_n 0, 73, 0, 0, 0, 0, 0, []), (73, .getfield 54, 76, 11, 6, 2, 0, 0, []), (76, .getfield 305, 79, 1, 0, 2, 0, 0, []), (79, .iload_n 3, 80, 3, 0, 0, 0, 0, []), (80, .iaload, 81, 0, 0, 0, 0, 0, []), (81, .ireturn, 82, 0, 0, 0, 0, 0, []), (82, .aload_n 0, 83, 0, 0, 0, 0, 0, []), (83, .getfield 54, 86, 11, 6, 2, 0, 0, []), (86, .getfield 308, 89, 1, 1, 2, 0, 0, []), (89, .iload_n 3, 90, 3, 0, 0, 0, 0, []), (90, .iaload, 91, 0, 0, 0, 0, 0, []), (91, .ireturn, 92, 0, 0, 0, 0, 0, []), (92, .aload_n 0, 93, 0, 0, 0, 0, 0, []), (93, .getfield 54, 96, 11, 6, 2, 0, 0, []), (96, .getfield 309, 99, 1, 2, 2, 0, 0, []), (99, .iload_n 3, 100, 3, 0, 0, 0, 0, []), (100, .iaload, 101, 0, 0, 0, 0, 0, []), (101, .ireturn, 102, 0, 0, 0, 0, 0, []), (102, .aload_n 0, 103, 0, 0, 0, 0, 0, []), (103, .getfield 54, 106, 11, 6, 2, 0, 0, []), (106, .getfield 310, 109, 1, 3, 2, 0, 0, []), (109, .iload_n 3, 110, 3, 0, 0, 0, 0, []), (110, .iaload, 111, 0, 0, 0, 0, 0, []), (111, .ireturn, 112, 0, 0, 0, 0, 0, []), (112, .aload_n 0, 113, 0, 0, 0, 0, 0, []), (113, .getfield 54, 116, 11, 6, 2, 0, 0, []), (116, .getfield 310, 119, 1, 3, 2, 0, 0, []), (119, .iload_n 3, 120, 3, 0, 0, 0, 0, []), (120, .iaload, 121, 0, 0, 0, 0, 0, []), (121, .iconst 1, 122, 0, 0, 0, 0, 1, []), (122, .if_icmp .ne 33, 125, 155, 0, 0, 0, 0, []), (125, .aload_n 0, 126, 0, 0, 0, 0, 0, []), (126, .getfield 44, 129, 11, 4, 2, 0, 0, []), (129, .aload_n 0, 130, 0, 0, 0, 0, 0, []), (130, .getfield 213, 133, 11, 13, 0, 0, 0, []), (133, .invokevirtual 216, 136, 75, 2, 1, 20, 0, []), (136, .aload_n 0, 137, 0, 0, 0, 0, 0, []), (137, .getfield 54, 140, 11, 6, 2, 0, 0, []), (140, .getfield 308, 143, 1, 1, 2, 0, 0, []), (143, .iload_n 3, 144, 3, 0, 0, 0, 0, []), (144, .iaload, 145, 0, 0, 0, 0, 0, []), (145, .invokestatic 185, 148, 132, 2, 0, 22, 0, []), (148, .ifCond .eq 7, 151, 155, 0, 0, 0, 0, []), (151, .iconst 1, 152, 0, 0, 0, 0, 1, []), (152, .goto 4, 155, 156, 0, 0, 0, 0, []), (155, .iconst 0, 156, 0, 0, 0, 0, 0, []), (156, .ireturn, 157, 0, 0, 0, 0, 0, [])]
def zc_99 : List zE := [(0, .aload_n 0, 1, 0, 0, 0, 0, 0, []), (1, .getfield 54, 4, 11, 6, 2, 0, 0, []), (4, .iload_n 1, 5, 1, 0, 0, 0, 0, []), (5, .invokevirtual 297, 8, 13, 2, 1, 2, 0, []), (8, .ifCond .ne 5, 11, 13, 0, 0, 0, 0, []), (11, .iconst (-1), 12, 0, 0, 0, 0, (-1), []), (12, .ireturn, 13, 0, 0, 0, 0, 0, []), (13, .iconst 0, 14, 0, 0, 0, 0, 0, []), (14, .istore_n 2, 15, 2, 0, 0, 0, 0, []), (15, .iload_n 1, 16, 1, 0, 0, 0, 0, []), (16, .istore_n 3, 17, 3, 0, 0, 0, 0, []), (17, .aload_n 0, 18, 0, 0, 0, 0, 0, []), (18, .getfield 54, 21, 11, 6, 2, 0, 0, []), (21, .iload_n 3, 22, 3, 0, 0, 0, 0, []), (22, .invokevirtual 312, 25, 16, 2, 1, 2, 0, []), (25, .istore 4, 27, 4, 0, 0, 0, 0, []), (27, .iconst 0, 28, 0, 0, 0, 0, 0, []), (28, .istore 5, 30, 5, 0, 0, 0, 0, []), (30, .iload 5, 32, 5, 0, 0, 0, 0, []), (32, .bipush 60, 34, 0, 0, 0, 0, 60, []), (34, .if_icmp .ge 58, 37, 92, 0, 0, 0, 0, []), (37, .iload 4, 39, 4, 0, 0, 0, 0, []), (39, .iconst (-1), 40, 0, 0, 0, 0, (-1), []), (40, .if_icmp .eq 52, 43, 92, 0, 0, 0, 0, []), (43, .iinc 2 1, 46, 2, 0, 0, 0, 1, []), (46, .aload_n 0, 47, 0, 0, 0, 0, 0, []), (47, .getfield 54, 50, 11, 6, 2, 0, 0, []), (50, .iload_n 3, 51, 3, 0, 0, 0, 0, []), (51, .iload 4, 53, 4, 0, 0, 0, 0, []), (53, .invokevirtual 315, 56, 18, 3, 1, 2, 0, []), (56, .istore 6, 58, 6, 0, 0, 0, 0, []), (58, .iload 6, 60, 6, 0, 0, 0, 0, []), (60, .iconst (-1), 61, 0, 0, 0, 0, (-1), []), (61, .if_icmp .ne 12, 64, 73, 0, 0, 0, 0, []), (64, .aload_n 0, 65, 0, 0, 0, 0, 0, []), (65, .iload 4, 67, 4, 0, 0, 0, 0, []), (67, .iconst 0, 68, 0, 0, 0, 0, 0, []), (68, .invokevirtual 268, 71, 139, 3, 1, 23, 0, []), (71, .iload_n 2, 72, 2, 0, 0, 0, 0, []), (72, .ireturn, 73, 0, 0, 0, 0, 0, []), (73, .iload 6, 75, 6, 0, 0, 0, 0, []), (75, .istore_n 3, 76, 3, 0, 0, 0, 0, []), (76, .aload_n 0, 77, 0, 0, 0, 0, 0, []), (77, .getfield 54, 80, 11, 6, 2, 0, 0, []), (80, .iload_n 3, 81, 3, 0, 0, 0, 0, []), (81, .invokevirtual 312, 84, 16, 2, 1, 2, 0, []), (84, .istore 4, 86, 4, 0, 0, 0, 0, []), (86, .iinc 5 1, 89, 5, 0, 0, 0, 1, []), (89, .goto (-59), 92, 30, 0, 0, 0, 0, []), (92, .aload_n 0, 93, 0, 0, 0, 0, 0, []), (93, .aload_n 0, 94, 0, 0, 0, 0, 0, []), (94, .getfield 54, 97, 11, 6, 2, 0, 0, []), (97, .iload_n 3, 98, 3, 0, 0, 0, 0, []), (98, .invokevirtual 318, 101, 17, 2, 1, 2, 0, []), (101, .iconst 1, 102, 0, 0, 0, 0, 1, []), (102, .invokevirtual 268, 105, 139, 3, 1, 23, 0, []), (105, .iload_n 2, 106, 2, 0, 0, 0, 0, []), (106, .ireturn, 107, 0, 0, 0, 0, 0, [])]
def zc_100 : List zE := [(0, .aload_n 0, 1, 0, 0, 0, 0, 0, []), (1, .getfield 48, 4, 11, 5, 2, 0, 0, []), (4, .aload_n 0, 5, 0, 0, 0, 0, 0, []), (5, .getfield 44, 8, 11, 4, 2, 0, 0, []), (8, .invokevirtual 237, 11, 71, 2, 1, 21, 0, []), (11, .aload_n 0, 12, 0, 0, 0, 0, 0, []), (12, .sipush 300, 15, 0, 0, 0, 0, 300, []), (15, .invokevirtual 321, 18, 150, 2, 1, 22, 0, []), (18, .istore_n 1, 19, 1, 0, 0, 0, 0, []), (19, .iload_n 1, 20, 1, 0, 0, 0, 0, []), (20, .iconst (-1), 21, 0, 0, 0, 0, (-1), []), (21, .if_icmp .ne 6, 24, 27, 0, 0, 0, 0, []), (24, .bipush (-2), 26, 0, 0, 0, 0, (-2), []), (26, .ireturn, 27, 0, 0, 0, 0, 0, []), (27, .aload_n 0, 28, 0, 0, 0, 0, 0, []), (28, .aload_n 0, 29, 0, 0, 0, 0, 0, []), (29, .getfield 324, 32, 11, 14, 0, 0, 0, []), (32, .aload_n 0, 33, 0, 0, 0, 0, 0, []), (33, .getfield 327, 36, 11, 15, 0, 0, 0, []), (36, .invokevirtual 268, 39, 139, 3, 1, 23, 0, []), (39, .iload_n 1, 40, 1, 0, 0, 0, 0, []), (40, .ireturn, 41, 0, 0, 0, 0, 0, [])]
def zc_101 : List zE := [(0, .iload_n 1, 1, 1, 0, 0, 0, 0, []), (1, .iconst 0, 2, 0, 0, 0, 0, 0, []), (2, .sipush 300, 5, 0, 0, 0, 0, 300, []), (5, .invokestatic 192, 8, 133, 3, 0, 22, 0, []), (8, .ifCond .ne 5, 11, 13, 0, 0, 0, 0, []), (11, .iconst (-1), 12, 0, 0, 0, 0, (-1), []), (12, .ireturn, 13, 0, 0, 0, 0, 0, []), (13, .aload_n 0, 14, 0, 0, 0, 0, 0, []), (14, .getfield 48, 17, 11, 5, 2, 0, 0, []), (17, .aload_n 0, 18, 0, 0, 0, 0, 0, []), (18, .getfield 44, 21, 11, 4, 2, 0, 0, []), (21, .invokevirtual 237, 24, 71, 2, 1, 21, 0, []), (24, .aload_n 0, 25, 0, 0, 0, 0, 0, []), (25, .iload_n 1, 26, 1, 0, 0, 0, 0, []), (26, .invokevirtual 330, 29, 154, 2, 1, 22, 0, []), (29, .pop, 30, 0, 0, 0, 0, 0, []), (30, .iconst 0, 31, 0, 0, 0, 0, 0, []), (31, .istore_n 2, 32, 2, 0, 0, 0, 0, []), (32, .aload_n 0, 33, 0, 0, 0, 0, 0, []), (33, .aload_n 0, 34, 0, 0, 0, 0, 0, []), (34, .getfield 44, 37, 11, 4, 2, 0, 0, []), (37, .getfield 116, 40, 10, 3, 0, 0, 0, []), (40, .putfield 333, 43, 11, 12, 0, 0, 0, []), (43, .iconst 0, 44, 0, 0, 0, 0, 0, []), (44, .istore_n 3, 45, 3, 0, 0, 0, 0, []), (45, .iload_n 3, 46, 3, 0, 0, 0, 0, []), (46, .aload_n 0, 47, 0, 0, 0, 0, 0, []), (47, .getfield 44, 50, 11, 4, 2, 0, 0, []), (50, .getfield 116, 53, 10, 3, 0, 0, 0, []), (53, .if_icmp .ge 30, 56, 83, 0, 0, 0, 0, []), (56, .aload_n 0, 57, 0, 0, 0, 0, 0, []), (57, .getfield 85, 60, 11, 11, 2, 0, 0, []), (60, .iload_n 3, 61, 3, 0, 0, 0, 0, []), (61, .aload_n 0, 62, 0, 0, 0, 0, 0, []), (62, .getfield 89, 65, 11, 16, 2, 0, 0, []), (65, .iload_n 3, 66, 3, 0, 0, 0, 0, []), (66, .iaload, 67, 0, 0, 0, 0, 0, []), (67, .iastore, 68, 0, 0, 0, 0, 0, []), (68, .iload_n 2, 69, 2, 0, 0, 0, 0, []), (69, .aload_n 0, 70, 0, 0, 0, 0, 0, []), (70, .getfield 89, 73, 11, 16, 2, 0, 0, []), (73, .iload_n 3, 74, 3, 0, 0, 0, 0, []), (74, .iaload, 75, 0, 0, 0, 0, 0, []), (75, .iadd, 76, 0, 0, 0, 0, 0, []), (76, .istore_n 2, 77, 2, 0, 0, 0, 0, []), (77, .iinc 3 1, 80, 3, 0, 0, 0, 1, []), (80, .goto (-35), 83, 45, 0, 0, 0, 0, []), (83, .iload_n 2, 84, 2, 0, 0, 0, 0, []), (84, .ireturn, 85, 0, 0, 0, 0, 0, [])]
def zc_102 : List zE := [(0, .iload_n 1, 1, 1, 0, 0, 0, 0, []), (1, .iconst 0, 2, 0, 0, 0, 0, 0, []), (2, .sipush 300, 5, 0, 0, 0, 0, 300, []), (5, .invokestatic 192, 8, 133, 3, 0, 22, 0, []), (8, .ifCond .ne 5, 11, 13, 0, 0, 0, 0, []), (11, .iconst (-1), 12, 0, 0, 0, 0, (-1), []), (12, .ireturn, 13, 0, 0, 0, 0, 0, []), (13, .aload_n 0, 14, 0, 0, 0, 0, 0, []), (14, .getfield 48, 17, 11, 5, 2, 0, 0, []), (17, .aload_n 0, 18, 0, 0, 0, 0, 0, []), (18, .getfield 44, 21, 11, 4, 2, 0, 0, []), (21, .invokevirtual 237, 24, 71, 2, 1, 21, 0, []), (24, .aload_n 0, 25, 0, 0, 0, 0, 0, []), (25, .iload_n 1, 26, 1, 0, 0, 0, 0, []), (26, .invokevirtual 330, 29, 154, 2, 1, 22, 0, []), (29, .istore_n 2, 30, 2, 0, 0, 0, 0, []), (30, .aload_n 0, 31, 0, 0, 0, 0, 0, []), (31, .invokevirtual 336, 34, 155, 1, 1, 22, 0, []), (34, .istore_n 3, 35, 3, 0, 0, 0, 0, []), (35, .iload_n 3, 36, 3, 0, 0, 0, 0, []), (36, .iconst (-1), 37, 0, 0, 0, 0, (-1), []), (37, .if_icmp .ne 6, 40, 43, 0, 0, 0, 0, []), (40, .bipush (-2), 42, 0, 0, 0, 0, (-2), []), (42, .ireturn, 43, 0, 0, 0, 0, 0, []), (43, .aload_n 0, 44, 0, 0, 0, 0, 0, []), (44, .aload_n 0, 45, 0, 0, 0, 0, 0, []), (45, .getfield 89, 48, 11, 16, 2, 0, 0, []), (48, .iload_n 3, 49, 3, 0, 0, 0, 0, []), (49, .iaload, 50, 0, 0, 0, 0, 0, []), (50, .iload_n 2, 51, 2, 0, 0, 0, 0, []), (51, .invokevirtual 268, 54, 139, 3, 1, 23, 0, []), (54, .iload_n 3, 55, 3, 0, 0, 0, 0, []), (55, .ireturn, 56, 0, 0, 0, 0, 0, [])]
def zc_103 : List zE := [(0, .aload_n 0, 1, 0, 0, 0, 0, 0, []), (1, .iload_n 1, 2, 1, 0, 0, 0, 0, []), (2, .invokevirtual 145, 5, 134, 2, 1, 22, 0, []), (5, .ifCond .ne 5, 8, 10, 0, 0, 0, 0, []), (8, .iconst (-1), 9, 0, 0, 0, 0, (-1), []), (9, .ireturn, 10, 0, 0, 0, 0, 0, []), (10, .aload_n 0, 11, 0, 0, 0, 0, 0, []), (11, .getfield 48, 14, 11, 5, 2, 0, 0, []), (14, .aload_n 0, 15, 0, 0, 0, 0, 0, []), (15, .getfield 44, 18, 11, 4, 2, 0, 0, []), (18, .invokevirtual 237, 21, 71, 2, 1, 21, 0, []), (21, .aload_n 0, 22, 0, 0, 0, 0, 0, []), (22, .iload_n 1, 23, 1, 0, 0, 0, 0, []), (23, .sipush 300, 26, 0, 0, 0, 0, 300, []), (26, .invokevirtual 339, 29, 158, 3, 1, 22, 0, []), (29, .istore_n 2, 30, 2, 0, 0, 0, 0, []), (30, .iload_n 2, 31, 2, 0, 0, 0, 0, []), (31, .iconst (-1), 32, 0, 0, 0, 0, (-1), []), (32, .if_icmp .ne 6, 35, 38, 0, 0, 0, 0, []), (35, .bipush (-2), 37, 0, 0, 0, 0, (-2), []), (37, .ireturn, 38, 0, 0, 0, 0, 0, []), (38, .aload_n 0, 39, 0, 0, 0, 0, 0, []), (39, .aload_n 0, 40, 0, 0, 0, 0, 0, []), (40, .getfield 48, 43, 11, 5, 2, 0, 0, []), (43, .getfield 342, 46, 10, 7, 2, 0, 0, []), (46, .iload_n 1, 47, 1, 0, 0, 0, 0, []), (47, .iaload, 48, 0, 0, 0, 0, 0, []), (48, .invokevirtual 255, 51, 138, 2, 1, 23, 0, []), (51, .iload_n 2, 52, 2, 0, 0, 0, 0, []), (52, .ireturn, 53, 0, 0, 0, 0, 0, [])]
def zc_104 : List zE := [(0, .aload_n 0, 1, 0, 0, 0, 0, 0, []), (1, .iload_n 1, 2, 1, 0, 0, 0, 0, []), (2, .invokevirtual 145, 5, 134, 2, 1, 22, 0, []), (5, .ifCond .eq 14, 8, 19, 0, 0, 0, 0, []), (8, .iload_n 2, 9, 2, 0, 0, 0, 0, []), (9, .iconst 1, 10, 0, 0, 0, 0, 1, []), (10, .sipush 300, 13, 0, 0, 0, 0, 300, []), (13, .invokestatic 192, 16, 133, 3, 0, 22, 0, []), (16, .ifCond .ne 5, 19, 21, 0, 0, 0, 0, []), (19, .iconst (-1), 20, 0, 0, 0, 0, (-1), []), (20, .ireturn, 21, 0, 0, 0, 0, 0, []), (21, .aload_n 0, 22, 0, 0, 0, 0, 0, []), (22, .iload_n 1, 23, 1, 0, 0, 0, 0, []), (23, .invokevirtual 224, 26, 136, 2, 1, 22, 0, []), (26, .ifCond .ne 6, 29, 32, 0, 0, 0, 0, []), (29, .bipush (-2), 31, 0, 0, 0, 0, (-2), []), (31, .ireturn, 32, 0, 0, 0, 0, 0, []), (32, .aload_n 0, 33, 0, 0, 0, 0, 0, []), (33, .getfield 48, 36, 11, 5, 2, 0, 0, []), (36, .aload_n 0, 37, 0, 0, 0, 0, 0, []), (37, .getfield 44, 40, 11, 4, 2, 0, 0, []), (40, .invokevirtual 237, 43, 71, 2, 1, 21, 0, []), (43, .aload_n 0, 44, 0, 0, 0, 0, 0, []), (44, .iload_n 2, 45, 2, 0, 0, 0, 0, []), (45, .invokevirtual 330, 48, 154, 2, 1, 22, 0, []), (48, .pop, 49, 0, 0, 0, 0, 0, []), (49, .aload_n 0, 50, 0, 0, 0, 0, 0, []), (50, .invokevirtual 345, 53, 156, 1, 1, 22, 0, []), (53, .istore_n 3, 54, 3, 0, 0, 0, 0, []), (54, .aload_n 0, 55, 0, 0, 0, 0, 0, []), (55, .invokevirtual 348, 58, 157, 1, 1, 22, 0, []), (58, .istore 4, 60, 4, 0, 0, 0, 0, []), (60, .aload_n 0, 61, 0, 0, 0, 0, 0, []), (61, .getfield 48, 64, 11, 5, 2, 0, 0, []), (64, .aload_n 0, 65, 0, 0, 0, 0, 0, []), (65, .getfield 44, 68, 11, 4, 2, 0, 0, []), (68, .invokevirtual 237, 71, 71, 2, 1, 21, 0, []), (71, .aload_n 0, 72, 0, 0, 0, 0, 0, []), (72, .getfield 48, 75, 11, 5, 2, 0, 0, []), (75, .getfield 155, 78, 10, 2, 2, 0, 0, []), (78, .iload_n 1, 79, 1, 0, 0, 0, 0, []), (79, .aload_n 0, 80, 0, 0, 0, 0, 0, []), (80, .getfield 48, 83, 11, 5, 2, 0, 0, []), (83, .getfield 155, 86, 10, 2, 2, 0, 0, []), (86, .getfield 176, 89, 4, 6, 0, 0, 0, []), (89, .iconst (-1), 90, 0, 0, 0, 0, (-1), []), (90, .iconst 0, 91, 0, 0, 0, 0, 0, []), (91, .invokevirtual 230, 94, 27, 5, 1, 9, 0, []), (94, .aload_n 0, 95, 0, 0, 0, 0, 0, []), (95, .iload_n 2, 96, 2, 0, 0, 0, 0, []), (96, .invokevirtual 330, 99, 154, 2, 1, 22, 0, []), (99, .pop, 100, 0, 0, 0, 0, 0, []), (100, .aload_n 0, 101, 0, 0, 0, 0, 0, []), (101, .aload_n 0, 102, 0, 0, 0, 0, 0, []), (102, .invokevirtual 345, 105, 156, 1, 1, 22, 0, []), (105, .iload_n 3, 106, 3, 0, 0, 0, 0, []), (106, .isub, 107, 0, 0, 0, 0, 0, []), (107, .invokevirtual 255, 110, 138, 2, 1, 23, 0, []), (110, .aload_n 0, 111, 0, 0, 0, 0, 0, []), (111, .invokevirtual 348, 114, 157, 1, 1, 22, 0, []), (114, .iload 4, 116, 4, 0, 0, 0, 0, []), (116, .iconst (-1), 117, 0, 0, 0, 0, (-1), []), (117, .ixor, 118, 0, 0, 0, 0, 0, []), (118, .iand, 119, 0, 0, 0, 0, 0, []), (119, .ireturn, 120, 0, 0, 0, 0, 0, [])]
def zc_105 : List zE := [(0, .aload_n 0, 1, 0, 0, 0, 0, 0, []), (1, .iload_n 1, 2, 1, 0, 0, 0, 0, []), (2, .invokevirtual 145, 5, 134, 2, 1, 22, 0, []), (5, .ifCond .ne 5, 8, 10, 0, 0, 0, 0, []), (8, .iconst (-1), 9, 0, 0, 0, 0, (-1), []), (9, .ireturn, 10, 0, 0, 0, 0, 0, []), (10, .aload_n 0, 11, 0, 0, 0, 0, 0, []), (11, .getfield 44, 14, 11, 4, 2, 0, 0, []), (14, .getfield 155, 17, 10, 2, 2, 0, 0, []), (17, .getfield 189, 20, 4, 5, 0, 0, 0, []), (20, .iload_n 1, 21, 1, 0, 0, 0, 0, []), (21, .invokestatic 185, 24, 132, 2, 0, 22, 0, []), (24, .ifCond .eq 8, 27, 32, 0, 0, 0, 0, []), (27, .bipush (-3), 29, 0, 0, 0, 0, (-3), []), (29, .goto 9, 32, 38, 0, 0, 0, 0, []), (32, .aload_n 0, 33, 0, 0, 0, 0, 0, []), (33, .iload_n 1, 34, 1, 0, 0, 0, 0, []), (34, .iconst 0, 35, 0, 0, 0, 0, 0, []), (35, .invokevirtual 351, 38, 159, 3, 1, 22, 0, []), (38, .ireturn, 39, 0, 0, 0, 0, 0, [])]
def zc_106 : List zE := [(0, .iconst 0, 1, 0, 0, 0, 0, 0, []), (1, .istore_n 1, 2, 1, 0, 0, 0, 0, []), (2, .iconst 0, 3, 0, 0, 0, 0, 0, []), (3, .istore_n 2, 4, 2, 0, 0, 0, 0, []), (4, .iload_n 2, 5, 2, 0, 0, 0, 0, []), (5, .aload_n 0, 6, 0, 0, 0, 0, 0, []), (6, .getfield 44, 9, 11, 4, 2, 0, 0, []), (9, .getfield 116, 12, 10, 3, 0, 0, 0, []), (12, .if_icmp .ge 44, 15, 56, 0, 0, 0, 0, []), (15, .aload_n 0, 16, 0, 0, 0, 0, 0, []), (16, .getfield 44, 19, 11, 4, 2, 0, 0, []), (19, .getfield 155, 22, 10, 2, 2, 0, 0, []), (22, .getfield 189, 25, 4, 5, 0, 0, 0, []), (25, .iload_n 2, 26, 2, 0, 0, 0, 0, []), (26, .invokestatic 185, 29, 132, 2, 0, 22, 0, []), (29, .ifCond .ne 21, 32, 50, 0, 0, 0, 0, []), (32, .aload_n 0, 33, 0, 0, 0, 0, 0, []), (33, .iload_n 2, 34, 2, 0, 0, 0, 0, []), (34, .iconst 0, 35, 0, 0, 0, 0, 0, []), (35, .invokevirtual 351, 38, 159, 3, 1, 22, 0, []), (38, .bipush (-2), 40, 0, 0, 0, 0, (-2), []), (40, .if_icmp .ne 10, 43, 50, 0, 0, 0, 0, []), (43, .iload_n 1, 44, 1, 0, 0, 0, 0, []), (44, .iload_n 2, 45, 2, 0, 0, 0, 0, []), (45, .invokestatic 240, 48, 131, 1, 0, 22, 0, []), (48, .ior, 49, 0, 0, 0, 0, 0, []), (49, .istore_n 1, 50, 1, 0, 0, 0, 0, []), (50, .iinc 2 1, 53, 2, 0, 0, 0, 1, []), (53, .goto (-49), 56, 4, 0, 0, 0, 0, []), (56, .iload_n 1, 57, 1, 0, 0, 0, 0, []), (57, .ireturn, 58, 0, 0, 0, 0, 0, [])]
def zc_107 : List zE := [(0, .aload_n 0, 1, 0, 0, 0, 0, 0, []), (1, .iload_n 1, 2, 1, 0, 0, 0, 0, []), (2, .invokevirtual 145, 5, 134, 2, 1, 22, 0, []), (5, .ifCond .ne 5, 8, 10, 0, 0, 0, 0, []), (8, .iconst (-1), 9, 0, 0, 0, 0, (-1), []), (9, .ireturn, 10, 0, 0, 0, 0, 0, []), (10, .aload_n 0, 11, 0, 0, 0, 0, 0, []), (11, .getfield 44, 14, 11, 4, 2, 0, 0, []), (14, .getfield 155, 17, 10, 2, 2, 0, 0, []), (17, .getfield 189, 20, 4, 5, 0, 0, 0, []), (20, .iload_n 1, 21, 1, 0, 0, 0, 0, []), (21, .invokestatic 185, 24, 132, 2, 0, 22, 0, []), (24, .ifCond .eq 6, 27, 30, 0, 0, 0, 0, []), (27, .bipush (-3), 29, 0, 0, 0, 0, (-3), []), (29, .ireturn, 30, 0, 0, 0, 0, 0, []), (30, .aload_n 0, 31, 0, 0, 0, 0, 0, []), (31, .getfield 44, 34, 11, 4, 2, 0, 0, []), (34, .invokevirtual 354, 37, 73, 1, 1, 20, 0, []), (37, .iload_n 1, 38, 1, 0, 0, 0, 0, []), (38, .invokestatic 240, 41, 131, 1, 0, 22, 0, []), (41, .iconst (-1), 42, 0, 0, 0, 0, (-1), []), (42, .ixor, 43, 0, 0, 0, 0, 0, []), (43, .iand, 44, 0, 0, 0, 0, 0, []), (44, .istore_n 2, 45, 2, 0, 0, 0, 0, []), (45, .iconst 0, 46, 0, 0, 0, 0, 0, []), (46, .istore_n 3, 47, 3, 0, 0, 0, 0, []), (47, .iconst 0, 48, 0, 0, 0, 0, 0, []), (48, .istore 4, 50, 4, 0, 0, 0, 0, []), (50, .iload 4, 52, 4, 0, 0, 0, 0, []), (52, .sipush 512, 55, 0, 0, 0, 0, 512, []), (55, .if_icmp .ge 45, 58, 100, 0, 0, 0, 0, []), (58, .iload_n 3, 59, 3, 0, 0, 0, 0, []), (59, .iconst (-1), 60, 0, 0, 0, 0, (-1), []), (60, .if_icmp .eq 40, 63, 100, 0, 0, 0, 0, []), (63, .aload_n 0, 64, 0, 0, 0, 0, 0, []), (64, .iload_n 1, 65, 1, 0, 0, 0, 0, []), (65, .iload_n 3, 66, 3, 0, 0, 0, 0, []), (66, .invokevirtual 351, 69, 159, 3, 1, 22, 0, []), (69, .istore 5, 71, 5, 0, 0, 0, 0, []), (71, .iload 5, 73, 5, 0, 0, 0, 0, []), (73, .ifCond .lt 15, 76, 88, 0, 0, 0, 0, []), (76, .aload_n 0, 77, 0, 0, 0, 0, 0, []), (77, .iload_n 3, 78, 3, 0, 0, 0, 0, []), (78, .iload 5, 80, 5, 0, 0, 0, 0, []), (80, .invokevirtual 268, 83, 139, 3, 1, 23, 0, []), (83, .iload_n 3, 84, 3, 0, 0, 0, 0, []), (84, .invokestatic 219, 87, 0, 1, 0, 26, 0, []), (87, .ireturn, 88, 0, 0, 0, 0, 0, []), (88, .iload_n 3, 89, 3, 0, 0, 0, 0, []), (89, .iload_n 2, 90, 2, 0, 0, 0, 0, []), (90, .invokestatic 357, 93, 160, 2, 0, 22, 0, []), (93, .istore_n 3, 94, 3, 0, 0, 0, 0, []), (94, .iinc 4 1, 97, 4, 0, 0, 0, 1, []), (97, .goto (-47), 100, 50, 0, 0, 0, 0, []), (100, .bipush (-2), 102, 0, 0, 0, 0, (-2), []), (102, .ireturn, 103, 0, 0, 0, 0, 0, [])]
def zc_108 : List zE := [(0, .aload_n 0, 1, 0, 0, 0, 0, 0, []), (1, .iload_n 1, 2, 1, 0, 0, 0, 0, []), (2, .invokevirtual 145, 5, 134, 2, 1, 22, 0, []), (5, .ifCond .ne 5, 8, 10, 0, 0, 0, 0, []), (8, .iconst (-1), 9, 0, 0, 0, 0, (-1), []), (9, .ireturn, 10, 0, 0, 0, 0, 0, []), (10, .iload_n 1, 11, 1, 0, 0, 0, 0, []), (11, .invokestatic 240, 14, 131, 1, 0, 22, 0, []), (14, .istore_n 2, 15, 2, 0, 0, 0, 0, []), (15, .iload_n 2, 16, 2, 0, 0, 0, 0, []), (16, .aload_n 0, 17, 0, 0, 0, 0, 0, []), (17, .getfield 44, 20, 11, 4, 2, 0, 0, []), (20, .invokevirtual 354, 23, 73, 1, 1, 20, 0, []), (23, .iand, 24, 0, 0, 0, 0, 0, []), (24, .istore_n 3, 25, 3, 0, 0, 0, 0, []), (25, .iconst 0, 26, 0, 0, 0, 0, 0, []), (26, .istore 4, 28, 4, 0, 0, 0, 0, []), (28, .iconst 0, 29, 0, 0, 0, 0, 0, []), (29, .istore 5, 31, 5, 0, 0, 0, 0, []), (31, .iload 5, 33, 5, 0, 0, 0, 0, []), (33, .bipush 9, 35, 0, 0, 0, 0, 9, []), (35, .if_icmp .ge 44, 38, 79, 0, 0, 0, 0, []), (38, .iload_n 3, 39, 3, 0, 0, 0, 0, []), (39, .ifCond .eq 40, 42, 79, 0, 0, 0, 0, []), (42, .aload_n 0, 43, 0, 0, 0, 0, 0, []), (43, .getfield 44, 46, 11, 4, 2, 0, 0, []), (46, .iload_n 3, 47, 3, 0, 0, 0, 0, []), (47, .invokevirtual 252, 50, 76, 2, 1, 20, 0, []), (50, .iload_n 2, 51, 2, 0, 0, 0, 0, []), (51, .iconst (-1), 52, 0, 0, 0, 0, (-1), []), (52, .ixor, 53, 0, 0, 0, 0, 0, []), (53, .iand, 54, 0, 0, 0, 0, 0, []), (54, .istore_n 3, 55, 3, 0, 0, 0, 0, []), (55, .iload_n 2, 56, 2, 0, 0, 0, 0, []), (56, .iload_n 3, 57, 3, 0, 0, 0, 0, []), (57, .ior, 58, 0, 0, 0, 0, 0, []), (58, .istore_n 2, 59, 2, 0, 0, 0, 0, []), (59, .iload 4, 61, 4, 0, 0, 0, 0, []), (61, .iload_n 3, 62, 3, 0, 0, 0, 0, []), (62, .ifCond .eq 7, 65, 69, 0, 0, 0, 0, []), (65, .iconst 1, 66, 0, 0, 0, 0, 1, []), (66, .goto 4, 69, 70, 0, 0, 0, 0, []), (69, .iconst 0, 70, 0, 0, 0, 0, 0, []), (70, .iadd, 71, 0, 0, 0, 0, 0, []), (71, .istore 4, 73, 4, 0, 0, 0, 0, []), (73, .iinc 5 1, 76, 5, 0, 0, 0, 1, []), (76, .goto (-45), 79, 31, 0, 0, 0, 0, []), (79, .aload_n 0, 80, 0, 0, 0, 0, 0, []), (80, .iload 4, 82, 4, 0, 0, 0, 0, []), (82, .invokevirtual 255, 85, 138, 2, 1, 23, 0, []), (85, .iload_n 2, 86, 2, 0, 0, 0, 0, []), (86, .iload_n 1, 87, 1, 0, 0, 0, 0, []), (87, .invokestatic 240, 90, 131, 1, 0, 22, 0, []), (90, .iconst (-1), 91, 0, 0, 0, 0, (-1), []), (91, .ixor, 92, 0, 0, 0, 0, 0, []), (92, .iand, 93, 0, 0, 0, 0, 0, []), (93, .ireturn, 94, 0, 0, 0, 0, 0, [])]
def zc_109 : List zE := [(0, .aload_n 0, 1, 0, 0, 0, 0, 0, []), (1, .iload_n 1, 2, 1, 0, 0, 0, 0, []), (2, .invokevirtual 360, 5, 135, 2, 1, 22, 0, []), (5, .ifCond .eq 11, 8, 16, 0, 0, 0, 0, []), (8, .aload_n 0, 9, 0, 0, 0, 0, 0, []), (9, .iload_n 2, 10, 2, 0, 0, 0, 0, []), (10, .invokevirtual 360, 13, 135, 2, 1, 22, 0, []), (13, .ifCond .ne 5, 16, 18, 0, 0, 0, 0, []), (16, .iconst (-1), 17, 0, 0, 0, 0, (-1), []), (17, .ireturn, 18, 0, 0, 0, 0, 0, []), (18, .aload_n 0, 19, 0, 0, 0, 0, 0, []), (19, .iload_n 2, 20, 2, 0, 0, 0, 0, []), (20, .invokevirtual 363, 23, 161, 2, 1, 23, 0, []), (23, .aload_n 0, 24, 0, 0, 0, 0, 0, []), (24, .getfield 89, 27, 11, 16, 2, 0, 0, []), (27, .iload_n 1, 28, 1, 0, 0, 0, 0, []), (28, .iaload, 29, 0, 0, 0, 0, 0, []), (29, .istore_n 3, 30, 3, 0, 0, 0, 0, []), (30, .iload_n 3, 31, 3, 0, 0, 0, 0, []), (31, .iconst (-1), 32, 0, 0, 0, 0, (-1), []), (32, .if_icmp .ne 6, 35, 38, 0, 0, 0, 0, []), (35, .bipush (-2), 37, 0, 0, 0, 0, (-2), []), (37, .ireturn, 38, 0, 0, 0, 0, 0, []), (38, .aload_n 0, 39, 0, 0, 0, 0, 0, []), (39, .iconst 0, 40, 0, 0, 0, 0, 0, []), (40, .putfield 333, 43, 11, 12, 0, 0, 0, []), (43, .iload_n 1, 44, 1, 0, 0, 0, 0, []), (44, .istore 4, 46, 4, 0, 0, 0, 0, []), (46, .iconst 0, 47, 0, 0, 0, 0, 0, []), (47, .istore 5, 49, 5, 0, 0, 0, 0, []), (49, .iload 5, 51, 5, 0, 0, 0, 0, []), (51, .bipush 9, 53, 0, 0, 0, 0, 9, []), (53, .if_icmp .ge 50, 56, 103, 0, 0, 0, 0, []), (56, .iload 4, 58, 4, 0, 0, 0, 0, []), (58, .iload_n 2, 59, 2, 0, 0, 0, 0, []), (59, .if_icmp .eq 44, 62, 103, 0, 0, 0, 0, []), (62, .iload 4, 64, 4, 0, 0, 0, 0, []), (64, .iconst (-1), 65, 0, 0, 0, 0, (-1), []), (65, .if_icmp .eq 38, 68, 103, 0, 0, 0, 0, []), (68, .aload_n 0, 69, 0, 0, 0, 0, 0, []), (69, .iload 4, 71, 4, 0, 0, 0, 0, []), (71, .invokevirtual 366, 74, 163, 2, 1, 22, 0, []), (74, .istore 4, 76, 4, 0, 0, 0, 0, []), (76, .aload_n 0, 77, 0, 0, 0, 0, 0, []), (77, .getfield 85, 80, 11, 11, 2, 0, 0, []), (80, .aload_n 0, 81, 0, 0, 0, 0, 0, []), (81, .getfield 333, 84, 11, 12, 0, 0, 0, []), (84, .iload 4, 86, 4, 0, 0, 0, 0, []), (86, .iastore, 87, 0, 0, 0, 0, 0, []), (87, .aload_n 0, 88, 0, 0, 0, 0, 0, []), (88, .dup, 89, 0, 0, 0, 0, 0, []), (89, .getfield 333, 92, 11, 12, 0, 0, 0, []), (92, .iconst 1, 93, 0, 0, 0, 0, 1, []), (93, .iadd, 94, 0, 0, 0, 0, 0, []), (94, .putfield 333, 97, 11, 12, 0, 0, 0, []), (97, .iinc 5 1, 100, 5, 0, 0, 0, 1, []), (100, .goto (-51), 103, 49, 0, 0, 0, 0, []), (103, .iload_n 3, 104, 3, 0, 0, 0, 0, []), (104, .ireturn, 105, 0, 0, 0, 0, 0, [])]
def zc_110 : List zE := [(0, .aload_n 0, 1, 0, 0, 0, 0, 0, []), (1, .getfield 44, 4, 11, 4, 2, 0, 0, []), (4, .invokevirtual 210, 7, 72, 1, 1, 20, 0, []), (7, .istore_n 1, 8, 1, 0, 0, 0, 0, []), (8, .iconst 0, 9, 0, 0, 0, 0, 0, []), (9, .istore_n 2, 10, 2, 0, 0, 0, 0, []), (10, .iconst 0, 11, 0, 0, 0, 0, 0, []), (11, .istore_n 3, 12, 3, 0, 0, 0, 0, []), (12, .iload_n 3, 13, 3, 0, 0, 0, 0, []), (13, .sipush 512, 16, 0, 0, 0, 0, 512, []), (16, .if_icmp .ge 42, 19, 58, 0, 0, 0, 0, []), (19, .iload_n 2, 20, 2, 0, 0, 0, 0, []), (20, .iconst (-1), 21, 0, 0, 0, 0, (-1), []), (21, .if_icmp .eq 37, 24, 58, 0, 0, 0, 0, []), (24, .aload_n 0, 25, 0, 0, 0, 0, 0, []), (25, .getfield 44, 28, 11, 4, 2, 0, 0, []), (28, .iload_n 2, 29, 2, 0, 0, 0, 0, []), (29, .invokevirtual 216, 32, 75, 2, 1, 20, 0, []), (32, .iload_n 1, 33, 1, 0, 0, 0, 0, []), (33, .if_icmp .ne 13, 36, 46, 0, 0, 0, 0, []), (36, .aload_n 0, 37, 0, 0, 0, 0, 0, []), (37, .iload_n 2, 38, 2, 0, 0, 0, 0, []), (38, .invokevirtual 255, 41, 138, 2, 1, 23, 0, []), (41, .iload_n 2, 42, 2, 0, 0, 0, 0, []), (42, .invokestatic 219, 45, 0, 1, 0, 26, 0, []), (45, .ireturn, 46, 0, 0, 0, 0, 0, []), (46, .iload_n 2, 47, 2, 0, 0, 0, 0, []), (47, .iload_n 1, 48, 1, 0, 0, 0, 0, []), (48, .invokestatic 357, 51, 160, 2, 0, 22, 0, []), (51, .istore_n 2, 52, 2, 0, 0, 0, 0, []), (52, .iinc 3 1, 55, 3, 0, 0, 0, 1, []), (55, .goto (-43), 58, 12, 0, 0, 0, 0, []), (58, .bipush (-2), 60, 0, 0, 0, 0, (-2), []), (60, .ireturn, 61, 0, 0, 0, 0, 0, [])]
def zc_111 : List zE := [(0, .iload_n 1, 1, 1, 0, 0, 0, 0, []), (1, .iconst 1, 2, 0, 0, 0, 0, 1, []), (2, .bipush 9, 4, 0, 0, 0, 0, 9, []), (4, .invokestatic 192, 7, 133, 3, 0, 22, 0, []), (7, .ifCond .eq 14, 10, 21, 0, 0, 0, 0, []), (10, .iload_n 2, 11, 2, 0, 0, 0, 0, []), (11, .iconst 0, 12, 0, 0, 0, 0, 0, []), (12, .sipush 299, 15, 0, 0, 0, 0, 299, []), (15, .invokestatic 192, 18, 133, 3, 0, 22, 0, []), (18, .ifCond .ne 5, 21, 23, 0, 0, 0, 0, []), (21, .iconst (-1), 22, 0, 0, 0, 0, (-1), []), (22, .ireturn, 23, 0, 0, 0, 0, 0, []), (23, .aload_n 0, 24, 0, 0, 0, 0, 0, []), (24, .getfield 44, 27, 11, 4, 2, 0, 0, []), (27, .getfield 116, 30, 10, 3, 0, 0, 0, []), (30, .ifCond .ne 6, 33, 36, 0, 0, 0, 0, []), (33, .bipush (-2), 35, 0, 0, 0, 0, (-2), []), (35, .ireturn, 36, 0, 0, 0, 0, 0, []), (36, .iconst 0, 37, 0, 0, 0, 0, 0, []), (37, .istore_n 3, 38, 3, 0, 0, 0, 0, []), (38, .iconst (-1), 39, 0, 0, 0, 0, (-1), []), (39, .istore 4, 41, 4, 0, 0, 0, 0, []), (41, .iconst 0, 42, 0, 0, 0, 0, 0, []), (42, .istore 5, 44, 5, 0, 0, 0, 0, []), (44, .iload 5, 46, 5, 0, 0, 0, 0, []), (46, .aload_n 0, 47, 0, 0, 0, 0, 0, []), (47, .getfield 44, 50, 11, 4, 2, 0, 0, []), (50, .getfield 116, 53, 10, 3, 0, 0, 0, []), (53, .if_icmp .ge 54, 56, 107, 0, 0, 0, 0, []), (56, .aload_n 0, 57, 0, 0, 0, 0, 0, []), (57, .iload 5, 59, 5, 0, 0, 0, 0, []), (59, .iload_n 1, 60, 1, 0, 0, 0, 0, []), (60, .invokevirtual 369, 63, 153, 3, 1, 22, 0, []), (63, .istore 6, 65, 6, 0, 0, 0, 0, []), (65, .iload 6, 67, 6, 0, 0, 0, 0, []), (67, .iconst (-1), 68, 0, 0, 0, 0, (-1), []), (68, .if_icmp .eq 33, 71, 101, 0, 0, 0, 0, []), (71, .iload 4, 73, 4, 0, 0, 0, 0, []), (73, .iconst (-1), 74, 0, 0, 0, 0, (-1), []), (74, .if_icmp .eq 20, 77, 94, 0, 0, 0, 0, []), (77, .iload 6, 79, 6, 0, 0, 0, 0, []), (79, .iload_n 2, 80, 2, 0, 0, 0, 0, []), (80, .isub, 81, 0, 0, 0, 0, 0, []), (81, .invokestatic 372, 84, 2, 1, 0, 28, 0, []), (84, .iload 4, 86, 4, 0, 0, 0, 0, []), (86, .iload_n 2, 87, 2, 0, 0, 0, 0, []), (87, .isub, 88, 0, 0, 0, 0, 0, []), (88, .invokestatic 372, 91, 2, 1, 0, 28, 0, []), (91, .if_icmp .ge 10, 94, 101, 0, 0, 0, 0, []), (94, .iload 5, 96, 5, 0, 0, 0, 0, []), (96, .istore_n 3, 97, 3, 0, 0, 0, 0, []), (97, .iload 6, 99, 6, 0, 0, 0, 0, []), (99, .istore 4, 101, 4, 0, 0, 0, 0, []), (101, .iinc 5 1, 104, 5, 0, 0, 0, 1, []), (104, .goto (-60), 107, 44, 0, 0, 0, 0, []), (107, .aload_n 0, 108, 0, 0, 0, 0, 0, []), (108, .iload 4, 110, 4, 0, 0, 0, 0, []), (110, .invokevirtual 255, 113, 138, 2, 1, 23, 0, []), (113, .iload_n 3, 114, 3, 0, 0, 0, 0, []), (114, .ireturn, 115, 0, 0, 0, 0, 0, [])]
def zc_112 : List zE := [(0, .iconst (-1), 1, 0, 0, 0, 0, (-1), []), (1, .istore_n 1, 2, 1, 0, 0, 0, 0, []), (2, .iconst (-1), 3, 0, 0, 0, 0, (-1), []), (3, .istore_n 2, 4, 2, 0, 0, 0, 0, []), (4, .iconst 0, 5, 0, 0, 0, 0, 0, []), (5, .istore_n 3, 6, 3, 0, 0, 0, 0, []), (6, .iload_n 3, 7, 3, 0, 0, 0, 0, []), (7, .aload_n 0, 8, 0, 0, 0, 0, 0, []), (8, .getfield 44, 11, 11, 4, 2, 0, 0, []), (11, .getfield 116, 14, 10, 3, 0, 0, 0, []), (14, .if_icmp .ge 82, 17, 96, 0, 0, 0, 0, []), (17, .aload_n 0, 18, 0, 0, 0, 0, 0, []), (18, .iload_n 3, 19, 3, 0, 0, 0, 0, []), (19, .invokevirtual 224, 22, 136, 2, 1, 22, 0, []), (22, .ifCond .eq 68, 25, 90, 0, 0, 0, 0, []), (25, .aload_n 0, 26, 0, 0, 0, 0, 0, []), (26, .getfield 48, 29, 11, 5, 2, 0, 0, []), (29, .aload_n 0, 30, 0, 0, 0, 0, 0, []), (30, .getfield 44, 33, 11, 4, 2, 0, 0, []), (33, .invokevirtual 237, 36, 71, 2, 1, 21, 0, []), (36, .aload_n 0, 37, 0, 0, 0, 0, 0, []), (37, .getfield 48, 40, 11, 5, 2, 0, 0, []), (40, .getfield 155, 43, 10, 2, 2, 0, 0, []), (43, .iload_n 3, 44, 3, 0, 0, 0, 0, []), (44, .aload_n 0, 45, 0, 0, 0, 0, 0, []), (45, .getfield 48, 48, 11, 5, 2, 0, 0, []), (48, .getfield 155, 51, 10, 2, 2, 0, 0, []), (51, .getfield 176, 54, 4, 6, 0, 0, 0, []), (54, .iconst (-1), 55, 0, 0, 0, 0, (-1), []), (55, .iconst 1, 56, 0, 0, 0, 0, 1, []), (56, .invokevirtual 230, 59, 27, 5, 1, 9, 0, []), (59, .aload_n 0, 60, 0, 0, 0, 0, 0, []), (60, .sipush 300, 63, 0, 0, 0, 0, 300, []), (63, .invokevirtual 321, 66, 150, 2, 1, 22, 0, []), (66, .istore 4, 68, 4, 0, 0, 0, 0, []), (68, .iload_n 1, 69, 1, 0, 0, 0, 0, []), (69, .iconst (-1), 70, 0, 0, 0, 0, (-1), []), (70, .if_icmp .eq 15, 73, 85, 0, 0, 0, 0, []), (73, .iload 4, 75, 4, 0, 0, 0, 0, []), (75, .invokestatic 377, 78, 152, 1, 0, 22, 0, []), (78, .iload_n 2, 79, 2, 0, 0, 0, 0, []), (79, .invokestatic 377, 82, 152, 1, 0, 22, 0, []), (82, .if_icmp .ge 8, 85, 90, 0, 0, 0, 0, []), (85, .iload_n 3, 86, 3, 0, 0, 0, 0, []), (86, .istore_n 1, 87, 1, 0, 0, 0, 0, []), (87, .iload 4, 89, 4, 0, 0, 0, 0, []), (89, .istore_n 2, 90, 2, 0, 0, 0, 0, []), (90, .iinc 3 1, 93, 3, 0, 0, 0, 1, []), (93, .goto (-87), 96, 6, 0, 0, 0, 0, []), (96, .iload_n 1, 97, 1, 0, 0, 0, 0, []), (97, .iconst (-1), 98, 0, 0, 0, 0, (-1), []), (98, .if_icmp .ne 6, 101, 104, 0, 0, 0, 0, []), (101, .bipush (-2), 103, 0, 0, 0, 0, (-2), []), (103, .ireturn, 104, 0, 0, 0, 0, 0, []), (104, .aload_n 0, 105, 0, 0, 0, 0, 0, []), (105, .iload_n 2, 106, 2, 0, 0, 0, 0, []), (106, .aload_n 0, 107, 0, 0, 0, 0, 0, []), (107, .iconst (-1), 108, 0, 0, 0, 0, (-1), []), (108, .iconst 0, 109, 0, 0, 0, 0, 0, []), (109, .invokevirtual 369, 112, 153, 3, 1, 22, 0, []), (112, .invokevirtual 268, 115, 139, 3, 1, 23, 0, []), (115, .iload_n 1, 116, 1, 0, 0, 0, 0, []), (116, .ireturn, 117, 0, 0, 0, 0, 0, [])]
def zc_113 : List zE := [(0, .aload_n 0, 1, 0, 0, 0, 0, 0, []), (1, .iload_n 1, 2, 1, 0, 0, 0, 0, []), (2, .invokevirtual 145, 5, 134, 2, 1, 22, 0, []), (5, .ifCond .eq 14, 8, 19, 0, 0, 0, 0, []), (8, .iload_n 2, 9, 2, 0, 0, 0, 0, []), (9, .iconst 1, 10, 0, 0, 0, 0, 1, []), (10, .sipush 300, 13, 0, 0, 0, 0, 300, []), (13, .invokestatic 192, 16, 133, 3, 0, 22, 0, []), (16, .ifCond .ne 5, 19, 21, 0, 0, 0, 0, []), (19, .iconst (-1), 20, 0, 0, 0, 0, (-1), []), (20, .ireturn, 21, 0, 0, 0, 0, 0, []), (21, .iconst 0, 22, 0, 0, 0, 0, 0, []), (22, .istore_n 3, 23, 3, 0, 0, 0, 0, []), (23, .iload_n 3, 24, 3, 0, 0, 0, 0, []), (24, .bipush 9, 26, 0, 0, 0, 0, 9, []), (26, .if_icmp .gt 45, 29, 71, 0, 0, 0, 0, []), (29, .aload_n 0, 30, 0, 0, 0, 0, 0, []), (30, .getfield 48, 33, 11, 5, 2, 0, 0, []), (33, .aload_n 0, 34, 0, 0, 0, 0, 0, []), (34, .getfield 44, 37, 11, 4, 2, 0, 0, []), (37, .invokevirtual 237, 40, 71, 2, 1, 21, 0, []), (40, .aload_n 0, 41, 0, 0, 0, 0, 0, []), (41, .getfield 48, 44, 11, 5, 2, 0, 0, []), (44, .getfield 155, 47, 10, 2, 2, 0, 0, []), (47, .iload_n 1, 48, 1, 0, 0, 0, 0, []), (48, .iload_n 3, 49, 3, 0, 0, 0, 0, []), (49, .ineg, 50, 0, 0, 0, 0, 0, []), (50, .invokevirtual 380, 53, 33, 3, 1, 9, 0, []), (53, .aload_n 0, 54, 0, 0, 0, 0, 0, []), (54, .iload_n 1, 55, 1, 0, 0, 0, 0, []), (55, .iload_n 2, 56, 2, 0, 0, 0, 0, []), (56, .invokevirtual 339, 59, 158, 3, 1, 22, 0, []), (59, .iconst (-1), 60, 0, 0, 0, 0, (-1), []), (60, .if_icmp .ne 5, 63, 65, 0, 0, 0, 0, []), (63, .iload_n 3, 64, 3, 0, 0, 0, 0, []), (64, .ireturn, 65, 0, 0, 0, 0, 0, []), (65, .iinc 3 1, 68, 3, 0, 0, 0, 1, []), (68, .goto (-45), 71, 23, 0, 0, 0, 0, []), (71, .bipush (-2), 73, 0, 0, 0, 0, (-2), []), (73, .ireturn, 74, 0, 0, 0, 0, 0, [])]
def zc_114 : List zE := [(0, .iload_n 1, 1, 1, 0, 0, 0, 0, []), (1, .iconst 1, 2, 0, 0, 0, 0, 1, []), (2, .sipush 300, 5, 0, 0, 0, 0, 300, []), (5, .invokestatic 192, 8, 133, 3, 0, 22, 0, []), (8, .ifCond .ne 5, 11, 13, 0, 0, 0, 0, []), (11, .iconst (-1), 12, 0, 0, 0, 0, (-1), []), (12, .ireturn, 13, 0, 0, 0, 0, 0, []), (13, .iconst 0, 14, 0, 0, 0, 0, 0, []), (14, .istore_n 2, 15, 2, 0, 0, 0, 0, []), (15, .iconst 0, 16, 0, 0, 0, 0, 0, []), (16, .istore_n 3, 17, 3, 0, 0, 0, 0, []), (17, .iload_n 3, 18, 3, 0, 0, 0, 0, []), (18, .sipush 512, 21, 0, 0, 0, 0, 512, []), (21, .if_icmp .ge 67, 24, 88, 0, 0, 0, 0, []), (24, .iload_n 2, 25, 2, 0, 0, 0, 0, []), (25, .iconst (-1), 26, 0, 0, 0, 0, (-1), []), (26, .if_icmp .eq 62, 29, 88, 0, 0, 0, 0, []), (29, .aload_n 0, 30, 0, 0, 0, 0, 0, []), (30, .getfield 48, 33, 11, 5, 2, 0, 0, []), (33, .aload_n 0, 34, 0, 0, 0, 0, 0, []), (34, .getfield 44, 37, 11, 4, 2, 0, 0, []), (37, .invokevirtual 237, 40, 71, 2, 1, 21, 0, []), (40, .aload_n 0, 41, 0, 0, 0, 0, 0, []), (41, .getfield 48, 44, 11, 5, 2, 0, 0, []), (44, .getfield 155, 47, 10, 2, 2, 0, 0, []), (47, .iload_n 2, 48, 2, 0, 0, 0, 0, []), (48, .invokevirtual 383, 51, 32, 2, 1, 9, 0, []), (51, .aload_n 0, 52, 0, 0, 0, 0, 0, []), (52, .iload_n 1, 53, 1, 0, 0, 0, 0, []), (53, .invokevirtual 321, 56, 150, 2, 1, 22, 0, []), (56, .iconst (-1), 57, 0, 0, 0, 0, (-1), []), (57, .if_icmp .ne 13, 60, 70, 0, 0, 0, 0, []), (60, .aload_n 0, 61, 0, 0, 0, 0, 0, []), (61, .iload_n 2, 62, 2, 0, 0, 0, 0, []), (62, .invokevirtual 255, 65, 138, 2, 1, 23, 0, []), (65, .iload_n 2, 66, 2, 0, 0, 0, 0, []), (66, .invokestatic 219, 69, 0, 1, 0, 26, 0, []), (69, .ireturn, 70, 0, 0, 0, 0, 0, []), (70, .iload_n 2, 71, 2, 0, 0, 0, 0, []), (71, .aload_n 0, 72, 0, 0, 0, 0, 0, []), (72, .getfield 44, 75, 11, 4, 2, 0, 0, []), (75, .invokevirtual 354, 78, 73, 1, 1, 20, 0, []), (78, .invokestatic 357, 81, 160, 2, 0, 22, 0, []), (81, .istore_n 2, 82, 2, 0, 0, 0, 0, []), (82, .iinc 3 1, 85, 3, 0, 0, 0, 1, []), (85, .goto (-68), 88, 17, 0, 0, 0, 0, []), (88, .iconst (-1), 89, 0, 0, 0, 0, (-1), []), (89, .ireturn, 90, 0, 0, 0, 0, 0, [])]
def zc_115 : List zE := [(0, .aload_n 0, 1, 0, 0, 0, 0, 0, []), (1, .iload_n 1, 2, 1, 0, 0, 0, 0, []), (2, .invokevirtual 145, 5, 134, 2, 1, 22, 0, []), (5, .ifCond .eq 14, 8, 19, 0, 0, 0, 0, []), (8, .iload_n 2, 9, 2, 0, 0, 0, 0, []), (9, .iconst 1, 10, 0, 0, 0, 0, 1, []), (10, .sipush 300, 13, 0, 0, 0, 0, 300, []), (13, .invokestatic 192, 16, 133, 3, 0, 22, 0, []), (16, .ifCond .ne 6, 19, 22, 0, 0, 0, 0, []), (19, .bipush (-2), 21, 0, 0, 0, 0, (-2), []), (21, .ireturn, 22, 0, 0, 0, 0, 0, []), (22, .iconst (-1), 23, 0, 0, 0, 0, (-1), []), (23, .istore_n 3, 24, 3, 0, 0, 0, 0, []), (24, .aload_n 0, 25, 0, 0, 0, 0, 0, []), (25, .iload_n 1, 26, 1, 0, 0, 0, 0, []), (26, .iconst (-1), 27, 0, 0, 0, 0, (-1), []), (27, .iload_n 2, 28, 2, 0, 0, 0, 0, []), (28, .invokevirtual 386, 31, 164, 4, 1, 22, 0, []), (31, .istore 4, 33, 4, 0, 0, 0, 0, []), (33, .iconst 0, 34, 0, 0, 0, 0, 0, []), (34, .istore 5, 36, 5, 0, 0, 0, 0, []), (36, .iload 5, 38, 5, 0, 0, 0, 0, []), (38, .aload_n 0, 39, 0, 0, 0, 0, 0, []), (39, .getfield 44, 42, 11, 4, 2, 0, 0, []), (42, .getfield 116, 45, 10, 3, 0, 0, 0, []), (45, .if_icmp .ge 43, 48, 88, 0, 0, 0, 0, []), (48, .iload 5, 50, 5, 0, 0, 0, 0, []), (50, .iload_n 1, 51, 1, 0, 0, 0, 0, []), (51, .if_icmp .ne 7, 54, 58, 0, 0, 0, 0, []), (54, .iconst 0, 55, 0, 0, 0, 0, 0, []), (55, .goto 11, 58, 66, 0, 0, 0, 0, []), (58, .aload_n 0, 59, 0, 0, 0, 0, 0, []), (59, .iload_n 1, 60, 1, 0, 0, 0, 0, []), (60, .iload 5, 62, 5, 0, 0, 0, 0, []), (62, .iload_n 2, 63, 2, 0, 0, 0, 0, []), (63, .invokevirtual 386, 66, 164, 4, 1, 22, 0, []), (66, .istore 6, 68, 6, 0, 0, 0, 0, []), (68, .iload 6, 70, 6, 0, 0, 0, 0, []), (70, .iload 4, 72, 4, 0, 0, 0, 0, []), (72, .if_icmp .le 10, 75, 82, 0, 0, 0, 0, []), (75, .iload 5, 77, 5, 0, 0, 0, 0, []), (77, .istore_n 3, 78, 3, 0, 0, 0, 0, []), (78, .iload 6, 80, 6, 0, 0, 0, 0, []), (80, .istore 4, 82, 4, 0, 0, 0, 0, []), (82, .iinc 5 1, 85, 5, 0, 0, 0, 1, []), (85, .goto (-49), 88, 36, 0, 0, 0, 0, []), (88, .aload_n 0, 89, 0, 0, 0, 0, 0, []), (89, .iload 4, 91, 4, 0, 0, 0, 0, []), (91, .invokevirtual 255, 94, 138, 2, 1, 23, 0, []), (94, .iload_n 3, 95, 3, 0, 0, 0, 0, []), (95, .ireturn, 96, 0, 0, 0, 0, 0, [])]
def zc_116 : List zE := [(0, .iload_n 1, 1, 1, 0, 0, 0, 0, []), (1, .iconst 0, 2, 0, 0, 0, 0, 0, []), (2, .bipush 20, 4, 0, 0, 0, 0, 20, []), (4, .invokestatic 192, 7, 133, 3, 0, 22, 0, []), (7, .ifCond .ne 5, 10, 12, 0, 0, 0, 0, []), (10, .iconst (-1), 11, 0, 0, 0, 0, (-1), []), (11, .ireturn, 12, 0, 0, 0, 0, 0, []), (12, .iconst (-1), 13, 0, 0, 0, 0, (-1), []), (13, .istore_n 2, 14, 2, 0, 0, 0, 0, []), (14, .iconst (-1), 15, 0, 0, 0, 0, (-1), []), (15, .istore_n 3, 16, 3, 0, 0, 0, 0, []), (16, .iconst 0, 17, 0, 0, 0, 0, 0, []), (17, .istore 4, 19, 4, 0, 0, 0, 0, []), (19, .iconst 0, 20, 0, 0, 0, 0, 0, []), (20, .istore 5, 22, 5, 0, 0, 0, 0, []), (22, .iload 4, 24, 4, 0, 0, 0, 0, []), (24, .iload_n 1, 25, 1, 0, 0, 0, 0, []), (25, .if_icmp .ge 81, 28, 106, 0, 0, 0, 0, []), (28, .iload 5, 30, 5, 0, 0, 0, 0, []), (30, .iconst 2, 31, 0, 0, 0, 0, 2, []), (31, .if_icmp .ge 75, 34, 106, 0, 0, 0, 0, []), (34, .iload 4, 36, 4, 0, 0, 0, 0, []), (36, .iconst 2, 37, 0, 0, 0, 0, 2, []), (37, .irem, 38, 0, 0, 0, 0, 0, []), (38, .istore 6, 40, 6, 0, 0, 0, 0, []), (40, .aload_n 0, 41, 0, 0, 0, 0, 0, []), (41, .iload 6, 43, 6, 0, 0, 0, 0, []), (43, .iload_n 2, 44, 2, 0, 0, 0, 0, []), (44, .iload_n 3, 45, 3, 0, 0, 0, 0, []), (45, .invokevirtual 389, 48, 166, 4, 1, 22, 0, []), (48, .istore 7, 50, 7, 0, 0, 0, 0, []), (50, .iload 7, 52, 7, 0, 0, 0, 0, []), (52, .iload 6, 54, 6, 0, 0, 0, 0, []), (54, .ifCond .ne 7, 57, 61, 0, 0, 0, 0, []), (57, .iload_n 2, 58, 2, 0, 0, 0, 0, []), (58, .goto 4, 61, 62, 0, 0, 0, 0, []), (61, .iload_n 3, 62, 3, 0, 0, 0, 0, []), (62, .if_icmp .ne 10, 65, 72, 0, 0, 0, 0, []), (65, .iload 5, 67, 5, 0, 0, 0, 0, []), (67, .iconst 1, 68, 0, 0, 0, 0, 1, []), (68, .iadd, 69, 0, 0, 0, 0, 0, []), (69, .goto 4, 72, 73, 0, 0, 0, 0, []), (72, .iconst 0, 73, 0, 0, 0, 0, 0, []), (73, .istore 5, 75, 5, 0, 0, 0, 0, []), (75, .iload 6, 77, 6, 0, 0, 0, 0, []), (77, .ifCond .ne 8, 80, 85, 0, 0, 0, 0, []), (80, .iload 7, 82, 7, 0, 0, 0, 0, []), (82, .goto 4, 85, 86, 0, 0, 0, 0, []), (85, .iload_n 2, 86, 2, 0, 0, 0, 0, []), (86, .istore_n 2, 87, 2, 0, 0, 0, 0, []), (87, .iload 6, 89, 6, 0, 0, 0, 0, []), (89, .iconst 1, 90, 0, 0, 0, 0, 1, []), (90, .if_icmp .ne 8, 93, 98, 0, 0, 0, 0, []), (93, .iload 7, 95, 7, 0, 0, 0, 0, []), (95, .goto 4, 98, 99, 0, 0, 0, 0, []), (98, .iload_n 3, 99, 3, 0, 0, 0, 0, []), (99, .istore_n 3, 100, 3, 0, 0, 0, 0, []), (100, .iinc 4 1, 103, 4, 0, 0, 0, 1, []), (103, .goto (-81), 106, 22, 0, 0, 0, 0, []), (106, .aload_n 0, 107, 0, 0, 0, 0, 0, []), (107, .iload_n 2, 108, 2, 0, 0, 0, 0, []), (108, .iload_n 3, 109, 3, 0, 0, 0, 0, []), (109, .invokevirtual 392, 112, 165, 3, 1, 23, 0, []), (112, .aload_n 0, 113, 0, 0, 0, 0, 0, []), (113, .iload 5, 115, 5, 0, 0, 0, 0, []), (115, .iconst 2, 116, 0, 0, 0, 0, 2, []), (116, .if_icmp .ne 7, 119, 123, 0, 0, 0, 0, []), (119, .iconst 1, 120, 0, 0, 0, 0, 1, []), (120, .goto 4, 123, 124, 0, 0, 0, 0, []), (123, .iconst 0, 124, 0, 0, 0, 0, 0, []), (124, .iload_n 2, 125, 2, 0, 0, 0, 0, []), (125, .iload_n 3, 126, 3, 0, 0, 0, 0, []), (126, .aload_n 0, 127, 0, 0, 0, 0, 0, []), (127, .sipush 300, 130, 0, 0, 0, 0, 300, []), (130, .invokevirtual 321, 133, 150, 2, 1, 22, 0, []), (133, .invokevirtual 395, 136, 140, 5, 1, 23, 0, []), (136, .iload 4, 138, 4, 0, 0, 0, 0, []), (138, .ireturn, 139, 0, 0, 0, 0, 0, [])]
def zc_117 : List zE := [(0, .iload_n 1, 1, 1, 0, 0, 0, 0, []), (1, .iconst 0, 2, 0, 0, 0, 0, 0, []), (2, .sipush 600, 5, 0, 0, 0, 0, 600, []), (5, .invokestatic 192, 8, 133, 3, 0, 22, 0, []), (8, .ifCond .eq 23, 11, 31, 0, 0, 0, 0, []), (11, .iload_n 2, 12, 2, 0, 0, 0, 0, []), (12, .iconst 0, 13, 0, 0, 0, 0, 0, []), (13, .bipush 9, 15, 0, 0, 0, 0, 9, []), (15, .invokestatic 192, 18, 133, 3, 0, 22, 0, []), (18, .ifCond .eq 13, 21, 31, 0, 0, 0, 0, []), (21, .iload_n 3, 22, 3, 0, 0, 0, 0, []), (22, .iconst 0, 23, 0, 0, 0, 0, 0, []), (23, .bipush 99, 25, 0, 0, 0, 0, 99, []), (25, .invokestatic 192, 28, 133, 3, 0, 22, 0, []), (28, .ifCond .ne 5, 31, 33, 0, 0, 0, 0, []), (31, .iconst (-1), 32, 0, 0, 0, 0, (-1), []), (32, .ireturn, 33, 0, 0, 0, 0, 0, []), (33, .aload_n 0, 34, 0, 0, 0, 0, 0, []), (34, .getfield 74, 37, 11, 9, 2, 0, 0, []), (37, .getfield 397, 40, 2, 3, 0, 0, 0, []), (40, .istore 4, 42, 4, 0, 0, 0, 0, []), (42, .aload_n 0, 43, 0, 0, 0, 0, 0, []), (43, .getfield 74, 46, 11, 9, 2, 0, 0, []), (46, .iload_n 1, 47, 1, 0, 0, 0, 0, []), (47, .iload_n 2, 48, 2, 0, 0, 0, 0, []), (48, .iload_n 3, 49, 3, 0, 0, 0, 0, []), (49, .invokevirtual 398, 52, 20, 4, 1, 4, 0, []), (52, .ifCond .eq 8, 55, 60, 0, 0, 0, 0, []), (55, .iload 4, 57, 4, 0, 0, 0, 0, []), (57, .goto 5, 60, 62, 0, 0, 0, 0, []), (60, .bipush (-2), 62, 0, 0, 0, 0, (-2), []), (62, .ireturn, 63, 0, 0, 0, 0, 0, [])]
def zc_118 : List zE := [(0, .aload_n 0, 1, 0, 0, 0, 0, 0, []), (1, .getfield 74, 4, 11, 9, 2, 0, 0, []), (4, .getfield 397, 7, 2, 3, 0, 0, 0, []), (7, .istore_n 1, 8, 1, 0, 0, 0, 0, []), (8, .aload_n 0, 9, 0, 0, 0, 0, 0, []), (9, .getfield 74, 12, 11, 9, 2, 0, 0, []), (12, .iconst 0, 13, 0, 0, 0, 0, 0, []), (13, .putfield 397, 16, 2, 3, 0, 0, 0, []), (16, .iload_n 1, 17, 1, 0, 0, 0, 0, []), (17, .ireturn, 18, 0, 0, 0, 0, 0, [])]
def zc_119 : List zE := [(0, .iload_n 1, 1, 1, 0, 0, 0, 0, []), (1, .iconst 0, 2, 0, 0, 0, 0, 0, []), (2, .aload_n 0, 3, 0, 0, 0, 0, 0, []), (3, .getfield 74, 6, 11, 9, 2, 0, 0, []), (6, .getfield 397, 9, 2, 3, 0, 0, 0, []), (9, .iconst 1, 10, 0, 0, 0, 0, 1, []), (10, .isub, 11, 0, 0, 0, 0, 0, []), (11, .invokestatic 192, 14, 133, 3, 0, 22, 0, []), (14, .ifCond .ne 5, 17, 19, 0, 0, 0, 0, []), (17, .iconst (-1), 18, 0, 0, 0, 0, (-1), []), (18, .ireturn, 19, 0, 0, 0, 0, 0, []), (19, .aload_n 0, 20, 0, 0, 0, 0, 0, []), (20, .iconst (-1), 21, 0, 0, 0, 0, (-1), []), (21, .iconst 0, 22, 0, 0, 0, 0, 0, []), (22, .invokevirtual 369, 25, 153, 3, 1, 22, 0, []), (25, .istore_n 2, 26, 2, 0, 0, 0, 0, []), (26, .iload_n 2, 27, 2, 0, 0, 0, 0, []), (27, .iconst (-1), 28, 0, 0, 0, 0, (-1), []), (28, .if_icmp .ne 6, 31, 34, 0, 0, 0, 0, []), (31, .bipush (-2), 33, 0, 0, 0, 0, (-2), []), (33, .ireturn, 34, 0, 0, 0, 0, 0, []), (34, .aload_n 0, 35, 0, 0, 0, 0, 0, []), (35, .getfield 74, 38, 11, 9, 2, 0, 0, []), (38, .getfield 401, 41, 2, 0, 2, 0, 0, []), (41, .iload_n 1, 42, 1, 0, 0, 0, 0, []), (42, .iaload, 43, 0, 0, 0, 0, 0, []), (43, .istore_n 3, 44, 3, 0, 0, 0, 0, []), (44, .aload_n 0, 45, 0, 0, 0, 0, 0, []), (45, .iload_n 3, 46, 3, 0, 0, 0, 0, []), (46, .iload_n 2, 47, 2, 0, 0, 0, 0, []), (47, .if_icmp .gt 7, 50, 54, 0, 0, 0, 0, []), (50, .iconst 1, 51, 0, 0, 0, 0, 1, []), (51, .goto 4, 54, 55, 0, 0, 0, 0, []), (54, .iconst 0, 55, 0, 0, 0, 0, 0, []), (55, .invokevirtual 255, 58, 138, 2, 1, 23, 0, []), (58, .aload_n 0, 59, 0, 0, 0, 0, 0, []), (59, .getfield 74, 62, 11, 9, 2, 0, 0, []), (62, .iload_n 1, 63, 1, 0, 0, 0, 0, []), (63, .iload_n 3, 64, 3, 0, 0, 0, 0, []), (64, .iload_n 2, 65, 2, 0, 0, 0, 0, []), (65, .invokevirtual 404, 68, 21, 4, 1, 4, 0, []), (68, .ireturn, 69, 0, 0, 0, 0, 0, [])]
def zc_120 : List zE := [(0, .iload_n 1, 1, 1, 0, 0, 0, 0, []), (1, .iconst 0, 2, 0, 0, 0, 0, 0, []), (2, .aload_n 0, 3, 0, 0, 0, 0, 0, []), (3, .getfield 74, 6, 11, 9, 2, 0, 0, []), (6, .getfield 397, 9, 2, 3, 0, 0, 0, []), (9, .iconst 1, 10, 0, 0, 0, 0, 1, []), (10, .isub, 11, 0, 0, 0, 0, 0, []), (11, .invokestatic 192, 14, 133, 3, 0, 22, 0, []), (14, .ifCond .ne 5, 17, 19, 0, 0, 0, 0, []), (17, .iconst (-1), 18, 0, 0, 0, 0, (-1), []), (18, .ireturn, 19, 0, 0, 0, 0, 0, []), (19, .iconst 0, 20, 0, 0, 0, 0, 0, []), (20, .istore_n 2, 21, 2, 0, 0, 0, 0, []), (21, .iconst (-1), 22, 0, 0, 0, 0, (-1), []), (22, .istore_n 3, 23, 3, 0, 0, 0, 0, []), (23, .iload_n 3, 24, 3, 0, 0, 0, 0, []), (24, .aload_n 0, 25, 0, 0, 0, 0, 0, []), (25, .getfield 44, 28, 11, 4, 2, 0, 0, []), (28, .getfield 116, 31, 10, 3, 0, 0, 0, []), (31, .if_icmp .ge 34, 34, 65, 0, 0, 0, 0, []), (34, .aload_n 0, 35, 0, 0, 0, 0, 0, []), (35, .iload_n 3, 36, 3, 0, 0, 0, 0, []), (36, .iconst 3, 37, 0, 0, 0, 0, 3, []), (37, .invokevirtual 369, 40, 153, 3, 1, 22, 0, []), (40, .istore 4, 42, 4, 0, 0, 0, 0, []), (42, .iload 4, 44, 4, 0, 0, 0, 0, []), (44, .iconst (-1), 45, 0, 0, 0, 0, (-1), []), (45, .if_icmp .eq 14, 48, 59, 0, 0, 0, 0, []), (48, .aload_n 0, 49, 0, 0, 0, 0, 0, []), (49, .getfield 89, 52, 11, 16, 2, 0, 0, []), (52, .iload_n 2, 53, 2, 0, 0, 0, 0, []), (53, .iload 4, 55, 4, 0, 0, 0, 0, []), (55, .iastore, 56, 0, 0, 0, 0, 0, []), (56, .iinc 2 1, 59, 2, 0, 0, 0, 1, []), (59, .iinc 3 1, 62, 3, 0, 0, 0, 1, []), (62, .goto (-39), 65, 23, 0, 0, 0, 0, []), (65, .iload_n 2, 66, 2, 0, 0, 0, 0, []), (66, .ifCond .ne 6, 69, 72, 0, 0, 0, 0, []), (69, .bipush (-2), 71, 0, 0, 0, 0, (-2), []), (71, .ireturn, 72, 0, 0, 0, 0, 0, []), (72, .iconst 0, 73, 0, 0, 0, 0, 0, []), (73, .istore_n 3, 74, 3, 0, 0, 0, 0, []), (74, .aload_n 0, 75, 0, 0, 0, 0, 0, []), (75, .iload_n 1, 76, 1, 0, 0, 0, 0, []), (76, .iconst 0, 77, 0, 0, 0, 0, 0, []), (77, .iload_n 2, 78, 2, 0, 0, 0, 0, []), (78, .invokevirtual 407, 81, 167, 4, 1, 22, 0, []), (81, .istore 4, 83, 4, 0, 0, 0, 0, []), (83, .iconst 1, 84, 0, 0, 0, 0, 1, []), (84, .istore 5, 86, 5, 0, 0, 0, 0, []), (86, .iload 5, 88, 5, 0, 0, 0, 0, []), (88, .sipush 300, 91, 0, 0, 0, 0, 300, []), (91, .if_icmp .ge 33, 94, 124, 0, 0, 0, 0, []), (94, .aload_n 0, 95, 0, 0, 0, 0, 0, []), (95, .iload_n 1, 96, 1, 0, 0, 0, 0, []), (96, .iload 5, 98, 5, 0, 0, 0, 0, []), (98, .iload_n 2, 99, 2, 0, 0, 0, 0, []), (99, .invokevirtual 407, 102, 167, 4, 1, 22, 0, []), (102, .istore 6, 104, 6, 0, 0, 0, 0, []), (104, .iload 6, 106, 6, 0, 0, 0, 0, []), (106, .iload 4, 108, 4, 0, 0, 0, 0, []), (108, .if_icmp .ge 10, 111, 118, 0, 0, 0, 0, []), (111, .iload 5, 113, 5, 0, 0, 0, 0, []), (113, .istore_n 3, 114, 3, 0, 0, 0, 0, []), (114, .iload 6, 116, 6, 0, 0, 0, 0, []), (116, .istore 4, 118, 4, 0, 0, 0, 0, []), (118, .iinc 5 1, 121, 5, 0, 0, 0, 1, []), (121, .goto (-35), 124, 86, 0, 0, 0, 0, []), (124, .aload_n 0, 125, 0, 0, 0, 0, 0, []), (125, .iload 4, 127, 4, 0, 0, 0, 0, []), (127, .iload_n 2, 128, 2, 0, 0, 0, 0, []), (128, .invokevirtual 268, 131, 139, 3, 1, 23, 0, []), (131, .iload_n 3, 132, 3, 0, 0, 0, 0, []), (132, .ireturn, 133, 0, 0, 0, 0, 0, [])]
def zc_121 : List zE := [(0, .aload_n 0, 1, 0, 0, 0, 0, 0, []), (1, .iload_n 1, 2, 1, 0, 0, 0, 0, []), (2, .invokevirtual 145, 5, 134, 2, 1, 22, 0, []), (5, .ifCond .eq 25, 8, 30, 0, 0, 0, 0, []), (8, .iload_n 2, 9, 2, 0, 0, 0, 0, []), (9, .iconst 0, 10, 0, 0, 0, 0, 0, []), (10, .bipush 60, 12, 0, 0, 0, 0, 60, []), (12, .invokestatic 192, 15, 133, 3, 0, 22, 0, []), (15, .ifCond .eq 15, 18, 30, 0, 0, 0, 0, []), (18, .aload_n 0, 19, 0, 0, 0, 0, 0, []), (19, .getfield 81, 22, 11, 10, 2, 0, 0, []), (22, .iload_n 1, 23, 1, 0, 0, 0, 0, []), (23, .iload_n 2, 24, 2, 0, 0, 0, 0, []), (24, .invokevirtual 410, 27, 56, 3, 1, 16, 0, []), (27, .ifCond .ne 5, 30, 32, 0, 0, 0, 0, []), (30, .iconst (-1), 31, 0, 0, 0, 0, (-1), []), (31, .ireturn, 32, 0, 0, 0, 0, 0, []), (32, .aload_n 0, 33, 0, 0, 0, 0, 0, []), (33, .getfield 81, 36, 11, 10, 2, 0, 0, []), (36, .getfield 412, 39, 8, 0, 0, 0, 0, []), (39, .ireturn, 40, 0, 0, 0, 0, 0, [])]
def zc_122 : List zE := [(0, .aload_n 0, 1, 0, 0, 0, 0, 0, []), (1, .getfield 81, 4, 11, 10, 2, 0, 0, []), (4, .getfield 412, 7, 8, 0, 0, 0, 0, []), (7, .istore_n 1, 8, 1, 0, 0, 0, 0, []), (8, .aload_n 0, 9, 0, 0, 0, 0, 0, []), (9, .getfield 81, 12, 11, 10, 2, 0, 0, []), (12, .iconst 0, 13, 0, 0, 0, 0, 0, []), (13, .putfield 412, 16, 8, 0, 0, 0, 0, []), (16, .iload_n 1, 17, 1, 0, 0, 0, 0, []), (17, .ireturn, 18, 0, 0, 0, 0, 0, [])]
def zc_123 : List zE := [(0, .iconst 0, 1, 0, 0, 0, 0, 0, []), (1, .istore_n 1, 2, 1, 0, 0, 0, 0, []), (2, .iconst 0, 3, 0, 0, 0, 0, 0, []), (3, .istore_n 2, 4, 2, 0, 0, 0, 0, []), (4, .iload_n 2, 5, 2, 0, 0, 0, 0, []), (5, .aload_n 0, 6, 0, 0, 0, 0, 0, []), (6, .getfield 44, 9, 11, 4, 2, 0, 0, []), (9, .getfield 116, 12, 10, 3, 0, 0, 0, []), (12, .if_icmp .ge 35, 15, 47, 0, 0, 0, 0, []), (15, .aload_n 0, 16, 0, 0, 0, 0, 0, []), (16, .iload_n 2, 17, 2, 0, 0, 0, 0, []), (17, .invokevirtual 224, 20, 136, 2, 1, 22, 0, []), (20, .ifCond .eq 21, 23, 41, 0, 0, 0, 0, []), (23, .aload_n 0, 24, 0, 0, 0, 0, 0, []), (24, .iload_n 2, 25, 2, 0, 0, 0, 0, []), (25, .invokestatic 240, 28, 131, 1, 0, 22, 0, []), (28, .invokevirtual 413, 31, 168, 2, 1, 22, 0, []), (31, .ifCond .eq 10, 34, 41, 0, 0, 0, 0, []), (34, .iload_n 1, 35, 1, 0, 0, 0, 0, []), (35, .iload_n 2, 36, 2, 0, 0, 0, 0, []), (36, .invokestatic 240, 39, 131, 1, 0, 22, 0, []), (39, .ior, 40, 0, 0, 0, 0, 0, []), (40, .istore_n 1, 41, 1, 0, 0, 0, 0, []), (41, .iinc 2 1, 44, 2, 0, 0, 0, 1, []), (44, .goto (-40), 47, 4, 0, 0, 0, 0, []), (47, .aload_n 0, 48, 0, 0, 0, 0, 0, []), (48, .aload_n 0, 49, 0, 0, 0, 0, 0, []), (49, .iconst 0, 50, 0, 0, 0, 0, 0, []), (50, .invokevirtual 413, 53, 168, 2, 1, 22, 0, []), (53, .ifCond .eq 7, 56, 60, 0, 0, 0, 0, []), (56, .iconst 1, 57, 0, 0, 0, 0, 1, []), (57, .goto 4, 60, 61, 0, 0, 0, 0, []), (60, .iconst 0, 61, 0, 0, 0, 0, 0, []), (61, .invokevirtual 255, 64, 138, 2, 1, 23, 0, []), (64, .iload_n 1, 65, 1, 0, 0, 0, 0, []), (65, .ireturn, 66, 0, 0, 0, 0, 0, [])]
def zc_124 : List zE := [(0, .aload_n 0, 1, 0, 0, 0, 0, 0, []), (1, .iload_n 1, 2, 1, 0, 0, 0, 0, []), (2, .invokevirtual 145, 5, 134, 2, 1, 22, 0, []), (5, .ifCond .ne 5, 8, 10, 0, 0, 0, 0, []), (8, .iconst (-1), 9, 0, 0, 0, 0, (-1), []), (9, .ireturn, 10, 0, 0, 0, 0, 0, []), (10, .iconst 0, 11, 0, 0, 0, 0, 0, []), (11, .istore_n 2, 12, 2, 0, 0, 0, 0, []), (12, .iconst 1, 13, 0, 0, 0, 0, 1, []), (13, .istore_n 3, 14, 3, 0, 0, 0, 0, []), (14, .iload_n 3, 15, 3, 0, 0, 0, 0, []), (15, .bipush 9, 17, 0, 0, 0, 0, 9, []), (17, .if_icmp .gt 51, 20, 68, 0, 0, 0, 0, []), (20, .aload_n 0, 21, 0, 0, 0, 0, 0, []), (21, .getfield 48, 24, 11, 5, 2, 0, 0, []), (24, .aload_n 0, 25, 0, 0, 0, 0, 0, []), (25, .getfield 44, 28, 11, 4, 2, 0, 0, []), (28, .invokevirtual 237, 31, 71, 2, 1, 21, 0, []), (31, .aload_n 0, 32, 0, 0, 0, 0, 0, []), (32, .getfield 48, 35, 11, 5, 2, 0, 0, []), (35, .getfield 167, 38, 10, 0, 2, 0, 0, []), (38, .iload_n 1, 39, 1, 0, 0, 0, 0, []), (39, .iload_n 3, 40, 3, 0, 0, 0, 0, []), (40, .iastore, 41, 0, 0, 0, 0, 0, []), (41, .aload_n 0, 42, 0, 0, 0, 0, 0, []), (42, .getfield 81, 45, 11, 10, 2, 0, 0, []), (45, .aload_n 0, 46, 0, 0, 0, 0, 0, []), (46, .getfield 48, 49, 11, 5, 2, 0, 0, []), (49, .invokevirtual 416, 52, 57, 2, 1, 16, 0, []), (52, .ifCond .eq 10, 55, 62, 0, 0, 0, 0, []), (55, .iload_n 2, 56, 2, 0, 0, 0, 0, []), (56, .iload_n 3, 57, 3, 0, 0, 0, 0, []), (57, .invokestatic 240, 60, 131, 1, 0, 22, 0, []), (60, .ior, 61, 0, 0, 0, 0, 0, []), (61, .istore_n 2, 62, 2, 0, 0, 0, 0, []), (62, .iinc 3 1, 65, 3, 0, 0, 0, 1, []), (65, .goto (-51), 68, 14, 0, 0, 0, 0, []), (68, .iload_n 2, 69, 2, 0, 0, 0, 0, []), (69, .ireturn, 70, 0, 0, 0, 0, 0, [])]
def zc_125 : List zE := [(0, .aload_n 0, 1, 0, 0, 0, 0, 0, []), (1, .getfield 44, 4, 11, 4, 2, 0, 0, []), (4, .invokevirtual 354, 7, 73, 1, 1, 20, 0, []), (7, .aload_n 0, 8, 0, 0, 0, 0, 0, []), (8, .getfield 44, 11, 11, 4, 2, 0, 0, []), (11, .getfield 155, 14, 10, 2, 2, 0, 0, []), (14, .invokevirtual 420, 17, 30, 1, 1, 8, 0, []), (17, .iconst (-1), 18, 0, 0, 0, 0, (-1), []), (18, .ixor, 19, 0, 0, 0, 0, 0, []), (19, .iand, 20, 0, 0, 0, 0, 0, []), (20, .istore_n 1, 21, 1, 0, 0, 0, 0, []), (21, .iconst 0, 22, 0, 0, 0, 0, 0, []), (22, .istore_n 2, 23, 2, 0, 0, 0, 0, []), (23, .iconst 0, 24, 0, 0, 0, 0, 0, []), (24, .istore_n 3, 25, 3, 0, 0, 0, 0, []), (25, .iload_n 3, 26, 3, 0, 0, 0, 0, []), (26, .sipush 512, 29, 0, 0, 0, 0, 512, []), (29, .if_icmp .ge 38, 32, 67, 0, 0, 0, 0, []), (32, .iload_n 2, 33, 2, 0, 0, 0, 0, []), (33, .iconst (-1), 34, 0, 0, 0, 0, (-1), []), (34, .if_icmp .eq 33, 37, 67, 0, 0, 0, 0, []), (37, .aload_n 0, 38, 0, 0, 0, 0, 0, []), (38, .iload_n 2, 39, 2, 0, 0, 0, 0, []), (39, .invokevirtual 413, 42, 168, 2, 1, 22, 0, []), (42, .ifCond .eq 13, 45, 55, 0, 0, 0, 0, []), (45, .aload_n 0, 46, 0, 0, 0, 0, 0, []), (46, .iload_n 2, 47, 2, 0, 0, 0, 0, []), (47, .invokevirtual 255, 50, 138, 2, 1, 23, 0, []), (50, .iload_n 2, 51, 2, 0, 0, 0, 0, []), (51, .invokestatic 219, 54, 0, 1, 0, 26, 0, []), (54, .ireturn, 55, 0, 0, 0, 0, 0, []), (55, .iload_n 2, 56, 2, 0, 0, 0, 0, []), (56, .iload_n 1, 57, 1, 0, 0, 0, 0, []), (57, .invokestatic 357, 60, 160, 2, 0, 22, 0, []), (60, .istore_n 2, 61, 2, 0, 0, 0, 0, []), (61, .iinc 3 1, 64, 3, 0, 0, 0, 1, []), (64, .goto (-39), 67, 25, 0, 0, 0, 0, []), (67, .bipush (-2), 69, 0, 0, 0, 0, (-2), []), (69, .ireturn, 70, 0, 0, 0, 0, 0, [])]
def zc_126 : List zE := [(0, .iload_n 2, 1, 2, 0, 0, 0, 0, []), (1, .iconst 1, 2, 0, 0, 0, 0, 1, []), (2, .bipush 20, 4, 0, 0, 0, 0, 20, []), (4, .invokestatic 192, 7, 133, 3, 0, 22, 0, []), (7, .ifCond .ne 5, 10, 12, 0, 0, 0, 0, []), (10, .iconst (-1), 11, 0, 0, 0, 0, (-1), []), (11, .ireturn, 12, 0, 0, 0, 0, 0, []), (12, .aload_n 0, 13, 0, 0, 0, 0, 0, []), (13, .getfield 89, 16, 11, 16, 2, 0, 0, []), (16, .iconst 0, 17, 0, 0, 0, 0, 0, []), (17, .invokestatic 423, 20, 5, 2, 0, 31, 0, []), (20, .iload_n 1, 21, 1, 0, 0, 0, 0, []), (21, .istore_n 3, 22, 3, 0, 0, 0, 0, []), (22, .iconst 0, 23, 0, 0, 0, 0, 0, []), (23, .istore 4, 25, 4, 0, 0, 0, 0, []), (25, .iconst (-1), 26, 0, 0, 0, 0, (-1), []), (26, .istore 5, 28, 5, 0, 0, 0, 0, []), (28, .iconst (-1), 29, 0, 0, 0, 0, (-1), []), (29, .istore 6, 31, 6, 0, 0, 0, 0, []), (31, .iconst 0, 32, 0, 0, 0, 0, 0, []), (32, .istore 7, 34, 7, 0, 0, 0, 0, []), (34, .iload 7, 36, 7, 0, 0, 0, 0, []), (36, .iload_n 2, 37, 2, 0, 0, 0, 0, []), (37, .if_icmp .ge 142, 40, 179, 0, 0, 0, 0, []), (40, .aload_n 0, 41, 0, 0, 0, 0, 0, []), (41, .getfield 48, 44, 11, 5, 2, 0, 0, []), (44, .aload_n 0, 45, 0, 0, 0, 0, 0, []), (45, .getfield 44, 48, 11, 4, 2, 0, 0, []), (48, .invokevirtual 237, 51, 71, 2, 1, 21, 0, []), (51, .iconst 0, 52, 0, 0, 0, 0, 0, []), (52, .istore 8, 54, 8, 0, 0, 0, 0, []), (54, .iload 8, 56, 8, 0, 0, 0, 0, []), (56, .aload_n 0, 57, 0, 0, 0, 0, 0, []), (57, .getfield 44, 60, 11, 4, 2, 0, 0, []), (60, .getfield 116, 63, 10, 3, 0, 0, 0, []), (63, .if_icmp .ge 39, 66, 102, 0, 0, 0, 0, []), (66, .iload_n 3, 67, 3, 0, 0, 0, 0, []), (67, .ldc_w 428, 70, 0, 0, 0, 0, 1103515245, []), (70, .imul, 71, 0, 0, 0, 0, 0, []), (71, .sipush 12345, 74, 0, 0, 0, 0, 12345, []), (74, .iadd, 75, 0, 0, 0, 0, 0, []), (75, .istore_n 3, 76, 3, 0, 0, 0, 0, []), (76, .aload_n 0, 77, 0, 0, 0, 0, 0, []), (77, .getfield 48, 80, 11, 5, 2, 0, 0, []), (80, .getfield 155, 83, 10, 2, 2, 0, 0, []), (83, .getfield 164, 86, 4, 0, 2, 0, 0, []), (86, .iload 8, 88, 8, 0, 0, 0, 0, []), (88, .iload_n 3, 89, 3, 0, 0, 0, 0, []), (89, .bipush 16, 91, 0, 0, 0, 0, 16, []), (91, .iushr, 92, 0, 0, 0, 0, 0, []), (92, .bipush 10, 94, 0, 0, 0, 0, 10, []), (94, .irem, 95, 0, 0, 0, 0, 0, []), (95, .iastore, 96, 0, 0, 0, 0, 0, []), (96, .iinc 8 1, 99, 8, 0, 0, 0, 1, []), (99, .goto (-45), 102, 54, 0, 0, 0, 0, []), (102, .aload_n 0, 103, 0, 0, 0, 0, 0, []), (103, .sipush 300, 106, 0, 0, 0, 0, 300, []), (106, .invokevirtual 321, 109, 150, 2, 1, 22, 0, []), (109, .istore 8, 111, 8, 0, 0, 0, 0, []), (111, .iload 8, 113, 8, 0, 0, 0, 0, []), (113, .iconst (-1), 114, 0, 0, 0, 0, (-1), []), (114, .if_icmp .eq 59, 117, 173, 0, 0, 0, 0, []), (117, .aload_n 0, 118, 0, 0, 0, 0, 0, []), (118, .aload_n 0, 119, 0, 0, 0, 0, 0, []), (119, .getfield 324, 122, 11, 14, 0, 0, 0, []), (122, .invokevirtual 145, 125, 134, 2, 1, 22, 0, []), (125, .ifCond .eq 48, 128, 173, 0, 0, 0, 0, []), (128, .iinc 4 1, 131, 4, 0, 0, 0, 1, []), (131, .aload_n 0, 132, 0, 0, 0, 0, 0, []), (132, .getfield 89, 135, 11, 16, 2, 0, 0, []), (135, .aload_n 0, 136, 0, 0, 0, 0, 0, []), (136, .getfield 324, 139, 11, 14, 0, 0, 0, []), (139, .dup2, 140, 0, 0, 0, 0, 0, []), (140, .iaload, 141, 0, 0, 0, 0, 0, []), (141, .iconst 1, 142, 0, 0, 0, 0, 1, []), (142, .iadd, 143, 0, 0, 0, 0, 0, []), (143, .iastore, 144, 0, 0, 0, 0, 0, []), (144, .iload 5, 146, 5, 0, 0, 0, 0, []), (146, .iconst (-1), 147, 0, 0, 0, 0, (-1), []), (147, .if_icmp .ne 8, 150, 155, 0, 0, 0, 0, []), (150, .iload 8, 152, 8, 0, 0, 0, 0, []), (152, .goto 10, 155, 162, 0, 0, 0, 0, []), (155, .iload 5, 157, 5, 0, 0, 0, 0, []), (157, .iload 8, 159, 8, 0, 0, 0, 0, []), (159, .invokestatic 429, 162, 4, 2, 0, 28, 0, []), (162, .istore 5, 164, 5, 0, 0, 0, 0, []), (164, .iload 6, 166, 6, 0, 0, 0, 0, []), (166, .iload 8, 168, 8, 0, 0, 0, 0, []), (168, .invokestatic 432, 171, 3, 2, 0, 28, 0, []), (171, .istore 6, 173, 6, 0, 0, 0, 0, []), (173, .iinc 7 1, 176, 7, 0, 0, 0, 1, []), (176, .goto (-142), 179, 34, 0, 0, 0, 0, []), (179, .aload_n 0, 180, 0, 0, 0, 0, 0, []), (180, .invokevirtual 336, 183, 155, 1, 1, 22, 0, []), (183, .istore 7, 185, 7, 0, 0, 0, 0, []), (185, .aload_n 0, 186, 0, 0, 0, 0, 0, []), (186, .iload 5, 188, 5, 0, 0, 0, 0, []), (188, .iload 6, 190, 6, 0, 0, 0, 0, []), (190, .iload 7, 192, 7, 0, 0, 0, 0, []), (192, .iload 7, 194, 7, 0, 0, 0, 0, []), (194, .iconst (-1), 195, 0, 0, 0, 0, (-1), []), (195, .if_icmp .ne 7, 198, 202, 0, 0, 0, 0, []), (198, .iconst 0, 199, 0, 0, 0, 0, 0, []), (199, .goto 10, 202, 209, 0, 0, 0, 0, []), (202, .aload_n 0, 203, 0, 0, 0, 0, 0, []), (203, .getfield 89, 206, 11, 16, 2, 0, 0, []), (206, .iload 7, 208, 7, 0, 0, 0, 0, []), (208, .iaload, 209, 0, 0, 0, 0, 0, []), (209, .invokevirtual 395, 212, 140, 5, 1, 23, 0, []), (212, .iload 4, 214, 4, 0, 0, 0, 0, []), (214, .ireturn, 215, 0, 0, 0, 0, 0, [])]
def zc_127 : List zE := [(0, .iload_n 1, 1, 1, 0, 0, 0, 0, []), (1, .iconst 0, 2, 0, 0, 0, 0, 0, []), (2, .aload_n 0, 3, 0, 0, 0, 0, 0, []), (3, .getfield 67, 6, 11, 8, 2, 0, 0, []), (6, .arraylength, 7, 0, 0, 0, 0, 0, []), (7, .iconst 1, 8, 0, 0, 0, 0, 1, []), (8, .isub, 9, 0, 0, 0, 0, 0, []), (9, .invokestatic 192, 12, 133, 3, 0, 22, 0, []), (12, .ifCond .eq 12, 15, 24, 0, 0, 0, 0, []), (15, .aload_n 0, 16, 0, 0, 0, 0, 0, []), (16, .getfield 67, 19, 11, 8, 2, 0, 0, []), (19, .iload_n 1, 20, 1, 0, 0, 0, 0, []), (20, .aaload, 21, 0, 0, 0, 0, 0, []), (21, .ifnonnull 5, 24, 26, 0, 0, 0, 0, []), (24, .iconst 0, 25, 0, 0, 0, 0, 0, []), (25, .ireturn, 26, 0, 0, 1, 0, 0, []), (26, .aload_n 0, 27, 0, 0, 0, 0, 0, []), (27, .getfield 67, 30, 11, 8, 2, 0, 0, []), (30, .iload_n 1, 31, 1, 0, 0, 0, 0, []), (31, .aaload, 32, 0, 0, 0, 0, 0, []), (32, .aload_n 0, 33, 0, 0, 0, 0, 0, []), (33, .getfield 44, 36, 11, 4, 2, 0, 0, []), (36, .aload_n 0, 37, 0, 0, 0, 0, 0, []), (37, .getfield 54, 40, 11, 6, 2, 0, 0, []), (40, .invokevirtual 435, 43, 23, 3, 1, 7, 0, []), (43, .iconst 1, 44, 0, 0, 0, 0, 1, []), (44, .ireturn, 45, 0, 0, 1, 0, 0, [])]
def zc_128 : List zE := [(0, .iload_n 1, 1, 1, 0, 0, 0, 0, []), (1, .iconst 0, 2, 0, 0, 0, 0, 0, []), (2, .aload_n 0, 3, 0, 0, 0, 0, 0, []), (3, .getfield 67, 6, 11, 8, 2, 0, 0, []), (6, .arraylength, 7, 0, 0, 0, 0, 0, []), (7, .iconst 1, 8, 0, 0, 0, 0, 1, []), (8, .isub, 9, 0, 0, 0, 0, 0, []), (9, .invokestatic 192, 12, 133, 3, 0, 22, 0, []), (12, .ifCond .eq 12, 15, 24, 0, 0, 0, 0, []), (15, .aload_n 0, 16, 0, 0, 0, 0, 0, []), (16, .getfield 67, 19, 11, 8, 2, 0, 0, []), (19, .iload_n 1, 20, 1, 0, 0, 0, 0, []), (20, .aaload, 21, 0, 0, 0, 0, 0, []), (21, .ifnonnull 5, 24, 26, 0, 0, 0, 0, []), (24, .iconst 0, 25, 0, 0, 0, 0, 0, []), (25, .ireturn, 26, 0, 0, 1, 0, 0, []), (26, .aload_n 0, 27, 0, 0, 0, 0, 0, []), (27, .getfield 67, 30, 11, 8, 2, 0, 0, []), (30, .iload_n 1, 31, 1, 0, 0, 0, 0, []), (31, .aaload, 32, 0, 0, 0, 0, 0, []), (32, .getfield 437, 35, 3, 0, 1, 0, 0, []), (35, .ifCond .eq 22, 38, 57, 0, 0, 0, 0, []), (38, .aload_n 0, 39, 0, 0, 0, 0, 0, []), (39, .getfield 67, 42, 11, 8, 2, 0, 0, []), (42, .iload_n 1, 43, 1, 0, 0, 0, 0, []), (43, .aaload, 44, 0, 0, 0, 0, 0, []), (44, .getfield 441, 47, 3, 1, 0, 0, 0, []), (47, .aload_n 0, 48, 0, 0, 0, 0, 0, []), (48, .getfield 44, 51, 11, 4, 2, 0, 0, []), (51, .getfield 116, 54, 10, 3, 0, 0, 0, []), (54, .if_icmp .eq 5, 57, 59, 0, 0, 0, 0, []), (57, .iconst 0, 58, 0, 0, 0, 0, 0, []), (58, .ireturn, 59, 0, 0, 1, 0, 0, []), (59, .aload_n 0, 60, 0, 0, 0, 0, 0, []), (60, .getfield 67, 63, 11, 8, 2, 0, 0, []), (63, .iload_n 1, 64, 1, 0, 0, 0, 0, []), (64, .aaload, 65, 0, 0, 0, 0, 0, []), (65, .aload_n 0, 66, 0, 0, 0, 0, 0, []), (66, .getfield 44, 69, 11, 4, 2, 0, 0, []), (69, .aload_n 0, 70, 0, 0, 0, 0, 0, []), (70, .getfield 54, 73, 11, 6, 2, 0, 0, []), (73, .invokevirtual 442, 76, 24, 3, 1, 7, 0, []), (76, .aload_n 0, 77, 0, 0, 0, 0, 0, []), (77, .getfield 61, 80, 11, 7, 2, 0, 0, []), (80, .iconst 0, 81, 0, 0, 0, 0, 0, []), (81, .putfield 119, 84, 5, 0, 0, 0, 0, []), (84, .iconst 1, 85, 0, 0, 0, 0, 1, []), (85, .ireturn, 86, 0, 0, 1, 0, 0, [])]
def zc_129 : List zE := [(0, .iload_n 1, 1, 1, 0, 0, 0, 0, []), (1, .tableswitch 159 0 11 #[63, 71, 82, 87, 98, 109, 117, 122, 130, 138, 146, 151], 64, 160, 0, 0, 0, 0, [(0, 64), (1, 72), (2, 83), (3, 88), (4, 99), (5, 110), (6, 118), (7, 123), (8, 131), (9, 139), (10, 147), (11, 152)]), (64, .aload_n 0, 65, 0, 0, 0, 0, 0, []), (65, .getfield 44, 68, 11, 4, 2, 0, 0, []), (68, .getfield 116, 71, 10, 3, 0, 0, 0, []), (71, .ireturn, 72, 0, 0, 0, 0, 0, []), (72, .aload_n 0, 73, 0, 0, 0, 0, 0, []), (73, .getfield 44, 76, 11, 4, 2, 0, 0, []), (76, .getfield 155, 79, 10, 2, 2, 0, 0, []), (79, .getfield 176, 82, 4, 6, 0, 0, 0, []), (82, .ireturn, 83, 0, 0, 0, 0, 0, []), (83, .aload_n 0, 84, 0, 0, 0, 0, 0, []), (84, .getfield 213, 87, 11, 13, 0, 0, 0, []), (87, .ireturn, 88, 0, 0, 0, 0, 0, []), (88, .aload_n 0, 89, 0, 0, 0, 0, 0, []), (89, .getfield 44, 92, 11, 4, 2, 0, 0, []), (92, .getfield 155, 95, 10, 2, 2, 0, 0, []), (95, .getfield 189, 98, 4, 5, 0, 0, 0, []), (98, .ireturn, 99, 0, 0, 0, 0, 0, []), (99, .aload_n 0, 100, 0, 0, 0, 0, 0, []), (100, .getfield 44, 103, 11, 4, 2, 0, 0, []), (103, .getfield 155, 106, 10, 2, 2, 0, 0, []), (106, .invokevirtual 420, 109, 30, 1, 1, 8, 0, []), (109, .ireturn, 110, 0, 0, 0, 0, 0, []), (110, .aload_n 0, 111, 0, 0, 0, 0, 0, []), (111, .getfield 54, 114, 11, 6, 2, 0, 0, []), (114, .getfield 445, 117, 1, 4, 0, 0, 0, []), (117, .ireturn, 118, 0, 0, 0, 0, 0, []), (118, .aload_n 0, 119, 0, 0, 0, 0, 0, []), (119, .invokevirtual 207, 122, 146, 1, 1, 22, 0, []), (122, .ireturn, 123, 0, 0, 0, 0, 0, []), (123, .aload_n 0, 124, 0, 0, 0, 0, 0, []), (124, .getfield 74, 127, 11, 9, 2, 0, 0, []), (127, .getfield 397, 130, 2, 3, 0, 0, 0, []), (130, .ireturn, 131, 0, 0, 0, 0, 0, []), (131, .aload_n 0, 132, 0, 0, 0, 0, 0, []), (132, .getfield 61, 135, 11, 7, 2, 0, 0, []), (135, .getfield 119, 138, 5, 0, 0, 0, 0, []), (138, .ireturn, 139, 0, 0, 0, 0, 0, []), (139, .aload_n 0, 140, 0, 0, 0, 0, 0, []), (140, .getfield 81, 143, 11, 10, 2, 0, 0, []), (143, .getfield 412, 146, 8, 0, 0, 0, 0, []), (146, .ireturn, 147, 0, 0, 0, 0, 0, []), (147, .aload_n 0, 148, 0, 0, 0, 0, 0, []), (148, .getfield 333, 151, 11, 12, 0, 0, 0, []), (151, .ireturn, 152, 0, 0, 0, 0, 0, []), (152, .aload_n 0, 153, 0, 0, 0, 0, 0, []), (153, .getfield 10, 156, 11, 0, 2, 0, 0, []), (156, .getfield 97, 159, 9, 1, 0, 0, 0, []), (159, .ireturn, 160, 0, 0, 0, 0, 0, []), (160, .iconst (-1), 161, 0, 0, 0, 0, (-1), []), (161, .ireturn, 162, 0, 0, 0, 0, 0, [])]
def zc_130 : List zE := [(0, .iload_n 1, 1, 1, 0, 0, 0, 0, []), (1, .ifCond .lt 20, 4, 21, 0, 0, 0, 0, []), (4, .iload_n 1, 5, 1, 0, 0, 0, 0, []), (5, .aload_n 0, 6, 0, 0, 0, 0, 0, []), (6, .getfield 333, 9, 11, 12, 0, 0, 0, []), (9, .if_icmp .ge 12, 12, 21, 0, 0, 0, 0, []), (12, .iload_n 1, 13, 1, 0, 0, 0, 0, []), (13, .aload_n 0, 14, 0, 0, 0, 0, 0, []), (14, .getfield 85, 17, 11, 11, 2, 0, 0, []), (17, .arraylength, 18, 0, 0, 0, 0, 0, []), (18, .if_icmp .lt 14, 21, 32, 0, 0, 0, 0, []), (21, .new 148, 24, 0, 0, 9, 0, 0, []), (24, .dup, 25, 0, 0, 0, 0, 0, []), (25, .ldc_w 446, 28, 0, 0, 9, 0, 0, []), (28, .invokespecial 152, 31, 0, 0, 9, 0, 0, []), (31, .athrow, 32, 0, 0, 0, 0, 0, []), (32, .aload_n 0, 33, 0, 0, 0, 0, 0, []), (33, .getfield 85, 36, 11, 11, 2, 0, 0, []), (36, .iload_n 1, 37, 1, 0, 0, 0, 0, []), (37, .iaload, 38, 0, 0, 0, 0, 0, []), (38, .ireturn, 39, 0, 0, 0, 0, 0, [])]
def zc_131 : List zE := [(0, .iconst 1, 1, 0, 0, 0, 0, 1, []), (1, .iload_n 0, 2, 0, 0, 0, 0, 0, []), (2, .ishl, 3, 0, 0, 0, 0, 0, []), (3, .ireturn, 4, 0, 0, 0, 0, 0, [])]
def zc_132 : List zE := [(0, .iload_n 0, 1, 0, 0, 0, 0, 0, []), (1, .iload_n 1, 2, 1, 0, 0, 0, 0, []), (2, .ishr, 3, 0, 0, 0, 0, 0, []), (3, .iconst 1, 4, 0, 0, 0, 0, 1, []), (4, .iand, 5, 0, 0, 0, 0, 0, []), (5, .ifCond .eq 7, 8, 12, 0, 0, 0, 0, []), (8, .iconst 1, 9, 0, 0, 0, 0, 1, []), (9, .goto 4, 12, 13, 0, 0, 0, 0, []), (12, .iconst 0, 13, 0, 0, 0, 0, 0, []), (13, .ireturn, 14, 0, 0, 1, 0, 0, [])]
def zc_133 : List zE := [(0, .iload_n 0, 1, 0, 0, 0, 0, 0, []), (1, .iload_n 1, 2, 1, 0, 0, 0, 0, []), (2, .if_icmp .lt 12, 5, 14, 0, 0, 0, 0, []), (5, .iload_n 0, 6, 0, 0, 0, 0, 0, []), (6, .iload_n 2, 7, 2, 0, 0, 0, 0, []), (7, .if_icmp .gt 7, 10, 14, 0, 0, 0, 0, []), (10, .iconst 1, 11, 0, 0, 0, 0, 1, []), (11, .goto 4, 14, 15, 0, 0, 0, 0, []), (14, .iconst 0, 15, 0, 0, 0, 0, 0, []), (15, .ireturn, 16, 0, 0, 1, 0, 0, [])]
def zc_134 : List zE := [(0, .iload_n 1, 1, 1, 0, 0, 0, 0, []), (1, .ifCond .lt 18, 4, 19, 0, 0, 0, 0, []), (4, .iload_n 1, 5, 1, 0, 0, 0, 0, []), (5, .aload_n 0, 6, 0, 0, 0, 0, 0, []), (6, .getfield 44, 9, 11, 4, 2, 0, 0, []), (9, .getfield 116, 12, 10, 3, 0, 0, 0, []), (12, .if_icmp .ge 7, 15, 19, 0, 0, 0, 0, []), (15, .iconst 1, 16, 0, 0, 0, 0, 1, []), (16, .goto 4, 19, 20, 0, 0, 0, 0, []), (19, .iconst 0, 20, 0, 0, 0, 0, 0, []), (20, .ireturn, 21, 0, 0, 1, 0, 0, [])]
def zc_135 : List zE := [(0, .aload_n 0, 1, 0, 0, 0, 0, 0, []), (1, .iload_n 1, 2, 1, 0, 0, 0, 0, []), (2, .invokevirtual 145, 5, 134, 2, 1, 22, 0, []), (5, .ifCond .eq 21, 8, 26, 0, 0, 0, 0, []), (8, .aload_n 0, 9, 0, 0, 0, 0, 0, []), (9, .getfield 44, 12, 11, 4, 2, 0, 0, []), (12, .invokevirtual 354, 15, 73, 1, 1, 20, 0, []), (15, .iload_n 1, 16, 1, 0, 0, 0, 0, []), (16, .invokestatic 185, 19, 132, 2, 0, 22, 0, []), (19, .ifCond .eq 7, 22, 26, 0, 0, 0, 0, []), (22, .iconst 1, 23, 0, 0, 0, 0, 1, []), (23, .goto 4, 26, 27, 0, 0, 0, 0, []), (26, .iconst 0, 27, 0, 0, 0, 0, 0, []), (27, .ireturn, 28, 0, 0, 1, 0, 0, [])]
def zc_136 : List zE := [(0, .aload_n 0, 1, 0, 0, 0, 0, 0, []), (1, .iload_n 1, 2, 1, 0, 0, 0, 0, []), (2, .invokevirtual 360, 5, 135, 2, 1, 22, 0, []), (5, .ifCond .eq 23, 8, 28, 0, 0, 0, 0, []), (8, .aload_n 0, 9, 0, 0, 0, 0, 0, []), (9, .getfield 44, 12, 11, 4, 2, 0, 0, []), (12, .getfield 155, 15, 10, 2, 2, 0, 0, []), (15, .getfield 159, 18, 4, 2, 2, 0, 0, []), (18, .iload_n 1, 19, 1, 0, 0, 0, 0, []), (19, .iaload, 20, 0, 0, 0, 0, 0, []), (20, .iconst (-1), 21, 0, 0, 0, 0, (-1), []), (21, .if_icmp .ne 7, 24, 28, 0, 0, 0, 0, []), (24, .iconst 1, 25, 0, 0, 0, 0, 1, []), (25, .goto 4, 28, 29, 0, 0, 0, 0, []), (28, .iconst 0, 29, 0, 0, 0, 0, 0, []), (29, .ireturn, 30, 0, 0, 1, 0, 0, [])]
def zc_137 : List zE := [(0, .aload_n 0, 1, 0, 0, 0, 0, 0, []), (1, .getfield 61, 4, 11, 7, 2, 0, 0, []), (4, .aload_n 0, 5, 0, 0, 0, 0, 0, []), (5, .getfield 44, 8, 11, 4, 2, 0, 0, []), (8, .aload_n 0, 9, 0, 0, 0, 0, 0, []), (9, .getfield 54, 12, 11, 6, 2, 0, 0, []), (12, .invokevirtual 272, 15, 35, 3, 1, 11, 0, []), (15, .aload_n 0, 16, 0, 0, 0, 0, 0, []), (16, .getfield 61, 19, 11, 7, 2, 0, 0, []), (19, .invokevirtual 290, 22, 36, 1, 1, 11, 0, []), (22, .return_, 23, 0, 0, 0, 0, 0, [])]
def zc_138 : List zE := [(0, .aload_n 0, 1, 0, 0, 0, 0, 0, []), (1, .getfield 85, 4, 11, 11, 2, 0, 0, []), (4, .iconst 0, 5, 0, 0, 0, 0, 0, []), (5, .iload_n 1, 6, 1, 0, 0, 0, 0, []), (6, .iastore, 7, 0, 0, 0, 0, 0, []), (7, .aload_n 0, 8, 0, 0, 0, 0, 0, []), (8, .iconst 1, 9, 0, 0, 0, 0, 1, []), (9, .putfield 333, 12, 11, 12, 0, 0, 0, []), (12, .return_, 13, 0, 0, 0, 0, 0, [])]
def zc_139 : List zE := [(0, .aload_n 0, 1, 0, 0, 0, 0, 0, []), (1, .getfield 85, 4, 11, 11, 2, 0, 0, []), (4, .iconst 0, 5, 0, 0, 0, 0, 0, []), (5, .iload_n 1, 6, 1, 0, 0, 0, 0, []), (6, .iastore, 7, 0, 0, 0, 0, 0, []), (7, .aload_n 0, 8, 0, 0, 0, 0, 0, []), (8, .getfield 85, 11, 11, 11, 2, 0, 0, []), (11, .iconst 1, 12, 0, 0, 0, 0, 1, []), (12, .iload_n 2, 13, 2, 0, 0, 0, 0, []), (13, .iastore, 14, 0, 0, 0, 0, 0, []), (14, .aload_n 0, 15, 0, 0, 0, 0, 0, []), (15, .iconst 2, 16, 0, 0, 0, 0, 2, []), (16, .putfield 333, 19, 11, 12, 0, 0, 0, []), (19, .return_, 20, 0, 0, 0, 0, 0, [])]
def zc_140 : List zE := [(0, .aload_n 0, 1, 0, 0, 0, 0, 0, []), (1, .getfield 85, 4, 11, 11, 2, 0, 0, []), (4, .iconst 0, 5, 0, 0, 0, 0, 0, []), (5, .iload_n 1, 6, 1, 0, 0, 0, 0, []), (6, .iastore, 7, 0, 0, 0, 0, 0, []), (7, .aload_n 0, 8, 0, 0, 0, 0, 0, []), (8, .getfield 85, 11, 11, 11, 2, 0, 0, []), (11, .iconst 1, 12, 0, 0, 0, 0, 1, []), (12, .iload_n 2, 13, 2, 0, 0, 0, 0, []), (13, .iastore, 14, 0, 0, 0, 0, 0, []), (14, .aload_n 0, 15, 0, 0, 0, 0, 0, []), (15, .getfield 85, 18, 11, 11, 2, 0, 0, []), (18, .iconst 2, 19, 0, 0, 0, 0, 2, []), (19, .iload_n 3, 20, 3, 0, 0, 0, 0, []), (20, .iastore, 21, 0, 0, 0, 0, 0, []), (21, .aload_n 0, 22, 0, 0, 0, 0, 0, []), (22, .getfield 85, 25, 11, 11, 2, 0, 0, []), (25, .iconst 3, 26, 0, 0, 0, 0, 3, []), (26, .iload 4, 28, 4, 0, 0, 0, 0, []), (28, .iastore, 29, 0, 0, 0, 0, 0, []), (29, .aload_n 0, 30, 0, 0, 0, 0, 0, []), (30, .iconst 4, 31, 0, 0, 0, 0, 4, []), (31, .putfield 333, 34, 11, 12, 0, 0, 0, []), (34, .return_, 35, 0, 0, 0, 0, 0, [])]
def zc_141 : List zE := [(0, .aload_n 0, 1, 0, 0, 0, 0, 0, []), (1, .getfield 10, 4, 11, 0, 2, 0, 0, []), (4, .invokevirtual 131, 7, 61, 1, 1, 18, 0, []), (7, .ifCond .eq 5, 10, 12, 0, 0, 0, 0, []), (10, .iconst 0, 11, 0, 0, 0, 0, 0, []), (11, .ireturn, 12, 0, 0, 0, 0, 0, []), (12, .iconst 0, 13, 0, 0, 0, 0, 0, []), (13, .istore_n 1, 14, 1, 0, 0, 0, 0, []), (14, .iload_n 1, 15, 1, 0, 0, 0, 0, []), (15, .bipush 9, 17, 0, 0, 0, 0, 9, []), (17, .if_icmp .ge 55, 20, 72, 0, 0, 0, 0, []), (20, .aload_n 0, 21, 0, 0, 0, 0, 0, []), (21, .aload_n 0, 22, 0, 0, 0, 0, 0, []), (22, .getfield 44, 25, 11, 4, 2, 0, 0, []), (25, .getfield 116, 28, 10, 3, 0, 0, 0, []), (28, .iload_n 1, 29, 1, 0, 0, 0, 0, []), (29, .iadd, 30, 0, 0, 0, 0, 0, []), (30, .invokevirtual 448, 33, 142, 2, 1, 22, 0, []), (33, .ifCond .ne 5, 36, 38, 0, 0, 0, 0, []), (36, .iconst (-1), 37, 0, 0, 0, 0, (-1), []), (37, .ireturn, 38, 0, 0, 0, 0, 0, []), (38, .aload_n 0, 39, 0, 0, 0, 0, 0, []), (39, .getfield 10, 42, 11, 0, 2, 0, 0, []), (42, .invokevirtual 131, 45, 61, 1, 1, 18, 0, []), (45, .ifCond .eq 7, 48, 52, 0, 0, 0, 0, []), (48, .iload_n 1, 49, 1, 0, 0, 0, 0, []), (49, .iconst 1, 50, 0, 0, 0, 0, 1, []), (50, .iadd, 51, 0, 0, 0, 0, 0, []), (51, .ireturn, 52, 0, 0, 0, 0, 0, []), (52, .aload_n 0, 53, 0, 0, 0, 0, 0, []), (53, .getfield 10, 56, 11, 0, 2, 0, 0, []), (56, .bipush 59, 58, 0, 0, 0, 0, 59, []), (58, .invokevirtual 451, 61, 66, 2, 1, 18, 0, []), (61, .ifCond .ne 5, 64, 66, 0, 0, 0, 0, []), (64, .iconst (-1), 65, 0, 0, 0, 0, (-1), []), (65, .ireturn, 66, 0, 0, 0, 0, 0, []), (66, .iinc 1 1, 69, 1, 0, 0, 0, 1, []), (69, .goto (-55), 72, 14, 0, 0, 0, 0, []), (72, .iconst (-1), 73, 0, 0, 0, 0, (-1), []), (73, .ireturn, 74, 0, 0, 0, 0, 0, [])]
def zc_142 : List zE := [(0, .iload_n 1, 1, 1, 0, 0, 0, 0, []), (1, .ifCond .lt 9, 4, 10, 0, 0, 0, 0, []), (4, .iload_n 1, 5, 1, 0, 0, 0, 0, []), (5, .bipush 9, 7, 0, 0, 0, 0, 9, []), (7, .if_icmp .lt 5, 10, 12, 0, 0, 0, 0, []), (10, .iconst 0, 11, 0, 0, 0, 0, 0, []), (11, .ireturn, 12, 0, 0, 1, 0, 0, []), (12, .aload_n 0, 13, 0, 0, 0, 0, 0, []), (13, .getfield 10, 16, 11, 0, 2, 0, 0, []), (16, .iconst 0, 17, 0, 0, 0, 0, 0, []), (17, .invokevirtual 120, 20, 67, 2, 1, 18, 0, []), (20, .istore_n 2, 21, 2, 0, 0, 0, 0, []), (21, .iload_n 2, 22, 2, 0, 0, 0, 0, []), (22, .iconst (-1), 23, 0, 0, 0, 0, (-1), []), (23, .if_icmp .eq 15, 26, 38, 0, 0, 0, 0, []), (26, .aload_n 0, 27, 0, 0, 0, 0, 0, []), (27, .getfield 10, 30, 11, 0, 2, 0, 0, []), (30, .bipush 47, 32, 0, 0, 0, 0, 47, []), (32, .invokevirtual 451, 35, 66, 2, 1, 18, 0, []), (35, .ifCond .ne 5, 38, 40, 0, 0, 0, 0, []), (38, .iconst 0, 39, 0, 0, 0, 0, 0, []), (39, .ireturn, 40, 0, 0, 1, 0, 0, []), (40, .aload_n 0, 41, 0, 0, 0, 0, 0, []), (41, .getfield 10, 44, 11, 0, 2, 0, 0, []), (44, .iconst 1, 45, 0, 0, 0, 0, 1, []), (45, .invokevirtual 120, 48, 67, 2, 1, 18, 0, []), (48, .istore_n 3, 49, 3, 0, 0, 0, 0, []), (49, .iload_n 3, 50, 3, 0, 0, 0, 0, []), (50, .iconst (-1), 51, 0, 0, 0, 0, (-1), []), (51, .if_icmp .ne 5, 54, 56, 0, 0, 0, 0, []), (54, .iconst 0, 55, 0, 0, 0, 0, 0, []), (55, .ireturn, 56, 0, 0, 1, 0, 0, []), (56, .iconst 0, 57, 0, 0, 0, 0, 0, []), (57, .istore 4, 59, 4, 0, 0, 0, 0, []), (59, .aload_n 0, 60, 0, 0, 0, 0, 0, []), (60, .getfield 10, 63, 11, 0, 2, 0, 0, []), (63, .bipush 62, 65, 0, 0, 0, 0, 62, []), (65, .invokevirtual 451, 68, 66, 2, 1, 18, 0, []), (68, .ifCond .eq 16, 71, 84, 0, 0, 0, 0, []), (71, .aload_n 0, 72, 0, 0, 0, 0, 0, []), (72, .invokevirtual 454, 75, 143, 1, 1, 22, 0, []), (75, .istore 4, 77, 4, 0, 0, 0, 0, []), (77, .iload 4, 79, 4, 0, 0, 0, 0, []), (79, .ifCond .ne 5, 82, 84, 0, 0, 0, 0, []), (82, .iconst 0, 83, 0, 0, 0, 0, 0, []), (83, .ireturn, 84, 0, 0, 1, 0, 0, []), (84, .aload_n 0, 85, 0, 0, 0, 0, 0, []), (85, .getfield 44, 88, 11, 4, 2, 0, 0, []), (88, .getfield 155, 91, 10, 2, 2, 0, 0, []), (91, .getfield 164, 94, 4, 0, 2, 0, 0, []), (94, .iload_n 1, 95, 1, 0, 0, 0, 0, []), (95, .iload_n 2, 96, 2, 0, 0, 0, 0, []), (96, .iastore, 97, 0, 0, 0, 0, 0, []), (97, .aload_n 0, 98, 0, 0, 0, 0, 0, []), (98, .getfield 44, 101, 11, 4, 2, 0, 0, []), (101, .getfield 167, 104, 10, 0, 2, 0, 0, []), (104, .iload_n 1, 105, 1, 0, 0, 0, 0, []), (105, .iload_n 3, 106, 3, 0, 0, 0, 0, []), (106, .iastore, 107, 0, 0, 0, 0, 0, []), (107, .aload_n 0, 108, 0, 0, 0, 0, 0, []), (108, .getfield 44, 111, 11, 4, 2, 0, 0, []), (111, .getfield 200, 114, 10, 1, 2, 0, 0, []), (114, .iload_n 1, 115, 1, 0, 0, 0, 0, []), (115, .iload 4, 117, 4, 0, 0, 0, 0, []), (117, .iastore, 118, 0, 0, 0, 0, 0, []), (118, .iconst 1, 119, 0, 0, 0, 0, 1, []), (119, .ireturn, 120, 0, 0, 1, 0, 0, [])]
def zc_143 : List zE := [(0, .iconst 0, 1, 0, 0, 0, 0, 0, []), (1, .istore_n 1, 2, 1, 0, 0, 0, 0, []), (2, .aload_n 0, 3, 0, 0, 0, 0, 0, []), (3, .getfield 10, 6, 11, 0, 2, 0, 0, []), (6, .iconst 0, 7, 0, 0, 0, 0, 0, []), (7, .invokevirtual 457, 10, 68, 2, 1, 18, 0, []), (10, .istore_n 2, 11, 2, 0, 0, 0, 0, []), (11, .iconst 0, 12, 0, 0, 0, 0, 0, []), (12, .istore_n 3, 13, 3, 0, 0, 0, 0, []), (13, .iload_n 3, 14, 3, 0, 0, 0, 0, []), (14, .bipush 9, 16, 0, 0, 0, 0, 9, []), (16, .if_icmp .ge 32, 19, 48, 0, 0, 0, 0, []), (19, .iload_n 2, 20, 2, 0, 0, 0, 0, []), (20, .iconst (-1), 21, 0, 0, 0, 0, (-1), []), (21, .if_icmp .eq 27, 24, 48, 0, 0, 0, 0, []), (24, .iload_n 1, 25, 1, 0, 0, 0, 0, []), (25, .iload_n 2, 26, 2, 0, 0, 0, 0, []), (26, .invokestatic 240, 29, 131, 1, 0, 22, 0, []), (29, .ior, 30, 0, 0, 0, 0, 0, []), (30, .istore_n 1, 31, 1, 0, 0, 0, 0, []), (31, .aload_n 0, 32, 0, 0, 0, 0, 0, []), (32, .getfield 10, 35, 11, 0, 2, 0, 0, []), (35, .iload_n 2, 36, 2, 0, 0, 0, 0, []), (36, .iconst 1, 37, 0, 0, 0, 0, 1, []), (37, .iadd, 38, 0, 0, 0, 0, 0, []), (38, .invokevirtual 457, 41, 68, 2, 1, 18, 0, []), (41, .istore_n 2, 42, 2, 0, 0, 0, 0, []), (42, .iinc 3 1, 45, 3, 0, 0, 0, 1, []), (45, .goto (-32), 48, 13, 0, 0, 0, 0, []), (48, .iload_n 1, 49, 1, 0, 0, 0, 0, []), (49, .ireturn, 50, 0, 0, 0, 0, 0, [])]
def zc_144 : List zE := [(0, .iload_n 1, 1, 1, 0, 0, 0, 0, []), (1, .ifCond .lt 9, 4, 10, 0, 0, 0, 0, []), (4, .iload_n 1, 5, 1, 0, 0, 0, 0, []), (5, .aload_n 0, 6, 0, 0, 0, 0, 0, []), (6, .arraylength, 7, 0, 0, 0, 0, 0, []), (7, .if_icmp .lt 5, 10, 12, 0, 0, 0, 0, []), (10, .iconst (-1), 11, 0, 0, 0, 0, (-1), []), (11, .ireturn, 12, 0, 0, 0, 0, 0, []), (12, .aload_n 0, 13, 0, 0, 0, 0, 0, []), (13, .iload_n 1, 14, 1, 0, 0, 0, 0, []), (14, .iaload, 15, 0, 0, 0, 0, 0, []), (15, .istore_n 3, 16, 3, 0, 0, 0, 0, []), (16, .aload_n 0, 17, 0, 0, 0, 0, 0, []), (17, .iload_n 1, 18, 1, 0, 0, 0, 0, []), (18, .iload_n 2, 19, 2, 0, 0, 0, 0, []), (19, .iastore, 20, 0, 0, 0, 0, 0, []), (20, .iload_n 3, 21, 3, 0, 0, 0, 0, []), (21, .ireturn, 22, 0, 0, 0, 0, 0, [])]
def zc_145 : List zE := [(0, .iload_n 1, 1, 1, 0, 0, 0, 0, []), (1, .istore_n 2, 2, 2, 0, 0, 0, 0, []), (2, .iload_n 0, 3, 0, 0, 0, 0, 0, []), (3, .ifCond .ne 9, 6, 12, 0, 0, 0, 0, []), (6, .iload_n 1, 7, 1, 0, 0, 0, 0, []), (7, .i2b, 8, 0, 0, 0, 0, 0, []), (8, .istore_n 2, 9, 2, 0, 0, 0, 0, []), (9, .goto 11, 12, 20, 0, 0, 0, 0, []), (12, .iload_n 0, 13, 0, 0, 0, 0, 0, []), (13, .iconst 1, 14, 0, 0, 0, 0, 1, []), (14, .if_icmp .ne 6, 17, 20, 0, 0, 0, 0, []), (17, .iload_n 1, 18, 1, 0, 0, 0, 0, []), (18, .i2s, 19, 0, 0, 0, 0, 0, []), (19, .istore_n 2, 20, 2, 0, 0, 0, 0, []), (20, .iconst 0, 21, 0, 0, 0, 0, 0, []), (21, .bipush 9, 23, 0, 0, 0, 0, 9, []), (23, .iload_n 2, 24, 2, 0, 0, 0, 0, []), (24, .invokestatic 429, 27, 4, 2, 0, 28, 0, []), (27, .invokestatic 432, 30, 3, 2, 0, 28, 0, []), (30, .ireturn, 31, 0, 0, 0, 0, 0, [])]
def zc_146 : List zE := [(0, .iconst 0, 1, 0, 0, 0, 0, 0, []), (1, .istore_n 1, 2, 1, 0, 0, 0, 0, []), (2, .iconst 0, 3, 0, 0, 0, 0, 0, []), (3, .istore_n 2, 4, 2, 0, 0, 0, 0, []), (4, .iload_n 2, 5, 2, 0, 0, 0, 0, []), (5, .aload_n 0, 6, 0, 0, 0, 0, 0, []), (6, .getfield 44, 9, 11, 4, 2, 0, 0, []), (9, .getfield 116, 12, 10, 3, 0, 0, 0, []), (12, .if_icmp .ge 24, 15, 36, 0, 0, 0, 0, []), (15, .iload_n 1, 16, 1, 0, 0, 0, 0, []), (16, .aload_n 0, 17, 0, 0, 0, 0, 0, []), (17, .getfield 44, 20, 11, 4, 2, 0, 0, []), (20, .getfield 155, 23, 10, 2, 2, 0, 0, []), (23, .getfield 164, 26, 4, 0, 2, 0, 0, []), (26, .iload_n 2, 27, 2, 0, 0, 0, 0, []), (27, .iaload, 28, 0, 0, 0, 0, 0, []), (28, .iadd, 29, 0, 0, 0, 0, 0, []), (29, .istore_n 1, 30, 1, 0, 0, 0, 0, []), (30, .iinc 2 1, 33, 2, 0, 0, 0, 1, []), (33, .goto (-29), 36, 4, 0, 0, 0, 0, []), (36, .iload_n 1, 37, 1, 0, 0, 0, 0, []), (37, .ireturn, 38, 0, 0, 0, 0, 0, [])]
def zc_147 : List zE := [(0, .aload_n 1, 1, 1, 0, 0, 0, 0, []), (1, .getfield 246, 4, 10, 5, 0, 0, 0, []), (4, .aload_n 1, 5, 1, 0, 0, 0, 0, []), (5, .aload_n 0, 6, 0, 0, 0, 0, 0, []), (6, .getfield 213, 9, 11, 13, 0, 0, 0, []), (9, .invokevirtual 216, 12, 75, 2, 1, 20, 0, []), (12, .iand, 13, 0, 0, 0, 0, 0, []), (13, .ireturn, 14, 0, 0, 0, 0, 0, [])]
def zc_148 : List zE := [(0, .aload_n 0, 1, 0, 0, 0, 0, 0, []), (1, .getfield 44, 4, 11, 4, 2, 0, 0, []), (4, .getfield 155, 7, 10, 2, 2, 0, 0, []), (7, .getfield 176, 10, 4, 6, 0, 0, 0, []), (10, .istore_n 1, 11, 1, 0, 0, 0, 0, []), (11, .aload_n 0, 12, 0, 0, 0, 0, 0, []), (12, .getfield 44, 15, 11, 4, 2, 0, 0, []), (15, .iconst 0, 16, 0, 0, 0, 0, 0, []), (16, .invokevirtual 460, 19, 77, 2, 1, 21, 0, []), (19, .iconst 0, 20, 0, 0, 0, 0, 0, []), (20, .istore_n 2, 21, 2, 0, 0, 0, 0, []), (21, .iload_n 2, 22, 2, 0, 0, 0, 0, []), (22, .aload_n 0, 23, 0, 0, 0, 0, 0, []), (23, .getfield 44, 26, 11, 4, 2, 0, 0, []), (26, .getfield 116, 29, 10, 3, 0, 0, 0, []), (29, .if_icmp .ge 60, 32, 89, 0, 0, 0, 0, []), (32, .aload_n 0, 33, 0, 0, 0, 0, 0, []), (33, .getfield 44, 36, 11, 4, 2, 0, 0, []), (36, .getfield 243, 39, 10, 4, 0, 0, 0, []), (39, .iload_n 2, 40, 2, 0, 0, 0, 0, []), (40, .invokestatic 185, 43, 132, 2, 0, 22, 0, []), (43, .ifCond .eq 40, 46, 83, 0, 0, 0, 0, []), (46, .aload_n 0, 47, 0, 0, 0, 0, 0, []), (47, .getfield 54, 50, 11, 6, 2, 0, 0, []), (50, .iload_n 1, 51, 1, 0, 0, 0, 0, []), (51, .iload_n 2, 52, 2, 0, 0, 0, 0, []), (52, .aload_n 0, 53, 0, 0, 0, 0, 0, []), (53, .getfield 44, 56, 11, 4, 2, 0, 0, []), (56, .getfield 342, 59, 10, 7, 2, 0, 0, []), (59, .iload_n 2, 60, 2, 0, 0, 0, 0, []), (60, .iaload, 61, 0, 0, 0, 0, 0, []), (61, .aload_n 0, 62, 0, 0, 0, 0, 0, []), (62, .getfield 44, 65, 11, 4, 2, 0, 0, []), (65, .getfield 246, 68, 10, 5, 0, 0, 0, []), (68, .iload_n 2, 69, 2, 0, 0, 0, 0, []), (69, .invokestatic 185, 72, 132, 2, 0, 22, 0, []), (72, .ifCond .eq 7, 75, 79, 0, 0, 0, 0, []), (75, .iconst 1, 76, 0, 0, 0, 0, 1, []), (76, .goto 4, 79, 80, 0, 0, 0, 0, []), (79, .iconst 0, 80, 0, 0, 0, 0, 0, []), (80, .invokevirtual 464, 83, 15, 5, 1, 3, 0, []), (83, .iinc 2 1, 86, 2, 0, 0, 0, 1, []), (86, .goto (-65), 89, 21, 0, 0, 0, 0, []), (89, .aload_n 0, 90, 0, 0, 0, 0, 0, []), (90, .getfield 44, 93, 11, 4, 2, 0, 0, []), (93, .getfield 243, 96, 10, 4, 0, 0, 0, []), (96, .invokestatic 219, 99, 0, 1, 0, 26, 0, []), (99, .ireturn, 100, 0, 0, 0, 0, 0, [])]
def zc_149 : List zE := [(0, .iload_n 1, 1, 1, 0, 0, 0, 0, []), (1, .bipush 109, 3, 0, 0, 0, 0, 109, []), (3, .if_icmp .ne 33, 6, 36, 0, 0, 0, 0, []), (6, .iconst 0, 7, 0, 0, 0, 0, 0, []), (7, .istore 4, 9, 4, 0, 0, 0, 0, []), (9, .iconst 0, 10, 0, 0, 0, 0, 0, []), (10, .istore 5, 12, 5, 0, 0, 0, 0, []), (12, .iload 5, 14, 5, 0, 0, 0, 0, []), (14, .iload_n 3, 15, 3, 0, 0, 0, 0, []), (15, .if_icmp .ge 18, 18, 33, 0, 0, 0, 0, []), (18, .iload 4, 20, 4, 0, 0, 0, 0, []), (20, .aload_n 0, 21, 0, 0, 0, 0, 0, []), (21, .invokevirtual 261, 24, 148, 1, 1, 22, 0, []), (24, .iadd, 25, 0, 0, 0, 0, 0, []), (25, .istore 4, 27, 4, 0, 0, 0, 0, []), (27, .iinc 5 1, 30, 5, 0, 0, 0, 1, []), (30, .goto (-18), 33, 12, 0, 0, 0, 0, []), (33, .iload 4, 35, 4, 0, 0, 0, 0, []), (35, .ireturn, 36, 0, 0, 0, 0, 0, []), (36, .aload_n 0, 37, 0, 0, 0, 0, 0, []), (37, .iload_n 2, 38, 2, 0, 0, 0, 0, []), (38, .invokevirtual 145, 41, 134, 2, 1, 22, 0, []), (41, .ifCond .ne 5, 44, 46, 0, 0, 0, 0, []), (44, .iconst (-1), 45, 0, 0, 0, 0, (-1), []), (45, .ireturn, 46, 0, 0, 0, 0, 0, []), (46, .iload_n 1, 47, 1, 0, 0, 0, 0, []), (47, .bipush 97, 49, 0, 0, 0, 0, 97, []), (49, .if_icmp .ne 17, 52, 66, 0, 0, 0, 0, []), (52, .aload_n 0, 53, 0, 0, 0, 0, 0, []), (53, .getfield 44, 56, 11, 4, 2, 0, 0, []), (56, .getfield 155, 59, 10, 2, 2, 0, 0, []), (59, .iload_n 2, 60, 2, 0, 0, 0, 0, []), (60, .invokevirtual 234, 63, 31, 2, 1, 9, 0, []), (63, .goto 71, 66, 134, 0, 0, 0, 0, []), (66, .iload_n 1, 67, 1, 0, 0, 0, 0, []), (67, .bipush 116, 69, 0, 0, 0, 0, 116, []), (69, .if_icmp .ne 19, 72, 88, 0, 0, 0, 0, []), (72, .aload_n 0, 73, 0, 0, 0, 0, 0, []), (73, .getfield 44, 76, 11, 4, 2, 0, 0, []), (76, .getfield 155, 79, 10, 2, 2, 0, 0, []), (79, .getfield 164, 82, 4, 0, 2, 0, 0, []), (82, .iload_n 2, 83, 2, 0, 0, 0, 0, []), (83, .iload_n 3, 84, 3, 0, 0, 0, 0, []), (84, .iastore, 85, 0, 0, 0, 0, 0, []), (85, .goto 49, 88, 134, 0, 0, 0, 0, []), (88, .aload_n 0, 89, 0, 0, 0, 0, 0, []), (89, .iload_n 2, 90, 2, 0, 0, 0, 0, []), (90, .invokevirtual 224, 93, 136, 2, 1, 22, 0, []), (93, .ifCond .eq 39, 96, 132, 0, 0, 0, 0, []), (96, .aload_n 0, 97, 0, 0, 0, 0, 0, []), (97, .getfield 44, 100, 11, 4, 2, 0, 0, []), (100, .getfield 155, 103, 10, 2, 2, 0, 0, []), (103, .iload_n 2, 104, 2, 0, 0, 0, 0, []), (104, .aload_n 0, 105, 0, 0, 0, 0, 0, []), (105, .getfield 44, 108, 11, 4, 2, 0, 0, []), (108, .getfield 155, 111, 10, 2, 2, 0, 0, []), (111, .getfield 176, 114, 4, 6, 0, 0, 0, []), (114, .iconst (-1), 115, 0, 0, 0, 0, (-1), []), (115, .iload_n 1, 116, 1, 0, 0, 0, 0, []), (116, .bipush 102, 118, 0, 0, 0, 0, 102, []), (118, .if_icmp .ne 7, 121, 125, 0, 0, 0, 0, []), (121, .iconst 1, 122, 0, 0, 0, 0, 1, []), (122, .goto 4, 125, 126, 0, 0, 0, 0, []), (125, .iconst 0, 126, 0, 0, 0, 0, 0, []), (126, .invokevirtual 230, 129, 27, 5, 1, 9, 0, []), (129, .goto 5, 132, 134, 0, 0, 0, 0, []), (132, .iconst (-1), 133, 0, 0, 0, 0, (-1), []), (133, .ireturn, 134, 0, 0, 0, 0, 0, []), (134, .iconst 0, 135, 0, 0, 0, 0, 0, []), (135, .ireturn, 136, 0, 0, 0, 0, 0, [])]
def zc_150 : List zE := [(0, .aload_n 0, 1, 0, 0, 0, 0, 0, []), (1, .iconst (-1), 2, 0, 0, 0, 0, (-1), []), (2, .putfield 324, 5, 11, 14, 0, 0, 0, []), (5, .aload_n 0, 6, 0, 0, 0, 0, 0, []), (6, .iconst 0, 7, 0, 0, 0, 0, 0, []), (7, .putfield 327, 10, 11, 15, 0, 0, 0, []), (10, .aload_n 0, 11, 0, 0, 0, 0, 0, []), (11, .getfield 48, 14, 11, 5, 2, 0, 0, []), (14, .aload_n 0, 15, 0, 0, 0, 0, 0, []), (15, .getfield 213, 18, 11, 13, 0, 0, 0, []), (18, .invokevirtual 216, 21, 75, 2, 1, 20, 0, []), (21, .istore_n 2, 22, 2, 0, 0, 0, 0, []), (22, .iconst 0, 23, 0, 0, 0, 0, 0, []), (23, .istore_n 3, 24, 3, 0, 0, 0, 0, []), (24, .iload_n 3, 25, 3, 0, 0, 0, 0, []), (25, .iload_n 1, 26, 1, 0, 0, 0, 0, []), (26, .if_icmp .ge 96, 29, 122, 0, 0, 0, 0, []), (29, .aload_n 0, 30, 0, 0, 0, 0, 0, []), (30, .getfield 48, 33, 11, 5, 2, 0, 0, []), (33, .iconst 0, 34, 0, 0, 0, 0, 0, []), (34, .invokevirtual 460, 37, 77, 2, 1, 21, 0, []), (37, .aload_n 0, 38, 0, 0, 0, 0, 0, []), (38, .getfield 48, 41, 11, 5, 2, 0, 0, []), (41, .getfield 246, 44, 10, 5, 0, 0, 0, []), (44, .iload_n 2, 45, 2, 0, 0, 0, 0, []), (45, .iand, 46, 0, 0, 0, 0, 0, []), (46, .istore 4, 48, 4, 0, 0, 0, 0, []), (48, .aload_n 0, 49, 0, 0, 0, 0, 0, []), (49, .getfield 48, 52, 11, 5, 2, 0, 0, []), (52, .getfield 243, 55, 10, 4, 0, 0, 0, []), (55, .iload 4, 57, 4, 0, 0, 0, 0, []), (57, .iconst (-1), 58, 0, 0, 0, 0, (-1), []), (58, .ixor, 59, 0, 0, 0, 0, 0, []), (59, .iand, 60, 0, 0, 0, 0, 0, []), (60, .istore 5, 62, 5, 0, 0, 0, 0, []), (62, .iload 5, 64, 5, 0, 0, 0, 0, []), (64, .ifCond .eq 38, 67, 102, 0, 0, 0, 0, []), (67, .aload_n 0, 68, 0, 0, 0, 0, 0, []), (68, .iload 5, 70, 5, 0, 0, 0, 0, []), (70, .invokestatic 467, 73, 151, 1, 0, 22, 0, []), (73, .putfield 324, 76, 11, 14, 0, 0, 0, []), (76, .aload_n 0, 77, 0, 0, 0, 0, 0, []), (77, .dup, 78, 0, 0, 0, 0, 0, []), (78, .getfield 327, 81, 11, 15, 0, 0, 0, []), (81, .iload 4, 83, 4, 0, 0, 0, 0, []), (83, .aload_n 0, 84, 0, 0, 0, 0, 0, []), (84, .getfield 324, 87, 11, 14, 0, 0, 0, []), (87, .invokestatic 240, 90, 131, 1, 0, 22, 0, []), (90, .iconst 1, 91, 0, 0, 0, 0, 1, []), (91, .isub, 92, 0, 0, 0, 0, 0, []), (92, .iand, 93, 0, 0, 0, 0, 0, []), (93, .invokestatic 219, 96, 0, 1, 0, 26, 0, []), (96, .iadd, 97, 0, 0, 0, 0, 0, []), (97, .putfield 327, 100, 11, 15, 0, 0, 0, []), (100, .iload_n 3, 101, 3, 0, 0, 0, 0, []), (101, .ireturn, 102, 0, 0, 0, 0, 0, []), (102, .aload_n 0, 103, 0, 0, 0, 0, 0, []), (103, .dup, 104, 0, 0, 0, 0, 0, []), (104, .getfield 327, 107, 11, 15, 0, 0, 0, []), (107, .iload 4, 109, 4, 0, 0, 0, 0, []), (109, .invokestatic 219, 112, 0, 1, 0, 26, 0, []), (112, .iadd, 113, 0, 0, 0, 0, 0, []), (113, .putfield 327, 116, 11, 15, 0, 0, 0, []), (116, .iinc 3 1, 119, 3, 0, 0, 0, 1, []), (119, .goto (-95), 122, 24, 0, 0, 0, 0, []), (122, .iconst (-1), 123, 0, 0, 0, 0, (-1), []), (123, .ireturn, 124, 0, 0, 0, 0, 0, [])]
def zc_151 : List zE := [(0, .iload_n 0, 1, 0, 0, 0, 0, 0, []), (1, .iload_n 0, 2, 0, 0, 0, 0, 0, []), (2, .ineg, 3, 0, 0, 0, 0, 0, []), (3, .iand, 4, 0, 0, 0, 0, 0, []), (4, .iconst 1, 5, 0, 0, 0, 0, 1, []), (5, .isub, 6, 0, 0, 0, 0, 0, []), (6, .invokestatic 219, 9, 0, 1, 0, 26, 0, []), (9, .ireturn, 10, 0, 0, 0, 0, 0, [])]
def zc_152 : List zE := [(0, .iload_n 0, 1, 0, 0, 0, 0, 0, []), (1, .iconst (-1), 2, 0, 0, 0, 0, (-1), []), (2, .if_icmp .ne 9, 5, 11, 0, 0, 0, 0, []), (5, .sipush 300, 8, 0, 0, 0, 0, 300, []), (8, .goto 4, 11, 12, 0, 0, 0, 0, []), (11, .iload_n 0, 12, 0, 0, 0, 0, 0, []), (12, .ireturn, 13, 0, 0, 0, 0, 0, [])]
def zc_153 : List zE := [(0, .aload_n 0, 1, 0, 0, 0, 0, 0, []), (1, .getfield 48, 4, 11, 5, 2, 0, 0, []), (4, .aload_n 0, 5, 0, 0, 0, 0, 0, []), (5, .getfield 44, 8, 11, 4, 2, 0, 0, []), (8, .invokevirtual 237, 11, 71, 2, 1, 21, 0, []), (11, .aload_n 0, 12, 0, 0, 0, 0, 0, []), (12, .getfield 48, 15, 11, 5, 2, 0, 0, []), (15, .getfield 155, 18, 10, 2, 2, 0, 0, []), (18, .iload_n 1, 19, 1, 0, 0, 0, 0, []), (19, .iload_n 2, 20, 2, 0, 0, 0, 0, []), (20, .invokevirtual 380, 23, 33, 3, 1, 9, 0, []), (23, .aload_n 0, 24, 0, 0, 0, 0, 0, []), (24, .sipush 300, 27, 0, 0, 0, 0, 300, []), (27, .invokevirtual 321, 30, 150, 2, 1, 22, 0, []), (30, .ireturn, 31, 0, 0, 0, 0, 0, [])]
def zc_154 : List zE := [(0, .aload_n 0, 1, 0, 0, 0, 0, 0, []), (1, .getfield 89, 4, 11, 16, 2, 0, 0, []), (4, .iconst 0, 5, 0, 0, 0, 0, 0, []), (5, .invokestatic 423, 8, 5, 2, 0, 31, 0, []), (8, .iconst 0, 9, 0, 0, 0, 0, 0, []), (9, .istore_n 2, 10, 2, 0, 0, 0, 0, []), (10, .iconst 0, 11, 0, 0, 0, 0, 0, []), (11, .istore_n 3, 12, 3, 0, 0, 0, 0, []), (12, .iload_n 3, 13, 3, 0, 0, 0, 0, []), (13, .iload_n 1, 14, 1, 0, 0, 0, 0, []), (14, .if_icmp .ge 78, 17, 92, 0, 0, 0, 0, []), (17, .aload_n 0, 18, 0, 0, 0, 0, 0, []), (18, .getfield 48, 21, 11, 5, 2, 0, 0, []), (21, .iconst 0, 22, 0, 0, 0, 0, 0, []), (22, .invokevirtual 460, 25, 77, 2, 1, 21, 0, []), (25, .iload_n 2, 26, 2, 0, 0, 0, 0, []), (26, .aload_n 0, 27, 0, 0, 0, 0, 0, []), (27, .getfield 48, 30, 11, 5, 2, 0, 0, []), (30, .getfield 243, 33, 10, 4, 0, 0, 0, []), (33, .ifCond .ne 7, 36, 40, 0, 0, 0, 0, []), (36, .iconst 1, 37, 0, 0, 0, 0, 1, []), (37, .goto 4, 40, 41, 0, 0, 0, 0, []), (40, .iconst 0, 41, 0, 0, 0, 0, 0, []), (41, .iadd, 42, 0, 0, 0, 0, 0, []), (42, .istore_n 2, 43, 2, 0, 0, 0, 0, []), (43, .iconst 0, 44, 0, 0, 0, 0, 0, []), (44, .istore 4, 46, 4, 0, 0, 0, 0, []), (46, .iload 4, 48, 4, 0, 0, 0, 0, []), (48, .aload_n 0, 49, 0, 0, 0, 0, 0, []), (49, .getfield 44, 52, 11, 4, 2, 0, 0, []), (52, .getfield 116, 55, 10, 3, 0, 0, 0, []), (55, .if_icmp .ge 31, 58, 86, 0, 0, 0, 0, []), (58, .aload_n 0, 59, 0, 0, 0, 0, 0, []), (59, .getfield 89, 62, 11, 16, 2, 0, 0, []), (62, .iload 4, 64, 4, 0, 0, 0, 0, []), (64, .dup2, 65, 0, 0, 0, 0, 0, []), (65, .iaload, 66, 0, 0, 0, 0, 0, []), (66, .aload_n 0, 67, 0, 0, 0, 0, 0, []), (67, .getfield 48, 70, 11, 5, 2, 0, 0, []), (70, .getfield 243, 73, 10, 4, 0, 0, 0, []), (73, .iload 4, 75, 4, 0, 0, 0, 0, []), (75, .ishr, 76, 0, 0, 0, 0, 0, []), (76, .iconst 1, 77, 0, 0, 0, 0, 1, []), (77, .iand, 78, 0, 0, 0, 0, 0, []), (78, .iadd, 79, 0, 0, 0, 0, 0, []), (79, .iastore, 80, 0, 0, 0, 0, 0, []), (80, .iinc 4 1, 83, 4, 0, 0, 0, 1, []), (83, .goto (-37), 86, 46, 0, 0, 0, 0, []), (86, .iinc 3 1, 89, 3, 0, 0, 0, 1, []), (89, .goto (-77), 92, 12, 0, 0, 0, 0, []), (92, .iload_n 2, 93, 2, 0, 0, 0, 0, []), (93, .ireturn, 94, 0, 0, 0, 0, 0, [])]
def zc_155 : List zE := [(0, .iconst (-1), 1, 0, 0, 0, 0, (-1), []), (1, .istore_n 1, 2, 1, 0, 0, 0, 0, []), (2, .iconst 0, 3, 0, 0, 0, 0, 0, []), (3, .istore_n 2, 4, 2, 0, 0, 0, 0, []), (4, .iload_n 2, 5, 2, 0, 0, 0, 0, []), (5, .aload_n 0, 6, 0, 0, 0, 0, 0, []), (6, .getfield 44, 9, 11, 4, 2, 0, 0, []), (9, .getfield 116, 12, 10, 3, 0, 0, 0, []), (12, .if_icmp .ge 35, 15, 47, 0, 0, 0, 0, []), (15, .aload_n 0, 16, 0, 0, 0, 0, 0, []), (16, .getfield 89, 19, 11, 16, 2, 0, 0, []), (19, .iload_n 2, 20, 2, 0, 0, 0, 0, []), (20, .iaload, 21, 0, 0, 0, 0, 0, []), (21, .iload_n 1, 22, 1, 0, 0, 0, 0, []), (22, .iconst (-1), 23, 0, 0, 0, 0, (-1), []), (23, .if_icmp .ne 7, 26, 30, 0, 0, 0, 0, []), (26, .iconst 0, 27, 0, 0, 0, 0, 0, []), (27, .goto 9, 30, 36, 0, 0, 0, 0, []), (30, .aload_n 0, 31, 0, 0, 0, 0, 0, []), (31, .getfield 89, 34, 11, 16, 2, 0, 0, []), (34, .iload_n 1, 35, 1, 0, 0, 0, 0, []), (35, .iaload, 36, 0, 0, 0, 0, 0, []), (36, .if_icmp .le 5, 39, 41, 0, 0, 0, 0, []), (39, .iload_n 2, 40, 2, 0, 0, 0, 0, []), (40, .istore_n 1, 41, 1, 0, 0, 0, 0, []), (41, .iinc 2 1, 44, 2, 0, 0, 0, 1, []), (44, .goto (-40), 47, 4, 0, 0, 0, 0, []), (47, .iload_n 1, 48, 1, 0, 0, 0, 0, []), (48, .ireturn, 49, 0, 0, 0, 0, 0, [])]
def zc_156 : List zE := [(0, .iconst 0, 1, 0, 0, 0, 0, 0, []), (1, .istore_n 1, 2, 1, 0, 0, 0, 0, []), (2, .iconst 0, 3, 0, 0, 0, 0, 0, []), (3, .istore_n 2, 4, 2, 0, 0, 0, 0, []), (4, .iload_n 2, 5, 2, 0, 0, 0, 0, []), (5, .aload_n 0, 6, 0, 0, 0, 0, 0, []), (6, .getfield 44, 9, 11, 4, 2, 0, 0, []), (9, .getfield 116, 12, 10, 3, 0, 0, 0, []), (12, .if_icmp .ge 18, 15, 30, 0, 0, 0, 0, []), (15, .iload_n 1, 16, 1, 0, 0, 0, 0, []), (16, .aload_n 0, 17, 0, 0, 0, 0, 0, []), (17, .getfield 89, 20, 11, 16, 2, 0, 0, []), (20, .iload_n 2, 21, 2, 0, 0, 0, 0, []), (21, .iaload, 22, 0, 0, 0, 0, 0, []), (22, .iadd, 23, 0, 0, 0, 0, 0, []), (23, .istore_n 1, 24, 1, 0, 0, 0, 0, []), (24, .iinc 2 1, 27, 2, 0, 0, 0, 1, []), (27, .goto (-23), 30, 4, 0, 0, 0, 0, []), (30, .iload_n 1, 31, 1, 0, 0, 0, 0, []), (31, .ireturn, 32, 0, 0, 0, 0, 0, [])]
def zc_157 : List zE := [(0, .iconst 0, 1, 0, 0, 0, 0, 0, []), (1, .istore_n 1, 2, 1, 0, 0, 0, 0, []), (2, .iconst 0, 3, 0, 0, 0, 0, 0, []), (3, .istore_n 2, 4, 2, 0, 0, 0, 0, []), (4, .iload_n 2, 5, 2, 0, 0, 0, 0, []), (5, .aload_n 0, 6, 0, 0, 0, 0, 0, []), (6, .getfield 44, 9, 11, 4, 2, 0, 0, []), (9, .getfield 116, 12, 10, 3, 0, 0, 0, []), (12, .if_icmp .ge 29, 15, 41, 0, 0, 0, 0, []), (15, .iload_n 1, 16, 1, 0, 0, 0, 0, []), (16, .aload_n 0, 17, 0, 0, 0, 0, 0, []), (17, .getfield 89, 20, 11, 16, 2, 0, 0, []), (20, .iload_n 2, 21, 2, 0, 0, 0, 0, []), (21, .iaload, 22, 0, 0, 0, 0, 0, []), (22, .ifCond .le 10, 25, 32, 0, 0, 0, 0, []), (25, .iload_n 2, 26, 2, 0, 0, 0, 0, []), (26, .invokestatic 240, 29, 131, 1, 0, 22, 0, []), (29, .goto 4, 32, 33, 0, 0, 0, 0, []), (32, .iconst 0, 33, 0, 0, 0, 0, 0, []), (33, .ior, 34, 0, 0, 0, 0, 0, []), (34, .istore_n 1, 35, 1, 0, 0, 0, 0, []), (35, .iinc 2 1, 38, 2, 0, 0, 0, 1, []), (38, .goto (-34), 41, 4, 0, 0, 0, 0, []), (41, .iload_n 1, 42, 1, 0, 0, 0, 0, []), (42, .ireturn, 43, 0, 0, 0, 0, 0, [])]
def zc_158 : List zE := [(0, .iconst 0, 1, 0, 0, 0, 0, 0, []), (1, .istore_n 3, 2, 3, 0, 0, 0, 0, []), (2, .iload_n 3, 3, 3, 0, 0, 0, 0, []), (3, .iload_n 2, 4, 2, 0, 0, 0, 0, []), (4, .if_icmp .ge 33, 7, 37, 0, 0, 0, 0, []), (7, .aload_n 0, 8, 0, 0, 0, 0, 0, []), (8, .getfield 48, 11, 11, 5, 2, 0, 0, []), (11, .iconst 0, 12, 0, 0, 0, 0, 0, []), (12, .invokevirtual 460, 15, 77, 2, 1, 21, 0, []), (15, .aload_n 0, 16, 0, 0, 0, 0, 0, []), (16, .getfield 48, 19, 11, 5, 2, 0, 0, []), (19, .getfield 243, 22, 10, 4, 0, 0, 0, []), (22, .iload_n 1, 23, 1, 0, 0, 0, 0, []), (23, .invokestatic 185, 26, 132, 2, 0, 22, 0, []), (26, .ifCond .eq 5, 29, 31, 0, 0, 0, 0, []), (29, .iload_n 3, 30, 3, 0, 0, 0, 0, []), (30, .ireturn, 31, 0, 0, 0, 0, 0, []), (31, .iinc 3 1, 34, 3, 0, 0, 0, 1, []), (34, .goto (-32), 37, 2, 0, 0, 0, 0, []), (37, .iconst (-1), 38, 0, 0, 0, 0, (-1), []), (38, .ireturn, 39, 0, 0, 0, 0, 0, [])]
def zc_159 : List zE := [(0, .aload_n 0, 1, 0, 0, 0, 0, 0, []), (1, .getfield 48, 4, 11, 5, 2, 0, 0, []), (4, .aload_n 0, 5, 0, 0, 0, 0, 0, []), (5, .getfield 44, 8, 11, 4, 2, 0, 0, []), (8, .invokevirtual 237, 11, 71, 2, 1, 21, 0, []), (11, .aload_n 0, 12, 0, 0, 0, 0, 0, []), (12, .getfield 48, 15, 11, 5, 2, 0, 0, []), (15, .getfield 155, 18, 10, 2, 2, 0, 0, []), (18, .aload_n 0, 19, 0, 0, 0, 0, 0, []), (19, .getfield 44, 22, 11, 4, 2, 0, 0, []), (22, .invokevirtual 210, 25, 72, 1, 1, 20, 0, []), (25, .aload_n 0, 26, 0, 0, 0, 0, 0, []), (26, .getfield 44, 29, 11, 4, 2, 0, 0, []), (29, .getfield 155, 32, 10, 2, 2, 0, 0, []), (32, .getfield 189, 35, 4, 5, 0, 0, 0, []), (35, .iconst (-1), 36, 0, 0, 0, 0, (-1), []), (36, .ixor, 37, 0, 0, 0, 0, 0, []), (37, .iand, 38, 0, 0, 0, 0, 0, []), (38, .iload_n 2, 39, 2, 0, 0, 0, 0, []), (39, .iand, 40, 0, 0, 0, 0, 0, []), (40, .invokevirtual 383, 43, 32, 2, 1, 9, 0, []), (43, .aload_n 0, 44, 0, 0, 0, 0, 0, []), (44, .getfield 48, 47, 11, 5, 2, 0, 0, []), (47, .getfield 155, 50, 10, 2, 2, 0, 0, []), (50, .invokevirtual 470, 53, 29, 1, 1, 9, 0, []), (53, .aload_n 0, 54, 0, 0, 0, 0, 0, []), (54, .getfield 48, 57, 11, 5, 2, 0, 0, []), (57, .getfield 155, 60, 10, 2, 2, 0, 0, []), (60, .iload_n 1, 61, 1, 0, 0, 0, 0, []), (61, .aload_n 0, 62, 0, 0, 0, 0, 0, []), (62, .getfield 48, 65, 11, 5, 2, 0, 0, []), (65, .getfield 155, 68, 10, 2, 2, 0, 0, []), (68, .getfield 176, 71, 4, 6, 0, 0, 0, []), (71, .iconst (-1), 72, 0, 0, 0, 0, (-1), []), (72, .iconst 0, 73, 0, 0, 0, 0, 0, []), (73, .invokevirtual 230, 76, 27, 5, 1, 9, 0, []), (76, .iconst 1, 77, 0, 0, 0, 0, 1, []), (77, .istore_n 3, 78, 3, 0, 0, 0, 0, []), (78, .iload_n 3, 79, 3, 0, 0, 0, 0, []), (79, .sipush 300, 82, 0, 0, 0, 0, 300, []), (82, .if_icmp .gt 32, 85, 114, 0, 0, 0, 0, []), (85, .aload_n 0, 86, 0, 0, 0, 0, 0, []), (86, .getfield 48, 89, 11, 5, 2, 0, 0, []), (89, .iconst 1, 90, 0, 0, 0, 0, 1, []), (90, .invokevirtual 460, 93, 77, 2, 1, 21, 0, []), (93, .aload_n 0, 94, 0, 0, 0, 0, 0, []), (94, .getfield 48, 97, 11, 5, 2, 0, 0, []), (97, .getfield 155, 100, 10, 2, 2, 0, 0, []), (100, .invokevirtual 420, 103, 30, 1, 1, 8, 0, []), (103, .ifCond .ne 5, 106, 108, 0, 0, 0, 0, []), (106, .iload_n 3, 107, 3, 0, 0, 0, 0, []), (107, .ireturn, 108, 0, 0, 0, 0, 0, []), (108, .iinc 3 1, 111, 3, 0, 0, 0, 1, []), (111, .goto (-33), 114, 78, 0, 0, 0, 0, []), (114, .bipush (-2), 116, 0, 0, 0, 0, (-2), []), (116, .ireturn, 117, 0, 0, 0, 0, 0, [])]
def zc_160 : List zE := [(0, .iload_n 0, 1, 0, 0, 0, 0, 0, []), (1, .invokestatic 219, 4, 0, 1, 0, 26, 0, []), (4, .istore_n 2, 5, 2, 0, 0, 0, 0, []), (5, .iload_n 0, 6, 0, 0, 0, 0, 0, []), (6, .iconst 1, 7, 0, 0, 0, 0, 1, []), (7, .iadd, 8, 0, 0, 0, 0, 0, []), (8, .istore_n 3, 9, 3, 0, 0, 0, 0, []), (9, .iload_n 3, 10, 3, 0, 0, 0, 0, []), (10, .iload_n 1, 11, 1, 0, 0, 0, 0, []), (11, .if_icmp .gt 27, 14, 38, 0, 0, 0, 0, []), (14, .iload_n 3, 15, 3, 0, 0, 0, 0, []), (15, .iload_n 1, 16, 1, 0, 0, 0, 0, []), (16, .iconst (-1), 17, 0, 0, 0, 0, (-1), []), (17, .ixor, 18, 0, 0, 0, 0, 0, []), (18, .iand, 19, 0, 0, 0, 0, 0, []), (19, .ifCond .ne 13, 22, 32, 0, 0, 0, 0, []), (22, .iload_n 3, 23, 3, 0, 0, 0, 0, []), (23, .invokestatic 219, 26, 0, 1, 0, 26, 0, []), (26, .iload_n 2, 27, 2, 0, 0, 0, 0, []), (27, .if_icmp .ne 5, 30, 32, 0, 0, 0, 0, []), (30, .iload_n 3, 31, 3, 0, 0, 0, 0, []), (31, .ireturn, 32, 0, 0, 0, 0, 0, []), (32, .iinc 3 1, 35, 3, 0, 0, 0, 1, []), (35, .goto (-26), 38, 9, 0, 0, 0, 0, []), (38, .iconst 0, 39, 0, 0, 0, 0, 0, []), (39, .istore_n 3, 40, 3, 0, 0, 0, 0, []), (40, .iload_n 3, 41, 3, 0, 0, 0, 0, []), (41, .iload_n 1, 42, 1, 0, 0, 0, 0, []), (42, .if_icmp .gt 29, 45, 71, 0, 0, 0, 0, []), (45, .iload_n 3, 46, 3, 0, 0, 0, 0, []), (46, .iload_n 1, 47, 1, 0, 0, 0, 0, []), (47, .iconst (-1), 48, 0, 0, 0, 0, (-1), []), (48, .ixor, 49, 0, 0, 0, 0, 0, []), (49, .iand, 50, 0, 0, 0, 0, 0, []), (50, .ifCond .ne 15, 53, 65, 0, 0, 0, 0, []), (53, .iload_n 3, 54, 3, 0, 0, 0, 0, []), (54, .invokestatic 219, 57, 0, 1, 0, 26, 0, []), (57, .iload_n 2, 58, 2, 0, 0, 0, 0, []), (58, .iconst 1, 59, 0, 0, 0, 0, 1, []), (59, .iadd, 60, 0, 0, 0, 0, 0, []), (60, .if_icmp .ne 5, 63, 65, 0, 0, 0, 0, []), (63, .iload_n 3, 64, 3, 0, 0, 0, 0, []), (64, .ireturn, 65, 0, 0, 0, 0, 0, []), (65, .iinc 3 1, 68, 3, 0, 0, 0, 1, []), (68, .goto (-28), 71, 40, 0, 0, 0, 0, []), (71, .iconst (-1), 72, 0, 0, 0, 0, (-1), []), (72, .ireturn, 73, 0, 0, 0, 0, 0, [])]
def zc_161 : List zE := [(0, .aload_n 0, 1, 0, 0, 0, 0, 0, []), (1, .getfield 89, 4, 11, 16, 2, 0, 0, []), (4, .iconst (-1), 5, 0, 0, 0, 0, (-1), []), (5, .invokestatic 423, 8, 5, 2, 0, 31, 0, []), (8, .aload_n 0, 9, 0, 0, 0, 0, 0, []), (9, .getfield 89, 12, 11, 16, 2, 0, 0, []), (12, .iload_n 1, 13, 1, 0, 0, 0, 0, []), (13, .iconst 0, 14, 0, 0, 0, 0, 0, []), (14, .iastore, 15, 0, 0, 0, 0, 0, []), (15, .iconst 0, 16, 0, 0, 0, 0, 0, []), (16, .istore_n 2, 17, 2, 0, 0, 0, 0, []), (17, .iload_n 2, 18, 2, 0, 0, 0, 0, []), (18, .aload_n 0, 19, 0, 0, 0, 0, 0, []), (19, .getfield 44, 22, 11, 4, 2, 0, 0, []), (22, .getfield 116, 25, 10, 3, 0, 0, 0, []), (25, .if_icmp .ge 122, 28, 147, 0, 0, 0, 0, []), (28, .iconst 0, 29, 0, 0, 0, 0, 0, []), (29, .istore_n 3, 30, 3, 0, 0, 0, 0, []), (30, .iload_n 3, 31, 3, 0, 0, 0, 0, []), (31, .aload_n 0, 32, 0, 0, 0, 0, 0, []), (32, .getfield 44, 35, 11, 4, 2, 0, 0, []), (35, .getfield 116, 38, 10, 3, 0, 0, 0, []), (38, .if_icmp .ge 103, 41, 141, 0, 0, 0, 0, []), (41, .iconst 0, 42, 0, 0, 0, 0, 0, []), (42, .istore 4, 44, 4, 0, 0, 0, 0, []), (44, .iload 4, 46, 4, 0, 0, 0, 0, []), (46, .aload_n 0, 47, 0, 0, 0, 0, 0, []), (47, .getfield 44, 50, 11, 4, 2, 0, 0, []), (50, .getfield 116, 53, 10, 3, 0, 0, 0, []), (53, .if_icmp .ge 82, 56, 135, 0, 0, 0, 0, []), (56, .aload_n 0, 57, 0, 0, 0, 0, 0, []), (57, .getfield 89, 60, 11, 16, 2, 0, 0, []), (60, .iload_n 3, 61, 3, 0, 0, 0, 0, []), (61, .iaload, 62, 0, 0, 0, 0, 0, []), (62, .iconst (-1), 63, 0, 0, 0, 0, (-1), []), (63, .if_icmp .eq 66, 66, 129, 0, 0, 0, 0, []), (66, .aload_n 0, 67, 0, 0, 0, 0, 0, []), (67, .iload 4, 69, 4, 0, 0, 0, 0, []), (69, .iload_n 3, 70, 3, 0, 0, 0, 0, []), (70, .invokevirtual 473, 73, 162, 3, 1, 22, 0, []), (73, .ifCond .eq 56, 76, 129, 0, 0, 0, 0, []), (76, .aload_n 0, 77, 0, 0, 0, 0, 0, []), (77, .getfield 44, 80, 11, 4, 2, 0, 0, []), (80, .getfield 167, 83, 10, 0, 2, 0, 0, []), (83, .iload_n 3, 84, 3, 0, 0, 0, 0, []), (84, .iaload, 85, 0, 0, 0, 0, 0, []), (85, .aload_n 0, 86, 0, 0, 0, 0, 0, []), (86, .getfield 89, 89, 11, 16, 2, 0, 0, []), (89, .iload_n 3, 90, 3, 0, 0, 0, 0, []), (90, .iaload, 91, 0, 0, 0, 0, 0, []), (91, .iadd, 92, 0, 0, 0, 0, 0, []), (92, .istore 5, 94, 5, 0, 0, 0, 0, []), (94, .aload_n 0, 95, 0, 0, 0, 0, 0, []), (95, .getfield 89, 98, 11, 16, 2, 0, 0, []), (98, .iload 4, 100, 4, 0, 0, 0, 0, []), (100, .aload_n 0, 101, 0, 0, 0, 0, 0, []), (101, .getfield 89, 104, 11, 16, 2, 0, 0, []), (104, .iload 4, 106, 4, 0, 0, 0, 0, []), (106, .iaload, 107, 0, 0, 0, 0, 0, []), (107, .iconst (-1), 108, 0, 0, 0, 0, (-1), []), (108, .if_icmp .ne 8, 111, 116, 0, 0, 0, 0, []), (111, .iload 5, 113, 5, 0, 0, 0, 0, []), (113, .goto 15, 116, 128, 0, 0, 0, 0, []), (116, .aload_n 0, 117, 0, 0, 0, 0, 0, []), (117, .getfield 89, 120, 11, 16, 2, 0, 0, []), (120, .iload 4, 122, 4, 0, 0, 0, 0, []), (122, .iaload, 123, 0, 0, 0, 0, 0, []), (123, .iload 5, 125, 5, 0, 0, 0, 0, []), (125, .invokestatic 429, 128, 4, 2, 0, 28, 0, []), (128, .iastore, 129, 0, 0, 0, 0, 0, []), (129, .iinc 4 1, 132, 4, 0, 0, 0, 1, []), (132, .goto (-88), 135, 44, 0, 0, 0, 0, []), (135, .iinc 3 1, 138, 3, 0, 0, 0, 1, []), (138, .goto (-108), 141, 30, 0, 0, 0, 0, []), (141, .iinc 2 1, 144, 2, 0, 0, 0, 1, []), (144, .goto (-127), 147, 17, 0, 0, 0, 0, []), (147, .return_, 148, 0, 0, 0, 0, 0, [])]
def zc_162 : List zE := [(0, .aload_n 0, 1, 0, 0, 0, 0, 0, []), (1, .iload_n 1, 2, 1, 0, 0, 0, 0, []), (2, .invokevirtual 360, 5, 135, 2, 1, 22, 0, []), (5, .ifCond .eq 30, 8, 35, 0, 0, 0, 0, []), (8, .aload_n 0, 9, 0, 0, 0, 0, 0, []), (9, .iload_n 2, 10, 2, 0, 0, 0, 0, []), (10, .invokevirtual 360, 13, 135, 2, 1, 22, 0, []), (13, .ifCond .eq 22, 16, 35, 0, 0, 0, 0, []), (16, .aload_n 0, 17, 0, 0, 0, 0, 0, []), (17, .getfield 44, 20, 11, 4, 2, 0, 0, []), (20, .iload_n 2, 21, 2, 0, 0, 0, 0, []), (21, .invokevirtual 170, 24, 74, 2, 1, 20, 0, []), (24, .iload_n 1, 25, 1, 0, 0, 0, 0, []), (25, .invokestatic 185, 28, 132, 2, 0, 22, 0, []), (28, .ifCond .eq 7, 31, 35, 0, 0, 0, 0, []), (31, .iconst 1, 32, 0, 0, 0, 0, 1, []), (32, .goto 4, 35, 36, 0, 0, 0, 0, []), (35, .iconst 0, 36, 0, 0, 0, 0, 0, []), (36, .ireturn, 37, 0, 0, 1, 0, 0, [])]
def zc_163 : List zE := [(0, .iconst 0, 1, 0, 0, 0, 0, 0, []), (1, .istore_n 2, 2, 2, 0, 0, 0, 0, []), (2, .iload_n 2, 3, 2, 0, 0, 0, 0, []), (3, .aload_n 0, 4, 0, 0, 0, 0, 0, []), (4, .getfield 44, 7, 11, 4, 2, 0, 0, []), (7, .getfield 116, 10, 10, 3, 0, 0, 0, []), (10, .if_icmp .ge 55, 13, 65, 0, 0, 0, 0, []), (13, .aload_n 0, 14, 0, 0, 0, 0, 0, []), (14, .getfield 89, 17, 11, 16, 2, 0, 0, []), (17, .iload_n 2, 18, 2, 0, 0, 0, 0, []), (18, .iaload, 19, 0, 0, 0, 0, 0, []), (19, .iconst (-1), 20, 0, 0, 0, 0, (-1), []), (20, .if_icmp .eq 39, 23, 59, 0, 0, 0, 0, []), (23, .aload_n 0, 24, 0, 0, 0, 0, 0, []), (24, .iload_n 1, 25, 1, 0, 0, 0, 0, []), (25, .iload_n 2, 26, 2, 0, 0, 0, 0, []), (26, .invokevirtual 473, 29, 162, 3, 1, 22, 0, []), (29, .ifCond .eq 30, 32, 59, 0, 0, 0, 0, []), (32, .aload_n 0, 33, 0, 0, 0, 0, 0, []), (33, .getfield 44, 36, 11, 4, 2, 0, 0, []), (36, .getfield 167, 39, 10, 0, 2, 0, 0, []), (39, .iload_n 2, 40, 2, 0, 0, 0, 0, []), (40, .iaload, 41, 0, 0, 0, 0, 0, []), (41, .aload_n 0, 42, 0, 0, 0, 0, 0, []), (42, .getfield 89, 45, 11, 16, 2, 0, 0, []), (45, .iload_n 2, 46, 2, 0, 0, 0, 0, []), (46, .iaload, 47, 0, 0, 0, 0, 0, []), (47, .iadd, 48, 0, 0, 0, 0, 0, []), (48, .aload_n 0, 49, 0, 0, 0, 0, 0, []), (49, .getfield 89, 52, 11, 16, 2, 0, 0, []), (52, .iload_n 1, 53, 1, 0, 0, 0, 0, []), (53, .iaload, 54, 0, 0, 0, 0, 0, []), (54, .if_icmp .ne 5, 57, 59, 0, 0, 0, 0, []), (57, .iload_n 2, 58, 2, 0, 0, 0, 0, []), (58, .ireturn, 59, 0, 0, 0, 0, 0, []), (59, .iinc 2 1, 62, 2, 0, 0, 0, 1, []), (62, .goto (-60), 65, 2, 0, 0, 0, 0, []), (65, .iconst (-1), 66, 0, 0, 0, 0, (-1), []), (66, .ireturn, 67, 0, 0, 0, 0, 0, [])]
def zc_164 : List zE := [(0, .aload_n 0, 1, 0, 0, 0, 0, 0, []), (1, .getfield 48, 4, 11, 5, 2, 0, 0, []), (4, .aload_n 0, 5, 0, 0, 0, 0, 0, []), (5, .getfield 44, 8, 11, 4, 2, 0, 0, []), (8, .invokevirtual 237, 11, 71, 2, 1, 21, 0, []), (11, .aload_n 0, 12, 0, 0, 0, 0, 0, []), (12, .iload_n 2, 13, 2, 0, 0, 0, 0, []), (13, .invokevirtual 145, 16, 134, 2, 1, 22, 0, []), (16, .ifCond .eq 19, 19, 35, 0, 0, 0, 0, []), (19, .aload_n 0, 20, 0, 0, 0, 0, 0, []), (20, .getfield 48, 23, 11, 5, 2, 0, 0, []), (23, .getfield 200, 26, 10, 1, 2, 0, 0, []), (26, .iload_n 2, 27, 2, 0, 0, 0, 0, []), (27, .dup2, 28, 0, 0, 0, 0, 0, []), (28, .iaload, 29, 0, 0, 0, 0, 0, []), (29, .iload_n 1, 30, 1, 0, 0, 0, 0, []), (30, .invokestatic 240, 33, 131, 1, 0, 22, 0, []), (33, .ior, 34, 0, 0, 0, 0, 0, []), (34, .iastore, 35, 0, 0, 0, 0, 0, []), (35, .iconst 0, 36, 0, 0, 0, 0, 0, []), (36, .istore 4, 38, 4, 0, 0, 0, 0, []), (38, .iconst 0, 39, 0, 0, 0, 0, 0, []), (39, .istore 5, 41, 5, 0, 0, 0, 0, []), (41, .iload 5, 43, 5, 0, 0, 0, 0, []), (43, .iload_n 3, 44, 3, 0, 0, 0, 0, []), (44, .if_icmp .ge 77, 47, 121, 0, 0, 0, 0, []), (47, .aload_n 0, 48, 0, 0, 0, 0, 0, []), (48, .getfield 48, 51, 11, 5, 2, 0, 0, []), (51, .iconst 0, 52, 0, 0, 0, 0, 0, []), (52, .invokevirtual 460, 55, 77, 2, 1, 21, 0, []), (55, .iconst 0, 56, 0, 0, 0, 0, 0, []), (56, .istore 6, 58, 6, 0, 0, 0, 0, []), (58, .iload 6, 60, 6, 0, 0, 0, 0, []), (60, .aload_n 0, 61, 0, 0, 0, 0, 0, []), (61, .getfield 44, 64, 11, 4, 2, 0, 0, []), (64, .getfield 116, 67, 10, 3, 0, 0, 0, []), (67, .if_icmp .ge 48, 70, 115, 0, 0, 0, 0, []), (70, .iload 4, 72, 4, 0, 0, 0, 0, []), (72, .aload_n 0, 73, 0, 0, 0, 0, 0, []), (73, .getfield 48, 76, 11, 5, 2, 0, 0, []), (76, .getfield 243, 79, 10, 4, 0, 0, 0, []), (79, .iload 6, 81, 6, 0, 0, 0, 0, []), (81, .invokestatic 185, 84, 132, 2, 0, 22, 0, []), (84, .ifCond .eq 21, 87, 105, 0, 0, 0, 0, []), (87, .aload_n 0, 88, 0, 0, 0, 0, 0, []), (88, .getfield 48, 91, 11, 5, 2, 0, 0, []), (91, .getfield 342, 94, 10, 7, 2, 0, 0, []), (94, .iload 6, 96, 6, 0, 0, 0, 0, []), (96, .iaload, 97, 0, 0, 0, 0, 0, []), (97, .iload_n 1, 98, 1, 0, 0, 0, 0, []), (98, .if_icmp .ne 7, 101, 105, 0, 0, 0, 0, []), (101, .iconst 1, 102, 0, 0, 0, 0, 1, []), (102, .goto 4, 105, 106, 0, 0, 0, 0, []), (105, .iconst 0, 106, 0, 0, 0, 0, 0, []), (106, .iadd, 107, 0, 0, 0, 0, 0, []), (107, .istore 4, 109, 4, 0, 0, 0, 0, []), (109, .iinc 6 1, 112, 6, 0, 0, 0, 1, []), (112, .goto (-54), 115, 58, 0, 0, 0, 0, []), (115, .iinc 5 1, 118, 5, 0, 0, 0, 1, []), (118, .goto (-77), 121, 41, 0, 0, 0, 0, []), (121, .iload 4, 123, 4, 0, 0, 0, 0, []), (123, .ireturn, 124, 0, 0, 0, 0, 0, [])]
def zc_165 : List zE := [(0, .aload_n 0, 1, 0, 0, 0, 0, 0, []), (1, .getfield 48, 4, 11, 5, 2, 0, 0, []), (4, .aload_n 0, 5, 0, 0, 0, 0, 0, []), (5, .getfield 44, 8, 11, 4, 2, 0, 0, []), (8, .invokevirtual 237, 11, 71, 2, 1, 21, 0, []), (11, .aload_n 0, 12, 0, 0, 0, 0, 0, []), (12, .getfield 48, 15, 11, 5, 2, 0, 0, []), (15, .getfield 155, 18, 10, 2, 2, 0, 0, []), (18, .iload_n 1, 19, 1, 0, 0, 0, 0, []), (19, .iconst 4, 20, 0, 0, 0, 0, 4, []), (20, .invokevirtual 380, 23, 33, 3, 1, 9, 0, []), (23, .aload_n 0, 24, 0, 0, 0, 0, 0, []), (24, .getfield 48, 27, 11, 5, 2, 0, 0, []), (27, .getfield 155, 30, 10, 2, 2, 0, 0, []), (30, .iload_n 2, 31, 2, 0, 0, 0, 0, []), (31, .bipush (-4), 33, 0, 0, 0, 0, (-4), []), (33, .invokevirtual 380, 36, 33, 3, 1, 9, 0, []), (36, .return_, 37, 0, 0, 0, 0, 0, [])]
def zc_166 : List zE := [(0, .iload_n 1, 1, 1, 0, 0, 0, 0, []), (1, .ifCond .ne 7, 4, 8, 0, 0, 0, 0, []), (4, .iload_n 2, 5, 2, 0, 0, 0, 0, []), (5, .goto 4, 8, 9, 0, 0, 0, 0, []), (8, .iload_n 3, 9, 3, 0, 0, 0, 0, []), (9, .istore 4, 11, 4, 0, 0, 0, 0, []), (11, .iload 4, 13, 4, 0, 0, 0, 0, []), (13, .istore 5, 15, 5, 0, 0, 0, 0, []), (15, .aload_n 0, 16, 0, 0, 0, 0, 0, []), (16, .iload_n 2, 17, 2, 0, 0, 0, 0, []), (17, .iload_n 3, 18, 3, 0, 0, 0, 0, []), (18, .invokevirtual 392, 21, 165, 3, 1, 23, 0, []), (21, .aload_n 0, 22, 0, 0, 0, 0, 0, []), (22, .sipush 300, 25, 0, 0, 0, 0, 300, []), (25, .invokevirtual 321, 28, 150, 2, 1, 22, 0, []), (28, .invokestatic 377, 31, 152, 1, 0, 22, 0, []), (31, .istore 6, 33, 6, 0, 0, 0, 0, []), (33, .iconst (-1), 34, 0, 0, 0, 0, (-1), []), (34, .istore 7, 36, 7, 0, 0, 0, 0, []), (36, .iload 7, 38, 7, 0, 0, 0, 0, []), (38, .aload_n 0, 39, 0, 0, 0, 0, 0, []), (39, .getfield 44, 42, 11, 4, 2, 0, 0, []), (42, .getfield 116, 45, 10, 3, 0, 0, 0, []), (45, .if_icmp .ge 74, 48, 119, 0, 0, 0, 0, []), (48, .aload_n 0, 49, 0, 0, 0, 0, 0, []), (49, .iload_n 1, 50, 1, 0, 0, 0, 0, []), (50, .ifCond .ne 8, 53, 58, 0, 0, 0, 0, []), (53, .iload 7, 55, 7, 0, 0, 0, 0, []), (55, .goto 4, 58, 59, 0, 0, 0, 0, []), (58, .iload_n 2, 59, 2, 0, 0, 0, 0, []), (59, .iload_n 1, 60, 1, 0, 0, 0, 0, []), (60, .ifCond .ne 7, 63, 67, 0, 0, 0, 0, []), (63, .iload_n 3, 64, 3, 0, 0, 0, 0, []), (64, .goto 5, 67, 69, 0, 0, 0, 0, []), (67, .iload 7, 69, 7, 0, 0, 0, 0, []), (69, .invokevirtual 392, 72, 165, 3, 1, 23, 0, []), (72, .aload_n 0, 73, 0, 0, 0, 0, 0, []), (73, .sipush 300, 76, 0, 0, 0, 0, 300, []), (76, .invokevirtual 321, 79, 150, 2, 1, 22, 0, []), (79, .invokestatic 377, 82, 152, 1, 0, 22, 0, []), (82, .istore 8, 84, 8, 0, 0, 0, 0, []), (84, .iload_n 1, 85, 1, 0, 0, 0, 0, []), (85, .ifCond .ne 13, 88, 98, 0, 0, 0, 0, []), (88, .iload 8, 90, 8, 0, 0, 0, 0, []), (90, .iload 6, 92, 6, 0, 0, 0, 0, []), (92, .if_icmp .ge 21, 95, 113, 0, 0, 0, 0, []), (95, .goto 10, 98, 105, 0, 0, 0, 0, []), (98, .iload 8, 100, 8, 0, 0, 0, 0, []), (100, .iload 6, 102, 6, 0, 0, 0, 0, []), (102, .if_icmp .le 11, 105, 113, 0, 0, 0, 0, []), (105, .iload 7, 107, 7, 0, 0, 0, 0, []), (107, .istore 5, 109, 5, 0, 0, 0, 0, []), (109, .iload 8, 111, 8, 0, 0, 0, 0, []), (111, .istore 6, 113, 6, 0, 0, 0, 0, []), (113, .iinc 7 1, 116, 7, 0, 0, 0, 1, []), (116, .goto (-80), 119, 36, 0, 0, 0, 0, []), (119, .iload 5, 121, 5, 0, 0, 0, 0, []), (121, .ireturn, 122, 0, 0, 0, 0, 0, [])]
def zc_167 : List zE := [(0, .iconst 0, 1, 0, 0, 0, 0, 0, []), (1, .istore 4, 3, 4, 0, 0, 0, 0, []), (3, .iconst 0, 4, 0, 0, 0, 0, 0, []), (4, .istore 5, 6, 5, 0, 0, 0, 0, []), (6, .iload 5, 8, 5, 0, 0, 0, 0, []), (8, .iload_n 3, 9, 3, 0, 0, 0, 0, []), (9, .if_icmp .ge 40, 12, 49, 0, 0, 0, 0, []), (12, .iload 5, 14, 5, 0, 0, 0, 0, []), (14, .aload_n 0, 15, 0, 0, 0, 0, 0, []), (15, .getfield 89, 18, 11, 16, 2, 0, 0, []), (18, .arraylength, 19, 0, 0, 0, 0, 0, []), (19, .if_icmp .ge 30, 22, 49, 0, 0, 0, 0, []), (22, .iload 4, 24, 4, 0, 0, 0, 0, []), (24, .aload_n 0, 25, 0, 0, 0, 0, 0, []), (25, .getfield 74, 28, 11, 9, 2, 0, 0, []), (28, .iload_n 1, 29, 1, 0, 0, 0, 0, []), (29, .iload_n 2, 30, 2, 0, 0, 0, 0, []), (30, .aload_n 0, 31, 0, 0, 0, 0, 0, []), (31, .getfield 89, 34, 11, 16, 2, 0, 0, []), (34, .iload 5, 36, 5, 0, 0, 0, 0, []), (36, .iaload, 37, 0, 0, 0, 0, 0, []), (37, .invokevirtual 404, 40, 21, 4, 1, 4, 0, []), (40, .iadd, 41, 0, 0, 0, 0, 0, []), (41, .istore 4, 43, 4, 0, 0, 0, 0, []), (43, .iinc 5 1, 46, 5, 0, 0, 0, 1, []), (46, .goto (-40), 49, 6, 0, 0, 0, 0, []), (49, .iload 4, 51, 4, 0, 0, 0, 0, []), (51, .ireturn, 52, 0, 0, 0, 0, 0, [])]
def zc_168 : List zE := [(0, .aload_n 0, 1, 0, 0, 0, 0, 0, []), (1, .getfield 48, 4, 11, 5, 2, 0, 0, []), (4, .aload_n 0, 5, 0, 0, 0, 0, 0, []), (5, .getfield 44, 8, 11, 4, 2, 0, 0, []), (8, .invokevirtual 237, 11, 71, 2, 1, 21, 0, []), (11, .iconst 0, 12, 0, 0, 0, 0, 0, []), (12, .istore_n 2, 13, 2, 0, 0, 0, 0, []), (13, .iload_n 2, 14, 2, 0, 0, 0, 0, []), (14, .aload_n 0, 15, 0, 0, 0, 0, 0, []), (15, .getfield 44, 18, 11, 4, 2, 0, 0, []), (18, .getfield 116, 21, 10, 3, 0, 0, 0, []), (21, .if_icmp .ge 40, 24, 61, 0, 0, 0, 0, []), (24, .iload_n 1, 25, 1, 0, 0, 0, 0, []), (25, .iload_n 2, 26, 2, 0, 0, 0, 0, []), (26, .invokestatic 185, 29, 132, 2, 0, 22, 0, []), (29, .ifCond .eq 26, 32, 55, 0, 0, 0, 0, []), (32, .aload_n 0, 33, 0, 0, 0, 0, 0, []), (33, .getfield 48, 36, 11, 5, 2, 0, 0, []), (36, .getfield 155, 39, 10, 2, 2, 0, 0, []), (39, .iload_n 2, 40, 2, 0, 0, 0, 0, []), (40, .aload_n 0, 41, 0, 0, 0, 0, 0, []), (41, .getfield 48, 44, 11, 5, 2, 0, 0, []), (44, .getfield 155, 47, 10, 2, 2, 0, 0, []), (47, .getfield 176, 50, 4, 6, 0, 0, 0, []), (50, .iconst (-1), 51, 0, 0, 0, 0, (-1), []), (51, .iconst 0, 52, 0, 0, 0, 0, 0, []), (52, .invokevirtual 230, 55, 27, 5, 1, 9, 0, []), (55, .iinc 2 1, 58, 2, 0, 0, 0, 1, []), (58, .goto (-45), 61, 13, 0, 0, 0, 0, []), (61, .aload_n 0, 62, 0, 0, 0, 0, 0, []), (62, .getfield 81, 65, 11, 10, 2, 0, 0, []), (65, .aload_n 0, 66, 0, 0, 0, 0, 0, []), (66, .getfield 48, 69, 11, 5, 2, 0, 0, []), (69, .invokevirtual 416, 72, 57, 2, 1, 16, 0, []), (72, .ireturn, 73, 0, 0, 1, 0, 0, [])]
def zc_169 : List zE := [(0, .aload_n 0, 1, 0, 0, 0, 0, 0, []), (1, .invokespecial 3, 4, 0, 0, 6, 0, 0, []), (4, .aload_n 0, 5, 0, 0, 0, 0, 0, []), (5, .sipush 288, 8, 0, 0, 0, 0, 288, []), (8, .newarray .int, 10, 1, 0, 0, 0, 0, []), (10, .putfield 9, 13, 12, 0, 2, 1, 0, []), (13, .aload_n 0, 14, 0, 0, 0, 0, 0, []), (14, .bipush 9, 16, 0, 0, 0, 0, 9, []), (16, .newarray .int, 18, 1, 0, 0, 0, 0, []), (18, .putfield 13, 21, 12, 2, 2, 1, 0, []), (21, .aload_n 0, 22, 0, 0, 0, 0, 0, []), (22, .bipush 9, 24, 0, 0, 0, 0, 9, []), (24, .newarray .int, 26, 1, 0, 0, 0, 0, []), (26, .putfield 16, 29, 12, 3, 2, 1, 0, []), (29, .aload_n 0, 30, 0, 0, 0, 0, 0, []), (30, .bipush 40, 32, 0, 0, 0, 0, 40, []), (32, .newarray .int, 34, 1, 0, 0, 0, 0, []), (34, .putfield 19, 37, 12, 5, 2, 1, 0, []), (37, .aload_n 0, 38, 0, 0, 0, 0, 0, []), (38, .bipush 80, 40, 0, 0, 0, 0, 80, []), (40, .newarray .byte, 42, 2, 0, 0, 0, 0, []), (42, .putfield 22, 45, 12, 8, 2, 1, 0, []), (45, .aload_n 0, 46, 0, 0, 0, 0, 0, []), (46, .bipush 16, 48, 0, 0, 0, 0, 16, []), (48, .newarray .int, 50, 1, 0, 0, 0, 0, []), (50, .putfield 26, 53, 12, 10, 2, 1, 0, []), (53, .aload_n 0, 54, 0, 0, 0, 0, 0, []), (54, .bipush 27, 56, 0, 0, 0, 0, 27, []), (56, .newarray .int, 58, 1, 0, 0, 0, 0, []), (58, .putfield 29, 61, 12, 18, 2, 1, 0, []), (61, .aload_n 0, 62, 0, 0, 0, 0, 0, []), (62, .bipush 40, 64, 0, 0, 0, 0, 40, []), (64, .newarray .byte, 66, 2, 0, 0, 0, 0, []), (66, .putfield 32, 69, 12, 19, 2, 1, 0, []), (69, .aload_n 0, 70, 0, 0, 0, 0, 0, []), (70, .sipush 3456, 73, 0, 0, 0, 0, 3456, []), (73, .newarray .int, 75, 1, 0, 0, 0, 0, []), (75, .putfield 35, 78, 12, 29, 2, 1, 0, []), (78, .aload_n 0, 79, 0, 0, 0, 0, 0, []), (79, .sipush 288, 82, 0, 0, 0, 0, 288, []), (82, .newarray .int, 84, 1, 0, 0, 0, 0, []), (84, .putfield 38, 87, 12, 31, 2, 1, 0, []), (87, .aload_n 0, 88, 0, 0, 0, 0, 0, []), (88, .sipush 240, 91, 0, 0, 0, 0, 240, []), (91, .newarray .int, 93, 1, 0, 0, 0, 0, []), (93, .putfield 41, 96, 12, 32, 2, 1, 0, []), (96, .aload_n 0, 97, 0, 0, 0, 0, 0, []), (97, .sipush 288, 100, 0, 0, 0, 0, 288, []), (100, .newarray .int, 102, 1, 0, 0, 0, 0, []), (102, .putfield 44, 105, 12, 34, 2, 1, 0, []), (105, .aload_n 0, 106, 0, 0, 0, 0, 0, []), (106, .bipush 9, 108, 0, 0, 0, 0, 9, []), (108, .newarray .int, 110, 1, 0, 0, 0, 0, []), (110, .putfield 47, 113, 12, 37, 2, 1, 0, []), (113, .aload_n 0, 114, 0, 0, 0, 0, 0, []), (114, .bipush 9, 116, 0, 0, 0, 0, 9, []), (116, .newarray .int, 118, 1, 0, 0, 0, 0, []), (118, .putfield 50, 121, 12, 39, 2, 1, 0, []), (121, .aload_n 0, 122, 0, 0, 0, 0, 0, []), (122, .bipush 9, 124, 0, 0, 0, 0, 9, []), (124, .newarray .int, 126, 1, 0, 0, 0, 0, []), (126, .putfield 53, 129, 12, 40, 2, 1, 0, []), (129, .aload_n 0, 130, 0, 0, 0, 0, 0, []), (130, .iconst 2, 131, 0, 0, 0, 0, 2, []), (131, .newarray .int, 133, 1, 0, 0, 0, 0, []), (133, .putfield 56, 136, 12, 41, 2, 1, 0, []), (136, .aload_n 0, 137, 0, 0, 0, 0, 0, []), (137, .bipush 15, 139, 0, 0, 0, 0, 15, []), (139, .newarray .int, 141, 1, 0, 0, 0, 0, []), (141, .putfield 59, 144, 12, 42, 2, 1, 0, []), (144, .aload_n 0, 145, 0, 0, 0, 0, 0, []), (145, .bipush 10, 147, 0, 0, 0, 0, 10, []), (147, .newarray .int, 149, 1, 0, 0, 0, 0, []), (149, .putfield 62, 152, 12, 44, 2, 1, 0, []), (152, .aload_n 0, 153, 0, 0, 0, 0, 0, []), (153, .bipush 20, 155, 0, 0, 0, 0, 20, []), (155, .newarray .int, 157, 1, 0, 0, 0, 0, []), (157, .putfield 65, 160, 12, 45, 2, 1, 0, []), (160, .aload_n 0, 161, 0, 0, 0, 0, 0, []), (161, .sipush 576, 164, 0, 0, 0, 0, 576, []), (164, .newarray .int, 166, 1, 0, 0, 0, 0, []), (166, .putfield 68, 169, 12, 48, 2, 1, 0, []), (169, .aload_n 0, 170, 0, 0, 0, 0, 0, []), (170, .iconst 2, 171, 0, 0, 0, 0, 2, []), (171, .newarray .boolean, 173, 3, 0, 0, 0, 0, []), (173, .putfield 71, 176, 12, 49, 2, 1, 0, []), (176, .aload_n 0, 177, 0, 0, 0, 0, 0, []), (177, .iconst 2, 178, 0, 0, 0, 0, 2, []), (178, .newarray .int, 180, 1, 0, 0, 0, 0, []), (180, .putfield 75, 183, 12, 50, 2, 1, 0, []), (183, .return_, 184, 0, 0, 0, 0, 0, [])]
def zc_170 : List zE := [(0, .aload_n 0, 1, 0, 0, 0, 0, 0, []), (1, .getfield 78, 4, 12, 12, 0, 0, 0, []), (4, .ireturn, 5, 0, 0, 0, 0, 0, [])]
def zc_171 : List zE := [(0, .iload_n 0, 1, 0, 0, 0, 0, 0, []), (1, .iload_n 1, 2, 1, 0, 0, 0, 0, []), (2, .if_icmp .lt 12, 5, 14, 0, 0, 0, 0, []), (5, .iload_n 0, 6, 0, 0, 0, 0, 0, []), (6, .iload_n 2, 7, 2, 0, 0, 0, 0, []), (7, .if_icmp .gt 7, 10, 14, 0, 0, 0, 0, []), (10, .iconst 1, 11, 0, 0, 0, 0, 1, []), (11, .goto 4, 14, 15, 0, 0, 0, 0, []), (14, .iconst 0, 15, 0, 0, 0, 0, 0, []), (15, .ireturn, 16, 0, 0, 1, 0, 0, [])]
def zc_172 : List zE := [(0, .iload_n 0, 1, 0, 0, 0, 0, 0, []), (1, .iload_n 1, 2, 1, 0, 0, 0, 0, []), (2, .ishr, 3, 0, 0, 0, 0, 0, []), (3, .iconst 1, 4, 0, 0, 0, 0, 1, []), (4, .iand, 5, 0, 0, 0, 0, 0, []), (5, .iconst 1, 6, 0, 0, 0, 0, 1, []), (6, .if_icmp .ne 7, 9, 13, 0, 0, 0, 0, []), (9, .iconst 1, 10, 0, 0, 0, 0, 1, []), (10, .goto 4, 13, 14, 0, 0, 0, 0, []), (13, .iconst 0, 14, 0, 0, 0, 0, 0, []), (14, .ireturn, 15, 0, 0, 1, 0, 0, [])]
def zc_173 : List zE := [(0, .aload_n 0, 1, 0, 0, 0, 0, 0, []), (1, .iconst 1, 2, 0, 0, 0, 0, 1, []), (2, .putfield 78, 5, 12, 12, 0, 0, 0, []), (5, .iconst 0, 6, 0, 0, 0, 0, 0, []), (6, .ireturn, 7, 0, 0, 0, 0, 0, [])]
def zc_174 : List zE := [(0, .aload_n 0, 1, 0, 0, 0, 0, 0, []), (1, .getfield 26, 4, 12, 10, 2, 0, 0, []), (4, .aload_n 0, 5, 0, 0, 0, 0, 0, []), (5, .getfield 82, 8, 12, 11, 0, 0, 0, []), (8, .iload_n 1, 9, 1, 0, 0, 0, 0, []), (9, .iastore, 10, 0, 0, 0, 0, 0, []), (10, .aload_n 0, 11, 0, 0, 0, 0, 0, []), (11, .dup, 12, 0, 0, 0, 0, 0, []), (12, .getfield 82, 15, 12, 11, 0, 0, 0, []), (15, .iconst 1, 16, 0, 0, 0, 0, 1, []), (16, .iadd, 17, 0, 0, 0, 0, 0, []), (17, .putfield 82, 20, 12, 11, 0, 0, 0, []), (20, .return_, 21, 0, 0, 0, 0, 0, [])]
def zc_175 : List zE := [(0, .iload_n 1, 1, 1, 0, 0, 0, 0, []), (1, .iconst 0, 2, 0, 0, 0, 0, 0, []), (2, .aload_n 0, 3, 0, 0, 0, 0, 0, []), (3, .getfield 85, 6, 12, 1, 0, 0, 0, []), (6, .iconst 1, 7, 0, 0, 0, 0, 1, []), (7, .isub, 8, 0, 0, 0, 0, 0, []), (8, .invokestatic 88, 11, 171, 3, 0, 24, 0, []), (11, .ireturn, 12, 0, 0, 1, 0, 0, [])]
def zc_176 : List zE := [(0, .iconst 1, 1, 0, 0, 0, 0, 1, []), (1, .aload_n 0, 2, 0, 0, 0, 0, 0, []), (2, .getfield 85, 5, 12, 1, 0, 0, 0, []), (5, .ishl, 6, 0, 0, 0, 0, 0, []), (6, .iconst 1, 7, 0, 0, 0, 0, 1, []), (7, .isub, 8, 0, 0, 0, 0, 0, []), (8, .ireturn, 9, 0, 0, 0, 0, 0, [])]
def zc_177 : List zE := [(0, .aload_n 0, 1, 0, 0, 0, 0, 0, []), (1, .getfield 16, 4, 12, 3, 2, 0, 0, []), (4, .iload_n 1, 5, 1, 0, 0, 0, 0, []), (5, .iaload, 6, 0, 0, 0, 0, 0, []), (6, .aload_n 0, 7, 0, 0, 0, 0, 0, []), (7, .invokevirtual 92, 10, 176, 1, 1, 24, 0, []), (10, .iand, 11, 0, 0, 0, 0, 0, []), (11, .iconst 1, 12, 0, 0, 0, 0, 1, []), (12, .iload_n 1, 13, 1, 0, 0, 0, 0, []), (13, .ishl, 14, 0, 0, 0, 0, 0, []), (14, .iconst (-1), 15, 0, 0, 0, 0, (-1), []), (15, .ixor, 16, 0, 0, 0, 0, 0, []), (16, .iand, 17, 0, 0, 0, 0, 0, []), (17, .ireturn, 18, 0, 0, 0, 0, 0, [])]
def zc_178 : List zE := [(0, .iload_n 0, 1, 0, 0, 0, 0, 0, []), (1, .iconst 1, 2, 0, 0, 0, 0, 1, []), (2, .sipush 300, 5, 0, 0, 0, 0, 300, []), (5, .invokestatic 88, 8, 171, 3, 0, 24, 0, []), (8, .ireturn, 9, 0, 0, 1, 0, 0, [])]
def zc_179 : List zE := [(0, .aload_n 0, 1, 0, 0, 0, 0, 0, []), (1, .iconst 0, 2, 0, 0, 0, 0, 0, []), (2, .putfield 78, 5, 12, 12, 0, 0, 0, []), (5, .aload_n 0, 6, 0, 0, 0, 0, 0, []), (6, .getfield 96, 9, 12, 9, 0, 0, 0, []), (9, .iconst 4, 10, 0, 0, 0, 0, 4, []), (10, .iadd, 11, 0, 0, 0, 0, 0, []), (11, .bipush 80, 13, 0, 0, 0, 0, 80, []), (13, .if_icmp .le 5, 16, 18, 0, 0, 0, 0, []), (16, .iconst (-1), 17, 0, 0, 0, 0, (-1), []), (17, .ireturn, 18, 0, 0, 0, 0, 0, []), (18, .iconst 3, 19, 0, 0, 0, 0, 3, []), (19, .istore_n 2, 20, 2, 0, 0, 0, 0, []), (20, .iload_n 2, 21, 2, 0, 0, 0, 0, []), (21, .ifCond .lt 32, 24, 53, 0, 0, 0, 0, []), (24, .aload_n 0, 25, 0, 0, 0, 0, 0, []), (25, .getfield 22, 28, 12, 8, 2, 0, 0, []), (28, .aload_n 0, 29, 0, 0, 0, 0, 0, []), (29, .dup, 30, 0, 0, 0, 0, 0, []), (30, .getfield 96, 33, 12, 9, 0, 0, 0, []), (33, .dup_x1, 34, 0, 0, 0, 0, 0, []), (34, .iconst 1, 35, 0, 0, 0, 0, 1, []), (35, .iadd, 36, 0, 0, 0, 0, 0, []), (36, .putfield 96, 39, 12, 9, 0, 0, 0, []), (39, .iload_n 1, 40, 1, 0, 0, 0, 0, []), (40, .bipush 8, 42, 0, 0, 0, 0, 8, []), (42, .iload_n 2, 43, 2, 0, 0, 0, 0, []), (43, .imul, 44, 0, 0, 0, 0, 0, []), (44, .ishr, 45, 0, 0, 0, 0, 0, []), (45, .i2b, 46, 0, 0, 0, 0, 0, []), (46, .bastore, 47, 0, 0, 0, 0, 0, []), (47, .iinc 2 (-1), 50, 2, 0, 0, 0, (-1), []), (50, .goto (-30), 53, 20, 0, 0, 0, 0, []), (53, .aload_n 0, 54, 0, 0, 0, 0, 0, []), (54, .getfield 96, 57, 12, 9, 0, 0, 0, []), (57, .ireturn, 58, 0, 0, 0, 0, 0, [])]
def zc_180 : List zE := [(0, .aload_n 0, 1, 0, 0, 0, 0, 0, []), (1, .iconst 0, 2, 0, 0, 0, 0, 0, []), (2, .putfield 78, 5, 12, 12, 0, 0, 0, []), (5, .iload_n 1, 6, 1, 0, 0, 0, 0, []), (6, .iconst 0, 7, 0, 0, 0, 0, 0, []), (7, .aload_n 0, 8, 0, 0, 0, 0, 0, []), (8, .getfield 96, 11, 12, 9, 0, 0, 0, []), (11, .invokestatic 88, 14, 171, 3, 0, 24, 0, []), (14, .ifCond .ne 5, 17, 19, 0, 0, 0, 0, []), (17, .iconst 0, 18, 0, 0, 0, 0, 0, []), (18, .ireturn, 19, 0, 0, 1, 0, 0, []), (19, .aload_n 0, 20, 0, 0, 0, 0, 0, []), (20, .iload_n 1, 21, 1, 0, 0, 0, 0, []), (21, .putfield 96, 24, 12, 9, 0, 0, 0, []), (24, .iconst 1, 25, 0, 0, 0, 0, 1, []), (25, .ireturn, 26, 0, 0, 1, 0, 0, [])]
def zc_181 : List zE := [(0, .aload_n 0, 1, 0, 0, 0, 0, 0, []), (1, .aload_n 1, 2, 1, 0, 0, 0, 0, []), (2, .putfield 99, 5, 12, 13, 2, 0, 0, []), (5, .aload_n 0, 6, 0, 0, 0, 0, 0, []), (6, .iload_n 2, 7, 2, 0, 0, 0, 0, []), (7, .putfield 102, 10, 12, 14, 0, 0, 0, []), (10, .aload_n 0, 11, 0, 0, 0, 0, 0, []), (11, .iload_n 3, 12, 3, 0, 0, 0, 0, []), (12, .putfield 105, 15, 12, 15, 0, 0, 0, []), (15, .aload_n 0, 16, 0, 0, 0, 0, 0, []), (16, .iconst 0, 17, 0, 0, 0, 0, 0, []), (17, .putfield 108, 20, 12, 16, 0, 0, 0, []), (20, .aload_n 0, 21, 0, 0, 0, 0, 0, []), (21, .iconst (-1), 22, 0, 0, 0, 0, (-1), []), (22, .putfield 111, 25, 12, 17, 0, 0, 0, []), (25, .return_, 26, 0, 0, 0, 0, 0, [])]
def zc_182 : List zE := [(0, .aload_n 0, 1, 0, 0, 0, 0, 0, []), (1, .getfield 108, 4, 12, 16, 0, 0, 0, []), (4, .aload_n 0, 5, 0, 0, 0, 0, 0, []), (5, .getfield 102, 8, 12, 14, 0, 0, 0, []), (8, .if_icmp .ge 26, 11, 34, 0, 0, 0, 0, []), (11, .aload_n 0, 12, 0, 0, 0, 0, 0, []), (12, .getfield 108, 15, 12, 16, 0, 0, 0, []), (15, .aload_n 0, 16, 0, 0, 0, 0, 0, []), (16, .getfield 105, 19, 12, 15, 0, 0, 0, []), (19, .if_icmp .ge 15, 22, 34, 0, 0, 0, 0, []), (22, .aload_n 0, 23, 0, 0, 0, 0, 0, []), (23, .getfield 99, 26, 12, 13, 2, 0, 0, []), (26, .aload_n 0, 27, 0, 0, 0, 0, 0, []), (27, .getfield 108, 30, 12, 16, 0, 0, 0, []), (30, .baload, 31, 0, 0, 0, 0, 0, []), (31, .goto 4, 34, 35, 0, 0, 0, 0, []), (34, .iconst (-1), 35, 0, 0, 0, 0, (-1), []), (35, .ireturn, 36, 0, 0, 0, 0, 0, [])]
def zc_183 : List zE := [(0, .aload_n 0, 1, 0, 0, 0, 0, 0, []), (1, .getfield 111, 4, 12, 17, 0, 0, 0, []), (4, .iconst (-1), 5, 0, 0, 0, 0, (-1), []), (5, .if_icmp .ne 7, 8, 12, 0, 0, 0, 0, []), (8, .iconst 1, 9, 0, 0, 0, 0, 1, []), (9, .goto 4, 12, 13, 0, 0, 0, 0, []), (12, .iconst 0, 13, 0, 0, 0, 0, 0, []), (13, .ireturn, 14, 0, 0, 1, 0, 0, [])]
def zc_184 : List zE := [(0, .aload_n 0, 1, 0, 0, 0, 0, 0, []), (1, .invokevirtual 114, 4, 183, 1, 1, 24, 0, []), (4, .ifCond .eq 8, 7, 12, 0, 0, 0, 0, []), (7, .aload_n 0, 8, 0, 0, 0, 0, 0, []), (8, .iload_n 1, 9, 1, 0, 0, 0, 0, []), (9, .putfield 111, 12, 12, 17, 0, 0, 0, []), (12, .return_, 13, 0, 0, 0, 0, 0, [])]
def zc_185 : List zE := [(0, .aload_n 0, 1, 0, 0, 0, 0, 0, []), (1, .invokevirtual 114, 4, 183, 1, 1, 24, 0, []), (4, .ifCond .eq 11, 7, 15, 0, 0, 0, 0, []), (7, .aload_n 0, 8, 0, 0, 0, 0, 0, []), (8, .invokevirtual 118, 11, 182, 1, 1, 24, 0, []), (11, .iload_n 1, 12, 1, 0, 0, 0, 0, []), (12, .if_icmp .eq 5, 15, 17, 0, 0, 0, 0, []), (15, .iconst 0, 16, 0, 0, 0, 0, 0, []), (16, .ireturn, 17, 0, 0, 1, 0, 0, []), (17, .aload_n 0, 18, 0, 0, 0, 0, 0, []), (18, .dup, 19, 0, 0, 0, 0, 0, []), (19, .getfield 108, 22, 12, 16, 0, 0, 0, []), (22, .iconst 1, 23, 0, 0, 0, 0, 1, []), (23, .iadd, 24, 0, 0, 0, 0, 0, []), (24, .putfield 108, 27, 12, 16, 0, 0, 0, []), (27, .iconst 1, 28, 0, 0, 0, 0, 1, []), (28, .ireturn, 29, 0, 0, 1, 0, 0, [])]
def zc_186 : List zE := [(0, .aload_n 0, 1, 0, 0, 0, 0, 0, []), (1, .iload_n 1, 2, 1, 0, 0, 0, 0, []), (2, .invokevirtual 121, 5, 185, 2, 1, 24, 0, []), (5, .ifCond .ne 11, 8, 16, 0, 0, 0, 0, []), (8, .aload_n 0, 9, 0, 0, 0, 0, 0, []), (9, .aload_n 0, 10, 0, 0, 0, 0, 0, []), (10, .getfield 108, 13, 12, 16, 0, 0, 0, []), (13, .invokevirtual 125, 16, 184, 2, 1, 25, 0, []), (16, .return_, 17, 0, 0, 0, 0, 0, [])]
def zc_187 : List zE := [(0, .aload_n 0, 1, 0, 0, 0, 0, 0, []), (1, .invokevirtual 114, 4, 183, 1, 1, 24, 0, []), (4, .ifCond .ne 5, 7, 9, 0, 0, 0, 0, []), (7, .iconst 0, 8, 0, 0, 0, 0, 0, []), (8, .ireturn, 9, 0, 0, 0, 0, 0, []), (9, .aload_n 0, 10, 0, 0, 0, 0, 0, []), (10, .invokevirtual 118, 13, 182, 1, 1, 24, 0, []), (13, .bipush 48, 15, 0, 0, 0, 0, 48, []), (15, .iload_n 1, 16, 1, 0, 0, 0, 0, []), (16, .iadd, 17, 0, 0, 0, 0, 0, []), (17, .bipush 57, 19, 0, 0, 0, 0, 57, []), (19, .invokestatic 88, 22, 171, 3, 0, 24, 0, []), (22, .ifCond .ne 13, 25, 35, 0, 0, 0, 0, []), (25, .aload_n 0, 26, 0, 0, 0, 0, 0, []), (26, .aload_n 0, 27, 0, 0, 0, 0, 0, []), (27, .getfield 108, 30, 12, 16, 0, 0, 0, []), (30, .invokevirtual 125, 33, 184, 2, 1, 25, 0, []), (33, .iconst 0, 34, 0, 0, 0, 0, 0, []), (34, .ireturn, 35, 0, 0, 0, 0, 0, []), (35, .aload_n 0, 36, 0, 0, 0, 0, 0, []), (36, .dup, 37, 0, 0, 0, 0, 0, []), (37, .getfield 108, 40, 12, 16, 0, 0, 0, []), (40, .iconst 1, 41, 0, 0, 0, 0, 1, []), (41, .iadd, 42, 0, 0, 0, 0, 0, []), (42, .putfield 108, 45, 12, 16, 0, 0, 0, []), (45, .aload_n 0, 46, 0, 0, 0, 0, 0, []), (46, .getfield 99, 49, 12, 13, 2, 0, 0, []), (49, .aload_n 0, 50, 0, 0, 0, 0, 0, []), (50, .getfield 108, 53, 12, 16, 0, 0, 0, []), (53, .iconst 1, 54, 0, 0, 0, 0, 1, []), (54, .isub, 55, 0, 0, 0, 0, 0, []), (55, .baload, 56, 0, 0, 0, 0, 0, []), (56, .bipush 48, 58, 0, 0, 0, 0, 48, []), (58, .isub, 59, 0, 0, 0, 0, 0, []), (59, .ireturn, 60, 0, 0, 0, 0, 0, [])]
def zc_188 : List zE := [(0, .aload_n 0, 1, 0, 0, 0, 0, 0, []), (1, .invokevirtual 114, 4, 183, 1, 1, 24, 0, []), (4, .ifCond .ne 5, 7, 9, 0, 0, 0, 0, []), (7, .iconst 0, 8, 0, 0, 0, 0, 0, []), (8, .ireturn, 9, 0, 0, 0, 0, 0, []), (9, .aload_n 0, 10, 0, 0, 0, 0, 0, []), (10, .invokevirtual 118, 13, 182, 1, 1, 24, 0, []), (13, .bipush 97, 15, 0, 0, 0, 0, 97, []), (15, .bipush 105, 17, 0, 0, 0, 0, 105, []), (17, .invokestatic 88, 20, 171, 3, 0, 24, 0, []), (20, .ifCond .ne 13, 23, 33, 0, 0, 0, 0, []), (23, .aload_n 0, 24, 0, 0, 0, 0, 0, []), (24, .aload_n 0, 25, 0, 0, 0, 0, 0, []), (25, .getfield 108, 28, 12, 16, 0, 0, 0, []), (28, .invokevirtual 125, 31, 184, 2, 1, 25, 0, []), (31, .iconst 0, 32, 0, 0, 0, 0, 0, []), (32, .ireturn, 33, 0, 0, 0, 0, 0, []), (33, .aload_n 0, 34, 0, 0, 0, 0, 0, []), (34, .dup, 35, 0, 0, 0, 0, 0, []), (35, .getfield 108, 38, 12, 16, 0, 0, 0, []), (38, .iconst 1, 39, 0, 0, 0, 0, 1, []), (39, .iadd, 40, 0, 0, 0, 0, 0, []), (40, .putfield 108, 43, 12, 16, 0, 0, 0, []), (43, .aload_n 0, 44, 0, 0, 0, 0, 0, []), (44, .getfield 99, 47, 12, 13, 2, 0, 0, []), (47, .aload_n 0, 48, 0, 0, 0, 0, 0, []), (48, .getfield 108, 51, 12, 16, 0, 0, 0, []), (51, .iconst 1, 52, 0, 0, 0, 0, 1, []), (52, .isub, 53, 0, 0, 0, 0, 0, []), (53, .baload, 54, 0, 0, 0, 0, 0, []), (54, .bipush 97, 56, 0, 0, 0, 0, 97, []), (56, .isub, 57, 0, 0, 0, 0, 0, []), (57, .ireturn, 58, 0, 0, 0, 0, 0, [])]
def zc_189 : List zE := [(0, .aload_n 0, 1, 0, 0, 0, 0, 0, []), (1, .iconst 0, 2, 0, 0, 0, 0, 0, []), (2, .putfield 78, 5, 12, 12, 0, 0, 0, []), (5, .aload_n 0, 6, 0, 0, 0, 0, 0, []), (6, .aload_n 0, 7, 0, 0, 0, 0, 0, []), (7, .getfield 22, 10, 12, 8, 2, 0, 0, []), (10, .aload_n 0, 11, 0, 0, 0, 0, 0, []), (11, .getfield 96, 14, 12, 9, 0, 0, 0, []), (14, .bipush 76, 16, 0, 0, 0, 0, 76, []), (16, .invokevirtual 129, 19, 181, 4, 1, 25, 0, []), (19, .aload_n 0, 20, 0, 0, 0, 0, 0, []), (20, .iconst 0, 21, 0, 0, 0, 0, 0, []), (21, .putfield 96, 24, 12, 9, 0, 0, 0, []), (24, .aload_n 0, 25, 0, 0, 0, 0, 0, []), (25, .getfield 102, 28, 12, 14, 0, 0, 0, []), (28, .ifCond .ne 5, 31, 33, 0, 0, 0, 0, []), (31, .iconst 0, 32, 0, 0, 0, 0, 0, []), (32, .ireturn, 33, 0, 0, 0, 0, 0, []), (33, .iconst 0, 34, 0, 0, 0, 0, 0, []), (34, .istore_n 1, 35, 1, 0, 0, 0, 0, []), (35, .iconst 1, 36, 0, 0, 0, 0, 1, []), (36, .istore_n 2, 37, 2, 0, 0, 0, 0, []), (37, .iload_n 2, 38, 2, 0, 0, 0, 0, []), (38, .ifCond .eq 52, 41, 90, 0, 0, 0, 0, []), (41, .aload_n 0, 42, 0, 0, 0, 0, 0, []), (42, .invokevirtual 114, 45, 183, 1, 1, 24, 0, []), (45, .ifCond .eq 45, 48, 90, 0, 0, 0, 0, []), (48, .aload_n 0, 49, 0, 0, 0, 0, 0, []), (49, .getfield 85, 52, 12, 1, 0, 0, 0, []), (52, .iload_n 1, 53, 1, 0, 0, 0, 0, []), (53, .iadd, 54, 0, 0, 0, 0, 0, []), (54, .bipush 9, 56, 0, 0, 0, 0, 9, []), (56, .if_icmp .ne 14, 59, 70, 0, 0, 0, 0, []), (59, .aload_n 0, 60, 0, 0, 0, 0, 0, []), (60, .aload_n 0, 61, 0, 0, 0, 0, 0, []), (61, .getfield 108, 64, 12, 16, 0, 0, 0, []), (64, .invokevirtual 125, 67, 184, 2, 1, 25, 0, []), (67, .goto 10, 70, 77, 0, 0, 0, 0, []), (70, .aload_n 0, 71, 0, 0, 0, 0, 0, []), (71, .iconst 3, 72, 0, 0, 0, 0, 3, []), (72, .iload_n 1, 73, 1, 0, 0, 0, 0, []), (73, .imul, 74, 0, 0, 0, 0, 0, []), (74, .invokevirtual 133, 77, 191, 2, 1, 25, 0, []), (77, .iinc 1 1, 80, 1, 0, 0, 0, 1, []), (80, .aload_n 0, 81, 0, 0, 0, 0, 0, []), (81, .bipush 59, 83, 0, 0, 0, 0, 59, []), (83, .invokevirtual 121, 86, 185, 2, 1, 24, 0, []), (86, .istore_n 2, 87, 2, 0, 0, 0, 0, []), (87, .goto (-50), 90, 37, 0, 0, 0, 0, []), (90, .aload_n 0, 91, 0, 0, 0, 0, 0, []), (91, .getfield 108, 94, 12, 16, 0, 0, 0, []), (94, .aload_n 0, 95, 0, 0, 0, 0, 0, []), (95, .getfield 102, 98, 12, 14, 0, 0, 0, []), (98, .if_icmp .ge 11, 101, 109, 0, 0, 0, 0, []), (101, .aload_n 0, 102, 0, 0, 0, 0, 0, []), (102, .aload_n 0, 103, 0, 0, 0, 0, 0, []), (103, .getfield 108, 106, 12, 16, 0, 0, 0, []), (106, .invokevirtual 125, 109, 184, 2, 1, 25, 0, []), (109, .aload_n 0, 110, 0, 0, 0, 0, 0, []), (110, .invokevirtual 114, 113, 183, 1, 1, 24, 0, []), (113, .ifCond .ne 10, 116, 123, 0, 0, 0, 0, []), (116, .iconst (-1), 117, 0, 0, 0, 0, (-1), []), (117, .aload_n 0, 118, 0, 0, 0, 0, 0, []), (118, .getfield 111, 121, 12, 17, 0, 0, 0, []), (121, .isub, 122, 0, 0, 0, 0, 0, []), (122, .ireturn, 123, 0, 0, 0, 0, 0, []), (123, .iconst 0, 124, 0, 0, 0, 0, 0, []), (124, .istore_n 3, 125, 3, 0, 0, 0, 0, []), (125, .iload_n 3, 126, 3, 0, 0, 0, 0, []), (126, .iload_n 1, 127, 1, 0, 0, 0, 0, []), (127, .if_icmp .ge 98, 130, 225, 0, 0, 0, 0, []), (130, .aload_n 0, 131, 0, 0, 0, 0, 0, []), (131, .getfield 9, 134, 12, 0, 2, 0, 0, []), (134, .aload_n 0, 135, 0, 0, 0, 0, 0, []), (135, .getfield 85, 138, 12, 1, 0, 0, 0, []), (138, .aload_n 0, 139, 0, 0, 0, 0, 0, []), (139, .getfield 29, 142, 12, 18, 2, 0, 0, []), (142, .iconst 3, 143, 0, 0, 0, 0, 3, []), (143, .iload_n 3, 144, 3, 0, 0, 0, 0, []), (144, .imul, 145, 0, 0, 0, 0, 0, []), (145, .iaload, 146, 0, 0, 0, 0, 0, []), (146, .iastore, 147, 0, 0, 0, 0, 0, []), (147, .aload_n 0, 148, 0, 0, 0, 0, 0, []), (148, .getfield 13, 151, 12, 2, 2, 0, 0, []), (151, .aload_n 0, 152, 0, 0, 0, 0, 0, []), (152, .getfield 85, 155, 12, 1, 0, 0, 0, []), (155, .aload_n 0, 156, 0, 0, 0, 0, 0, []), (156, .getfield 29, 159, 12, 18, 2, 0, 0, []), (159, .iconst 3, 160, 0, 0, 0, 0, 3, []), (160, .iload_n 3, 161, 3, 0, 0, 0, 0, []), (161, .imul, 162, 0, 0, 0, 0, 0, []), (162, .iconst 1, 163, 0, 0, 0, 0, 1, []), (163, .iadd, 164, 0, 0, 0, 0, 0, []), (164, .iaload, 165, 0, 0, 0, 0, 0, []), (165, .iastore, 166, 0, 0, 0, 0, 0, []), (166, .aload_n 0, 167, 0, 0, 0, 0, 0, []), (167, .getfield 16, 170, 12, 3, 2, 0, 0, []), (170, .aload_n 0, 171, 0, 0, 0, 0, 0, []), (171, .getfield 85, 174, 12, 1, 0, 0, 0, []), (174, .aload_n 0, 175, 0, 0, 0, 0, 0, []), (175, .getfield 29, 178, 12, 18, 2, 0, 0, []), (178, .iconst 3, 179, 0, 0, 0, 0, 3, []), (179, .iload_n 3, 180, 3, 0, 0, 0, 0, []), (180, .imul, 181, 0, 0, 0, 0, 0, []), (181, .iconst 2, 182, 0, 0, 0, 0, 2, []), (182, .iadd, 183, 0, 0, 0, 0, 0, []), (183, .iaload, 184, 0, 0, 0, 0, 0, []), (184, .iastore, 185, 0, 0, 0, 0, 0, []), (185, .aload_n 0, 186, 0, 0, 0, 0, 0, []), (186, .getfield 9, 189, 12, 0, 2, 0, 0, []), (189, .bipush 9, 191, 0, 0, 0, 0, 9, []), (191, .aload_n 0, 192, 0, 0, 0, 0, 0, []), (192, .getfield 85, 195, 12, 1, 0, 0, 0, []), (195, .iadd, 196, 0, 0, 0, 0, 0, []), (196, .iconst 0, 197, 0, 0, 0, 0, 0, []), (197, .iastore, 198, 0, 0, 0, 0, 0, []), (198, .aload_n 0, 199, 0, 0, 0, 0, 0, []), (199, .getfield 9, 202, 12, 0, 2, 0, 0, []), (202, .aload_n 0, 203, 0, 0, 0, 0, 0, []), (203, .getfield 85, 206, 12, 1, 0, 0, 0, []), (206, .invokestatic 136, 209, 190, 2, 0, 25, 0, []), (209, .aload_n 0, 210, 0, 0, 0, 0, 0, []), (210, .dup, 211, 0, 0, 0, 0, 0, []), (211, .getfield 85, 214, 12, 1, 0, 0, 0, []), (214, .iconst 1, 215, 0, 0, 0, 0, 1, []), (215, .iadd, 216, 0, 0, 0, 0, 0, []), (216, .putfield 85, 219, 12, 1, 0, 0, 0, []), (219, .iinc 3 1, 222, 3, 0, 0, 0, 1, []), (222, .goto (-97), 225, 125, 0, 0, 0, 0, []), (225, .aload_n 0, 226, 0, 0, 0, 0, 0, []), (226, .iconst 0, 227, 0, 0, 0, 0, 0, []), (227, .putfield 140, 230, 12, 30, 0, 0, 0, []), (230, .aload_n 0, 231, 0, 0, 0, 0, 0, []), (231, .dup, 232, 0, 0, 0, 0, 0, []), (232, .getfield 143, 235, 12, 47, 0, 0, 0, []), (235, .iconst 1, 236, 0, 0, 0, 0, 1, []), (236, .iadd, 237, 0, 0, 0, 0, 0, []), (237, .putfield 143, 240, 12, 47, 0, 0, 0, []), (240, .iload_n 1, 241, 1, 0, 0, 0, 0, []), (241, .ireturn, 242, 0, 0, 0, 0, 0, [])]
def zc_190 : List zE := [(0, .aload_n 0, 1, 0, 0, 0, 0, 0, []), (1, .bipush 18, 3, 0, 0, 0, 0, 18, []), (3, .iload_n 1, 4, 1, 0, 0, 0, 0, []), (4, .iadd, 5, 0, 0, 0, 0, 0, []), (5, .iconst (-1), 6, 0, 0, 0, 0, (-1), []), (6, .iastore, 7, 0, 0, 0, 0, 0, []), (7, .aload_n 0, 8, 0, 0, 0, 0, 0, []), (8, .bipush 27, 10, 0, 0, 0, 0, 27, []), (10, .iload_n 1, 11, 1, 0, 0, 0, 0, []), (11, .iadd, 12, 0, 0, 0, 0, 0, []), (12, .iconst (-1), 13, 0, 0, 0, 0, (-1), []), (13, .iastore, 14, 0, 0, 0, 0, 0, []), (14, .aload_n 0, 15, 0, 0, 0, 0, 0, []), (15, .bipush 36, 17, 0, 0, 0, 0, 36, []), (17, .iload_n 1, 18, 1, 0, 0, 0, 0, []), (18, .iadd, 19, 0, 0, 0, 0, 0, []), (19, .iconst 0, 20, 0, 0, 0, 0, 0, []), (20, .iastore, 21, 0, 0, 0, 0, 0, []), (21, .return_, 22, 0, 0, 0, 0, 0, [])]
def zc_191 : List zE := [(0, .aload_n 0, 1, 0, 0, 0, 0, 0, []), (1, .getfield 29, 4, 12, 18, 2, 0, 0, []), (4, .iload_n 1, 5, 1, 0, 0, 0, 0, []), (5, .aload_n 0, 6, 0, 0, 0, 0, 0, []), (6, .iconst 0, 7, 0, 0, 0, 0, 0, []), (7, .invokevirtual 146, 10, 187, 2, 1, 24, 0, []), (10, .iastore, 11, 0, 0, 0, 0, 0, []), (11, .aload_n 0, 12, 0, 0, 0, 0, 0, []), (12, .bipush 47, 14, 0, 0, 0, 0, 47, []), (14, .invokevirtual 150, 17, 186, 2, 1, 25, 0, []), (17, .aload_n 0, 18, 0, 0, 0, 0, 0, []), (18, .getfield 29, 21, 12, 18, 2, 0, 0, []), (21, .iload_n 1, 22, 1, 0, 0, 0, 0, []), (22, .iconst 1, 23, 0, 0, 0, 0, 1, []), (23, .iadd, 24, 0, 0, 0, 0, 0, []), (24, .aload_n 0, 25, 0, 0, 0, 0, 0, []), (25, .iconst 1, 26, 0, 0, 0, 0, 1, []), (26, .invokevirtual 146, 29, 187, 2, 1, 24, 0, []), (29, .iastore, 30, 0, 0, 0, 0, 0, []), (30, .aload_n 0, 31, 0, 0, 0, 0, 0, []), (31, .getfield 29, 34, 12, 18, 2, 0, 0, []), (34, .iload_n 1, 35, 1, 0, 0, 0, 0, []), (35, .iconst 2, 36, 0, 0, 0, 0, 2, []), (36, .iadd, 37, 0, 0, 0, 0, 0, []), (37, .iconst 0, 38, 0, 0, 0, 0, 0, []), (38, .iastore, 39, 0, 0, 0, 0, 0, []), (39, .aload_n 0, 40, 0, 0, 0, 0, 0, []), (40, .bipush 62, 42, 0, 0, 0, 0, 62, []), (42, .invokevirtual 121, 45, 185, 2, 1, 24, 0, []), (45, .ifCond .ne 4, 48, 49, 0, 0, 0, 0, []), (48, .return_, 49, 0, 0, 0, 0, 0, []), (49, .aload_n 0, 50, 0, 0, 0, 0, 0, []), (50, .invokevirtual 154, 53, 188, 1, 1, 24, 0, []), (53, .istore_n 2, 54, 2, 0, 0, 0, 0, []), (54, .aload_n 0, 55, 0, 0, 0, 0, 0, []), (55, .getfield 29, 58, 12, 18, 2, 0, 0, []), (58, .iload_n 1, 59, 1, 0, 0, 0, 0, []), (59, .iconst 2, 60, 0, 0, 0, 0, 2, []), (60, .iadd, 61, 0, 0, 0, 0, 0, []), (61, .iconst 1, 62, 0, 0, 0, 0, 1, []), (62, .iload_n 2, 63, 2, 0, 0, 0, 0, []), (63, .ishl, 64, 0, 0, 0, 0, 0, []), (64, .iastore, 65, 0, 0, 0, 0, 0, []), (65, .aload_n 0, 66, 0, 0, 0, 0, 0, []), (66, .invokevirtual 114, 69, 183, 1, 1, 24, 0, []), (69, .ifCond .eq 70, 72, 139, 0, 0, 0, 0, []), (72, .aload_n 0, 73, 0, 0, 0, 0, 0, []), (73, .invokevirtual 118, 76, 182, 1, 1, 24, 0, []), (76, .bipush 97, 78, 0, 0, 0, 0, 97, []), (78, .bipush 105, 80, 0, 0, 0, 0, 105, []), (80, .invokestatic 88, 83, 171, 3, 0, 24, 0, []), (83, .ifCond .eq 56, 86, 139, 0, 0, 0, 0, []), (86, .aload_n 0, 87, 0, 0, 0, 0, 0, []), (87, .invokevirtual 118, 90, 182, 1, 1, 24, 0, []), (90, .bipush 97, 92, 0, 0, 0, 0, 97, []), (92, .isub, 93, 0, 0, 0, 0, 0, []), (93, .istore_n 3, 94, 3, 0, 0, 0, 0, []), (94, .iload_n 3, 95, 3, 0, 0, 0, 0, []), (95, .iload_n 2, 96, 2, 0, 0, 0, 0, []), (96, .if_icmp .gt 14, 99, 110, 0, 0, 0, 0, []), (99, .aload_n 0, 100, 0, 0, 0, 0, 0, []), (100, .aload_n 0, 101, 0, 0, 0, 0, 0, []), (101, .getfield 108, 104, 12, 16, 0, 0, 0, []), (104, .invokevirtual 125, 107, 184, 2, 1, 25, 0, []), (107, .goto 29, 110, 136, 0, 0, 0, 0, []), (110, .aload_n 0, 111, 0, 0, 0, 0, 0, []), (111, .getfield 29, 114, 12, 18, 2, 0, 0, []), (114, .iload_n 1, 115, 1, 0, 0, 0, 0, []), (115, .iconst 2, 116, 0, 0, 0, 0, 2, []), (116, .iadd, 117, 0, 0, 0, 0, 0, []), (117, .dup2, 118, 0, 0, 0, 0, 0, []), (118, .iaload, 119, 0, 0, 0, 0, 0, []), (119, .iconst 1, 120, 0, 0, 0, 0, 1, []), (120, .iload_n 3, 121, 3, 0, 0, 0, 0, []), (121, .ishl, 122, 0, 0, 0, 0, 0, []), (122, .ior, 123, 0, 0, 0, 0, 0, []), (123, .iastore, 124, 0, 0, 0, 0, 0, []), (124, .iload_n 3, 125, 3, 0, 0, 0, 0, []), (125, .istore_n 2, 126, 2, 0, 0, 0, 0, []), (126, .aload_n 0, 127, 0, 0, 0, 0, 0, []), (127, .dup, 128, 0, 0, 0, 0, 0, []), (128, .getfield 108, 131, 12, 16, 0, 0, 0, []), (131, .iconst 1, 132, 0, 0, 0, 0, 1, []), (132, .iadd, 133, 0, 0, 0, 0, 0, []), (133, .putfield 108, 136, 12, 16, 0, 0, 0, []), (136, .goto (-71), 139, 65, 0, 0, 0, 0, []), (139, .return_, 140, 0, 0, 0, 0, 0, [])]
def zc_192 : List zE := [(0, .aload_n 0, 1, 0, 0, 0, 0, 0, []), (1, .iconst 0, 2, 0, 0, 0, 0, 0, []), (2, .putfield 78, 5, 12, 12, 0, 0, 0, []), (5, .aload_n 0, 6, 0, 0, 0, 0, 0, []), (6, .getfield 96, 9, 12, 9, 0, 0, 0, []), (9, .istore_n 1, 10, 1, 0, 0, 0, 0, []), (10, .aload_n 0, 11, 0, 0, 0, 0, 0, []), (11, .iconst 0, 12, 0, 0, 0, 0, 0, []), (12, .putfield 96, 15, 12, 9, 0, 0, 0, []), (15, .iconst 0, 16, 0, 0, 0, 0, 0, []), (16, .istore_n 2, 17, 2, 0, 0, 0, 0, []), (17, .iload_n 2, 18, 2, 0, 0, 0, 0, []), (18, .iload_n 1, 19, 1, 0, 0, 0, 0, []), (19, .if_icmp .ge 35, 22, 54, 0, 0, 0, 0, []), (22, .iload_n 2, 23, 2, 0, 0, 0, 0, []), (23, .bipush 40, 25, 0, 0, 0, 0, 40, []), (25, .if_icmp .eq 19, 28, 44, 0, 0, 0, 0, []), (28, .aload_n 0, 29, 0, 0, 0, 0, 0, []), (29, .getfield 22, 32, 12, 8, 2, 0, 0, []), (32, .iload_n 2, 33, 2, 0, 0, 0, 0, []), (33, .baload, 34, 0, 0, 0, 0, 0, []), (34, .bipush 48, 36, 0, 0, 0, 0, 48, []), (36, .bipush 57, 38, 0, 0, 0, 0, 57, []), (38, .invokestatic 88, 41, 171, 3, 0, 24, 0, []), (41, .ifCond .ne 7, 44, 48, 0, 0, 0, 0, []), (44, .iconst (-1), 45, 0, 0, 0, 0, (-1), []), (45, .iload_n 2, 46, 2, 0, 0, 0, 0, []), (46, .isub, 47, 0, 0, 0, 0, 0, []), (47, .ireturn, 48, 0, 0, 0, 0, 0, []), (48, .iinc 2 1, 51, 2, 0, 0, 0, 1, []), (51, .goto (-34), 54, 17, 0, 0, 0, 0, []), (54, .iconst 0, 55, 0, 0, 0, 0, 0, []), (55, .istore_n 2, 56, 2, 0, 0, 0, 0, []), (56, .iload_n 2, 57, 2, 0, 0, 0, 0, []), (57, .iload_n 1, 58, 1, 0, 0, 0, 0, []), (58, .if_icmp .ge 24, 61, 82, 0, 0, 0, 0, []), (61, .aload_n 0, 62, 0, 0, 0, 0, 0, []), (62, .getfield 19, 65, 12, 5, 2, 0, 0, []), (65, .iload_n 2, 66, 2, 0, 0, 0, 0, []), (66, .aload_n 0, 67, 0, 0, 0, 0, 0, []), (67, .getfield 22, 70, 12, 8, 2, 0, 0, []), (70, .iload_n 2, 71, 2, 0, 0, 0, 0, []), (71, .baload, 72, 0, 0, 0, 0, 0, []), (72, .bipush 48, 74, 0, 0, 0, 0, 48, []), (74, .isub, 75, 0, 0, 0, 0, 0, []), (75, .iastore, 76, 0, 0, 0, 0, 0, []), (76, .iinc 2 1, 79, 2, 0, 0, 0, 1, []), (79, .goto (-23), 82, 56, 0, 0, 0, 0, []), (82, .aload_n 0, 83, 0, 0, 0, 0, 0, []), (83, .iload_n 1, 84, 1, 0, 0, 0, 0, []), (84, .putfield 157, 87, 12, 6, 0, 0, 0, []), (87, .iload_n 1, 88, 1, 0, 0, 0, 0, []), (88, .ireturn, 89, 0, 0, 0, 0, 0, [])]
def zc_193 : List zE := [(0, .aload_n 0, 1, 0, 0, 0, 0, 0, []), (1, .iload_n 1, 2, 1, 0, 0, 0, 0, []), (2, .invokevirtual 160, 5, 194, 2, 1, 24, 0, []), (5, .istore_n 2, 6, 2, 0, 0, 0, 0, []), (6, .aload_n 0, 7, 0, 0, 0, 0, 0, []), (7, .bipush 60, 9, 0, 0, 0, 0, 60, []), (9, .invokevirtual 121, 12, 185, 2, 1, 24, 0, []), (12, .ifCond .eq 18, 15, 30, 0, 0, 0, 0, []), (15, .iload_n 2, 16, 2, 0, 0, 0, 0, []), (16, .aload_n 0, 17, 0, 0, 0, 0, 0, []), (17, .iload_n 1, 18, 1, 0, 0, 0, 0, []), (18, .invokevirtual 160, 21, 194, 2, 1, 24, 0, []), (21, .if_icmp .ge 7, 24, 28, 0, 0, 0, 0, []), (24, .iconst 1, 25, 0, 0, 0, 0, 1, []), (25, .goto 4, 28, 29, 0, 0, 0, 0, []), (28, .iconst 0, 29, 0, 0, 0, 0, 0, []), (29, .ireturn, 30, 0, 0, 0, 0, 0, []), (30, .aload_n 0, 31, 0, 0, 0, 0, 0, []), (31, .bipush 62, 33, 0, 0, 0, 0, 62, []), (33, .invokevirtual 121, 36, 185, 2, 1, 24, 0, []), (36, .ifCond .eq 18, 39, 54, 0, 0, 0, 0, []), (39, .iload_n 2, 40, 2, 0, 0, 0, 0, []), (40, .aload_n 0, 41, 0, 0, 0, 0, 0, []), (41, .iload_n 1, 42, 1, 0, 0, 0, 0, []), (42, .invokevirtual 160, 45, 194, 2, 1, 24, 0, []), (45, .if_icmp .le 7, 48, 52, 0, 0, 0, 0, []), (48, .iconst 1, 49, 0, 0, 0, 0, 1, []), (49, .goto 4, 52, 53, 0, 0, 0, 0, []), (52, .iconst 0, 53, 0, 0, 0, 0, 0, []), (53, .ireturn, 54, 0, 0, 0, 0, 0, []), (54, .aload_n 0, 55, 0, 0, 0, 0, 0, []), (55, .bipush 61, 57, 0, 0, 0, 0, 61, []), (57, .invokevirtual 121, 60, 185, 2, 1, 24, 0, []), (60, .ifCond .eq 18, 63, 78, 0, 0, 0, 0, []), (63, .iload_n 2, 64, 2, 0, 0, 0, 0, []), (64, .aload_n 0, 65, 0, 0, 0, 0, 0, []), (65, .iload_n 1, 66, 1, 0, 0, 0, 0, []), (66, .invokevirtual 160, 69, 194, 2, 1, 24, 0, []), (69, .if_icmp .ne 7, 72, 76, 0, 0, 0, 0, []), (72, .iconst 1, 73, 0, 0, 0, 0, 1, []), (73, .goto 4, 76, 77, 0, 0, 0, 0, []), (76, .iconst 0, 77, 0, 0, 0, 0, 0, []), (77, .ireturn, 78, 0, 0, 0, 0, 0, []), (78, .iload_n 2, 79, 2, 0, 0, 0, 0, []), (79, .ireturn, 80, 0, 0, 0, 0, 0, [])]
def zc_194 : List zE := [(0, .aload_n 0, 1, 0, 0, 0, 0, 0, []), (1, .iload_n 1, 2, 1, 0, 0, 0, 0, []), (2, .invokevirtual 163, 5, 195, 2, 1, 24, 0, []), (5, .istore_n 2, 6, 2, 0, 0, 0, 0, []), (6, .aload_n 0, 7, 0, 0, 0, 0, 0, []), (7, .invokevirtual 114, 10, 183, 1, 1, 24, 0, []), (10, .ifCond .eq 72, 13, 82, 0, 0, 0, 0, []), (13, .aload_n 0, 14, 0, 0, 0, 0, 0, []), (14, .invokevirtual 118, 17, 182, 1, 1, 24, 0, []), (17, .bipush 43, 19, 0, 0, 0, 0, 43, []), (19, .if_icmp .eq 12, 22, 31, 0, 0, 0, 0, []), (22, .aload_n 0, 23, 0, 0, 0, 0, 0, []), (23, .invokevirtual 118, 26, 182, 1, 1, 24, 0, []), (26, .bipush 45, 28, 0, 0, 0, 0, 45, []), (28, .if_icmp .ne 54, 31, 82, 0, 0, 0, 0, []), (31, .aload_n 0, 32, 0, 0, 0, 0, 0, []), (32, .invokevirtual 118, 35, 182, 1, 1, 24, 0, []), (35, .bipush 43, 37, 0, 0, 0, 0, 43, []), (37, .if_icmp .ne 7, 40, 44, 0, 0, 0, 0, []), (40, .iconst 1, 41, 0, 0, 0, 0, 1, []), (41, .goto 4, 44, 45, 0, 0, 0, 0, []), (44, .iconst 0, 45, 0, 0, 0, 0, 0, []), (45, .istore_n 3, 46, 3, 0, 0, 0, 0, []), (46, .aload_n 0, 47, 0, 0, 0, 0, 0, []), (47, .dup, 48, 0, 0, 0, 0, 0, []), (48, .getfield 108, 51, 12, 16, 0, 0, 0, []), (51, .iconst 1, 52, 0, 0, 0, 0, 1, []), (52, .iadd, 53, 0, 0, 0, 0, 0, []), (53, .putfield 108, 56, 12, 16, 0, 0, 0, []), (56, .aload_n 0, 57, 0, 0, 0, 0, 0, []), (57, .iload_n 1, 58, 1, 0, 0, 0, 0, []), (58, .invokevirtual 163, 61, 195, 2, 1, 24, 0, []), (61, .istore 4, 63, 4, 0, 0, 0, 0, []), (63, .iload_n 3, 64, 3, 0, 0, 0, 0, []), (64, .ifCond .eq 10, 67, 74, 0, 0, 0, 0, []), (67, .iload_n 2, 68, 2, 0, 0, 0, 0, []), (68, .iload 4, 70, 4, 0, 0, 0, 0, []), (70, .iadd, 71, 0, 0, 0, 0, 0, []), (71, .goto 7, 74, 78, 0, 0, 0, 0, []), (74, .iload_n 2, 75, 2, 0, 0, 0, 0, []), (75, .iload 4, 77, 4, 0, 0, 0, 0, []), (77, .isub, 78, 0, 0, 0, 0, 0, []), (78, .istore_n 2, 79, 2, 0, 0, 0, 0, []), (79, .goto (-73), 82, 6, 0, 0, 0, 0, []), (82, .iload_n 2, 83, 2, 0, 0, 0, 0, []), (83, .ireturn, 84, 0, 0, 0, 0, 0, [])]
def zc_195 : List zE := [(0, .aload_n 0, 1, 0, 0, 0, 0, 0, []), (1, .iload_n 1, 2, 1, 0, 0, 0, 0, []), (2, .invokevirtual 166, 5, 196, 2, 1, 24, 0, []), (5, .istore_n 2, 6, 2, 0, 0, 0, 0, []), (6, .aload_n 0, 7, 0, 0, 0, 0, 0, []), (7, .invokevirtual 114, 10, 183, 1, 1, 24, 0, []), (10, .ifCond .eq 81, 13, 91, 0, 0, 0, 0, []), (13, .aload_n 0, 14, 0, 0, 0, 0, 0, []), (14, .invokevirtual 118, 17, 182, 1, 1, 24, 0, []), (17, .bipush 42, 19, 0, 0, 0, 0, 42, []), (19, .if_icmp .eq 12, 22, 31, 0, 0, 0, 0, []), (22, .aload_n 0, 23, 0, 0, 0, 0, 0, []), (23, .invokevirtual 118, 26, 182, 1, 1, 24, 0, []), (26, .bipush 47, 28, 0, 0, 0, 0, 47, []), (28, .if_icmp .ne 63, 31, 91, 0, 0, 0, 0, []), (31, .aload_n 0, 32, 0, 0, 0, 0, 0, []), (32, .invokevirtual 118, 35, 182, 1, 1, 24, 0, []), (35, .bipush 42, 37, 0, 0, 0, 0, 42, []), (37, .if_icmp .ne 7, 40, 44, 0, 0, 0, 0, []), (40, .iconst 1, 41, 0, 0, 0, 0, 1, []), (41, .goto 4, 44, 45, 0, 0, 0, 0, []), (44, .iconst 0, 45, 0, 0, 0, 0, 0, []), (45, .istore_n 3, 46, 3, 0, 0, 0, 0, []), (46, .aload_n 0, 47, 0, 0, 0, 0, 0, []), (47, .dup, 48, 0, 0, 0, 0, 0, []), (48, .getfield 108, 51, 12, 16, 0, 0, 0, []), (51, .iconst 1, 52, 0, 0, 0, 0, 1, []), (52, .iadd, 53, 0, 0, 0, 0, 0, []), (53, .putfield 108, 56, 12, 16, 0, 0, 0, []), (56, .aload_n 0, 57, 0, 0, 0, 0, 0, []), (57, .iload_n 1, 58, 1, 0, 0, 0, 0, []), (58, .invokevirtual 166, 61, 196, 2, 1, 24, 0, []), (61, .istore 4, 63, 4, 0, 0, 0, 0, []), (63, .iload_n 3, 64, 3, 0, 0, 0, 0, []), (64, .ifCond .eq 10, 67, 74, 0, 0, 0, 0, []), (67, .iload_n 2, 68, 2, 0, 0, 0, 0, []), (68, .iload 4, 70, 4, 0, 0, 0, 0, []), (70, .imul, 71, 0, 0, 0, 0, 0, []), (71, .goto 16, 74, 87, 0, 0, 0, 0, []), (74, .iload 4, 76, 4, 0, 0, 0, 0, []), (76, .ifCond .ne 7, 79, 83, 0, 0, 0, 0, []), (79, .iconst 0, 80, 0, 0, 0, 0, 0, []), (80, .goto 7, 83, 87, 0, 0, 0, 0, []), (83, .iload_n 2, 84, 2, 0, 0, 0, 0, []), (84, .iload 4, 86, 4, 0, 0, 0, 0, []), (86, .idiv, 87, 0, 0, 0, 0, 0, []), (87, .istore_n 2, 88, 2, 0, 0, 0, 0, []), (88, .goto (-82), 91, 6, 0, 0, 0, 0, []), (91, .iload_n 2, 92, 2, 0, 0, 0, 0, []), (92, .ireturn, 93, 0, 0, 0, 0, 0, [])]
def zc_196 : List zE := [(0, .aload_n 0, 1, 0, 0, 0, 0, 0, []), (1, .bipush 45, 3, 0, 0, 0, 0, 45, []), (3, .invokevirtual 121, 6, 185, 2, 1, 24, 0, []), (6, .ifCond .eq 10, 9, 16, 0, 0, 0, 0, []), (9, .aload_n 0, 10, 0, 0, 0, 0, 0, []), (10, .iload_n 1, 11, 1, 0, 0, 0, 0, []), (11, .invokevirtual 166, 14, 196, 2, 1, 24, 0, []), (14, .ineg, 15, 0, 0, 0, 0, 0, []), (15, .ireturn, 16, 0, 0, 0, 0, 0, []), (16, .aload_n 0, 17, 0, 0, 0, 0, 0, []), (17, .invokevirtual 114, 20, 183, 1, 1, 24, 0, []), (20, .ifCond .ne 5, 23, 25, 0, 0, 0, 0, []), (23, .iconst 0, 24, 0, 0, 0, 0, 0, []), (24, .ireturn, 25, 0, 0, 0, 0, 0, []), (25, .aload_n 0, 26, 0, 0, 0, 0, 0, []), (26, .invokevirtual 118, 29, 182, 1, 1, 24, 0, []), (29, .istore_n 2, 30, 2, 0, 0, 0, 0, []), (30, .iload_n 2, 31, 2, 0, 0, 0, 0, []), (31, .bipush 40, 33, 0, 0, 0, 0, 40, []), (33, .if_icmp .ne 34, 36, 67, 0, 0, 0, 0, []), (36, .iload_n 1, 37, 1, 0, 0, 0, 0, []), (37, .iconst 4, 38, 0, 0, 0, 0, 4, []), (38, .if_icmp .ge 29, 41, 67, 0, 0, 0, 0, []), (41, .aload_n 0, 42, 0, 0, 0, 0, 0, []), (42, .dup, 43, 0, 0, 0, 0, 0, []), (43, .getfield 108, 46, 12, 16, 0, 0, 0, []), (46, .iconst 1, 47, 0, 0, 0, 0, 1, []), (47, .iadd, 48, 0, 0, 0, 0, 0, []), (48, .putfield 108, 51, 12, 16, 0, 0, 0, []), (51, .aload_n 0, 52, 0, 0, 0, 0, 0, []), (52, .iload_n 1, 53, 1, 0, 0, 0, 0, []), (53, .iconst 1, 54, 0, 0, 0, 0, 1, []), (54, .iadd, 55, 0, 0, 0, 0, 0, []), (55, .invokevirtual 169, 58, 193, 2, 1, 24, 0, []), (58, .istore_n 3, 59, 3, 0, 0, 0, 0, []), (59, .aload_n 0, 60, 0, 0, 0, 0, 0, []), (60, .bipush 41, 62, 0, 0, 0, 0, 41, []), (62, .invokevirtual 150, 65, 186, 2, 1, 25, 0, []), (65, .iload_n 3, 66, 3, 0, 0, 0, 0, []), (66, .ireturn, 67, 0, 0, 0, 0, 0, []), (67, .iload_n 2, 68, 2, 0, 0, 0, 0, []), (68, .bipush 48, 70, 0, 0, 0, 0, 48, []), (70, .bipush 57, 72, 0, 0, 0, 0, 57, []), (72, .invokestatic 88, 75, 171, 3, 0, 24, 0, []), (75, .ifCond .eq 59, 78, 134, 0, 0, 0, 0, []), (78, .iconst 0, 79, 0, 0, 0, 0, 0, []), (79, .istore_n 3, 80, 3, 0, 0, 0, 0, []), (80, .iconst 0, 81, 0, 0, 0, 0, 0, []), (81, .istore 4, 83, 4, 0, 0, 0, 0, []), (83, .iload 4, 85, 4, 0, 0, 0, 0, []), (85, .iconst 3, 86, 0, 0, 0, 0, 3, []), (86, .if_icmp .ge 46, 89, 132, 0, 0, 0, 0, []), (89, .aload_n 0, 90, 0, 0, 0, 0, 0, []), (90, .invokevirtual 118, 93, 182, 1, 1, 24, 0, []), (93, .bipush 48, 95, 0, 0, 0, 0, 48, []), (95, .bipush 57, 97, 0, 0, 0, 0, 57, []), (97, .invokestatic 88, 100, 171, 3, 0, 24, 0, []), (100, .ifCond .eq 32, 103, 132, 0, 0, 0, 0, []), (103, .bipush 10, 105, 0, 0, 0, 0, 10, []), (105, .iload_n 3, 106, 3, 0, 0, 0, 0, []), (106, .imul, 107, 0, 0, 0, 0, 0, []), (107, .aload_n 0, 108, 0, 0, 0, 0, 0, []), (108, .invokevirtual 118, 111, 182, 1, 1, 24, 0, []), (111, .iadd, 112, 0, 0, 0, 0, 0, []), (112, .bipush 48, 114, 0, 0, 0, 0, 48, []), (114, .isub, 115, 0, 0, 0, 0, 0, []), (115, .istore_n 3, 116, 3, 0, 0, 0, 0, []), (116, .aload_n 0, 117, 0, 0, 0, 0, 0, []), (117, .dup, 118, 0, 0, 0, 0, 0, []), (118, .getfield 108, 121, 12, 16, 0, 0, 0, []), (121, .iconst 1, 122, 0, 0, 0, 0, 1, []), (122, .iadd, 123, 0, 0, 0, 0, 0, []), (123, .putfield 108, 126, 12, 16, 0, 0, 0, []), (126, .iinc 4 1, 129, 4, 0, 0, 0, 1, []), (129, .goto (-46), 132, 83, 0, 0, 0, 0, []), (132, .iload_n 3, 133, 3, 0, 0, 0, 0, []), (133, .ireturn, 134, 0, 0, 0, 0, 0, []), (134, .iload_n 2, 135, 2, 0, 0, 0, 0, []), (135, .bipush 116, 137, 0, 0, 0, 0, 116, []), (137, .if_icmp .eq 61, 140, 198, 0, 0, 0, 0, []), (140, .iload_n 2, 141, 2, 0, 0, 0, 0, []), (141, .bipush 121, 143, 0, 0, 0, 0, 121, []), (143, .if_icmp .eq 55, 146, 198, 0, 0, 0, 0, []), (146, .iload_n 2, 147, 2, 0, 0, 0, 0, []), (147, .bipush 107, 149, 0, 0, 0, 0, 107, []), (149, .if_icmp .eq 49, 152, 198, 0, 0, 0, 0, []), (152, .iload_n 2, 153, 2, 0, 0, 0, 0, []), (153, .bipush 110, 155, 0, 0, 0, 0, 110, []), (155, .if_icmp .eq 43, 158, 198, 0, 0, 0, 0, []), (158, .iload_n 2, 159, 2, 0, 0, 0, 0, []), (159, .bipush 119, 161, 0, 0, 0, 0, 119, []), (161, .if_icmp .eq 37, 164, 198, 0, 0, 0, 0, []), (164, .iload_n 2, 165, 2, 0, 0, 0, 0, []), (165, .bipush 109, 167, 0, 0, 0, 0, 109, []), (167, .if_icmp .eq 31, 170, 198, 0, 0, 0, 0, []), (170, .iload_n 2, 171, 2, 0, 0, 0, 0, []), (171, .bipush 105, 173, 0, 0, 0, 0, 105, []), (173, .if_icmp .eq 25, 176, 198, 0, 0, 0, 0, []), (176, .iload_n 2, 177, 2, 0, 0, 0, 0, []), (177, .bipush 106, 179, 0, 0, 0, 0, 106, []), (179, .if_icmp .eq 19, 182, 198, 0, 0, 0, 0, []), (182, .iload_n 2, 183, 2, 0, 0, 0, 0, []), (183, .bipush 120, 185, 0, 0, 0, 0, 120, []), (185, .if_icmp .eq 13, 188, 198, 0, 0, 0, 0, []), (188, .aload_n 0, 189, 0, 0, 0, 0, 0, []), (189, .aload_n 0, 190, 0, 0, 0, 0, 0, []), (190, .getfield 108, 193, 12, 16, 0, 0, 0, []), (193, .invokevirtual 125, 196, 184, 2, 1, 25, 0, []), (196, .iconst 0, 197, 0, 0, 0, 0, 0, []), (197, .ireturn, 198, 0, 0, 0, 0, 0, []), (198, .aload_n 0, 199, 0, 0, 0, 0, 0, []), (199, .dup, 200, 0, 0, 0, 0, 0, []), (200, .getfield 108, 203, 12, 16, 0, 0, 0, []), (203, .iconst 1, 204, 0, 0, 0, 0, 1, []), (204, .iadd, 205, 0, 0, 0, 0, 0, []), (205, .putfield 108, 208, 12, 16, 0, 0, 0, []), (208, .aload_n 0, 209, 0, 0, 0, 0, 0, []), (209, .getfield 172, 212, 12, 21, 2, 0, 0, []), (212, .ifnonnull 7, 215, 219, 0, 0, 0, 0, []), (215, .iconst 0, 216, 0, 0, 0, 0, 0, []), (216, .goto 12, 219, 228, 0, 0, 0, 0, []), (219, .aload_n 0, 220, 0, 0, 0, 0, 0, []), (220, .iload_n 2, 221, 2, 0, 0, 0, 0, []), (221, .aload_n 0, 222, 0, 0, 0, 0, 0, []), (222, .getfield 172, 225, 12, 21, 2, 0, 0, []), (225, .invokevirtual 175, 228, 197, 3, 1, 24, 0, []), (228, .ireturn, 229, 0, 0, 0, 0, 0, [])]
def zc_197 : List zE := [(0, .iload_n 1, 1, 1, 0, 0, 0, 0, []), (1, .tableswitch 153 105 121 #[143, 148, 97, 153, 138, 107, 153, 153, 153, 153, 153, 83, 153, 153, 112, 153, 90], 84, 154, 0, 0, 0, 0, [(105, 144), (106, 149), (107, 98), (108, 154), (109, 139), (110, 108), (111, 154), (112, 154), (113, 154), (114, 154), (115, 154), (116, 84), (117, 154), (118, 154), (119, 113), (120, 154), (121, 91)]), (84, .aload_n 2, 85, 2, 0, 0, 0, 0, []), (85, .aload_n 0, 86, 0, 0, 0, 0, 0, []), (86, .getfield 179, 89, 12, 22, 0, 0, 0, []), (89, .iaload, 90, 0, 0, 0, 0, 0, []), (90, .ireturn, 91, 0, 0, 0, 0, 0, []), (91, .aload_n 2, 92, 2, 0, 0, 0, 0, []), (92, .aload_n 0, 93, 0, 0, 0, 0, 0, []), (93, .getfield 182, 96, 12, 23, 0, 0, 0, []), (96, .iaload, 97, 0, 0, 0, 0, 0, []), (97, .ireturn, 98, 0, 0, 0, 0, 0, []), (98, .aload_n 2, 99, 2, 0, 0, 0, 0, []), (99, .bipush 9, 101, 0, 0, 0, 0, 9, []), (101, .aload_n 0, 102, 0, 0, 0, 0, 0, []), (102, .getfield 179, 105, 12, 22, 0, 0, 0, []), (105, .iadd, 106, 0, 0, 0, 0, 0, []), (106, .iaload, 107, 0, 0, 0, 0, 0, []), (107, .ireturn, 108, 0, 0, 0, 0, 0, []), (108, .aload_n 0, 109, 0, 0, 0, 0, 0, []), (109, .getfield 185, 112, 12, 24, 0, 0, 0, []), (112, .ireturn, 113, 0, 0, 0, 0, 0, []), (113, .aload_n 0, 114, 0, 0, 0, 0, 0, []), (114, .getfield 157, 117, 12, 6, 0, 0, 0, []), (117, .ifCond .ne 7, 120, 124, 0, 0, 0, 0, []), (120, .iconst 0, 121, 0, 0, 0, 0, 0, []), (121, .goto 17, 124, 138, 0, 0, 0, 0, []), (124, .aload_n 0, 125, 0, 0, 0, 0, 0, []), (125, .getfield 19, 128, 12, 5, 2, 0, 0, []), (128, .aload_n 2, 129, 2, 0, 0, 0, 0, []), (129, .bipush 46, 131, 0, 0, 0, 0, 46, []), (131, .iaload, 132, 0, 0, 0, 0, 0, []), (132, .aload_n 0, 133, 0, 0, 0, 0, 0, []), (133, .getfield 157, 136, 12, 6, 0, 0, 0, []), (136, .irem, 137, 0, 0, 0, 0, 0, []), (137, .iaload, 138, 0, 0, 0, 0, 0, []), (138, .ireturn, 139, 0, 0, 0, 0, 0, []), (139, .aload_n 2, 140, 2, 0, 0, 0, 0, []), (140, .bipush 46, 142, 0, 0, 0, 0, 46, []), (142, .iaload, 143, 0, 0, 0, 0, 0, []), (143, .ireturn, 144, 0, 0, 0, 0, 0, []), (144, .aload_n 0, 145, 0, 0, 0, 0, 0, []), (145, .getfield 179, 148, 12, 22, 0, 0, 0, []), (148, .ireturn, 149, 0, 0, 0, 0, 0, []), (149, .aload_n 0, 150, 0, 0, 0, 0, 0, []), (150, .getfield 182, 153, 12, 23, 0, 0, 0, []), (153, .ireturn, 154, 0, 0, 0, 0, 0, []), (154, .aload_n 0, 155, 0, 0, 0, 0, 0, []), (155, .getfield 188, 158, 12, 25, 0, 0, 0, []), (158, .ireturn, 159, 0, 0, 0, 0, 0, [])]
def zc_198 : List zE := [(0, .aload_n 0, 1, 0, 0, 0, 0, 0, []), (1, .iconst 0, 2, 0, 0, 0, 0, 0, []), (2, .putfield 78, 5, 12, 12, 0, 0, 0, []), (5, .aload_n 0, 6, 0, 0, 0, 0, 0, []), (6, .getfield 96, 9, 12, 9, 0, 0, 0, []), (9, .istore_n 1, 10, 1, 0, 0, 0, 0, []), (10, .aload_n 0, 11, 0, 0, 0, 0, 0, []), (11, .aload_n 0, 12, 0, 0, 0, 0, 0, []), (12, .getfield 22, 15, 12, 8, 2, 0, 0, []), (15, .iload_n 1, 16, 1, 0, 0, 0, 0, []), (16, .bipush 40, 18, 0, 0, 0, 0, 40, []), (18, .invokevirtual 129, 21, 181, 4, 1, 25, 0, []), (21, .aload_n 0, 22, 0, 0, 0, 0, 0, []), (22, .iconst 0, 23, 0, 0, 0, 0, 0, []), (23, .putfield 96, 26, 12, 9, 0, 0, 0, []), (26, .aload_n 0, 27, 0, 0, 0, 0, 0, []), (27, .aconst_null, 28, 0, 0, 0, 0, 0, []), (28, .putfield 172, 31, 12, 21, 2, 0, 0, []), (31, .iload_n 1, 32, 1, 0, 0, 0, 0, []), (32, .ifCond .le 39, 35, 71, 0, 0, 0, 0, []), (35, .aload_n 0, 36, 0, 0, 0, 0, 0, []), (36, .iconst 0, 37, 0, 0, 0, 0, 0, []), (37, .invokevirtual 169, 40, 193, 2, 1, 24, 0, []), (40, .pop, 41, 0, 0, 0, 0, 0, []), (41, .aload_n 0, 42, 0, 0, 0, 0, 0, []), (42, .getfield 108, 45, 12, 16, 0, 0, 0, []), (45, .iload_n 1, 46, 1, 0, 0, 0, 0, []), (46, .if_icmp .ge 11, 49, 57, 0, 0, 0, 0, []), (49, .aload_n 0, 50, 0, 0, 0, 0, 0, []), (50, .aload_n 0, 51, 0, 0, 0, 0, 0, []), (51, .getfield 108, 54, 12, 16, 0, 0, 0, []), (54, .invokevirtual 125, 57, 184, 2, 1, 25, 0, []), (57, .aload_n 0, 58, 0, 0, 0, 0, 0, []), (58, .invokevirtual 114, 61, 183, 1, 1, 24, 0, []), (61, .ifCond .ne 10, 64, 71, 0, 0, 0, 0, []), (64, .iconst (-1), 65, 0, 0, 0, 0, (-1), []), (65, .aload_n 0, 66, 0, 0, 0, 0, 0, []), (66, .getfield 111, 69, 12, 17, 0, 0, 0, []), (69, .isub, 70, 0, 0, 0, 0, 0, []), (70, .ireturn, 71, 0, 0, 0, 0, 0, []), (71, .iconst 0, 72, 0, 0, 0, 0, 0, []), (72, .istore_n 2, 73, 2, 0, 0, 0, 0, []), (73, .iload_n 2, 74, 2, 0, 0, 0, 0, []), (74, .iload_n 1, 75, 1, 0, 0, 0, 0, []), (75, .if_icmp .ge 21, 78, 96, 0, 0, 0, 0, []), (78, .aload_n 0, 79, 0, 0, 0, 0, 0, []), (79, .getfield 32, 82, 12, 19, 2, 0, 0, []), (82, .iload_n 2, 83, 2, 0, 0, 0, 0, []), (83, .aload_n 0, 84, 0, 0, 0, 0, 0, []), (84, .getfield 22, 87, 12, 8, 2, 0, 0, []), (87, .iload_n 2, 88, 2, 0, 0, 0, 0, []), (88, .baload, 89, 0, 0, 0, 0, 0, []), (89, .bastore, 90, 0, 0, 0, 0, 0, []), (90, .iinc 2 1, 93, 2, 0, 0, 0, 1, []), (93, .goto (-20), 96, 73, 0, 0, 0, 0, []), (96, .aload_n 0, 97, 0, 0, 0, 0, 0, []), (97, .iload_n 1, 98, 1, 0, 0, 0, 0, []), (98, .putfield 191, 101, 12, 20, 0, 0, 0, []), (101, .iconst 0, 102, 0, 0, 0, 0, 0, []), (102, .ireturn, 103, 0, 0, 0, 0, 0, [])]
def zc_199 : List zE := [(0, .aload_n 0, 1, 0, 0, 0, 0, 0, []), (1, .getfield 191, 4, 12, 20, 0, 0, 0, []), (4, .ifCond .ne 16, 7, 20, 0, 0, 0, 0, []), (7, .aload_n 1, 8, 1, 0, 0, 0, 0, []), (8, .iload_n 2, 9, 2, 0, 0, 0, 0, []), (9, .iaload, 10, 0, 0, 0, 0, 0, []), (10, .iconst 3, 11, 0, 0, 0, 0, 3, []), (11, .if_icmp .le 7, 14, 18, 0, 0, 0, 0, []), (14, .iconst 1, 15, 0, 0, 0, 0, 1, []), (15, .goto 4, 18, 19, 0, 0, 0, 0, []), (18, .iconst 0, 19, 0, 0, 0, 0, 0, []), (19, .ireturn, 20, 0, 0, 1, 0, 0, []), (20, .aload_n 0, 21, 0, 0, 0, 0, 0, []), (21, .aload_n 0, 22, 0, 0, 0, 0, 0, []), (22, .getfield 32, 25, 12, 19, 2, 0, 0, []), (25, .aload_n 0, 26, 0, 0, 0, 0, 0, []), (26, .getfield 191, 29, 12, 20, 0, 0, 0, []), (29, .bipush 40, 31, 0, 0, 0, 0, 40, []), (31, .invokevirtual 129, 34, 181, 4, 1, 25, 0, []), (34, .aload_n 0, 35, 0, 0, 0, 0, 0, []), (35, .aload_n 1, 36, 1, 0, 0, 0, 0, []), (36, .putfield 172, 39, 12, 21, 2, 0, 0, []), (39, .aload_n 0, 40, 0, 0, 0, 0, 0, []), (40, .iload_n 2, 41, 2, 0, 0, 0, 0, []), (41, .putfield 179, 44, 12, 22, 0, 0, 0, []), (44, .aload_n 0, 45, 0, 0, 0, 0, 0, []), (45, .iload_n 3, 46, 3, 0, 0, 0, 0, []), (46, .putfield 182, 49, 12, 23, 0, 0, 0, []), (49, .aload_n 0, 50, 0, 0, 0, 0, 0, []), (50, .iload 4, 52, 4, 0, 0, 0, 0, []), (52, .putfield 185, 55, 12, 24, 0, 0, 0, []), (55, .aload_n 0, 56, 0, 0, 0, 0, 0, []), (56, .iload 5, 58, 5, 0, 0, 0, 0, []), (58, .putfield 188, 61, 12, 25, 0, 0, 0, []), (61, .aload_n 0, 62, 0, 0, 0, 0, 0, []), (62, .iconst 0, 63, 0, 0, 0, 0, 0, []), (63, .invokevirtual 169, 66, 193, 2, 1, 24, 0, []), (66, .ifCond .eq 7, 69, 73, 0, 0, 0, 0, []), (69, .iconst 1, 70, 0, 0, 0, 0, 1, []), (70, .goto 4, 73, 74, 0, 0, 0, 0, []), (73, .iconst 0, 74, 0, 0, 0, 0, 0, []), (74, .ireturn, 75, 0, 0, 1, 0, 0, [])]
def zc_200 : List zE := [(0, .aload_n 0, 1, 0, 0, 0, 0, 0, []), (1, .iconst 0, 2, 0, 0, 0, 0, 0, []), (2, .putfield 78, 5, 12, 12, 0, 0, 0, []), (5, .aload_n 0, 6, 0, 0, 0, 0, 0, []), (6, .iload_n 1, 7, 1, 0, 0, 0, 0, []), (7, .invokevirtual 194, 10, 175, 2, 1, 24, 0, []), (10, .ifCond .eq 13, 13, 23, 0, 0, 0, 0, []), (13, .iload_n 2, 14, 2, 0, 0, 0, 0, []), (14, .iconst 0, 15, 0, 0, 0, 0, 0, []), (15, .bipush 7, 17, 0, 0, 0, 0, 7, []), (17, .invokestatic 88, 20, 171, 3, 0, 24, 0, []), (20, .ifCond .ne 8, 23, 28, 0, 0, 0, 0, []), (23, .aload_n 0, 24, 0, 0, 0, 0, 0, []), (24, .invokevirtual 198, 27, 173, 1, 1, 24, 0, []), (27, .ireturn, 28, 0, 0, 0, 0, 0, []), (28, .aload_n 0, 29, 0, 0, 0, 0, 0, []), (29, .getfield 9, 32, 12, 0, 2, 0, 0, []), (32, .bipush 18, 34, 0, 0, 0, 0, 18, []), (34, .iload_n 1, 35, 1, 0, 0, 0, 0, []), (35, .iadd, 36, 0, 0, 0, 0, 0, []), (36, .iaload, 37, 0, 0, 0, 0, 0, []), (37, .iconst (-1), 38, 0, 0, 0, 0, (-1), []), (38, .if_icmp .eq 7, 41, 45, 0, 0, 0, 0, []), (41, .iconst 1, 42, 0, 0, 0, 0, 1, []), (42, .goto 4, 45, 46, 0, 0, 0, 0, []), (45, .iconst 0, 46, 0, 0, 0, 0, 0, []), (46, .istore_n 3, 47, 3, 0, 0, 0, 0, []), (47, .iload_n 2, 48, 2, 0, 0, 0, 0, []), (48, .tableswitch 136 0 6 #[44, 51, 58, 64, 74, 100, 118], 92, 184, 0, 0, 0, 0, [(0, 92), (1, 99), (2, 106), (3, 112), (4, 122), (5, 148), (6, 166)]), (92, .aload_n 0, 93, 0, 0, 0, 0, 0, []), (93, .getfield 9, 96, 12, 0, 2, 0, 0, []), (96, .iload_n 1, 97, 1, 0, 0, 0, 0, []), (97, .iaload, 98, 0, 0, 0, 0, 0, []), (98, .ireturn, 99, 0, 0, 0, 0, 0, []), (99, .aload_n 0, 100, 0, 0, 0, 0, 0, []), (100, .getfield 13, 103, 12, 2, 2, 0, 0, []), (103, .iload_n 1, 104, 1, 0, 0, 0, 0, []), (104, .iaload, 105, 0, 0, 0, 0, 0, []), (105, .ireturn, 106, 0, 0, 0, 0, 0, []), (106, .aload_n 0, 107, 0, 0, 0, 0, 0, []), (107, .iload_n 1, 108, 1, 0, 0, 0, 0, []), (108, .invokevirtual 201, 111, 177, 2, 1, 24, 0, []), (111, .ireturn, 112, 0, 0, 0, 0, 0, []), (112, .aload_n 0, 113, 0, 0, 0, 0, 0, []), (113, .getfield 9, 116, 12, 0, 2, 0, 0, []), (116, .bipush 9, 118, 0, 0, 0, 0, 9, []), (118, .iload_n 1, 119, 1, 0, 0, 0, 0, []), (119, .iadd, 120, 0, 0, 0, 0, 0, []), (120, .iaload, 121, 0, 0, 0, 0, 0, []), (121, .ireturn, 122, 0, 0, 0, 0, 0, []), (122, .iload_n 3, 123, 3, 0, 0, 0, 0, []), (123, .ifCond .eq 23, 126, 146, 0, 0, 0, 0, []), (126, .aload_n 0, 127, 0, 0, 0, 0, 0, []), (127, .getfield 9, 130, 12, 0, 2, 0, 0, []), (130, .bipush 18, 132, 0, 0, 0, 0, 18, []), (132, .iload_n 1, 133, 1, 0, 0, 0, 0, []), (133, .iadd, 134, 0, 0, 0, 0, 0, []), (134, .iaload, 135, 0, 0, 0, 0, 0, []), (135, .aload_n 0, 136, 0, 0, 0, 0, 0, []), (136, .getfield 9, 139, 12, 0, 2, 0, 0, []), (139, .bipush 46, 141, 0, 0, 0, 0, 46, []), (141, .iaload, 142, 0, 0, 0, 0, 0, []), (142, .isub, 143, 0, 0, 0, 0, 0, []), (143, .goto 4, 146, 147, 0, 0, 0, 0, []), (146, .iconst (-1), 147, 0, 0, 0, 0, (-1), []), (147, .ireturn, 148, 0, 0, 0, 0, 0, []), (148, .iload_n 3, 149, 3, 0, 0, 0, 0, []), (149, .ifCond .eq 15, 152, 164, 0, 0, 0, 0, []), (152, .aload_n 0, 153, 0, 0, 0, 0, 0, []), (153, .getfield 9, 156, 12, 0, 2, 0, 0, []), (156, .bipush 27, 158, 0, 0, 0, 0, 27, []), (158, .iload_n 1, 159, 1, 0, 0, 0, 0, []), (159, .iadd, 160, 0, 0, 0, 0, 0, []), (160, .iaload, 161, 0, 0, 0, 0, 0, []), (161, .goto 4, 164, 165, 0, 0, 0, 0, []), (164, .iconst (-1), 165, 0, 0, 0, 0, (-1), []), (165, .ireturn, 166, 0, 0, 0, 0, 0, []), (166, .iload_n 3, 167, 3, 0, 0, 0, 0, []), (167, .ifCond .eq 15, 170, 182, 0, 0, 0, 0, []), (170, .aload_n 0, 171, 0, 0, 0, 0, 0, []), (171, .getfield 9, 174, 12, 0, 2, 0, 0, []), (174, .bipush 36, 176, 0, 0, 0, 0, 36, []), (176, .iload_n 1, 177, 1, 0, 0, 0, 0, []), (177, .iadd, 178, 0, 0, 0, 0, 0, []), (178, .iaload, 179, 0, 0, 0, 0, 0, []), (179, .goto 4, 182, 183, 0, 0, 0, 0, []), (182, .iconst 0, 183, 0, 0, 0, 0, 0, []), (183, .ireturn, 184, 0, 0, 0, 0, 0, []), (184, .aload_n 0, 185, 0, 0, 0, 0, 0, []), (185, .getfield 9, 188, 12, 0, 2, 0, 0, []), (188, .bipush 45, 190, 0, 0, 0, 0, 45, []), (190, .iaload, 191, 0, 0, 0, 0, 0, []), (191, .iload_n 1, 192, 1, 0, 0, 0, 0, []), (192, .ishr, 193, 0, 0, 0, 0, 0, []), (193, .iconst 1, 194, 0, 0, 0, 0, 1, []), (194, .iand, 195, 0, 0, 0, 0, 0, []), (195, .ireturn, 196, 0, 0, 0, 0, 0, [])]
def zc_201 : List zE := [(0, .aload_n 0, 1, 0, 0, 0, 0, 0, []), (1, .iconst 0, 2, 0, 0, 0, 0, 0, []), (2, .putfield 78, 5, 12, 12, 0, 0, 0, []), (5, .aload_n 0, 6, 0, 0, 0, 0, 0, []), (6, .iload_n 1, 7, 1, 0, 0, 0, 0, []), (7, .invokevirtual 194, 10, 175, 2, 1, 24, 0, []), (10, .ifCond .eq 42, 13, 52, 0, 0, 0, 0, []), (13, .iload_n 2, 14, 2, 0, 0, 0, 0, []), (14, .iconst 0, 15, 0, 0, 0, 0, 0, []), (15, .iconst 2, 16, 0, 0, 0, 0, 2, []), (16, .invokestatic 88, 19, 171, 3, 0, 24, 0, []), (19, .ifCond .eq 33, 22, 52, 0, 0, 0, 0, []), (22, .iload_n 3, 23, 3, 0, 0, 0, 0, []), (23, .iload_n 2, 24, 2, 0, 0, 0, 0, []), (24, .iconst 1, 25, 0, 0, 0, 0, 1, []), (25, .if_icmp .ne 7, 28, 32, 0, 0, 0, 0, []), (28, .iconst 1, 29, 0, 0, 0, 0, 1, []), (29, .goto 4, 32, 33, 0, 0, 0, 0, []), (32, .iconst 0, 33, 0, 0, 0, 0, 0, []), (33, .iload_n 2, 34, 2, 0, 0, 0, 0, []), (34, .iconst 2, 35, 0, 0, 0, 0, 2, []), (35, .if_icmp .ne 9, 38, 44, 0, 0, 0, 0, []), (38, .sipush 511, 41, 0, 0, 0, 0, 511, []), (41, .goto 5, 44, 46, 0, 0, 0, 0, []), (44, .bipush 9, 46, 0, 0, 0, 0, 9, []), (46, .invokestatic 88, 49, 171, 3, 0, 24, 0, []), (49, .ifCond .ne 5, 52, 54, 0, 0, 0, 0, []), (52, .iconst (-1), 53, 0, 0, 0, 0, (-1), []), (53, .ireturn, 54, 0, 0, 0, 0, 0, []), (54, .iload_n 2, 55, 2, 0, 0, 0, 0, []), (55, .ifCond .ne 12, 58, 67, 0, 0, 0, 0, []), (58, .aload_n 0, 59, 0, 0, 0, 0, 0, []), (59, .getfield 9, 62, 12, 0, 2, 0, 0, []), (62, .iload_n 1, 63, 1, 0, 0, 0, 0, []), (63, .iaload, 64, 0, 0, 0, 0, 0, []), (64, .goto 23, 67, 87, 0, 0, 0, 0, []), (67, .iload_n 2, 68, 2, 0, 0, 0, 0, []), (68, .iconst 1, 69, 0, 0, 0, 0, 1, []), (69, .if_icmp .ne 12, 72, 81, 0, 0, 0, 0, []), (72, .aload_n 0, 73, 0, 0, 0, 0, 0, []), (73, .getfield 13, 76, 12, 2, 2, 0, 0, []), (76, .iload_n 1, 77, 1, 0, 0, 0, 0, []), (77, .iaload, 78, 0, 0, 0, 0, 0, []), (78, .goto 9, 81, 87, 0, 0, 0, 0, []), (81, .aload_n 0, 82, 0, 0, 0, 0, 0, []), (82, .getfield 16, 85, 12, 3, 2, 0, 0, []), (85, .iload_n 1, 86, 1, 0, 0, 0, 0, []), (86, .iaload, 87, 0, 0, 0, 0, 0, []), (87, .istore 4, 89, 4, 0, 0, 0, 0, []), (89, .iload_n 2, 90, 2, 0, 0, 0, 0, []), (90, .ifCond .ne 13, 93, 103, 0, 0, 0, 0, []), (93, .aload_n 0, 94, 0, 0, 0, 0, 0, []), (94, .getfield 9, 97, 12, 0, 2, 0, 0, []), (97, .iload_n 1, 98, 1, 0, 0, 0, 0, []), (98, .iload_n 3, 99, 3, 0, 0, 0, 0, []), (99, .iastore, 100, 0, 0, 0, 0, 0, []), (100, .goto 25, 103, 125, 0, 0, 0, 0, []), (103, .iload_n 2, 104, 2, 0, 0, 0, 0, []), (104, .iconst 1, 105, 0, 0, 0, 0, 1, []), (105, .if_icmp .ne 13, 108, 118, 0, 0, 0, 0, []), (108, .aload_n 0, 109, 0, 0, 0, 0, 0, []), (109, .getfield 13, 112, 12, 2, 2, 0, 0, []), (112, .iload_n 1, 113, 1, 0, 0, 0, 0, []), (113, .iload_n 3, 114, 3, 0, 0, 0, 0, []), (114, .iastore, 115, 0, 0, 0, 0, 0, []), (115, .goto 10, 118, 125, 0, 0, 0, 0, []), (118, .aload_n 0, 119, 0, 0, 0, 0, 0, []), (119, .getfield 16, 122, 12, 3, 2, 0, 0, []), (122, .iload_n 1, 123, 1, 0, 0, 0, 0, []), (123, .iload_n 3, 124, 3, 0, 0, 0, 0, []), (124, .iastore, 125, 0, 0, 0, 0, 0, []), (125, .iload 4, 127, 4, 0, 0, 0, 0, []), (127, .ireturn, 128, 0, 0, 0, 0, 0, [])]
def zc_202 : List zE := [(0, .aload_n 0, 1, 0, 0, 0, 0, 0, []), (1, .iconst 0, 2, 0, 0, 0, 0, 0, []), (2, .putfield 78, 5, 12, 12, 0, 0, 0, []), (5, .iload_n 1, 6, 1, 0, 0, 0, 0, []), (6, .iconst 0, 7, 0, 0, 0, 0, 0, []), (7, .iconst 3, 8, 0, 0, 0, 0, 3, []), (8, .invokestatic 88, 11, 171, 3, 0, 24, 0, []), (11, .ifCond .eq 9, 14, 20, 0, 0, 0, 0, []), (14, .iload_n 2, 15, 2, 0, 0, 0, 0, []), (15, .bipush 9, 17, 0, 0, 0, 0, 9, []), (17, .if_icmp .le 5, 20, 22, 0, 0, 0, 0, []), (20, .iconst (-1), 21, 0, 0, 0, 0, (-1), []), (21, .ireturn, 22, 0, 0, 0, 0, 0, []), (22, .iload_n 1, 23, 1, 0, 0, 0, 0, []), (23, .iconst 3, 24, 0, 0, 0, 0, 3, []), (24, .if_icmp .ge 10, 27, 34, 0, 0, 0, 0, []), (27, .iload_n 2, 28, 2, 0, 0, 0, 0, []), (28, .ifCond .ge 6, 31, 34, 0, 0, 0, 0, []), (31, .bipush (-2), 33, 0, 0, 0, 0, (-2), []), (33, .ireturn, 34, 0, 0, 0, 0, 0, []), (34, .iconst 0, 35, 0, 0, 0, 0, 0, []), (35, .istore 5, 37, 5, 0, 0, 0, 0, []), (37, .iload_n 3, 38, 3, 0, 0, 0, 0, []), (38, .istore 6, 40, 6, 0, 0, 0, 0, []), (40, .iconst 0, 41, 0, 0, 0, 0, 0, []), (41, .istore 7, 43, 7, 0, 0, 0, 0, []), (43, .iload 7, 45, 7, 0, 0, 0, 0, []), (45, .aload_n 0, 46, 0, 0, 0, 0, 0, []), (46, .getfield 85, 49, 12, 1, 0, 0, 0, []), (49, .if_icmp .ge 86, 52, 135, 0, 0, 0, 0, []), (52, .iload_n 1, 53, 1, 0, 0, 0, 0, []), (53, .ifCond .ne 9, 56, 62, 0, 0, 0, 0, []), (56, .iload 6, 58, 6, 0, 0, 0, 0, []), (58, .i2b, 59, 0, 0, 0, 0, 0, []), (59, .goto 16, 62, 75, 0, 0, 0, 0, []), (62, .iload_n 1, 63, 1, 0, 0, 0, 0, []), (63, .iconst 1, 64, 0, 0, 0, 0, 1, []), (64, .if_icmp .ne 9, 67, 73, 0, 0, 0, 0, []), (67, .iload 6, 69, 6, 0, 0, 0, 0, []), (69, .i2s, 70, 0, 0, 0, 0, 0, []), (70, .goto 5, 73, 75, 0, 0, 0, 0, []), (73, .iload 6, 75, 6, 0, 0, 0, 0, []), (75, .istore 8, 77, 8, 0, 0, 0, 0, []), (77, .aload_n 0, 78, 0, 0, 0, 0, 0, []), (78, .getfield 9, 81, 12, 0, 2, 0, 0, []), (81, .iload 7, 83, 7, 0, 0, 0, 0, []), (83, .iload_n 1, 84, 1, 0, 0, 0, 0, []), (84, .iconst 3, 85, 0, 0, 0, 0, 3, []), (85, .if_icmp .eq 9, 88, 94, 0, 0, 0, 0, []), (88, .iload 7, 90, 7, 0, 0, 0, 0, []), (90, .iload_n 2, 91, 2, 0, 0, 0, 0, []), (91, .if_icmp .lt 7, 94, 98, 0, 0, 0, 0, []), (94, .iconst 0, 95, 0, 0, 0, 0, 0, []), (95, .goto 14, 98, 109, 0, 0, 0, 0, []), (98, .iconst 0, 99, 0, 0, 0, 0, 0, []), (99, .bipush 9, 101, 0, 0, 0, 0, 9, []), (101, .iload 8, 103, 8, 0, 0, 0, 0, []), (103, .invokestatic 204, 106, 4, 2, 0, 28, 0, []), (106, .invokestatic 210, 109, 3, 2, 0, 28, 0, []), (109, .iastore, 110, 0, 0, 0, 0, 0, []), (110, .iload 5, 112, 5, 0, 0, 0, 0, []), (112, .aload_n 0, 113, 0, 0, 0, 0, 0, []), (113, .getfield 9, 116, 12, 0, 2, 0, 0, []), (116, .iload 7, 118, 7, 0, 0, 0, 0, []), (118, .iaload, 119, 0, 0, 0, 0, 0, []), (119, .iadd, 120, 0, 0, 0, 0, 0, []), (120, .istore 5, 122, 5, 0, 0, 0, 0, []), (122, .iload 6, 124, 6, 0, 0, 0, 0, []), (124, .iload 4, 126, 4, 0, 0, 0, 0, []), (126, .iadd, 127, 0, 0, 0, 0, 0, []), (127, .istore 6, 129, 6, 0, 0, 0, 0, []), (129, .iinc 7 1, 132, 7, 0, 0, 0, 1, []), (132, .goto (-89), 135, 43, 0, 0, 0, 0, []), (135, .iload_n 1, 136, 1, 0, 0, 0, 0, []), (136, .iconst 3, 137, 0, 0, 0, 0, 3, []), (137, .if_icmp .ne 8, 140, 145, 0, 0, 0, 0, []), (140, .bipush (-3), 142, 0, 0, 0, 0, (-3), []), (142, .goto 5, 145, 147, 0, 0, 0, 0, []), (145, .iload 5, 147, 5, 0, 0, 0, 0, []), (147, .ireturn, 148, 0, 0, 0, 0, 0, [])]
def zc_203 : List zE := [(0, .iconst 0, 1, 0, 0, 0, 0, 0, []), (1, .istore_n 2, 2, 2, 0, 0, 0, 0, []), (2, .iconst 0, 3, 0, 0, 0, 0, 0, []), (3, .istore_n 3, 4, 3, 0, 0, 0, 0, []), (4, .iload_n 3, 5, 3, 0, 0, 0, 0, []), (5, .aload_n 0, 6, 0, 0, 0, 0, 0, []), (6, .getfield 85, 9, 12, 1, 0, 0, 0, []), (9, .if_icmp .ge 29, 12, 38, 0, 0, 0, 0, []), (12, .iload_n 2, 13, 2, 0, 0, 0, 0, []), (13, .iload_n 1, 14, 1, 0, 0, 0, 0, []), (14, .iload_n 3, 15, 3, 0, 0, 0, 0, []), (15, .invokestatic 213, 18, 172, 2, 0, 24, 0, []), (18, .ifCond .eq 11, 21, 29, 0, 0, 0, 0, []), (21, .aload_n 0, 22, 0, 0, 0, 0, 0, []), (22, .iload_n 3, 23, 3, 0, 0, 0, 0, []), (23, .invokevirtual 201, 26, 177, 2, 1, 24, 0, []), (26, .goto 4, 29, 30, 0, 0, 0, 0, []), (29, .iconst 0, 30, 0, 0, 0, 0, 0, []), (30, .ior, 31, 0, 0, 0, 0, 0, []), (31, .istore_n 2, 32, 2, 0, 0, 0, 0, []), (32, .iinc 3 1, 35, 3, 0, 0, 0, 1, []), (35, .goto (-31), 38, 4, 0, 0, 0, 0, []), (38, .iload_n 2, 39, 2, 0, 0, 0, 0, []), (39, .ireturn, 40, 0, 0, 0, 0, 0, [])]
def zc_204 : List zE := [(0, .aload_n 0, 1, 0, 0, 0, 0, 0, []), (1, .iconst 0, 2, 0, 0, 0, 0, 0, []), (2, .putfield 78, 5, 12, 12, 0, 0, 0, []), (5, .iload_n 1, 6, 1, 0, 0, 0, 0, []), (6, .iconst 0, 7, 0, 0, 0, 0, 0, []), (7, .aload_n 0, 8, 0, 0, 0, 0, 0, []), (8, .invokevirtual 92, 11, 176, 1, 1, 24, 0, []), (11, .invokestatic 88, 14, 171, 3, 0, 24, 0, []), (14, .ifCond .ne 5, 17, 19, 0, 0, 0, 0, []), (17, .iconst (-1), 18, 0, 0, 0, 0, (-1), []), (18, .ireturn, 19, 0, 0, 0, 0, 0, []), (19, .aload_n 0, 20, 0, 0, 0, 0, 0, []), (20, .iload_n 1, 21, 1, 0, 0, 0, 0, []), (21, .putfield 217, 24, 12, 4, 0, 0, 0, []), (24, .aload_n 0, 25, 0, 0, 0, 0, 0, []), (25, .iload_n 1, 26, 1, 0, 0, 0, 0, []), (26, .invokevirtual 220, 29, 203, 2, 1, 24, 0, []), (29, .invokestatic 223, 32, 0, 1, 0, 26, 0, []), (32, .ireturn, 33, 0, 0, 0, 0, 0, [])]
def zc_205 : List zE := [(0, .aload_n 1, 1, 1, 0, 0, 0, 0, []), (1, .bipush 46, 3, 0, 0, 0, 0, 46, []), (3, .iaload, 4, 0, 0, 0, 0, 0, []), (4, .istore_n 2, 5, 2, 0, 0, 0, 0, []), (5, .aload_n 0, 6, 0, 0, 0, 0, 0, []), (6, .iconst 0, 7, 0, 0, 0, 0, 0, []), (7, .putfield 228, 10, 12, 26, 0, 0, 0, []), (10, .aload_n 0, 11, 0, 0, 0, 0, 0, []), (11, .iconst 0, 12, 0, 0, 0, 0, 0, []), (12, .putfield 231, 15, 12, 27, 0, 0, 0, []), (15, .aload_n 0, 16, 0, 0, 0, 0, 0, []), (16, .iconst 0, 17, 0, 0, 0, 0, 0, []), (17, .putfield 234, 20, 12, 28, 0, 0, 0, []), (20, .iconst 0, 21, 0, 0, 0, 0, 0, []), (21, .istore_n 3, 22, 3, 0, 0, 0, 0, []), (22, .iload_n 3, 23, 3, 0, 0, 0, 0, []), (23, .aload_n 0, 24, 0, 0, 0, 0, 0, []), (24, .getfield 85, 27, 12, 1, 0, 0, 0, []), (27, .if_icmp .ge 77, 30, 104, 0, 0, 0, 0, []), (30, .aload_n 1, 31, 1, 0, 0, 0, 0, []), (31, .bipush 45, 33, 0, 0, 0, 0, 45, []), (33, .iaload, 34, 0, 0, 0, 0, 0, []), (34, .iload_n 3, 35, 3, 0, 0, 0, 0, []), (35, .invokestatic 213, 38, 172, 2, 0, 24, 0, []), (38, .ifCond .eq 6, 41, 44, 0, 0, 0, 0, []), (41, .goto 57, 44, 98, 0, 0, 0, 0, []), (44, .aload_n 0, 45, 0, 0, 0, 0, 0, []), (45, .getfield 237, 48, 12, 7, 1, 0, 0, []), (48, .ifCond .ne 28, 51, 76, 0, 0, 0, 0, []), (51, .aload_n 1, 52, 1, 0, 0, 0, 0, []), (52, .iload_n 3, 53, 3, 0, 0, 0, 0, []), (53, .iaload, 54, 0, 0, 0, 0, 0, []), (54, .bipush 9, 56, 0, 0, 0, 0, 9, []), (56, .if_icmp .ne 20, 59, 76, 0, 0, 0, 0, []), (59, .aload_n 1, 60, 1, 0, 0, 0, 0, []), (60, .bipush 18, 62, 0, 0, 0, 0, 18, []), (62, .iload_n 3, 63, 3, 0, 0, 0, 0, []), (63, .iadd, 64, 0, 0, 0, 0, 0, []), (64, .iaload, 65, 0, 0, 0, 0, 0, []), (65, .iconst (-1), 66, 0, 0, 0, 0, (-1), []), (66, .if_icmp .ne 10, 69, 76, 0, 0, 0, 0, []), (69, .aload_n 1, 70, 1, 0, 0, 0, 0, []), (70, .bipush 18, 72, 0, 0, 0, 0, 18, []), (72, .iload_n 3, 73, 3, 0, 0, 0, 0, []), (73, .iadd, 74, 0, 0, 0, 0, 0, []), (74, .iload_n 2, 75, 2, 0, 0, 0, 0, []), (75, .iastore, 76, 0, 0, 0, 0, 0, []), (76, .aload_n 1, 77, 1, 0, 0, 0, 0, []), (77, .bipush 18, 79, 0, 0, 0, 0, 18, []), (79, .iload_n 3, 80, 3, 0, 0, 0, 0, []), (80, .iadd, 81, 0, 0, 0, 0, 0, []), (81, .iaload, 82, 0, 0, 0, 0, 0, []), (82, .iload_n 2, 83, 2, 0, 0, 0, 0, []), (83, .if_icmp .ne 15, 86, 98, 0, 0, 0, 0, []), (86, .aload_n 0, 87, 0, 0, 0, 0, 0, []), (87, .dup, 88, 0, 0, 0, 0, 0, []), (88, .getfield 228, 91, 12, 26, 0, 0, 0, []), (91, .iconst 1, 92, 0, 0, 0, 0, 1, []), (92, .iload_n 3, 93, 3, 0, 0, 0, 0, []), (93, .ishl, 94, 0, 0, 0, 0, 0, []), (94, .ior, 95, 0, 0, 0, 0, 0, []), (95, .putfield 228, 98, 12, 26, 0, 0, 0, []), (98, .iinc 3 1, 101, 3, 0, 0, 0, 1, []), (101, .goto (-79), 104, 22, 0, 0, 0, 0, []), (104, .iconst 0, 105, 0, 0, 0, 0, 0, []), (105, .istore_n 3, 106, 3, 0, 0, 0, 0, []), (106, .iload_n 3, 107, 3, 0, 0, 0, 0, []), (107, .aload_n 0, 108, 0, 0, 0, 0, 0, []), (108, .getfield 85, 111, 12, 1, 0, 0, 0, []), (111, .if_icmp .ge 27, 114, 138, 0, 0, 0, 0, []), (114, .aload_n 0, 115, 0, 0, 0, 0, 0, []), (115, .getfield 228, 118, 12, 26, 0, 0, 0, []), (118, .iload_n 3, 119, 3, 0, 0, 0, 0, []), (119, .invokestatic 213, 122, 172, 2, 0, 24, 0, []), (122, .ifCond .eq 10, 125, 132, 0, 0, 0, 0, []), (125, .aload_n 0, 126, 0, 0, 0, 0, 0, []), (126, .aload_n 1, 127, 1, 0, 0, 0, 0, []), (127, .iload_n 3, 128, 3, 0, 0, 0, 0, []), (128, .iload_n 2, 129, 2, 0, 0, 0, 0, []), (129, .invokevirtual 241, 132, 206, 4, 1, 25, 0, []), (132, .iinc 3 1, 135, 3, 0, 0, 0, 1, []), (135, .goto (-29), 138, 106, 0, 0, 0, 0, []), (138, .iconst 0, 139, 0, 0, 0, 0, 0, []), (139, .istore_n 3, 140, 3, 0, 0, 0, 0, []), (140, .iload_n 3, 141, 3, 0, 0, 0, 0, []), (141, .aload_n 0, 142, 0, 0, 0, 0, 0, []), (142, .getfield 85, 145, 12, 1, 0, 0, 0, []), (145, .if_icmp .ge 42, 148, 187, 0, 0, 0, 0, []), (148, .aload_n 1, 149, 1, 0, 0, 0, 0, []), (149, .bipush 45, 151, 0, 0, 0, 0, 45, []), (151, .iaload, 152, 0, 0, 0, 0, 0, []), (152, .aload_n 0, 153, 0, 0, 0, 0, 0, []), (153, .getfield 228, 156, 12, 26, 0, 0, 0, []), (156, .ior, 157, 0, 0, 0, 0, 0, []), (157, .iload_n 3, 158, 3, 0, 0, 0, 0, []), (158, .invokestatic 213, 161, 172, 2, 0, 24, 0, []), (161, .ifCond .ne 20, 164, 181, 0, 0, 0, 0, []), (164, .aload_n 1, 165, 1, 0, 0, 0, 0, []), (165, .bipush 18, 167, 0, 0, 0, 0, 18, []), (167, .iload_n 3, 168, 3, 0, 0, 0, 0, []), (168, .iadd, 169, 0, 0, 0, 0, 0, []), (169, .iaload, 170, 0, 0, 0, 0, 0, []), (170, .iconst (-1), 171, 0, 0, 0, 0, (-1), []), (171, .if_icmp .ne 10, 174, 181, 0, 0, 0, 0, []), (174, .aload_n 0, 175, 0, 0, 0, 0, 0, []), (175, .aload_n 1, 176, 1, 0, 0, 0, 0, []), (176, .iload_n 3, 177, 3, 0, 0, 0, 0, []), (177, .iload_n 2, 178, 2, 0, 0, 0, 0, []), (178, .invokevirtual 245, 181, 207, 4, 1, 25, 0, []), (181, .iinc 3 1, 184, 3, 0, 0, 0, 1, []), (184, .goto (-44), 187, 140, 0, 0, 0, 0, []), (187, .iload_n 2, 188, 2, 0, 0, 0, 0, []), (188, .iconst 1, 189, 0, 0, 0, 0, 1, []), (189, .iadd, 190, 0, 0, 0, 0, 0, []), (190, .bipush 10, 192, 0, 0, 0, 0, 10, []), (192, .irem, 193, 0, 0, 0, 0, 0, []), (193, .ifCond .ne 39, 196, 232, 0, 0, 0, 0, []), (196, .aload_n 0, 197, 0, 0, 0, 0, 0, []), (197, .getfield 237, 200, 12, 7, 1, 0, 0, []), (200, .ifCond .ne 32, 203, 232, 0, 0, 0, 0, []), (203, .iconst 0, 204, 0, 0, 0, 0, 0, []), (204, .istore_n 3, 205, 3, 0, 0, 0, 0, []), (205, .iload_n 3, 206, 3, 0, 0, 0, 0, []), (206, .aload_n 0, 207, 0, 0, 0, 0, 0, []), (207, .getfield 85, 210, 12, 1, 0, 0, 0, []), (210, .if_icmp .ge 22, 213, 232, 0, 0, 0, 0, []), (213, .aload_n 1, 214, 1, 0, 0, 0, 0, []), (214, .iload_n 3, 215, 3, 0, 0, 0, 0, []), (215, .bipush 9, 217, 0, 0, 0, 0, 9, []), (217, .aload_n 1, 218, 1, 0, 0, 0, 0, []), (218, .iload_n 3, 219, 3, 0, 0, 0, 0, []), (219, .iaload, 220, 0, 0, 0, 0, 0, []), (220, .iconst 1, 221, 0, 0, 0, 0, 1, []), (221, .iadd, 222, 0, 0, 0, 0, 0, []), (222, .invokestatic 204, 225, 4, 2, 0, 28, 0, []), (225, .iastore, 226, 0, 0, 0, 0, 0, []), (226, .iinc 3 1, 229, 3, 0, 0, 0, 1, []), (229, .goto (-24), 232, 205, 0, 0, 0, 0, []), (232, .aload_n 1, 233, 1, 0, 0, 0, 0, []), (233, .bipush 46, 235, 0, 0, 0, 0, 46, []), (235, .dup2, 236, 0, 0, 0, 0, 0, []), (236, .iaload, 237, 0, 0, 0, 0, 0, []), (237, .iconst 1, 238, 0, 0, 0, 0, 1, []), (238, .iadd, 239, 0, 0, 0, 0, 0, []), (239, .iastore, 240, 0, 0, 0, 0, 0, []), (240, .return_, 241, 0, 0, 0, 0, 0, [])]
def zc_206 : List zE := [(0, .bipush 48, 2, 0, 0, 0, 0, 48, []), (2, .iconst 4, 3, 0, 0, 0, 0, 4, []), (3, .aload_n 1, 4, 1, 0, 0, 0, 0, []), (4, .bipush 47, 6, 0, 0, 0, 0, 47, []), (6, .iaload, 7, 0, 0, 0, 0, 0, []), (7, .bipush 60, 9, 0, 0, 0, 0, 60, []), (9, .irem, 10, 0, 0, 0, 0, 0, []), (10, .imul, 11, 0, 0, 0, 0, 0, []), (11, .iadd, 12, 0, 0, 0, 0, 0, []), (12, .istore 4, 14, 4, 0, 0, 0, 0, []), (14, .aload_n 1, 15, 1, 0, 0, 0, 0, []), (15, .iload 4, 17, 4, 0, 0, 0, 0, []), (17, .iload_n 3, 18, 3, 0, 0, 0, 0, []), (18, .iastore, 19, 0, 0, 0, 0, 0, []), (19, .aload_n 1, 20, 1, 0, 0, 0, 0, []), (20, .iload 4, 22, 4, 0, 0, 0, 0, []), (22, .iconst 1, 23, 0, 0, 0, 0, 1, []), (23, .iadd, 24, 0, 0, 0, 0, 0, []), (24, .iload_n 2, 25, 2, 0, 0, 0, 0, []), (25, .iastore, 26, 0, 0, 0, 0, 0, []), (26, .aload_n 1, 27, 1, 0, 0, 0, 0, []), (27, .iload 4, 29, 4, 0, 0, 0, 0, []), (29, .iconst 2, 30, 0, 0, 0, 0, 2, []), (30, .iadd, 31, 0, 0, 0, 0, 0, []), (31, .aload_n 1, 32, 1, 0, 0, 0, 0, []), (32, .bipush 27, 34, 0, 0, 0, 0, 27, []), (34, .iload_n 2, 35, 2, 0, 0, 0, 0, []), (35, .iadd, 36, 0, 0, 0, 0, 0, []), (36, .iaload, 37, 0, 0, 0, 0, 0, []), (37, .iastore, 38, 0, 0, 0, 0, 0, []), (38, .aload_n 1, 39, 1, 0, 0, 0, 0, []), (39, .iload 4, 41, 4, 0, 0, 0, 0, []), (41, .iconst 3, 42, 0, 0, 0, 0, 3, []), (42, .iadd, 43, 0, 0, 0, 0, 0, []), (43, .aload_n 1, 44, 1, 0, 0, 0, 0, []), (44, .bipush 36, 46, 0, 0, 0, 0, 36, []), (46, .iload_n 2, 47, 2, 0, 0, 0, 0, []), (47, .iadd, 48, 0, 0, 0, 0, 0, []), (48, .iaload, 49, 0, 0, 0, 0, 0, []), (49, .iastore, 50, 0, 0, 0, 0, 0, []), (50, .aload_n 1, 51, 1, 0, 0, 0, 0, []), (51, .bipush 47, 53, 0, 0, 0, 0, 47, []), (53, .dup2, 54, 0, 0, 0, 0, 0, []), (54, .iaload, 55, 0, 0, 0, 0, 0, []), (55, .iconst 1, 56, 0, 0, 0, 0, 1, []), (56, .iadd, 57, 0, 0, 0, 0, 0, []), (57, .iastore, 58, 0, 0, 0, 0, 0, []), (58, .aload_n 0, 59, 0, 0, 0, 0, 0, []), (59, .dup, 60, 0, 0, 0, 0, 0, []), (60, .getfield 234, 63, 12, 28, 0, 0, 0, []), (63, .aload_n 1, 64, 1, 0, 0, 0, 0, []), (64, .bipush 36, 66, 0, 0, 0, 0, 36, []), (66, .iload_n 2, 67, 2, 0, 0, 0, 0, []), (67, .iadd, 68, 0, 0, 0, 0, 0, []), (68, .iaload, 69, 0, 0, 0, 0, 0, []), (69, .iload_n 2, 70, 2, 0, 0, 0, 0, []), (70, .ishl, 71, 0, 0, 0, 0, 0, []), (71, .ior, 72, 0, 0, 0, 0, 0, []), (72, .putfield 234, 75, 12, 28, 0, 0, 0, []), (75, .aload_n 1, 76, 1, 0, 0, 0, 0, []), (76, .bipush 9, 78, 0, 0, 0, 0, 9, []), (78, .iload_n 2, 79, 2, 0, 0, 0, 0, []), (79, .iadd, 80, 0, 0, 0, 0, 0, []), (80, .dup2, 81, 0, 0, 0, 0, 0, []), (81, .iaload, 82, 0, 0, 0, 0, 0, []), (82, .iconst 1, 83, 0, 0, 0, 0, 1, []), (83, .iadd, 84, 0, 0, 0, 0, 0, []), (84, .iastore, 85, 0, 0, 0, 0, 0, []), (85, .aload_n 0, 86, 0, 0, 0, 0, 0, []), (86, .getfield 237, 89, 12, 7, 1, 0, 0, []), (89, .ifCond .ne 15, 92, 104, 0, 0, 0, 0, []), (92, .aload_n 1, 93, 1, 0, 0, 0, 0, []), (93, .iload_n 2, 94, 2, 0, 0, 0, 0, []), (94, .iconst 0, 95, 0, 0, 0, 0, 0, []), (95, .aload_n 1, 96, 1, 0, 0, 0, 0, []), (96, .iload_n 2, 97, 2, 0, 0, 0, 0, []), (97, .iaload, 98, 0, 0, 0, 0, 0, []), (98, .iconst 1, 99, 0, 0, 0, 0, 1, []), (99, .isub, 100, 0, 0, 0, 0, 0, []), (100, .invokestatic 210, 103, 3, 2, 0, 28, 0, []), (103, .iastore, 104, 0, 0, 0, 0, 0, []), (104, .aload_n 1, 105, 1, 0, 0, 0, 0, []), (105, .iload_n 2, 106, 2, 0, 0, 0, 0, []), (106, .invokestatic 136, 109, 190, 2, 0, 25, 0, []), (109, .return_, 110, 0, 0, 0, 0, 0, [])]
def zc_207 : List zE := [(0, .aload_n 0, 1, 0, 0, 0, 0, 0, []), (1, .iload_n 2, 2, 2, 0, 0, 0, 0, []), (2, .invokevirtual 201, 5, 177, 2, 1, 24, 0, []), (5, .aload_n 0, 6, 0, 0, 0, 0, 0, []), (6, .getfield 228, 9, 12, 26, 0, 0, 0, []), (9, .iand, 10, 0, 0, 0, 0, 0, []), (10, .istore 4, 12, 4, 0, 0, 0, 0, []), (12, .iconst 0, 13, 0, 0, 0, 0, 0, []), (13, .istore 5, 15, 5, 0, 0, 0, 0, []), (15, .iload 5, 17, 5, 0, 0, 0, 0, []), (17, .aload_n 0, 18, 0, 0, 0, 0, 0, []), (18, .getfield 85, 21, 12, 1, 0, 0, 0, []), (21, .if_icmp .ge 89, 24, 110, 0, 0, 0, 0, []), (24, .iload 4, 26, 4, 0, 0, 0, 0, []), (26, .iload 5, 28, 5, 0, 0, 0, 0, []), (28, .invokestatic 213, 31, 172, 2, 0, 24, 0, []), (31, .ifCond .eq 73, 34, 104, 0, 0, 0, 0, []), (34, .aload_n 0, 35, 0, 0, 0, 0, 0, []), (35, .aload_n 1, 36, 1, 0, 0, 0, 0, []), (36, .iload_n 2, 37, 2, 0, 0, 0, 0, []), (37, .iload 5, 39, 5, 0, 0, 0, 0, []), (39, .iload 4, 41, 4, 0, 0, 0, 0, []), (41, .invokestatic 223, 44, 0, 1, 0, 26, 0, []), (44, .aload_n 0, 45, 0, 0, 0, 0, 0, []), (45, .getfield 234, 48, 12, 28, 0, 0, 0, []), (48, .iload 5, 50, 5, 0, 0, 0, 0, []), (50, .ishr, 51, 0, 0, 0, 0, 0, []), (51, .iconst 1, 52, 0, 0, 0, 0, 1, []), (52, .iand, 53, 0, 0, 0, 0, 0, []), (53, .invokevirtual 248, 56, 199, 6, 1, 24, 0, []), (56, .ifCond .ne 6, 59, 62, 0, 0, 0, 0, []), (59, .goto 45, 62, 104, 0, 0, 0, 0, []), (62, .aload_n 1, 63, 1, 0, 0, 0, 0, []), (63, .bipush 18, 65, 0, 0, 0, 0, 18, []), (65, .iload_n 2, 66, 2, 0, 0, 0, 0, []), (66, .iadd, 67, 0, 0, 0, 0, 0, []), (67, .iload_n 3, 68, 3, 0, 0, 0, 0, []), (68, .aload_n 0, 69, 0, 0, 0, 0, 0, []), (69, .getfield 13, 72, 12, 2, 2, 0, 0, []), (72, .iload_n 2, 73, 2, 0, 0, 0, 0, []), (73, .iaload, 74, 0, 0, 0, 0, 0, []), (74, .iadd, 75, 0, 0, 0, 0, 0, []), (75, .iastore, 76, 0, 0, 0, 0, 0, []), (76, .aload_n 1, 77, 1, 0, 0, 0, 0, []), (77, .bipush 27, 79, 0, 0, 0, 0, 27, []), (79, .iload_n 2, 80, 2, 0, 0, 0, 0, []), (80, .iadd, 81, 0, 0, 0, 0, 0, []), (81, .iload 5, 83, 5, 0, 0, 0, 0, []), (83, .iastore, 84, 0, 0, 0, 0, 0, []), (84, .aload_n 1, 85, 1, 0, 0, 0, 0, []), (85, .bipush 36, 87, 0, 0, 0, 0, 36, []), (87, .iload_n 2, 88, 2, 0, 0, 0, 0, []), (88, .iadd, 89, 0, 0, 0, 0, 0, []), (89, .iconst 0, 90, 0, 0, 0, 0, 0, []), (90, .iastore, 91, 0, 0, 0, 0, 0, []), (91, .aload_n 0, 92, 0, 0, 0, 0, 0, []), (92, .dup, 93, 0, 0, 0, 0, 0, []), (93, .getfield 231, 96, 12, 27, 0, 0, 0, []), (96, .iconst 1, 97, 0, 0, 0, 0, 1, []), (97, .iload_n 2, 98, 2, 0, 0, 0, 0, []), (98, .ishl, 99, 0, 0, 0, 0, 0, []), (99, .ior, 100, 0, 0, 0, 0, 0, []), (100, .putfield 231, 103, 12, 27, 0, 0, 0, []), (103, .return_, 104, 0, 0, 0, 0, 0, []), (104, .iinc 5 1, 107, 5, 0, 0, 0, 1, []), (107, .goto (-92), 110, 15, 0, 0, 0, 0, []), (110, .return_, 111, 0, 0, 0, 0, 0, [])]
def zc_208 : List zE := [(0, .iconst 0, 1, 0, 0, 0, 0, 0, []), (1, .istore_n 3, 2, 3, 0, 0, 0, 0, []), (2, .iload_n 3, 3, 3, 0, 0, 0, 0, []), (3, .sipush 288, 6, 0, 0, 0, 0, 288, []), (6, .if_icmp .ge 17, 9, 23, 0, 0, 0, 0, []), (9, .aload_n 1, 10, 1, 0, 0, 0, 0, []), (10, .iload_n 2, 11, 2, 0, 0, 0, 0, []), (11, .iload_n 3, 12, 3, 0, 0, 0, 0, []), (12, .iadd, 13, 0, 0, 0, 0, 0, []), (13, .aload_n 0, 14, 0, 0, 0, 0, 0, []), (14, .iload_n 3, 15, 3, 0, 0, 0, 0, []), (15, .iaload, 16, 0, 0, 0, 0, 0, []), (16, .iastore, 17, 0, 0, 0, 0, 0, []), (17, .iinc 3 1, 20, 3, 0, 0, 0, 1, []), (20, .goto (-18), 23, 2, 0, 0, 0, 0, []), (23, .return_, 24, 0, 0, 0, 0, 0, [])]
def zc_209 : List zE := [(0, .aload_n 0, 1, 0, 0, 0, 0, 0, []), (1, .getfield 140, 4, 12, 30, 0, 0, 0, []), (4, .bipush 12, 6, 0, 0, 0, 0, 12, []), (6, .if_icmp .ne 44, 9, 50, 0, 0, 0, 0, []), (9, .iconst 0, 10, 0, 0, 0, 0, 0, []), (10, .istore_n 2, 11, 2, 0, 0, 0, 0, []), (11, .iload_n 2, 12, 2, 0, 0, 0, 0, []), (12, .sipush 3168, 15, 0, 0, 0, 0, 3168, []), (15, .if_icmp .ge 25, 18, 40, 0, 0, 0, 0, []), (18, .aload_n 0, 19, 0, 0, 0, 0, 0, []), (19, .getfield 35, 22, 12, 29, 2, 0, 0, []), (22, .iload_n 2, 23, 2, 0, 0, 0, 0, []), (23, .aload_n 0, 24, 0, 0, 0, 0, 0, []), (24, .getfield 35, 27, 12, 29, 2, 0, 0, []), (27, .iload_n 2, 28, 2, 0, 0, 0, 0, []), (28, .sipush 288, 31, 0, 0, 0, 0, 288, []), (31, .iadd, 32, 0, 0, 0, 0, 0, []), (32, .iaload, 33, 0, 0, 0, 0, 0, []), (33, .iastore, 34, 0, 0, 0, 0, 0, []), (34, .iinc 2 1, 37, 2, 0, 0, 0, 1, []), (37, .goto (-26), 40, 11, 0, 0, 0, 0, []), (40, .aload_n 0, 41, 0, 0, 0, 0, 0, []), (41, .dup, 42, 0, 0, 0, 0, 0, []), (42, .getfield 140, 45, 12, 30, 0, 0, 0, []), (45, .iconst 1, 46, 0, 0, 0, 0, 1, []), (46, .isub, 47, 0, 0, 0, 0, 0, []), (47, .putfield 140, 50, 12, 30, 0, 0, 0, []), (50, .aload_n 1, 51, 1, 0, 0, 0, 0, []), (51, .aload_n 0, 52, 0, 0, 0, 0, 0, []), (52, .getfield 35, 55, 12, 29, 2, 0, 0, []), (55, .sipush 288, 58, 0, 0, 0, 0, 288, []), (58, .aload_n 0, 59, 0, 0, 0, 0, 0, []), (59, .getfield 140, 62, 12, 30, 0, 0, 0, []), (62, .imul, 63, 0, 0, 0, 0, 0, []), (63, .invokestatic 252, 66, 208, 3, 0, 25, 0, []), (66, .aload_n 0, 67, 0, 0, 0, 0, 0, []), (67, .dup, 68, 0, 0, 0, 0, 0, []), (68, .getfield 140, 71, 12, 30, 0, 0, 0, []), (71, .iconst 1, 72, 0, 0, 0, 0, 1, []), (72, .iadd, 73, 0, 0, 0, 0, 0, []), (73, .putfield 140, 76, 12, 30, 0, 0, 0, []), (76, .return_, 77, 0, 0, 0, 0, 0, [])]
def zc_210 : List zE := [(0, .aload_n 0, 1, 0, 0, 0, 0, 0, []), (1, .iload_n 2, 2, 2, 0, 0, 0, 0, []), (2, .invokevirtual 194, 5, 175, 2, 1, 24, 0, []), (5, .ifCond .eq 28, 8, 33, 0, 0, 0, 0, []), (8, .aload_n 1, 9, 1, 0, 0, 0, 0, []), (9, .bipush 45, 11, 0, 0, 0, 0, 45, []), (11, .iaload, 12, 0, 0, 0, 0, 0, []), (12, .iload_n 2, 13, 2, 0, 0, 0, 0, []), (13, .invokestatic 213, 16, 172, 2, 0, 24, 0, []), (16, .ifCond .ne 17, 19, 33, 0, 0, 0, 0, []), (19, .aload_n 1, 20, 1, 0, 0, 0, 0, []), (20, .bipush 18, 22, 0, 0, 0, 0, 18, []), (22, .iload_n 2, 23, 2, 0, 0, 0, 0, []), (23, .iadd, 24, 0, 0, 0, 0, 0, []), (24, .iaload, 25, 0, 0, 0, 0, 0, []), (25, .iconst (-1), 26, 0, 0, 0, 0, (-1), []), (26, .if_icmp .ne 7, 29, 33, 0, 0, 0, 0, []), (29, .iconst 1, 30, 0, 0, 0, 0, 1, []), (30, .goto 4, 33, 34, 0, 0, 0, 0, []), (33, .iconst 0, 34, 0, 0, 0, 0, 0, []), (34, .ireturn, 35, 0, 0, 1, 0, 0, [])]
def zc_211 : List zE := [(0, .aload_n 0, 1, 0, 0, 0, 0, 0, []), (1, .bipush 18, 3, 0, 0, 0, 0, 18, []), (3, .iload_n 1, 4, 1, 0, 0, 0, 0, []), (4, .iadd, 5, 0, 0, 0, 0, 0, []), (5, .aload_n 0, 6, 0, 0, 0, 0, 0, []), (6, .bipush 46, 8, 0, 0, 0, 0, 46, []), (8, .iaload, 9, 0, 0, 0, 0, 0, []), (9, .iastore, 10, 0, 0, 0, 0, 0, []), (10, .aload_n 0, 11, 0, 0, 0, 0, 0, []), (11, .bipush 27, 13, 0, 0, 0, 0, 27, []), (13, .iload_n 1, 14, 1, 0, 0, 0, 0, []), (14, .iadd, 15, 0, 0, 0, 0, 0, []), (15, .iconst (-1), 16, 0, 0, 0, 0, (-1), []), (16, .iastore, 17, 0, 0, 0, 0, 0, []), (17, .aload_n 0, 18, 0, 0, 0, 0, 0, []), (18, .bipush 36, 20, 0, 0, 0, 0, 36, []), (20, .iload_n 1, 21, 1, 0, 0, 0, 0, []), (21, .iadd, 22, 0, 0, 0, 0, 0, []), (22, .iload_n 2, 23, 2, 0, 0, 0, 0, []), (23, .iastore, 24, 0, 0, 0, 0, 0, []), (24, .return_, 25, 0, 0, 0, 0, 0, [])]
def zc_212 : List zE := [(0, .aload_n 0, 1, 0, 0, 0, 0, 0, []), (1, .iconst 0, 2, 0, 0, 0, 0, 0, []), (2, .putfield 78, 5, 12, 12, 0, 0, 0, []), (5, .aload_n 0, 6, 0, 0, 0, 0, 0, []), (6, .aload_n 0, 7, 0, 0, 0, 0, 0, []), (7, .getfield 9, 10, 12, 0, 2, 0, 0, []), (10, .iload_n 1, 11, 1, 0, 0, 0, 0, []), (11, .invokevirtual 256, 14, 210, 3, 1, 24, 0, []), (14, .ifCond .eq 12, 17, 26, 0, 0, 0, 0, []), (17, .iload_n 2, 18, 2, 0, 0, 0, 0, []), (18, .iconst 0, 19, 0, 0, 0, 0, 0, []), (19, .iconst 1, 20, 0, 0, 0, 0, 1, []), (20, .invokestatic 88, 23, 171, 3, 0, 24, 0, []), (23, .ifCond .ne 5, 26, 28, 0, 0, 0, 0, []), (26, .iconst 0, 27, 0, 0, 0, 0, 0, []), (27, .ireturn, 28, 0, 0, 1, 0, 0, []), (28, .aload_n 0, 29, 0, 0, 0, 0, 0, []), (29, .aload_n 0, 30, 0, 0, 0, 0, 0, []), (30, .getfield 9, 33, 12, 0, 2, 0, 0, []), (33, .invokevirtual 260, 36, 209, 2, 1, 25, 0, []), (36, .aload_n 0, 37, 0, 0, 0, 0, 0, []), (37, .getfield 9, 40, 12, 0, 2, 0, 0, []), (40, .iload_n 1, 41, 1, 0, 0, 0, 0, []), (41, .iload_n 2, 42, 2, 0, 0, 0, 0, []), (42, .invokestatic 264, 45, 211, 3, 0, 25, 0, []), (45, .iconst 1, 46, 0, 0, 0, 0, 1, []), (46, .ireturn, 47, 0, 0, 1, 0, 0, [])]
def zc_213 : List zE := [(0, .aload_n 0, 1, 0, 0, 0, 0, 0, []), (1, .getfield 9, 4, 12, 0, 2, 0, 0, []), (4, .bipush 45, 6, 0, 0, 0, 0, 45, []), (6, .dup2, 7, 0, 0, 0, 0, 0, []), (7, .iaload, 8, 0, 0, 0, 0, 0, []), (8, .iconst 1, 9, 0, 0, 0, 0, 1, []), (9, .iload_n 1, 10, 1, 0, 0, 0, 0, []), (10, .ishl, 11, 0, 0, 0, 0, 0, []), (11, .ixor, 12, 0, 0, 0, 0, 0, []), (12, .iastore, 13, 0, 0, 0, 0, 0, []), (13, .aload_n 0, 14, 0, 0, 0, 0, 0, []), (14, .getfield 9, 17, 12, 0, 2, 0, 0, []), (17, .iload_n 1, 18, 1, 0, 0, 0, 0, []), (18, .invokestatic 136, 21, 190, 2, 0, 25, 0, []), (21, .return_, 22, 0, 0, 0, 0, 0, [])]
def zc_214 : List zE := [(0, .aload_n 0, 1, 0, 0, 0, 0, 0, []), (1, .iconst 0, 2, 0, 0, 0, 0, 0, []), (2, .putfield 78, 5, 12, 12, 0, 0, 0, []), (5, .aload_n 0, 6, 0, 0, 0, 0, 0, []), (6, .iload_n 1, 7, 1, 0, 0, 0, 0, []), (7, .invokevirtual 194, 10, 175, 2, 1, 24, 0, []), (10, .ifCond .ne 5, 13, 15, 0, 0, 0, 0, []), (13, .iconst (-1), 14, 0, 0, 0, 0, (-1), []), (14, .ireturn, 15, 0, 0, 0, 0, 0, []), (15, .aload_n 0, 16, 0, 0, 0, 0, 0, []), (16, .aload_n 0, 17, 0, 0, 0, 0, 0, []), (17, .getfield 9, 20, 12, 0, 2, 0, 0, []), (20, .invokevirtual 260, 23, 209, 2, 1, 25, 0, []), (23, .aload_n 0, 24, 0, 0, 0, 0, 0, []), (24, .iload_n 1, 25, 1, 0, 0, 0, 0, []), (25, .invokevirtual 267, 28, 213, 2, 1, 25, 0, []), (28, .aload_n 0, 29, 0, 0, 0, 0, 0, []), (29, .getfield 9, 32, 12, 0, 2, 0, 0, []), (32, .bipush 45, 34, 0, 0, 0, 0, 45, []), (34, .iaload, 35, 0, 0, 0, 0, 0, []), (35, .invokestatic 223, 38, 0, 1, 0, 26, 0, []), (38, .ireturn, 39, 0, 0, 0, 0, 0, [])]
def zc_215 : List zE := [(0, .aload_n 0, 1, 0, 0, 0, 0, 0, []), (1, .iconst 0, 2, 0, 0, 0, 0, 0, []), (2, .putfield 78, 5, 12, 12, 0, 0, 0, []), (5, .aload_n 0, 6, 0, 0, 0, 0, 0, []), (6, .iload_n 1, 7, 1, 0, 0, 0, 0, []), (7, .invokevirtual 194, 10, 175, 2, 1, 24, 0, []), (10, .ifCond .eq 12, 13, 22, 0, 0, 0, 0, []), (13, .iload_n 2, 14, 2, 0, 0, 0, 0, []), (14, .iconst 0, 15, 0, 0, 0, 0, 0, []), (15, .iconst 1, 16, 0, 0, 0, 0, 1, []), (16, .invokestatic 88, 19, 171, 3, 0, 24, 0, []), (19, .ifCond .ne 5, 22, 24, 0, 0, 0, 0, []), (22, .iconst (-1), 23, 0, 0, 0, 0, (-1), []), (23, .ireturn, 24, 0, 0, 0, 0, 0, []), (24, .aload_n 0, 25, 0, 0, 0, 0, 0, []), (25, .getfield 9, 28, 12, 0, 2, 0, 0, []), (28, .bipush 45, 30, 0, 0, 0, 0, 45, []), (30, .iaload, 31, 0, 0, 0, 0, 0, []), (31, .iload_n 1, 32, 1, 0, 0, 0, 0, []), (32, .invokestatic 213, 35, 172, 2, 0, 24, 0, []), (35, .ifCond .eq 6, 38, 41, 0, 0, 0, 0, []), (38, .bipush (-2), 40, 0, 0, 0, 0, (-2), []), (40, .ireturn, 41, 0, 0, 0, 0, 0, []), (41, .iconst 0, 42, 0, 0, 0, 0, 0, []), (42, .istore_n 3, 43, 3, 0, 0, 0, 0, []), (43, .iconst 0, 44, 0, 0, 0, 0, 0, []), (44, .istore 4, 46, 4, 0, 0, 0, 0, []), (46, .iconst 0, 47, 0, 0, 0, 0, 0, []), (47, .istore 5, 49, 5, 0, 0, 0, 0, []), (49, .iload 5, 51, 5, 0, 0, 0, 0, []), (51, .aload_n 0, 52, 0, 0, 0, 0, 0, []), (52, .getfield 85, 55, 12, 1, 0, 0, 0, []), (55, .if_icmp .ge 86, 58, 141, 0, 0, 0, 0, []), (58, .aload_n 0, 59, 0, 0, 0, 0, 0, []), (59, .getfield 9, 62, 12, 0, 2, 0, 0, []), (62, .bipush 45, 64, 0, 0, 0, 0, 45, []), (64, .iaload, 65, 0, 0, 0, 0, 0, []), (65, .iload 5, 67, 5, 0, 0, 0, 0, []), (67, .invokestatic 213, 70, 172, 2, 0, 24, 0, []), (70, .ifCond .ne 65, 73, 135, 0, 0, 0, 0, []), (73, .aload_n 0, 74, 0, 0, 0, 0, 0, []), (74, .iload 5, 76, 5, 0, 0, 0, 0, []), (76, .invokevirtual 201, 79, 177, 2, 1, 24, 0, []), (79, .iload_n 1, 80, 1, 0, 0, 0, 0, []), (80, .invokestatic 213, 83, 172, 2, 0, 24, 0, []), (83, .ifCond .ne 6, 86, 89, 0, 0, 0, 0, []), (86, .goto 49, 89, 135, 0, 0, 0, 0, []), (89, .iload 4, 91, 4, 0, 0, 0, 0, []), (91, .iconst 1, 92, 0, 0, 0, 0, 1, []), (92, .iload 5, 94, 5, 0, 0, 0, 0, []), (94, .ishl, 95, 0, 0, 0, 0, 0, []), (95, .ior, 96, 0, 0, 0, 0, 0, []), (96, .istore 4, 98, 4, 0, 0, 0, 0, []), (98, .aload_n 0, 99, 0, 0, 0, 0, 0, []), (99, .getfield 9, 102, 12, 0, 2, 0, 0, []), (102, .bipush 18, 104, 0, 0, 0, 0, 18, []), (104, .iload 5, 106, 5, 0, 0, 0, 0, []), (106, .iadd, 107, 0, 0, 0, 0, 0, []), (107, .iaload, 108, 0, 0, 0, 0, 0, []), (108, .iconst (-1), 109, 0, 0, 0, 0, (-1), []), (109, .if_icmp .ne 26, 112, 135, 0, 0, 0, 0, []), (112, .aload_n 0, 113, 0, 0, 0, 0, 0, []), (113, .aload_n 0, 114, 0, 0, 0, 0, 0, []), (114, .getfield 9, 117, 12, 0, 2, 0, 0, []), (117, .iload 5, 119, 5, 0, 0, 0, 0, []), (119, .iload_n 1, 120, 1, 0, 0, 0, 0, []), (120, .iconst 1, 121, 0, 0, 0, 0, 1, []), (121, .iload_n 2, 122, 2, 0, 0, 0, 0, []), (122, .invokevirtual 248, 125, 199, 6, 1, 24, 0, []), (125, .ifCond .eq 10, 128, 135, 0, 0, 0, 0, []), (128, .iload_n 3, 129, 3, 0, 0, 0, 0, []), (129, .iconst 1, 130, 0, 0, 0, 0, 1, []), (130, .iload 5, 132, 5, 0, 0, 0, 0, []), (132, .ishl, 133, 0, 0, 0, 0, 0, []), (133, .ior, 134, 0, 0, 0, 0, 0, []), (134, .istore_n 3, 135, 3, 0, 0, 0, 0, []), (135, .iinc 5 1, 138, 5, 0, 0, 0, 1, []), (138, .goto (-89), 141, 49, 0, 0, 0, 0, []), (141, .aload_n 0, 142, 0, 0, 0, 0, 0, []), (142, .iconst 0, 143, 0, 0, 0, 0, 0, []), (143, .putfield 82, 146, 12, 11, 0, 0, 0, []), (146, .aload_n 0, 147, 0, 0, 0, 0, 0, []), (147, .iload 4, 149, 4, 0, 0, 0, 0, []), (149, .invokevirtual 270, 152, 174, 2, 1, 25, 0, []), (152, .iload_n 3, 153, 3, 0, 0, 0, 0, []), (153, .ireturn, 154, 0, 0, 0, 0, 0, [])]
def zc_216 : List zE := [(0, .aload_n 0, 1, 0, 0, 0, 0, 0, []), (1, .getfield 228, 4, 12, 26, 0, 0, 0, []), (4, .aload_n 0, 5, 0, 0, 0, 0, 0, []), (5, .getfield 234, 8, 12, 28, 0, 0, 0, []), (8, .iand, 9, 0, 0, 0, 0, 0, []), (9, .aload_n 0, 10, 0, 0, 0, 0, 0, []), (10, .aload_n 0, 11, 0, 0, 0, 0, 0, []), (11, .getfield 217, 14, 12, 4, 0, 0, 0, []), (14, .invokevirtual 220, 17, 203, 2, 1, 24, 0, []), (17, .iand, 18, 0, 0, 0, 0, 0, []), (18, .ireturn, 19, 0, 0, 0, 0, 0, [])]
def zc_217 : List zE := [(0, .aload_n 0, 1, 0, 0, 0, 0, 0, []), (1, .iconst 0, 2, 0, 0, 0, 0, 0, []), (2, .putfield 78, 5, 12, 12, 0, 0, 0, []), (5, .aload_n 0, 6, 0, 0, 0, 0, 0, []), (6, .aload_n 0, 7, 0, 0, 0, 0, 0, []), (7, .getfield 9, 10, 12, 0, 2, 0, 0, []), (10, .invokevirtual 260, 13, 209, 2, 1, 25, 0, []), (13, .aload_n 0, 14, 0, 0, 0, 0, 0, []), (14, .aload_n 0, 15, 0, 0, 0, 0, 0, []), (15, .getfield 9, 18, 12, 0, 2, 0, 0, []), (18, .invokevirtual 273, 21, 205, 2, 1, 25, 0, []), (21, .aload_n 0, 22, 0, 0, 0, 0, 0, []), (22, .iconst 0, 23, 0, 0, 0, 0, 0, []), (23, .putfield 82, 26, 12, 11, 0, 0, 0, []), (26, .aload_n 0, 27, 0, 0, 0, 0, 0, []), (27, .aload_n 0, 28, 0, 0, 0, 0, 0, []), (28, .getfield 231, 31, 12, 27, 0, 0, 0, []), (31, .invokevirtual 270, 34, 174, 2, 1, 25, 0, []), (34, .aload_n 0, 35, 0, 0, 0, 0, 0, []), (35, .aload_n 0, 36, 0, 0, 0, 0, 0, []), (36, .invokevirtual 276, 39, 216, 1, 1, 24, 0, []), (39, .invokevirtual 270, 42, 174, 2, 1, 25, 0, []), (42, .aload_n 0, 43, 0, 0, 0, 0, 0, []), (43, .getfield 228, 46, 12, 26, 0, 0, 0, []), (46, .ireturn, 47, 0, 0, 0, 0, 0, [])]
def zc_218 : List zE := [(0, .aload_n 0, 1, 0, 0, 0, 0, 0, []), (1, .iconst 0, 2, 0, 0, 0, 0, 0, []), (2, .putfield 78, 5, 12, 12, 0, 0, 0, []), (5, .iload_n 1, 6, 1, 0, 0, 0, 0, []), (6, .iconst 0, 7, 0, 0, 0, 0, 0, []), (7, .sipush 300, 10, 0, 0, 0, 0, 300, []), (10, .invokestatic 88, 13, 171, 3, 0, 24, 0, []), (13, .ifCond .ne 5, 16, 18, 0, 0, 0, 0, []), (16, .iconst (-1), 17, 0, 0, 0, 0, (-1), []), (17, .ireturn, 18, 0, 0, 0, 0, 0, []), (18, .iload_n 1, 19, 1, 0, 0, 0, 0, []), (19, .ifCond .le 11, 22, 30, 0, 0, 0, 0, []), (22, .aload_n 0, 23, 0, 0, 0, 0, 0, []), (23, .aload_n 0, 24, 0, 0, 0, 0, 0, []), (24, .getfield 9, 27, 12, 0, 2, 0, 0, []), (27, .invokevirtual 260, 30, 209, 2, 1, 25, 0, []), (30, .iconst 0, 31, 0, 0, 0, 0, 0, []), (31, .istore_n 2, 32, 2, 0, 0, 0, 0, []), (32, .iconst 0, 33, 0, 0, 0, 0, 0, []), (33, .istore_n 3, 34, 3, 0, 0, 0, 0, []), (34, .iconst (-1), 35, 0, 0, 0, 0, (-1), []), (35, .istore 4, 37, 4, 0, 0, 0, 0, []), (37, .iconst 0, 38, 0, 0, 0, 0, 0, []), (38, .istore 5, 40, 5, 0, 0, 0, 0, []), (40, .iload 5, 42, 5, 0, 0, 0, 0, []), (42, .iload_n 1, 43, 1, 0, 0, 0, 0, []), (43, .if_icmp .ge 61, 46, 104, 0, 0, 0, 0, []), (46, .aload_n 0, 47, 0, 0, 0, 0, 0, []), (47, .aload_n 0, 48, 0, 0, 0, 0, 0, []), (48, .getfield 9, 51, 12, 0, 2, 0, 0, []), (51, .invokevirtual 273, 54, 205, 2, 1, 25, 0, []), (54, .iload_n 2, 55, 2, 0, 0, 0, 0, []), (55, .aload_n 0, 56, 0, 0, 0, 0, 0, []), (56, .getfield 228, 59, 12, 26, 0, 0, 0, []), (59, .invokestatic 223, 62, 0, 1, 0, 26, 0, []), (62, .iadd, 63, 0, 0, 0, 0, 0, []), (63, .istore_n 2, 64, 2, 0, 0, 0, 0, []), (64, .iload_n 3, 65, 3, 0, 0, 0, 0, []), (65, .aload_n 0, 66, 0, 0, 0, 0, 0, []), (66, .invokevirtual 276, 69, 216, 1, 1, 24, 0, []), (69, .invokestatic 223, 72, 0, 1, 0, 26, 0, []), (72, .iadd, 73, 0, 0, 0, 0, 0, []), (73, .istore_n 3, 74, 3, 0, 0, 0, 0, []), (74, .iload 4, 76, 4, 0, 0, 0, 0, []), (76, .iconst (-1), 77, 0, 0, 0, 0, (-1), []), (77, .if_icmp .ne 21, 80, 98, 0, 0, 0, 0, []), (80, .aload_n 0, 81, 0, 0, 0, 0, 0, []), (81, .getfield 228, 84, 12, 26, 0, 0, 0, []), (84, .aload_n 0, 85, 0, 0, 0, 0, 0, []), (85, .invokevirtual 276, 88, 216, 1, 1, 24, 0, []), (88, .iconst (-1), 89, 0, 0, 0, 0, (-1), []), (89, .ixor, 90, 0, 0, 0, 0, 0, []), (90, .iand, 91, 0, 0, 0, 0, 0, []), (91, .ifCond .eq 7, 94, 98, 0, 0, 0, 0, []), (94, .iload 5, 96, 5, 0, 0, 0, 0, []), (96, .istore 4, 98, 4, 0, 0, 0, 0, []), (98, .iinc 5 1, 101, 5, 0, 0, 0, 1, []), (101, .goto (-61), 104, 40, 0, 0, 0, 0, []), (104, .aload_n 0, 105, 0, 0, 0, 0, 0, []), (105, .iconst 0, 106, 0, 0, 0, 0, 0, []), (106, .putfield 82, 109, 12, 11, 0, 0, 0, []), (109, .aload_n 0, 110, 0, 0, 0, 0, 0, []), (110, .iload_n 3, 111, 3, 0, 0, 0, 0, []), (111, .invokevirtual 270, 114, 174, 2, 1, 25, 0, []), (114, .aload_n 0, 115, 0, 0, 0, 0, 0, []), (115, .iload 4, 117, 4, 0, 0, 0, 0, []), (117, .invokevirtual 270, 120, 174, 2, 1, 25, 0, []), (120, .iload_n 2, 121, 2, 0, 0, 0, 0, []), (121, .ireturn, 122, 0, 0, 0, 0, 0, [])]
def zc_219 : List zE := [(0, .aload_n 0, 1, 0, 0, 0, 0, 0, []), (1, .iconst 0, 2, 0, 0, 0, 0, 0, []), (2, .putfield 78, 5, 12, 12, 0, 0, 0, []), (5, .aload_n 0, 6, 0, 0, 0, 0, 0, []), (6, .aload_n 0, 7, 0, 0, 0, 0, 0, []), (7, .getfield 22, 10, 12, 8, 2, 0, 0, []), (10, .aload_n 0, 11, 0, 0, 0, 0, 0, []), (11, .getfield 96, 14, 12, 9, 0, 0, 0, []), (14, .bipush 60, 16, 0, 0, 0, 0, 60, []), (16, .invokevirtual 129, 19, 181, 4, 1, 25, 0, []), (19, .aload_n 0, 20, 0, 0, 0, 0, 0, []), (20, .iconst 0, 21, 0, 0, 0, 0, 0, []), (21, .putfield 96, 24, 12, 9, 0, 0, 0, []), (24, .iconst 0, 25, 0, 0, 0, 0, 0, []), (25, .istore_n 1, 26, 1, 0, 0, 0, 0, []), (26, .aload_n 0, 27, 0, 0, 0, 0, 0, []), (27, .getfield 102, 30, 12, 14, 0, 0, 0, []), (30, .ifCond .le 7, 33, 37, 0, 0, 0, 0, []), (33, .iconst 1, 34, 0, 0, 0, 0, 1, []), (34, .goto 4, 37, 38, 0, 0, 0, 0, []), (37, .iconst 0, 38, 0, 0, 0, 0, 0, []), (38, .istore_n 2, 39, 2, 0, 0, 0, 0, []), (39, .iload_n 2, 40, 2, 0, 0, 0, 0, []), (40, .ifCond .eq 30, 43, 70, 0, 0, 0, 0, []), (43, .aload_n 0, 44, 0, 0, 0, 0, 0, []), (44, .invokevirtual 114, 47, 183, 1, 1, 24, 0, []), (47, .ifCond .eq 23, 50, 70, 0, 0, 0, 0, []), (50, .aload_n 0, 51, 0, 0, 0, 0, 0, []), (51, .iconst 3, 52, 0, 0, 0, 0, 3, []), (52, .iload_n 1, 53, 1, 0, 0, 0, 0, []), (53, .imul, 54, 0, 0, 0, 0, 0, []), (54, .invokevirtual 279, 57, 220, 2, 1, 25, 0, []), (57, .iinc 1 1, 60, 1, 0, 0, 0, 1, []), (60, .aload_n 0, 61, 0, 0, 0, 0, 0, []), (61, .bipush 59, 63, 0, 0, 0, 0, 59, []), (63, .invokevirtual 121, 66, 185, 2, 1, 24, 0, []), (66, .istore_n 2, 67, 2, 0, 0, 0, 0, []), (67, .goto (-28), 70, 39, 0, 0, 0, 0, []), (70, .aload_n 0, 71, 0, 0, 0, 0, 0, []), (71, .getfield 108, 74, 12, 16, 0, 0, 0, []), (74, .aload_n 0, 75, 0, 0, 0, 0, 0, []), (75, .getfield 102, 78, 12, 14, 0, 0, 0, []), (78, .if_icmp .ge 11, 81, 89, 0, 0, 0, 0, []), (81, .aload_n 0, 82, 0, 0, 0, 0, 0, []), (82, .aload_n 0, 83, 0, 0, 0, 0, 0, []), (83, .getfield 108, 86, 12, 16, 0, 0, 0, []), (86, .invokevirtual 125, 89, 184, 2, 1, 25, 0, []), (89, .aload_n 0, 90, 0, 0, 0, 0, 0, []), (90, .invokevirtual 114, 93, 183, 1, 1, 24, 0, []), (93, .ifCond .ne 10, 96, 103, 0, 0, 0, 0, []), (96, .iconst (-1), 97, 0, 0, 0, 0, (-1), []), (97, .aload_n 0, 98, 0, 0, 0, 0, 0, []), (98, .getfield 111, 101, 12, 17, 0, 0, 0, []), (101, .isub, 102, 0, 0, 0, 0, 0, []), (102, .ireturn, 103, 0, 0, 0, 0, 0, []), (103, .aload_n 0, 104, 0, 0, 0, 0, 0, []), (104, .getfield 9, 107, 12, 0, 2, 0, 0, []), (107, .aload_n 0, 108, 0, 0, 0, 0, 0, []), (108, .getfield 38, 111, 12, 31, 2, 0, 0, []), (111, .iconst 0, 112, 0, 0, 0, 0, 0, []), (112, .invokestatic 252, 115, 208, 3, 0, 25, 0, []), (115, .aload_n 0, 116, 0, 0, 0, 0, 0, []), (116, .iconst 0, 117, 0, 0, 0, 0, 0, []), (117, .putfield 282, 120, 12, 33, 0, 0, 0, []), (120, .iconst 0, 121, 0, 0, 0, 0, 0, []), (121, .istore_n 3, 122, 3, 0, 0, 0, 0, []), (122, .iload_n 3, 123, 3, 0, 0, 0, 0, []), (123, .iload_n 1, 124, 1, 0, 0, 0, 0, []), (124, .if_icmp .ge 19, 127, 143, 0, 0, 0, 0, []), (127, .aload_n 0, 128, 0, 0, 0, 0, 0, []), (128, .iconst 3, 129, 0, 0, 0, 0, 3, []), (129, .iload_n 3, 130, 3, 0, 0, 0, 0, []), (130, .imul, 131, 0, 0, 0, 0, 0, []), (131, .invokevirtual 285, 134, 221, 2, 1, 24, 0, []), (134, .ifCond .eq 9, 137, 143, 0, 0, 0, 0, []), (137, .iinc 3 1, 140, 3, 0, 0, 0, 1, []), (140, .goto (-18), 143, 122, 0, 0, 0, 0, []), (143, .iload_n 3, 144, 3, 0, 0, 0, 0, []), (144, .ifCond .le 11, 147, 155, 0, 0, 0, 0, []), (147, .aload_n 0, 148, 0, 0, 0, 0, 0, []), (148, .aload_n 0, 149, 0, 0, 0, 0, 0, []), (149, .getfield 38, 152, 12, 31, 2, 0, 0, []), (152, .invokevirtual 260, 155, 209, 2, 1, 25, 0, []), (155, .aload_n 0, 156, 0, 0, 0, 0, 0, []), (156, .iconst 0, 157, 0, 0, 0, 0, 0, []), (157, .putfield 82, 160, 12, 11, 0, 0, 0, []), (160, .aload_n 0, 161, 0, 0, 0, 0, 0, []), (161, .iload_n 3, 162, 3, 0, 0, 0, 0, []), (162, .iload_n 1, 163, 1, 0, 0, 0, 0, []), (163, .if_icmp .ge 7, 166, 170, 0, 0, 0, 0, []), (166, .iconst 1, 167, 0, 0, 0, 0, 1, []), (167, .goto 4, 170, 171, 0, 0, 0, 0, []), (170, .iconst 0, 171, 0, 0, 0, 0, 0, []), (171, .invokevirtual 270, 174, 174, 2, 1, 25, 0, []), (174, .aload_n 0, 175, 0, 0, 0, 0, 0, []), (175, .aload_n 0, 176, 0, 0, 0, 0, 0, []), (176, .getfield 282, 179, 12, 33, 0, 0, 0, []), (179, .invokevirtual 270, 182, 174, 2, 1, 25, 0, []), (182, .iload_n 3, 183, 3, 0, 0, 0, 0, []), (183, .ireturn, 184, 0, 0, 0, 0, 0, [])]
def zc_220 : List zE := [(0, .aload_n 0, 1, 0, 0, 0, 0, 0, []), (1, .invokevirtual 118, 4, 182, 1, 1, 24, 0, []), (4, .istore_n 2, 5, 2, 0, 0, 0, 0, []), (5, .iload_n 2, 6, 2, 0, 0, 0, 0, []), (6, .bipush 109, 8, 0, 0, 0, 0, 109, []), (8, .if_icmp .eq 35, 11, 43, 0, 0, 0, 0, []), (11, .iload_n 2, 12, 2, 0, 0, 0, 0, []), (12, .bipush 121, 14, 0, 0, 0, 0, 121, []), (14, .if_icmp .eq 29, 17, 43, 0, 0, 0, 0, []), (17, .iload_n 2, 18, 2, 0, 0, 0, 0, []), (18, .bipush 102, 20, 0, 0, 0, 0, 102, []), (20, .if_icmp .eq 23, 23, 43, 0, 0, 0, 0, []), (23, .iload_n 2, 24, 2, 0, 0, 0, 0, []), (24, .bipush 97, 26, 0, 0, 0, 0, 97, []), (26, .if_icmp .eq 17, 29, 43, 0, 0, 0, 0, []), (29, .iload_n 2, 30, 2, 0, 0, 0, 0, []), (30, .bipush 116, 32, 0, 0, 0, 0, 116, []), (32, .if_icmp .eq 11, 35, 43, 0, 0, 0, 0, []), (35, .aload_n 0, 36, 0, 0, 0, 0, 0, []), (36, .aload_n 0, 37, 0, 0, 0, 0, 0, []), (37, .getfield 108, 40, 12, 16, 0, 0, 0, []), (40, .invokevirtual 125, 43, 184, 2, 1, 25, 0, []), (43, .aload_n 0, 44, 0, 0, 0, 0, 0, []), (44, .dup, 45, 0, 0, 0, 0, 0, []), (45, .getfield 108, 48, 12, 16, 0, 0, 0, []), (48, .iconst 1, 49, 0, 0, 0, 0, 1, []), (49, .iadd, 50, 0, 0, 0, 0, 0, []), (50, .putfield 108, 53, 12, 16, 0, 0, 0, []), (53, .aload_n 0, 54, 0, 0, 0, 0, 0, []), (54, .getfield 41, 57, 12, 32, 2, 0, 0, []), (57, .iload_n 1, 58, 1, 0, 0, 0, 0, []), (58, .iload_n 2, 59, 2, 0, 0, 0, 0, []), (59, .iastore, 60, 0, 0, 0, 0, 0, []), (60, .iload_n 2, 61, 2, 0, 0, 0, 0, []), (61, .bipush 109, 63, 0, 0, 0, 0, 109, []), (63, .if_icmp .ne 63, 66, 126, 0, 0, 0, 0, []), (66, .aload_n 0, 67, 0, 0, 0, 0, 0, []), (67, .getfield 41, 70, 12, 32, 2, 0, 0, []), (70, .iload_n 1, 71, 1, 0, 0, 0, 0, []), (71, .iconst 1, 72, 0, 0, 0, 0, 1, []), (72, .iadd, 73, 0, 0, 0, 0, 0, []), (73, .aload_n 0, 74, 0, 0, 0, 0, 0, []), (74, .iconst 0, 75, 0, 0, 0, 0, 0, []), (75, .invokevirtual 146, 78, 187, 2, 1, 24, 0, []), (78, .iastore, 79, 0, 0, 0, 0, 0, []), (79, .aload_n 0, 80, 0, 0, 0, 0, 0, []), (80, .invokevirtual 114, 83, 183, 1, 1, 24, 0, []), (83, .ifCond .eq 42, 86, 125, 0, 0, 0, 0, []), (86, .aload_n 0, 87, 0, 0, 0, 0, 0, []), (87, .invokevirtual 118, 90, 182, 1, 1, 24, 0, []), (90, .bipush 48, 92, 0, 0, 0, 0, 48, []), (92, .bipush 57, 94, 0, 0, 0, 0, 57, []), (94, .invokestatic 88, 97, 171, 3, 0, 24, 0, []), (97, .ifCond .eq 28, 100, 125, 0, 0, 0, 0, []), (100, .aload_n 0, 101, 0, 0, 0, 0, 0, []), (101, .getfield 41, 104, 12, 32, 2, 0, 0, []), (104, .iload_n 1, 105, 1, 0, 0, 0, 0, []), (105, .iconst 1, 106, 0, 0, 0, 0, 1, []), (106, .iadd, 107, 0, 0, 0, 0, 0, []), (107, .bipush 10, 109, 0, 0, 0, 0, 10, []), (109, .aload_n 0, 110, 0, 0, 0, 0, 0, []), (110, .getfield 41, 113, 12, 32, 2, 0, 0, []), (113, .iload_n 1, 114, 1, 0, 0, 0, 0, []), (114, .iconst 1, 115, 0, 0, 0, 0, 1, []), (115, .iadd, 116, 0, 0, 0, 0, 0, []), (116, .iaload, 117, 0, 0, 0, 0, 0, []), (117, .imul, 118, 0, 0, 0, 0, 0, []), (118, .aload_n 0, 119, 0, 0, 0, 0, 0, []), (119, .iconst 0, 120, 0, 0, 0, 0, 0, []), (120, .invokevirtual 146, 123, 187, 2, 1, 24, 0, []), (123, .iadd, 124, 0, 0, 0, 0, 0, []), (124, .iastore, 125, 0, 0, 0, 0, 0, []), (125, .return_, 126, 0, 0, 0, 0, 0, []), (126, .aload_n 0, 127, 0, 0, 0, 0, 0, []), (127, .getfield 41, 130, 12, 32, 2, 0, 0, []), (130, .iload_n 1, 131, 1, 0, 0, 0, 0, []), (131, .iconst 1, 132, 0, 0, 0, 0, 1, []), (132, .iadd, 133, 0, 0, 0, 0, 0, []), (133, .aload_n 0, 134, 0, 0, 0, 0, 0, []), (134, .invokevirtual 154, 137, 188, 1, 1, 24, 0, []), (137, .iastore, 138, 0, 0, 0, 0, 0, []), (138, .iload_n 2, 139, 2, 0, 0, 0, 0, []), (139, .bipush 116, 141, 0, 0, 0, 0, 116, []), (141, .if_icmp .ne 16, 144, 157, 0, 0, 0, 0, []), (144, .aload_n 0, 145, 0, 0, 0, 0, 0, []), (145, .getfield 41, 148, 12, 32, 2, 0, 0, []), (148, .iload_n 1, 149, 1, 0, 0, 0, 0, []), (149, .iconst 2, 150, 0, 0, 0, 0, 2, []), (150, .iadd, 151, 0, 0, 0, 0, 0, []), (151, .aload_n 0, 152, 0, 0, 0, 0, 0, []), (152, .iconst 0, 153, 0, 0, 0, 0, 0, []), (153, .invokevirtual 146, 156, 187, 2, 1, 24, 0, []), (156, .iastore, 157, 0, 0, 0, 0, 0, []), (157, .return_, 158, 0, 0, 0, 0, 0, [])]
def zc_221 : List zE := [(0, .aload_n 0, 1, 0, 0, 0, 0, 0, []), (1, .getfield 41, 4, 12, 32, 2, 0, 0, []), (4, .iload_n 1, 5, 1, 0, 0, 0, 0, []), (5, .iconst 1, 6, 0, 0, 0, 0, 1, []), (6, .iadd, 7, 0, 0, 0, 0, 0, []), (7, .iaload, 8, 0, 0, 0, 0, 0, []), (8, .istore_n 2, 9, 2, 0, 0, 0, 0, []), (9, .aload_n 0, 10, 0, 0, 0, 0, 0, []), (10, .getfield 41, 13, 12, 32, 2, 0, 0, []), (13, .iload_n 1, 14, 1, 0, 0, 0, 0, []), (14, .iaload, 15, 0, 0, 0, 0, 0, []), (15, .lookupswitch 137 #[(97, 120), (102, 80), (109, 41), (121, 80)], 56, 152, 0, 0, 0, 0, [(97, 135), (102, 95), (109, 56), (121, 95)]), (56, .iconst 0, 57, 0, 0, 0, 0, 0, []), (57, .istore_n 3, 58, 3, 0, 0, 0, 0, []), (58, .iload_n 3, 59, 3, 0, 0, 0, 0, []), (59, .iload_n 2, 60, 2, 0, 0, 0, 0, []), (60, .if_icmp .ge 33, 63, 93, 0, 0, 0, 0, []), (63, .aload_n 0, 64, 0, 0, 0, 0, 0, []), (64, .aload_n 0, 65, 0, 0, 0, 0, 0, []), (65, .getfield 9, 68, 12, 0, 2, 0, 0, []), (68, .invokevirtual 273, 71, 205, 2, 1, 25, 0, []), (71, .aload_n 0, 72, 0, 0, 0, 0, 0, []), (72, .dup, 73, 0, 0, 0, 0, 0, []), (73, .getfield 282, 76, 12, 33, 0, 0, 0, []), (76, .aload_n 0, 77, 0, 0, 0, 0, 0, []), (77, .getfield 228, 80, 12, 26, 0, 0, 0, []), (80, .invokestatic 223, 83, 0, 1, 0, 26, 0, []), (83, .iadd, 84, 0, 0, 0, 0, 0, []), (84, .putfield 282, 87, 12, 33, 0, 0, 0, []), (87, .iinc 3 1, 90, 3, 0, 0, 0, 1, []), (90, .goto (-32), 93, 58, 0, 0, 0, 0, []), (93, .iconst 1, 94, 0, 0, 0, 0, 1, []), (94, .ireturn, 95, 0, 0, 1, 0, 0, []), (95, .aload_n 0, 96, 0, 0, 0, 0, 0, []), (96, .aload_n 0, 97, 0, 0, 0, 0, 0, []), (97, .getfield 9, 100, 12, 0, 2, 0, 0, []), (100, .iload_n 2, 101, 2, 0, 0, 0, 0, []), (101, .invokevirtual 256, 104, 210, 3, 1, 24, 0, []), (104, .ifCond .ne 5, 107, 109, 0, 0, 0, 0, []), (107, .iconst 0, 108, 0, 0, 0, 0, 0, []), (108, .ireturn, 109, 0, 0, 1, 0, 0, []), (109, .aload_n 0, 110, 0, 0, 0, 0, 0, []), (110, .getfield 9, 113, 12, 0, 2, 0, 0, []), (113, .iload_n 2, 114, 2, 0, 0, 0, 0, []), (114, .aload_n 0, 115, 0, 0, 0, 0, 0, []), (115, .getfield 41, 118, 12, 32, 2, 0, 0, []), (118, .iload_n 1, 119, 1, 0, 0, 0, 0, []), (119, .iaload, 120, 0, 0, 0, 0, 0, []), (120, .bipush 102, 122, 0, 0, 0, 0, 102, []), (122, .if_icmp .ne 7, 125, 129, 0, 0, 0, 0, []), (125, .iconst 1, 126, 0, 0, 0, 0, 1, []), (126, .goto 4, 129, 130, 0, 0, 0, 0, []), (129, .iconst 0, 130, 0, 0, 0, 0, 0, []), (130, .invokestatic 264, 133, 211, 3, 0, 25, 0, []), (133, .iconst 1, 134, 0, 0, 0, 0, 1, []), (134, .ireturn, 135, 0, 0, 1, 0, 0, []), (135, .aload_n 0, 136, 0, 0, 0, 0, 0, []), (136, .iload_n 2, 137, 2, 0, 0, 0, 0, []), (137, .invokevirtual 194, 140, 175, 2, 1, 24, 0, []), (140, .ifCond .ne 5, 143, 145, 0, 0, 0, 0, []), (143, .iconst 0, 144, 0, 0, 0, 0, 0, []), (144, .ireturn, 145, 0, 0, 1, 0, 0, []), (145, .aload_n 0, 146, 0, 0, 0, 0, 0, []), (146, .iload_n 2, 147, 2, 0, 0, 0, 0, []), (147, .invokevirtual 267, 150, 213, 2, 1, 25, 0, []), (150, .iconst 1, 151, 0, 0, 0, 0, 1, []), (151, .ireturn, 152, 0, 0, 1, 0, 0, []), (152, .aload_n 0, 153, 0, 0, 0, 0, 0, []), (153, .iload_n 2, 154, 2, 0, 0, 0, 0, []), (154, .invokevirtual 194, 157, 175, 2, 1, 24, 0, []), (157, .ifCond .ne 5, 160, 162, 0, 0, 0, 0, []), (160, .iconst 0, 161, 0, 0, 0, 0, 0, []), (161, .ireturn, 162, 0, 0, 1, 0, 0, []), (162, .aload_n 0, 163, 0, 0, 0, 0, 0, []), (163, .getfield 9, 166, 12, 0, 2, 0, 0, []), (166, .iload_n 2, 167, 2, 0, 0, 0, 0, []), (167, .aload_n 0, 168, 0, 0, 0, 0, 0, []), (168, .getfield 41, 171, 12, 32, 2, 0, 0, []), (171, .iload_n 1, 172, 1, 0, 0, 0, 0, []), (172, .iconst 2, 173, 0, 0, 0, 0, 2, []), (173, .iadd, 174, 0, 0, 0, 0, 0, []), (174, .iaload, 175, 0, 0, 0, 0, 0, []), (175, .iastore, 176, 0, 0, 0, 0, 0, []), (176, .iconst 1, 177, 0, 0, 0, 0, 1, []), (177, .ireturn, 178, 0, 0, 1, 0, 0, [])]
def zc_222 : List zE := [(0, .aload_n 0, 1, 0, 0, 0, 0, 0, []), (1, .iconst 0, 2, 0, 0, 0, 0, 0, []), (2, .putfield 78, 5, 12, 12, 0, 0, 0, []), (5, .aload_n 0, 6, 0, 0, 0, 0, 0, []), (6, .getfield 140, 9, 12, 30, 0, 0, 0, []), (9, .ifCond .ne 5, 12, 14, 0, 0, 0, 0, []), (12, .iconst (-1), 13, 0, 0, 0, 0, (-1), []), (13, .ireturn, 14, 0, 0, 0, 0, 0, []), (14, .aload_n 0, 15, 0, 0, 0, 0, 0, []), (15, .dup, 16, 0, 0, 0, 0, 0, []), (16, .getfield 140, 19, 12, 30, 0, 0, 0, []), (19, .iconst 1, 20, 0, 0, 0, 0, 1, []), (20, .isub, 21, 0, 0, 0, 0, 0, []), (21, .putfield 140, 24, 12, 30, 0, 0, 0, []), (24, .iconst 0, 25, 0, 0, 0, 0, 0, []), (25, .istore_n 1, 26, 1, 0, 0, 0, 0, []), (26, .iload_n 1, 27, 1, 0, 0, 0, 0, []), (27, .sipush 288, 30, 0, 0, 0, 0, 288, []), (30, .if_icmp .ge 30, 33, 60, 0, 0, 0, 0, []), (33, .aload_n 0, 34, 0, 0, 0, 0, 0, []), (34, .getfield 9, 37, 12, 0, 2, 0, 0, []), (37, .iload_n 1, 38, 1, 0, 0, 0, 0, []), (38, .aload_n 0, 39, 0, 0, 0, 0, 0, []), (39, .getfield 35, 42, 12, 29, 2, 0, 0, []), (42, .sipush 288, 45, 0, 0, 0, 0, 288, []), (45, .aload_n 0, 46, 0, 0, 0, 0, 0, []), (46, .getfield 140, 49, 12, 30, 0, 0, 0, []), (49, .imul, 50, 0, 0, 0, 0, 0, []), (50, .iload_n 1, 51, 1, 0, 0, 0, 0, []), (51, .iadd, 52, 0, 0, 0, 0, 0, []), (52, .iaload, 53, 0, 0, 0, 0, 0, []), (53, .iastore, 54, 0, 0, 0, 0, 0, []), (54, .iinc 1 1, 57, 1, 0, 0, 0, 1, []), (57, .goto (-31), 60, 26, 0, 0, 0, 0, []), (60, .aload_n 0, 61, 0, 0, 0, 0, 0, []), (61, .getfield 140, 64, 12, 30, 0, 0, 0, []), (64, .ireturn, 65, 0, 0, 0, 0, 0, [])]
def zc_223 : List zE := [(0, .bipush 60, 2, 0, 0, 0, 0, 60, []), (2, .aload_n 0, 3, 0, 0, 0, 0, 0, []), (3, .getfield 9, 6, 12, 0, 2, 0, 0, []), (6, .bipush 47, 8, 0, 0, 0, 0, 47, []), (8, .iaload, 9, 0, 0, 0, 0, 0, []), (9, .invokestatic 204, 12, 4, 2, 0, 28, 0, []), (12, .ireturn, 13, 0, 0, 0, 0, 0, [])]
def zc_224 : List zE := [(0, .bipush 48, 2, 0, 0, 0, 0, 48, []), (2, .iconst 4, 3, 0, 0, 0, 0, 4, []), (3, .aload_n 0, 4, 0, 0, 0, 0, 0, []), (4, .getfield 9, 7, 12, 0, 2, 0, 0, []), (7, .bipush 47, 9, 0, 0, 0, 0, 47, []), (9, .iaload, 10, 0, 0, 0, 0, 0, []), (10, .aload_n 0, 11, 0, 0, 0, 0, 0, []), (11, .invokevirtual 288, 14, 223, 1, 1, 24, 0, []), (14, .isub, 15, 0, 0, 0, 0, 0, []), (15, .iload_n 1, 16, 1, 0, 0, 0, 0, []), (16, .iadd, 17, 0, 0, 0, 0, 0, []), (17, .bipush 60, 19, 0, 0, 0, 0, 60, []), (19, .irem, 20, 0, 0, 0, 0, 0, []), (20, .imul, 21, 0, 0, 0, 0, 0, []), (21, .iadd, 22, 0, 0, 0, 0, 0, []), (22, .ireturn, 23, 0, 0, 0, 0, 0, [])]
def zc_225 : List zE := [(0, .aload_n 0, 1, 0, 0, 0, 0, 0, []), (1, .iconst 0, 2, 0, 0, 0, 0, 0, []), (2, .putfield 78, 5, 12, 12, 0, 0, 0, []), (5, .iload_n 1, 6, 1, 0, 0, 0, 0, []), (6, .iconst 0, 7, 0, 0, 0, 0, 0, []), (7, .aload_n 0, 8, 0, 0, 0, 0, 0, []), (8, .invokevirtual 288, 11, 223, 1, 1, 24, 0, []), (11, .iconst 1, 12, 0, 0, 0, 0, 1, []), (12, .isub, 13, 0, 0, 0, 0, 0, []), (13, .invokestatic 88, 16, 171, 3, 0, 24, 0, []), (16, .ifCond .eq 12, 19, 28, 0, 0, 0, 0, []), (19, .iload_n 2, 20, 2, 0, 0, 0, 0, []), (20, .iconst 0, 21, 0, 0, 0, 0, 0, []), (21, .iconst 4, 22, 0, 0, 0, 0, 4, []), (22, .invokestatic 88, 25, 171, 3, 0, 24, 0, []), (25, .ifCond .ne 8, 28, 33, 0, 0, 0, 0, []), (28, .aload_n 0, 29, 0, 0, 0, 0, 0, []), (29, .invokevirtual 198, 32, 173, 1, 1, 24, 0, []), (32, .ireturn, 33, 0, 0, 0, 0, 0, []), (33, .aload_n 0, 34, 0, 0, 0, 0, 0, []), (34, .iload_n 1, 35, 1, 0, 0, 0, 0, []), (35, .invokevirtual 291, 38, 224, 2, 1, 24, 0, []), (38, .istore_n 3, 39, 3, 0, 0, 0, 0, []), (39, .iload_n 2, 40, 2, 0, 0, 0, 0, []), (40, .iconst 4, 41, 0, 0, 0, 0, 4, []), (41, .if_icmp .ge 12, 44, 53, 0, 0, 0, 0, []), (44, .aload_n 0, 45, 0, 0, 0, 0, 0, []), (45, .getfield 9, 48, 12, 0, 2, 0, 0, []), (48, .iload_n 3, 49, 3, 0, 0, 0, 0, []), (49, .iload_n 2, 50, 2, 0, 0, 0, 0, []), (50, .iadd, 51, 0, 0, 0, 0, 0, []), (51, .iaload, 52, 0, 0, 0, 0, 0, []), (52, .ireturn, 53, 0, 0, 0, 0, 0, []), (53, .aload_n 0, 54, 0, 0, 0, 0, 0, []), (54, .getfield 9, 57, 12, 0, 2, 0, 0, []), (57, .iload_n 3, 58, 3, 0, 0, 0, 0, []), (58, .iconst 3, 59, 0, 0, 0, 0, 3, []), (59, .iadd, 60, 0, 0, 0, 0, 0, []), (60, .iaload, 61, 0, 0, 0, 0, 0, []), (61, .iconst 1, 62, 0, 0, 0, 0, 1, []), (62, .if_icmp .ne 29, 65, 91, 0, 0, 0, 0, []), (65, .aload_n 0, 66, 0, 0, 0, 0, 0, []), (66, .aload_n 0, 67, 0, 0, 0, 0, 0, []), (67, .getfield 217, 70, 12, 4, 0, 0, 0, []), (70, .invokevirtual 220, 73, 203, 2, 1, 24, 0, []), (73, .aload_n 0, 74, 0, 0, 0, 0, 0, []), (74, .getfield 9, 77, 12, 0, 2, 0, 0, []), (77, .iload_n 3, 78, 3, 0, 0, 0, 0, []), (78, .iconst 1, 79, 0, 0, 0, 0, 1, []), (79, .iadd, 80, 0, 0, 0, 0, 0, []), (80, .iaload, 81, 0, 0, 0, 0, 0, []), (81, .invokestatic 213, 84, 172, 2, 0, 24, 0, []), (84, .ifCond .eq 7, 87, 91, 0, 0, 0, 0, []), (87, .iconst 1, 88, 0, 0, 0, 0, 1, []), (88, .goto 4, 91, 92, 0, 0, 0, 0, []), (91, .iconst 0, 92, 0, 0, 0, 0, 0, []), (92, .ireturn, 93, 0, 0, 0, 0, 0, [])]
def zc_226 : List zE := [(0, .aload_n 0, 1, 0, 0, 0, 0, 0, []), (1, .iconst 0, 2, 0, 0, 0, 0, 0, []), (2, .putfield 78, 5, 12, 12, 0, 0, 0, []), (5, .iload_n 1, 6, 1, 0, 0, 0, 0, []), (6, .iconst 0, 7, 0, 0, 0, 0, 0, []), (7, .aload_n 0, 8, 0, 0, 0, 0, 0, []), (8, .invokevirtual 288, 11, 223, 1, 1, 24, 0, []), (11, .iconst 1, 12, 0, 0, 0, 0, 1, []), (12, .isub, 13, 0, 0, 0, 0, 0, []), (13, .invokestatic 88, 16, 171, 3, 0, 24, 0, []), (16, .ifCond .ne 5, 19, 21, 0, 0, 0, 0, []), (19, .iconst (-1), 20, 0, 0, 0, 0, (-1), []), (20, .ireturn, 21, 0, 0, 0, 0, 0, []), (21, .iconst 0, 22, 0, 0, 0, 0, 0, []), (22, .istore_n 2, 23, 2, 0, 0, 0, 0, []), (23, .aload_n 0, 24, 0, 0, 0, 0, 0, []), (24, .getfield 9, 27, 12, 0, 2, 0, 0, []), (27, .aload_n 0, 28, 0, 0, 0, 0, 0, []), (28, .iload_n 1, 29, 1, 0, 0, 0, 0, []), (29, .invokevirtual 291, 32, 224, 2, 1, 24, 0, []), (32, .iconst 1, 33, 0, 0, 0, 0, 1, []), (33, .iadd, 34, 0, 0, 0, 0, 0, []), (34, .iaload, 35, 0, 0, 0, 0, 0, []), (35, .istore_n 3, 36, 3, 0, 0, 0, 0, []), (36, .iload_n 1, 37, 1, 0, 0, 0, 0, []), (37, .istore 4, 39, 4, 0, 0, 0, 0, []), (39, .iload 4, 41, 4, 0, 0, 0, 0, []), (41, .iconst (-1), 42, 0, 0, 0, 0, (-1), []), (42, .if_icmp .eq 107, 45, 149, 0, 0, 0, 0, []), (45, .aload_n 0, 46, 0, 0, 0, 0, 0, []), (46, .getfield 9, 49, 12, 0, 2, 0, 0, []), (49, .aload_n 0, 50, 0, 0, 0, 0, 0, []), (50, .iload 4, 52, 4, 0, 0, 0, 0, []), (52, .invokevirtual 291, 55, 224, 2, 1, 24, 0, []), (55, .iconst 2, 56, 0, 0, 0, 0, 2, []), (56, .iadd, 57, 0, 0, 0, 0, 0, []), (57, .iaload, 58, 0, 0, 0, 0, 0, []), (58, .iconst (-1), 59, 0, 0, 0, 0, (-1), []), (59, .if_icmp .eq 90, 62, 149, 0, 0, 0, 0, []), (62, .aload_n 0, 63, 0, 0, 0, 0, 0, []), (63, .getfield 9, 66, 12, 0, 2, 0, 0, []), (66, .aload_n 0, 67, 0, 0, 0, 0, 0, []), (67, .iload 4, 69, 4, 0, 0, 0, 0, []), (69, .invokevirtual 291, 72, 224, 2, 1, 24, 0, []), (72, .iconst 2, 73, 0, 0, 0, 0, 2, []), (73, .iadd, 74, 0, 0, 0, 0, 0, []), (74, .iaload, 75, 0, 0, 0, 0, 0, []), (75, .istore_n 3, 76, 3, 0, 0, 0, 0, []), (76, .aload_n 0, 77, 0, 0, 0, 0, 0, []), (77, .getfield 9, 80, 12, 0, 2, 0, 0, []), (80, .aload_n 0, 81, 0, 0, 0, 0, 0, []), (81, .iload 4, 83, 4, 0, 0, 0, 0, []), (83, .invokevirtual 291, 86, 224, 2, 1, 24, 0, []), (86, .iaload, 87, 0, 0, 0, 0, 0, []), (87, .istore 5, 89, 5, 0, 0, 0, 0, []), (89, .iload 4, 91, 4, 0, 0, 0, 0, []), (91, .iconst 1, 92, 0, 0, 0, 0, 1, []), (92, .isub, 93, 0, 0, 0, 0, 0, []), (93, .istore 6, 95, 6, 0, 0, 0, 0, []), (95, .iload 6, 97, 6, 0, 0, 0, 0, []), (97, .ifCond .lt 42, 100, 139, 0, 0, 0, 0, []), (100, .aload_n 0, 101, 0, 0, 0, 0, 0, []), (101, .getfield 9, 104, 12, 0, 2, 0, 0, []), (104, .aload_n 0, 105, 0, 0, 0, 0, 0, []), (105, .iload 6, 107, 6, 0, 0, 0, 0, []), (107, .invokevirtual 291, 110, 224, 2, 1, 24, 0, []), (110, .iconst 1, 111, 0, 0, 0, 0, 1, []), (111, .iadd, 112, 0, 0, 0, 0, 0, []), (112, .iaload, 113, 0, 0, 0, 0, 0, []), (113, .iload_n 3, 114, 3, 0, 0, 0, 0, []), (114, .if_icmp .ne 19, 117, 133, 0, 0, 0, 0, []), (117, .aload_n 0, 118, 0, 0, 0, 0, 0, []), (118, .getfield 9, 121, 12, 0, 2, 0, 0, []), (121, .aload_n 0, 122, 0, 0, 0, 0, 0, []), (122, .iload 6, 124, 6, 0, 0, 0, 0, []), (124, .invokevirtual 291, 127, 224, 2, 1, 24, 0, []), (127, .iaload, 128, 0, 0, 0, 0, 0, []), (128, .iload 5, 130, 5, 0, 0, 0, 0, []), (130, .if_icmp .lt 9, 133, 139, 0, 0, 0, 0, []), (133, .iinc 6 (-1), 136, 6, 0, 0, 0, (-1), []), (136, .goto (-41), 139, 95, 0, 0, 0, 0, []), (139, .iload 6, 141, 6, 0, 0, 0, 0, []), (141, .istore 4, 143, 4, 0, 0, 0, 0, []), (143, .iinc 2 1, 146, 2, 0, 0, 0, 1, []), (146, .goto (-107), 149, 39, 0, 0, 0, 0, []), (149, .aload_n 0, 150, 0, 0, 0, 0, 0, []), (150, .iconst 0, 151, 0, 0, 0, 0, 0, []), (151, .putfield 82, 154, 12, 11, 0, 0, 0, []), (154, .aload_n 0, 155, 0, 0, 0, 0, 0, []), (155, .iload_n 3, 156, 3, 0, 0, 0, 0, []), (156, .invokevirtual 270, 159, 174, 2, 1, 25, 0, []), (159, .aload_n 0, 160, 0, 0, 0, 0, 0, []), (160, .iload 4, 162, 4, 0, 0, 0, 0, []), (162, .iconst (-1), 163, 0, 0, 0, 0, (-1), []), (163, .if_icmp .ne 7, 166, 170, 0, 0, 0, 0, []), (166, .iconst 0, 167, 0, 0, 0, 0, 0, []), (167, .goto 4, 170, 171, 0, 0, 0, 0, []), (170, .iconst 1, 171, 0, 0, 0, 0, 1, []), (171, .invokevirtual 270, 174, 174, 2, 1, 25, 0, []), (174, .iload_n 2, 175, 2, 0, 0, 0, 0, []), (175, .ireturn, 176, 0, 0, 0, 0, 0, [])]
def zc_227 : List zE := [(0, .aload_n 0, 1, 0, 0, 0, 0, 0, []), (1, .getfield 9, 4, 12, 0, 2, 0, 0, []), (4, .aload_n 0, 5, 0, 0, 0, 0, 0, []), (5, .getfield 44, 8, 12, 34, 2, 0, 0, []), (8, .iconst 0, 9, 0, 0, 0, 0, 0, []), (9, .invokestatic 252, 12, 208, 3, 0, 25, 0, []), (12, .return_, 13, 0, 0, 0, 0, 0, [])]
def zc_228 : List zE := [(0, .aload_n 0, 1, 0, 0, 0, 0, 0, []), (1, .iconst 0, 2, 0, 0, 0, 0, 0, []), (2, .putfield 294, 5, 12, 36, 0, 0, 0, []), (5, .iconst 0, 6, 0, 0, 0, 0, 0, []), (6, .istore_n 2, 7, 2, 0, 0, 0, 0, []), (7, .iload_n 2, 8, 2, 0, 0, 0, 0, []), (8, .iload_n 1, 9, 1, 0, 0, 0, 0, []), (9, .if_icmp .ge 82, 12, 91, 0, 0, 0, 0, []), (12, .aload_n 0, 13, 0, 0, 0, 0, 0, []), (13, .aload_n 0, 14, 0, 0, 0, 0, 0, []), (14, .getfield 44, 17, 12, 34, 2, 0, 0, []), (17, .invokevirtual 273, 20, 205, 2, 1, 25, 0, []), (20, .aload_n 0, 21, 0, 0, 0, 0, 0, []), (21, .invokevirtual 276, 24, 216, 1, 1, 24, 0, []), (24, .istore_n 3, 25, 3, 0, 0, 0, 0, []), (25, .iconst 0, 26, 0, 0, 0, 0, 0, []), (26, .istore 4, 28, 4, 0, 0, 0, 0, []), (28, .iload 4, 30, 4, 0, 0, 0, 0, []), (30, .aload_n 0, 31, 0, 0, 0, 0, 0, []), (31, .getfield 85, 34, 12, 1, 0, 0, 0, []), (34, .if_icmp .ge 51, 37, 85, 0, 0, 0, 0, []), (37, .aload_n 0, 38, 0, 0, 0, 0, 0, []), (38, .getfield 228, 41, 12, 26, 0, 0, 0, []), (41, .iload 4, 43, 4, 0, 0, 0, 0, []), (43, .invokestatic 213, 46, 172, 2, 0, 24, 0, []), (46, .ifCond .ne 6, 49, 52, 0, 0, 0, 0, []), (49, .goto 30, 52, 79, 0, 0, 0, 0, []), (52, .iload_n 3, 53, 3, 0, 0, 0, 0, []), (53, .iload 4, 55, 4, 0, 0, 0, 0, []), (55, .invokestatic 213, 58, 172, 2, 0, 24, 0, []), (58, .ifCond .ne 11, 61, 69, 0, 0, 0, 0, []), (61, .aload_n 0, 62, 0, 0, 0, 0, 0, []), (62, .iload 4, 64, 4, 0, 0, 0, 0, []), (64, .putfield 297, 67, 12, 35, 0, 0, 0, []), (67, .iload_n 2, 68, 2, 0, 0, 0, 0, []), (68, .ireturn, 69, 0, 0, 0, 0, 0, []), (69, .aload_n 0, 70, 0, 0, 0, 0, 0, []), (70, .dup, 71, 0, 0, 0, 0, 0, []), (71, .getfield 294, 74, 12, 36, 0, 0, 0, []), (74, .iconst 1, 75, 0, 0, 0, 0, 1, []), (75, .iadd, 76, 0, 0, 0, 0, 0, []), (76, .putfield 294, 79, 12, 36, 0, 0, 0, []), (79, .iinc 4 1, 82, 4, 0, 0, 0, 1, []), (82, .goto (-54), 85, 28, 0, 0, 0, 0, []), (85, .iinc 2 1, 88, 2, 0, 0, 0, 1, []), (88, .goto (-81), 91, 7, 0, 0, 0, 0, []), (91, .iconst (-1), 92, 0, 0, 0, 0, (-1), []), (92, .ireturn, 93, 0, 0, 0, 0, 0, [])]
def zc_229 : List zE := [(0, .aload_n 0, 1, 0, 0, 0, 0, 0, []), (1, .iconst 0, 2, 0, 0, 0, 0, 0, []), (2, .putfield 78, 5, 12, 12, 0, 0, 0, []), (5, .aload_n 0, 6, 0, 0, 0, 0, 0, []), (6, .invokevirtual 300, 9, 227, 1, 1, 25, 0, []), (9, .aload_n 0, 10, 0, 0, 0, 0, 0, []), (10, .sipush 300, 13, 0, 0, 0, 0, 300, []), (13, .invokevirtual 303, 16, 228, 2, 1, 24, 0, []), (16, .istore_n 1, 17, 1, 0, 0, 0, 0, []), (17, .iload_n 1, 18, 1, 0, 0, 0, 0, []), (18, .iconst (-1), 19, 0, 0, 0, 0, (-1), []), (19, .if_icmp .ne 6, 22, 25, 0, 0, 0, 0, []), (22, .bipush (-2), 24, 0, 0, 0, 0, (-2), []), (24, .ireturn, 25, 0, 0, 0, 0, 0, []), (25, .aload_n 0, 26, 0, 0, 0, 0, 0, []), (26, .iconst 0, 27, 0, 0, 0, 0, 0, []), (27, .putfield 82, 30, 12, 11, 0, 0, 0, []), (30, .aload_n 0, 31, 0, 0, 0, 0, 0, []), (31, .aload_n 0, 32, 0, 0, 0, 0, 0, []), (32, .getfield 297, 35, 12, 35, 0, 0, 0, []), (35, .invokevirtual 270, 38, 174, 2, 1, 25, 0, []), (38, .aload_n 0, 39, 0, 0, 0, 0, 0, []), (39, .aload_n 0, 40, 0, 0, 0, 0, 0, []), (40, .getfield 294, 43, 12, 36, 0, 0, 0, []), (43, .invokevirtual 270, 46, 174, 2, 1, 25, 0, []), (46, .iload_n 1, 47, 1, 0, 0, 0, 0, []), (47, .ireturn, 48, 0, 0, 0, 0, 0, [])]
def zc_230 : List zE := [(0, .iconst 0, 1, 0, 0, 0, 0, 0, []), (1, .istore_n 2, 2, 2, 0, 0, 0, 0, []), (2, .aload_n 0, 3, 0, 0, 0, 0, 0, []), (3, .iconst 0, 4, 0, 0, 0, 0, 0, []), (4, .putfield 306, 7, 12, 38, 0, 0, 0, []), (7, .iconst 0, 8, 0, 0, 0, 0, 0, []), (8, .istore_n 3, 9, 3, 0, 0, 0, 0, []), (9, .iload_n 3, 10, 3, 0, 0, 0, 0, []), (10, .bipush 9, 12, 0, 0, 0, 0, 9, []), (12, .if_icmp .ge 16, 15, 28, 0, 0, 0, 0, []), (15, .aload_n 0, 16, 0, 0, 0, 0, 0, []), (16, .getfield 47, 19, 12, 37, 2, 0, 0, []), (19, .iload_n 3, 20, 3, 0, 0, 0, 0, []), (20, .iconst 0, 21, 0, 0, 0, 0, 0, []), (21, .iastore, 22, 0, 0, 0, 0, 0, []), (22, .iinc 3 1, 25, 3, 0, 0, 0, 1, []), (25, .goto (-16), 28, 9, 0, 0, 0, 0, []), (28, .iconst 0, 29, 0, 0, 0, 0, 0, []), (29, .istore_n 3, 30, 3, 0, 0, 0, 0, []), (30, .iload_n 3, 31, 3, 0, 0, 0, 0, []), (31, .iload_n 1, 32, 1, 0, 0, 0, 0, []), (32, .if_icmp .ge 85, 35, 117, 0, 0, 0, 0, []), (35, .aload_n 0, 36, 0, 0, 0, 0, 0, []), (36, .aload_n 0, 37, 0, 0, 0, 0, 0, []), (37, .getfield 44, 40, 12, 34, 2, 0, 0, []), (40, .invokevirtual 273, 43, 205, 2, 1, 25, 0, []), (43, .aload_n 0, 44, 0, 0, 0, 0, 0, []), (44, .dup, 45, 0, 0, 0, 0, 0, []), (45, .getfield 306, 48, 12, 38, 0, 0, 0, []), (48, .aload_n 0, 49, 0, 0, 0, 0, 0, []), (49, .getfield 228, 52, 12, 26, 0, 0, 0, []), (52, .ifCond .ne 7, 55, 59, 0, 0, 0, 0, []), (55, .iconst 1, 56, 0, 0, 0, 0, 1, []), (56, .goto 4, 59, 60, 0, 0, 0, 0, []), (59, .iconst 0, 60, 0, 0, 0, 0, 0, []), (60, .iadd, 61, 0, 0, 0, 0, 0, []), (61, .putfield 306, 64, 12, 38, 0, 0, 0, []), (64, .iconst 0, 65, 0, 0, 0, 0, 0, []), (65, .istore 4, 67, 4, 0, 0, 0, 0, []), (67, .iload 4, 69, 4, 0, 0, 0, 0, []), (69, .aload_n 0, 70, 0, 0, 0, 0, 0, []), (70, .getfield 85, 73, 12, 1, 0, 0, 0, []), (73, .if_icmp .ge 38, 76, 111, 0, 0, 0, 0, []), (76, .aload_n 0, 77, 0, 0, 0, 0, 0, []), (77, .getfield 228, 80, 12, 26, 0, 0, 0, []), (80, .iload 4, 82, 4, 0, 0, 0, 0, []), (82, .invokestatic 213, 85, 172, 2, 0, 24, 0, []), (85, .ifCond .ne 6, 88, 91, 0, 0, 0, 0, []), (88, .goto 17, 91, 105, 0, 0, 0, 0, []), (91, .aload_n 0, 92, 0, 0, 0, 0, 0, []), (92, .getfield 47, 95, 12, 37, 2, 0, 0, []), (95, .iload 4, 97, 4, 0, 0, 0, 0, []), (97, .dup2, 98, 0, 0, 0, 0, 0, []), (98, .iaload, 99, 0, 0, 0, 0, 0, []), (99, .iconst 1, 100, 0, 0, 0, 0, 1, []), (100, .iadd, 101, 0, 0, 0, 0, 0, []), (101, .iastore, 102, 0, 0, 0, 0, 0, []), (102, .iinc 2 1, 105, 2, 0, 0, 0, 1, []), (105, .iinc 4 1, 108, 4, 0, 0, 0, 1, []), (108, .goto (-41), 111, 67, 0, 0, 0, 0, []), (111, .iinc 3 1, 114, 3, 0, 0, 0, 1, []), (114, .goto (-84), 117, 30, 0, 0, 0, 0, []), (117, .iload_n 2, 118, 2, 0, 0, 0, 0, []), (118, .ireturn, 119, 0, 0, 0, 0, 0, [])]
def zc_231 : List zE := [(0, .aload_n 0, 1, 0, 0, 0, 0, 0, []), (1, .iconst 0, 2, 0, 0, 0, 0, 0, []), (2, .putfield 78, 5, 12, 12, 0, 0, 0, []), (5, .iload_n 1, 6, 1, 0, 0, 0, 0, []), (6, .iconst 0, 7, 0, 0, 0, 0, 0, []), (7, .sipush 300, 10, 0, 0, 0, 0, 300, []), (10, .invokestatic 88, 13, 171, 3, 0, 24, 0, []), (13, .ifCond .ne 5, 16, 18, 0, 0, 0, 0, []), (16, .iconst (-1), 17, 0, 0, 0, 0, (-1), []), (17, .ireturn, 18, 0, 0, 0, 0, 0, []), (18, .aload_n 0, 19, 0, 0, 0, 0, 0, []), (19, .invokevirtual 300, 22, 227, 1, 1, 25, 0, []), (22, .aload_n 0, 23, 0, 0, 0, 0, 0, []), (23, .iload_n 1, 24, 1, 0, 0, 0, 0, []), (24, .invokevirtual 309, 27, 230, 2, 1, 24, 0, []), (27, .istore_n 2, 28, 2, 0, 0, 0, 0, []), (28, .aload_n 0, 29, 0, 0, 0, 0, 0, []), (29, .iconst 0, 30, 0, 0, 0, 0, 0, []), (30, .putfield 82, 33, 12, 11, 0, 0, 0, []), (33, .iconst 0, 34, 0, 0, 0, 0, 0, []), (34, .istore_n 3, 35, 3, 0, 0, 0, 0, []), (35, .iload_n 3, 36, 3, 0, 0, 0, 0, []), (36, .aload_n 0, 37, 0, 0, 0, 0, 0, []), (37, .getfield 85, 40, 12, 1, 0, 0, 0, []), (40, .if_icmp .ge 19, 43, 59, 0, 0, 0, 0, []), (43, .aload_n 0, 44, 0, 0, 0, 0, 0, []), (44, .aload_n 0, 45, 0, 0, 0, 0, 0, []), (45, .getfield 47, 48, 12, 37, 2, 0, 0, []), (48, .iload_n 3, 49, 3, 0, 0, 0, 0, []), (49, .iaload, 50, 0, 0, 0, 0, 0, []), (50, .invokevirtual 270, 53, 174, 2, 1, 25, 0, []), (53, .iinc 3 1, 56, 3, 0, 0, 0, 1, []), (56, .goto (-21), 59, 35, 0, 0, 0, 0, []), (59, .iload_n 2, 60, 2, 0, 0, 0, 0, []), (60, .ireturn, 61, 0, 0, 0, 0, 0, [])]
def zc_232 : List zE := [(0, .aload_n 0, 1, 0, 0, 0, 0, 0, []), (1, .iconst 0, 2, 0, 0, 0, 0, 0, []), (2, .putfield 78, 5, 12, 12, 0, 0, 0, []), (5, .iload_n 1, 6, 1, 0, 0, 0, 0, []), (6, .iconst 0, 7, 0, 0, 0, 0, 0, []), (7, .sipush 300, 10, 0, 0, 0, 0, 300, []), (10, .invokestatic 88, 13, 171, 3, 0, 24, 0, []), (13, .ifCond .ne 5, 16, 18, 0, 0, 0, 0, []), (16, .iconst (-1), 17, 0, 0, 0, 0, (-1), []), (17, .ireturn, 18, 0, 0, 0, 0, 0, []), (18, .aload_n 0, 19, 0, 0, 0, 0, 0, []), (19, .invokevirtual 300, 22, 227, 1, 1, 25, 0, []), (22, .aload_n 0, 23, 0, 0, 0, 0, 0, []), (23, .iload_n 1, 24, 1, 0, 0, 0, 0, []), (24, .invokevirtual 309, 27, 230, 2, 1, 24, 0, []), (27, .ifCond .ne 6, 30, 33, 0, 0, 0, 0, []), (30, .bipush (-2), 32, 0, 0, 0, 0, (-2), []), (32, .ireturn, 33, 0, 0, 0, 0, 0, []), (33, .iconst 0, 34, 0, 0, 0, 0, 0, []), (34, .istore_n 2, 35, 2, 0, 0, 0, 0, []), (35, .iconst 1, 36, 0, 0, 0, 0, 1, []), (36, .istore_n 3, 37, 3, 0, 0, 0, 0, []), (37, .iload_n 3, 38, 3, 0, 0, 0, 0, []), (38, .aload_n 0, 39, 0, 0, 0, 0, 0, []), (39, .getfield 85, 42, 12, 1, 0, 0, 0, []), (42, .if_icmp .ge 26, 45, 68, 0, 0, 0, 0, []), (45, .aload_n 0, 46, 0, 0, 0, 0, 0, []), (46, .getfield 47, 49, 12, 37, 2, 0, 0, []), (49, .iload_n 3, 50, 3, 0, 0, 0, 0, []), (50, .iaload, 51, 0, 0, 0, 0, 0, []), (51, .aload_n 0, 52, 0, 0, 0, 0, 0, []), (52, .getfield 47, 55, 12, 37, 2, 0, 0, []), (55, .iload_n 2, 56, 2, 0, 0, 0, 0, []), (56, .iaload, 57, 0, 0, 0, 0, 0, []), (57, .if_icmp .le 5, 60, 62, 0, 0, 0, 0, []), (60, .iload_n 3, 61, 3, 0, 0, 0, 0, []), (61, .istore_n 2, 62, 2, 0, 0, 0, 0, []), (62, .iinc 3 1, 65, 3, 0, 0, 0, 1, []), (65, .goto (-28), 68, 37, 0, 0, 0, 0, []), (68, .aload_n 0, 69, 0, 0, 0, 0, 0, []), (69, .iconst 0, 70, 0, 0, 0, 0, 0, []), (70, .putfield 82, 73, 12, 11, 0, 0, 0, []), (73, .aload_n 0, 74, 0, 0, 0, 0, 0, []), (74, .aload_n 0, 75, 0, 0, 0, 0, 0, []), (75, .getfield 47, 78, 12, 37, 2, 0, 0, []), (78, .iload_n 2, 79, 2, 0, 0, 0, 0, []), (79, .iaload, 80, 0, 0, 0, 0, 0, []), (80, .invokevirtual 270, 83, 174, 2, 1, 25, 0, []), (83, .aload_n 0, 84, 0, 0, 0, 0, 0, []), (84, .aload_n 0, 85, 0, 0, 0, 0, 0, []), (85, .getfield 306, 88, 12, 38, 0, 0, 0, []), (88, .invokevirtual 270, 91, 174, 2, 1, 25, 0, []), (91, .iload_n 2, 92, 2, 0, 0, 0, 0, []), (92, .ireturn, 93, 0, 0, 0, 0, 0, [])]
def zc_233 : List zE := [(0, .aload_n 0, 1, 0, 0, 0, 0, 0, []), (1, .iconst 0, 2, 0, 0, 0, 0, 0, []), (2, .putfield 78, 5, 12, 12, 0, 0, 0, []), (5, .aload_n 0, 6, 0, 0, 0, 0, 0, []), (6, .iload_n 1, 7, 1, 0, 0, 0, 0, []), (7, .invokevirtual 194, 10, 175, 2, 1, 24, 0, []), (10, .ifCond .ne 5, 13, 15, 0, 0, 0, 0, []), (13, .iconst (-1), 14, 0, 0, 0, 0, (-1), []), (14, .ireturn, 15, 0, 0, 0, 0, 0, []), (15, .aload_n 0, 16, 0, 0, 0, 0, 0, []), (16, .invokevirtual 300, 19, 227, 1, 1, 25, 0, []), (19, .iconst 0, 20, 0, 0, 0, 0, 0, []), (20, .istore_n 2, 21, 2, 0, 0, 0, 0, []), (21, .iload_n 2, 22, 2, 0, 0, 0, 0, []), (22, .sipush 300, 25, 0, 0, 0, 0, 300, []), (25, .if_icmp .ge 53, 28, 78, 0, 0, 0, 0, []), (28, .aload_n 0, 29, 0, 0, 0, 0, 0, []), (29, .getfield 44, 32, 12, 34, 2, 0, 0, []), (32, .bipush 27, 34, 0, 0, 0, 0, 27, []), (34, .iload_n 1, 35, 1, 0, 0, 0, 0, []), (35, .iadd, 36, 0, 0, 0, 0, 0, []), (36, .iaload, 37, 0, 0, 0, 0, 0, []), (37, .istore_n 3, 38, 3, 0, 0, 0, 0, []), (38, .aload_n 0, 39, 0, 0, 0, 0, 0, []), (39, .aload_n 0, 40, 0, 0, 0, 0, 0, []), (40, .getfield 44, 43, 12, 34, 2, 0, 0, []), (43, .invokevirtual 273, 46, 205, 2, 1, 25, 0, []), (46, .aload_n 0, 47, 0, 0, 0, 0, 0, []), (47, .getfield 228, 50, 12, 26, 0, 0, 0, []), (50, .iload_n 1, 51, 1, 0, 0, 0, 0, []), (51, .invokestatic 213, 54, 172, 2, 0, 24, 0, []), (54, .ifCond .ne 6, 57, 60, 0, 0, 0, 0, []), (57, .goto 15, 60, 72, 0, 0, 0, 0, []), (60, .aload_n 0, 61, 0, 0, 0, 0, 0, []), (61, .iconst 0, 62, 0, 0, 0, 0, 0, []), (62, .putfield 82, 65, 12, 11, 0, 0, 0, []), (65, .aload_n 0, 66, 0, 0, 0, 0, 0, []), (66, .iload_n 3, 67, 3, 0, 0, 0, 0, []), (67, .invokevirtual 270, 70, 174, 2, 1, 25, 0, []), (70, .iload_n 2, 71, 2, 0, 0, 0, 0, []), (71, .ireturn, 72, 0, 0, 0, 0, 0, []), (72, .iinc 2 1, 75, 2, 0, 0, 0, 1, []), (75, .goto (-54), 78, 21, 0, 0, 0, 0, []), (78, .bipush (-2), 80, 0, 0, 0, 0, (-2), []), (80, .ireturn, 81, 0, 0, 0, 0, 0, [])]
def zc_234 : List zE := [(0, .iconst 0, 1, 0, 0, 0, 0, 0, []), (1, .istore_n 1, 2, 1, 0, 0, 0, 0, []), (2, .iconst 0, 3, 0, 0, 0, 0, 0, []), (3, .istore_n 2, 4, 2, 0, 0, 0, 0, []), (4, .iload_n 2, 5, 2, 0, 0, 0, 0, []), (5, .aload_n 0, 6, 0, 0, 0, 0, 0, []), (6, .getfield 85, 9, 12, 1, 0, 0, 0, []), (9, .if_icmp .ge 28, 12, 37, 0, 0, 0, 0, []), (12, .iload_n 1, 13, 1, 0, 0, 0, 0, []), (13, .aload_n 0, 14, 0, 0, 0, 0, 0, []), (14, .getfield 47, 17, 12, 37, 2, 0, 0, []), (17, .iload_n 2, 18, 2, 0, 0, 0, 0, []), (18, .iaload, 19, 0, 0, 0, 0, 0, []), (19, .ifCond .le 9, 22, 28, 0, 0, 0, 0, []), (22, .iconst 1, 23, 0, 0, 0, 0, 1, []), (23, .iload_n 2, 24, 2, 0, 0, 0, 0, []), (24, .ishl, 25, 0, 0, 0, 0, 0, []), (25, .goto 4, 28, 29, 0, 0, 0, 0, []), (28, .iconst 0, 29, 0, 0, 0, 0, 0, []), (29, .ior, 30, 0, 0, 0, 0, 0, []), (30, .istore_n 1, 31, 1, 0, 0, 0, 0, []), (31, .iinc 2 1, 34, 2, 0, 0, 0, 1, []), (34, .goto (-30), 37, 4, 0, 0, 0, 0, []), (37, .iload_n 1, 38, 1, 0, 0, 0, 0, []), (38, .ireturn, 39, 0, 0, 0, 0, 0, [])]
def zc_235 : List zE := [(0, .aload_n 0, 1, 0, 0, 0, 0, 0, []), (1, .iconst 0, 2, 0, 0, 0, 0, 0, []), (2, .putfield 78, 5, 12, 12, 0, 0, 0, []), (5, .aload_n 0, 6, 0, 0, 0, 0, 0, []), (6, .iload_n 1, 7, 1, 0, 0, 0, 0, []), (7, .invokevirtual 194, 10, 175, 2, 1, 24, 0, []), (10, .ifCond .eq 10, 13, 20, 0, 0, 0, 0, []), (13, .iload_n 2, 14, 2, 0, 0, 0, 0, []), (14, .invokestatic 312, 17, 178, 1, 0, 24, 0, []), (17, .ifCond .ne 5, 20, 22, 0, 0, 0, 0, []), (20, .iconst (-1), 21, 0, 0, 0, 0, (-1), []), (21, .ireturn, 22, 0, 0, 0, 0, 0, []), (22, .aload_n 0, 23, 0, 0, 0, 0, 0, []), (23, .aload_n 0, 24, 0, 0, 0, 0, 0, []), (24, .getfield 9, 27, 12, 0, 2, 0, 0, []), (27, .iload_n 1, 28, 1, 0, 0, 0, 0, []), (28, .invokevirtual 256, 31, 210, 3, 1, 24, 0, []), (31, .ifCond .ne 6, 34, 37, 0, 0, 0, 0, []), (34, .bipush (-2), 36, 0, 0, 0, 0, (-2), []), (36, .ireturn, 37, 0, 0, 0, 0, 0, []), (37, .aload_n 0, 38, 0, 0, 0, 0, 0, []), (38, .invokevirtual 300, 41, 227, 1, 1, 25, 0, []), (41, .aload_n 0, 42, 0, 0, 0, 0, 0, []), (42, .iload_n 2, 43, 2, 0, 0, 0, 0, []), (43, .invokevirtual 309, 46, 230, 2, 1, 24, 0, []), (46, .istore_n 3, 47, 3, 0, 0, 0, 0, []), (47, .aload_n 0, 48, 0, 0, 0, 0, 0, []), (48, .invokevirtual 315, 51, 234, 1, 1, 24, 0, []), (51, .istore 4, 53, 4, 0, 0, 0, 0, []), (53, .aload_n 0, 54, 0, 0, 0, 0, 0, []), (54, .invokevirtual 300, 57, 227, 1, 1, 25, 0, []), (57, .aload_n 0, 58, 0, 0, 0, 0, 0, []), (58, .getfield 44, 61, 12, 34, 2, 0, 0, []), (61, .iload_n 1, 62, 1, 0, 0, 0, 0, []), (62, .iconst 0, 63, 0, 0, 0, 0, 0, []), (63, .invokestatic 264, 66, 211, 3, 0, 25, 0, []), (66, .aload_n 0, 67, 0, 0, 0, 0, 0, []), (67, .iload_n 2, 68, 2, 0, 0, 0, 0, []), (68, .invokevirtual 309, 71, 230, 2, 1, 24, 0, []), (71, .istore 5, 73, 5, 0, 0, 0, 0, []), (73, .aload_n 0, 74, 0, 0, 0, 0, 0, []), (74, .iconst 0, 75, 0, 0, 0, 0, 0, []), (75, .putfield 82, 78, 12, 11, 0, 0, 0, []), (78, .aload_n 0, 79, 0, 0, 0, 0, 0, []), (79, .iload 5, 81, 5, 0, 0, 0, 0, []), (81, .iload_n 3, 82, 3, 0, 0, 0, 0, []), (82, .isub, 83, 0, 0, 0, 0, 0, []), (83, .invokevirtual 270, 86, 174, 2, 1, 25, 0, []), (86, .aload_n 0, 87, 0, 0, 0, 0, 0, []), (87, .invokevirtual 315, 90, 234, 1, 1, 24, 0, []), (90, .iload 4, 92, 4, 0, 0, 0, 0, []), (92, .iconst (-1), 93, 0, 0, 0, 0, (-1), []), (93, .ixor, 94, 0, 0, 0, 0, 0, []), (94, .iand, 95, 0, 0, 0, 0, 0, []), (95, .ireturn, 96, 0, 0, 0, 0, 0, [])]
def zc_236 : List zE := [(0, .iconst 0, 1, 0, 0, 0, 0, 0, []), (1, .istore_n 1, 2, 1, 0, 0, 0, 0, []), (2, .iload_n 1, 3, 1, 0, 0, 0, 0, []), (3, .aload_n 0, 4, 0, 0, 0, 0, 0, []), (4, .getfield 85, 7, 12, 1, 0, 0, 0, []), (7, .if_icmp .ge 24, 10, 31, 0, 0, 0, 0, []), (10, .aload_n 0, 11, 0, 0, 0, 0, 0, []), (11, .getfield 44, 14, 12, 34, 2, 0, 0, []), (14, .bipush 18, 16, 0, 0, 0, 0, 18, []), (16, .iload_n 1, 17, 1, 0, 0, 0, 0, []), (17, .iadd, 18, 0, 0, 0, 0, 0, []), (18, .iaload, 19, 0, 0, 0, 0, 0, []), (19, .iconst (-1), 20, 0, 0, 0, 0, (-1), []), (20, .if_icmp .eq 5, 23, 25, 0, 0, 0, 0, []), (23, .iconst 1, 24, 0, 0, 0, 0, 1, []), (24, .ireturn, 25, 0, 0, 1, 0, 0, []), (25, .iinc 1 1, 28, 1, 0, 0, 0, 1, []), (28, .goto (-26), 31, 2, 0, 0, 0, 0, []), (31, .iconst 0, 32, 0, 0, 0, 0, 0, []), (32, .ireturn, 33, 0, 0, 1, 0, 0, [])]
def zc_237 : List zE := [(0, .aload_n 0, 1, 0, 0, 0, 0, 0, []), (1, .invokevirtual 300, 4, 227, 1, 1, 25, 0, []), (4, .iconst 0, 5, 0, 0, 0, 0, 0, []), (5, .istore_n 3, 6, 3, 0, 0, 0, 0, []), (6, .iload_n 3, 7, 3, 0, 0, 0, 0, []), (7, .aload_n 0, 8, 0, 0, 0, 0, 0, []), (8, .getfield 85, 11, 12, 1, 0, 0, 0, []), (11, .if_icmp .ge 17, 14, 28, 0, 0, 0, 0, []), (14, .aload_n 0, 15, 0, 0, 0, 0, 0, []), (15, .getfield 44, 18, 12, 34, 2, 0, 0, []), (18, .iload_n 3, 19, 3, 0, 0, 0, 0, []), (19, .invokestatic 136, 22, 190, 2, 0, 25, 0, []), (22, .iinc 3 1, 25, 3, 0, 0, 0, 1, []), (25, .goto (-19), 28, 6, 0, 0, 0, 0, []), (28, .aload_n 0, 29, 0, 0, 0, 0, 0, []), (29, .getfield 44, 32, 12, 34, 2, 0, 0, []), (32, .bipush 45, 34, 0, 0, 0, 0, 45, []), (34, .dup2, 35, 0, 0, 0, 0, 0, []), (35, .iaload, 36, 0, 0, 0, 0, 0, []), (36, .iload_n 2, 37, 2, 0, 0, 0, 0, []), (37, .ior, 38, 0, 0, 0, 0, 0, []), (38, .iastore, 39, 0, 0, 0, 0, 0, []), (39, .aload_n 0, 40, 0, 0, 0, 0, 0, []), (40, .getfield 44, 43, 12, 34, 2, 0, 0, []), (43, .iload_n 1, 44, 1, 0, 0, 0, 0, []), (44, .iconst 0, 45, 0, 0, 0, 0, 0, []), (45, .invokestatic 264, 48, 211, 3, 0, 25, 0, []), (48, .aload_n 0, 49, 0, 0, 0, 0, 0, []), (49, .iconst 1, 50, 0, 0, 0, 0, 1, []), (50, .putfield 237, 53, 12, 7, 1, 0, 0, []), (53, .iconst (-1), 54, 0, 0, 0, 0, (-1), []), (54, .istore_n 3, 55, 3, 0, 0, 0, 0, []), (55, .iconst 1, 56, 0, 0, 0, 0, 1, []), (56, .istore 4, 58, 4, 0, 0, 0, 0, []), (58, .iload 4, 60, 4, 0, 0, 0, 0, []), (60, .sipush 300, 63, 0, 0, 0, 0, 300, []), (63, .if_icmp .gt 32, 66, 95, 0, 0, 0, 0, []), (66, .iload_n 3, 67, 3, 0, 0, 0, 0, []), (67, .iconst (-1), 68, 0, 0, 0, 0, (-1), []), (68, .if_icmp .ne 27, 71, 95, 0, 0, 0, 0, []), (71, .aload_n 0, 72, 0, 0, 0, 0, 0, []), (72, .aload_n 0, 73, 0, 0, 0, 0, 0, []), (73, .getfield 44, 76, 12, 34, 2, 0, 0, []), (76, .invokevirtual 273, 79, 205, 2, 1, 25, 0, []), (79, .aload_n 0, 80, 0, 0, 0, 0, 0, []), (80, .invokevirtual 318, 83, 236, 1, 1, 24, 0, []), (83, .ifCond .ne 6, 86, 89, 0, 0, 0, 0, []), (86, .iload 4, 88, 4, 0, 0, 0, 0, []), (88, .istore_n 3, 89, 3, 0, 0, 0, 0, []), (89, .iinc 4 1, 92, 4, 0, 0, 0, 1, []), (92, .goto (-34), 95, 58, 0, 0, 0, 0, []), (95, .aload_n 0, 96, 0, 0, 0, 0, 0, []), (96, .iconst 0, 97, 0, 0, 0, 0, 0, []), (97, .putfield 237, 100, 12, 7, 1, 0, 0, []), (100, .iload_n 3, 101, 3, 0, 0, 0, 0, []), (101, .ireturn, 102, 0, 0, 0, 0, 0, [])]
def zc_238 : List zE := [(0, .aload_n 0, 1, 0, 0, 0, 0, 0, []), (1, .iconst 0, 2, 0, 0, 0, 0, 0, []), (2, .putfield 78, 5, 12, 12, 0, 0, 0, []), (5, .aload_n 0, 6, 0, 0, 0, 0, 0, []), (6, .iload_n 1, 7, 1, 0, 0, 0, 0, []), (7, .invokevirtual 194, 10, 175, 2, 1, 24, 0, []), (10, .ifCond .ne 5, 13, 15, 0, 0, 0, 0, []), (13, .iconst (-1), 14, 0, 0, 0, 0, (-1), []), (14, .ireturn, 15, 0, 0, 0, 0, 0, []), (15, .aload_n 0, 16, 0, 0, 0, 0, 0, []), (16, .getfield 9, 19, 12, 0, 2, 0, 0, []), (19, .bipush 45, 21, 0, 0, 0, 0, 45, []), (21, .iaload, 22, 0, 0, 0, 0, 0, []), (22, .iload_n 1, 23, 1, 0, 0, 0, 0, []), (23, .invokestatic 213, 26, 172, 2, 0, 24, 0, []), (26, .ifCond .eq 6, 29, 32, 0, 0, 0, 0, []), (29, .bipush (-3), 31, 0, 0, 0, 0, (-3), []), (31, .ireturn, 32, 0, 0, 0, 0, 0, []), (32, .aload_n 0, 33, 0, 0, 0, 0, 0, []), (33, .iload_n 1, 34, 1, 0, 0, 0, 0, []), (34, .iconst 0, 35, 0, 0, 0, 0, 0, []), (35, .invokevirtual 321, 38, 237, 3, 1, 24, 0, []), (38, .istore_n 2, 39, 2, 0, 0, 0, 0, []), (39, .iload_n 2, 40, 2, 0, 0, 0, 0, []), (40, .iconst (-1), 41, 0, 0, 0, 0, (-1), []), (41, .if_icmp .ne 8, 44, 49, 0, 0, 0, 0, []), (44, .bipush (-2), 46, 0, 0, 0, 0, (-2), []), (46, .goto 4, 49, 50, 0, 0, 0, 0, []), (49, .iload_n 2, 50, 2, 0, 0, 0, 0, []), (50, .ireturn, 51, 0, 0, 0, 0, 0, [])]
def zc_239 : List zE := [(0, .aload_n 0, 1, 0, 0, 0, 0, 0, []), (1, .iconst 0, 2, 0, 0, 0, 0, 0, []), (2, .putfield 78, 5, 12, 12, 0, 0, 0, []), (5, .iconst 0, 6, 0, 0, 0, 0, 0, []), (6, .istore_n 1, 7, 1, 0, 0, 0, 0, []), (7, .iconst 0, 8, 0, 0, 0, 0, 0, []), (8, .istore_n 2, 9, 2, 0, 0, 0, 0, []), (9, .iload_n 2, 10, 2, 0, 0, 0, 0, []), (10, .aload_n 0, 11, 0, 0, 0, 0, 0, []), (11, .getfield 85, 14, 12, 1, 0, 0, 0, []), (14, .if_icmp .ge 39, 17, 53, 0, 0, 0, 0, []), (17, .aload_n 0, 18, 0, 0, 0, 0, 0, []), (18, .getfield 9, 21, 12, 0, 2, 0, 0, []), (21, .bipush 45, 23, 0, 0, 0, 0, 45, []), (23, .iaload, 24, 0, 0, 0, 0, 0, []), (24, .iload_n 2, 25, 2, 0, 0, 0, 0, []), (25, .invokestatic 213, 28, 172, 2, 0, 24, 0, []), (28, .ifCond .ne 19, 31, 47, 0, 0, 0, 0, []), (31, .aload_n 0, 32, 0, 0, 0, 0, 0, []), (32, .iload_n 2, 33, 2, 0, 0, 0, 0, []), (33, .iconst 0, 34, 0, 0, 0, 0, 0, []), (34, .invokevirtual 321, 37, 237, 3, 1, 24, 0, []), (37, .iconst (-1), 38, 0, 0, 0, 0, (-1), []), (38, .if_icmp .ne 9, 41, 47, 0, 0, 0, 0, []), (41, .iload_n 1, 42, 1, 0, 0, 0, 0, []), (42, .iconst 1, 43, 0, 0, 0, 0, 1, []), (43, .iload_n 2, 44, 2, 0, 0, 0, 0, []), (44, .ishl, 45, 0, 0, 0, 0, 0, []), (45, .ior, 46, 0, 0, 0, 0, 0, []), (46, .istore_n 1, 47, 1, 0, 0, 0, 0, []), (47, .iinc 2 1, 50, 2, 0, 0, 0, 1, []), (50, .goto (-41), 53, 9, 0, 0, 0, 0, []), (53, .iload_n 1, 54, 1, 0, 0, 0, 0, []), (54, .ireturn, 55, 0, 0, 0, 0, 0, [])]
def zc_240 : List zE := [(0, .aload_n 0, 1, 0, 0, 0, 0, 0, []), (1, .iconst 0, 2, 0, 0, 0, 0, 0, []), (2, .putfield 78, 5, 12, 12, 0, 0, 0, []), (5, .aload_n 0, 6, 0, 0, 0, 0, 0, []), (6, .iload_n 1, 7, 1, 0, 0, 0, 0, []), (7, .invokevirtual 194, 10, 175, 2, 1, 24, 0, []), (10, .ifCond .ne 5, 13, 15, 0, 0, 0, 0, []), (13, .iconst (-1), 14, 0, 0, 0, 0, (-1), []), (14, .ireturn, 15, 0, 0, 0, 0, 0, []), (15, .aload_n 0, 16, 0, 0, 0, 0, 0, []), (16, .getfield 9, 19, 12, 0, 2, 0, 0, []), (19, .bipush 45, 21, 0, 0, 0, 0, 45, []), (21, .iaload, 22, 0, 0, 0, 0, 0, []), (22, .iload_n 1, 23, 1, 0, 0, 0, 0, []), (23, .invokestatic 213, 26, 172, 2, 0, 24, 0, []), (26, .ifCond .eq 6, 29, 32, 0, 0, 0, 0, []), (29, .bipush (-3), 31, 0, 0, 0, 0, (-3), []), (31, .ireturn, 32, 0, 0, 0, 0, 0, []), (32, .iconst (-1), 33, 0, 0, 0, 0, (-1), []), (33, .istore_n 2, 34, 2, 0, 0, 0, 0, []), (34, .iconst 0, 35, 0, 0, 0, 0, 0, []), (35, .istore_n 3, 36, 3, 0, 0, 0, 0, []), (36, .iconst 0, 37, 0, 0, 0, 0, 0, []), (37, .istore 4, 39, 4, 0, 0, 0, 0, []), (39, .iload 4, 41, 4, 0, 0, 0, 0, []), (41, .aload_n 0, 42, 0, 0, 0, 0, 0, []), (42, .invokevirtual 92, 45, 176, 1, 1, 24, 0, []), (45, .if_icmp .gt 78, 48, 123, 0, 0, 0, 0, []), (48, .iload 4, 50, 4, 0, 0, 0, 0, []), (50, .iload_n 1, 51, 1, 0, 0, 0, 0, []), (51, .invokestatic 213, 54, 172, 2, 0, 24, 0, []), (54, .ifCond .ne 63, 57, 117, 0, 0, 0, 0, []), (57, .iload 4, 59, 4, 0, 0, 0, 0, []), (59, .aload_n 0, 60, 0, 0, 0, 0, 0, []), (60, .getfield 9, 63, 12, 0, 2, 0, 0, []), (63, .bipush 45, 65, 0, 0, 0, 0, 45, []), (65, .iaload, 66, 0, 0, 0, 0, 0, []), (66, .iand, 67, 0, 0, 0, 0, 0, []), (67, .ifCond .eq 6, 70, 73, 0, 0, 0, 0, []), (70, .goto 47, 73, 117, 0, 0, 0, 0, []), (73, .iload_n 2, 74, 2, 0, 0, 0, 0, []), (74, .iconst (-1), 75, 0, 0, 0, 0, (-1), []), (75, .if_icmp .eq 18, 78, 93, 0, 0, 0, 0, []), (78, .iload 4, 80, 4, 0, 0, 0, 0, []), (80, .invokestatic 223, 83, 0, 1, 0, 26, 0, []), (83, .iload_n 2, 84, 2, 0, 0, 0, 0, []), (84, .invokestatic 223, 87, 0, 1, 0, 26, 0, []), (87, .if_icmp .lt 6, 90, 93, 0, 0, 0, 0, []), (90, .goto 27, 93, 117, 0, 0, 0, 0, []), (93, .aload_n 0, 94, 0, 0, 0, 0, 0, []), (94, .iload_n 1, 95, 1, 0, 0, 0, 0, []), (95, .iload 4, 97, 4, 0, 0, 0, 0, []), (97, .invokevirtual 321, 100, 237, 3, 1, 24, 0, []), (100, .istore 5, 102, 5, 0, 0, 0, 0, []), (102, .iload 5, 104, 5, 0, 0, 0, 0, []), (104, .iconst (-1), 105, 0, 0, 0, 0, (-1), []), (105, .if_icmp .ne 6, 108, 111, 0, 0, 0, 0, []), (108, .goto 9, 111, 117, 0, 0, 0, 0, []), (111, .iload 4, 113, 4, 0, 0, 0, 0, []), (113, .istore_n 2, 114, 2, 0, 0, 0, 0, []), (114, .iload 5, 116, 5, 0, 0, 0, 0, []), (116, .istore_n 3, 117, 3, 0, 0, 0, 0, []), (117, .iinc 4 1, 120, 4, 0, 0, 0, 1, []), (120, .goto (-81), 123, 39, 0, 0, 0, 0, []), (123, .iload_n 2, 124, 2, 0, 0, 0, 0, []), (124, .iconst (-1), 125, 0, 0, 0, 0, (-1), []), (125, .if_icmp .ne 6, 128, 131, 0, 0, 0, 0, []), (128, .bipush (-2), 130, 0, 0, 0, 0, (-2), []), (130, .ireturn, 131, 0, 0, 0, 0, 0, []), (131, .aload_n 0, 132, 0, 0, 0, 0, 0, []), (132, .iconst 0, 133, 0, 0, 0, 0, 0, []), (133, .putfield 82, 136, 12, 11, 0, 0, 0, []), (136, .aload_n 0, 137, 0, 0, 0, 0, 0, []), (137, .iload_n 2, 138, 2, 0, 0, 0, 0, []), (138, .invokevirtual 270, 141, 174, 2, 1, 25, 0, []), (141, .aload_n 0, 142, 0, 0, 0, 0, 0, []), (142, .iload_n 3, 143, 3, 0, 0, 0, 0, []), (143, .invokevirtual 270, 146, 174, 2, 1, 25, 0, []), (146, .iload_n 2, 147, 2, 0, 0, 0, 0, []), (147, .invokestatic 223, 150, 0, 1, 0, 26, 0, []), (150, .ireturn, 151, 0, 0, 0, 0, 0, [])]
def zc_241 : List zE := [(0, .iconst 0, 1, 0, 0, 0, 0, 0, []), (1, .istore_n 3, 2, 3, 0, 0, 0, 0, []), (2, .iload_n 3, 3, 3, 0, 0, 0, 0, []), (3, .aload_n 0, 4, 0, 0, 0, 0, 0, []), (4, .getfield 85, 7, 12, 1, 0, 0, 0, []), (7, .if_icmp .ge 27, 10, 34, 0, 0, 0, 0, []), (10, .aload_n 0, 11, 0, 0, 0, 0, 0, []), (11, .getfield 50, 14, 12, 39, 2, 0, 0, []), (14, .iload_n 3, 15, 3, 0, 0, 0, 0, []), (15, .iload_n 3, 16, 3, 0, 0, 0, 0, []), (16, .iload_n 1, 17, 1, 0, 0, 0, 0, []), (17, .if_icmp .ne 7, 20, 24, 0, 0, 0, 0, []), (20, .iconst 0, 21, 0, 0, 0, 0, 0, []), (21, .goto 6, 24, 27, 0, 0, 0, 0, []), (24, .ldc_w 324, 27, 0, 0, 0, 0, 1000000, []), (27, .iastore, 28, 0, 0, 0, 0, 0, []), (28, .iinc 3 1, 31, 3, 0, 0, 0, 1, []), (31, .goto (-29), 34, 2, 0, 0, 0, 0, []), (34, .aload_n 0, 35, 0, 0, 0, 0, 0, []), (35, .getfield 9, 38, 12, 0, 2, 0, 0, []), (38, .bipush 45, 40, 0, 0, 0, 0, 45, []), (40, .iaload, 41, 0, 0, 0, 0, 0, []), (41, .iload_n 1, 42, 1, 0, 0, 0, 0, []), (42, .invokestatic 213, 45, 172, 2, 0, 24, 0, []), (45, .ifCond .ne 7, 48, 52, 0, 0, 0, 0, []), (48, .iconst 1, 49, 0, 0, 0, 0, 1, []), (49, .goto 4, 52, 53, 0, 0, 0, 0, []), (52, .iconst 0, 53, 0, 0, 0, 0, 0, []), (53, .istore_n 3, 54, 3, 0, 0, 0, 0, []), (54, .iload_n 3, 55, 3, 0, 0, 0, 0, []), (55, .ifCond .eq 140, 58, 195, 0, 0, 0, 0, []), (58, .iconst 0, 59, 0, 0, 0, 0, 0, []), (59, .istore_n 3, 60, 3, 0, 0, 0, 0, []), (60, .iconst 0, 61, 0, 0, 0, 0, 0, []), (61, .istore 4, 63, 4, 0, 0, 0, 0, []), (63, .iload 4, 65, 4, 0, 0, 0, 0, []), (65, .aload_n 0, 66, 0, 0, 0, 0, 0, []), (66, .getfield 85, 69, 12, 1, 0, 0, 0, []), (69, .if_icmp .ge 123, 72, 192, 0, 0, 0, 0, []), (72, .iconst 0, 73, 0, 0, 0, 0, 0, []), (73, .istore 5, 75, 5, 0, 0, 0, 0, []), (75, .iload 5, 77, 5, 0, 0, 0, 0, []), (77, .aload_n 0, 78, 0, 0, 0, 0, 0, []), (78, .getfield 85, 81, 12, 1, 0, 0, 0, []), (81, .if_icmp .ge 105, 84, 186, 0, 0, 0, 0, []), (84, .aload_n 0, 85, 0, 0, 0, 0, 0, []), (85, .getfield 9, 88, 12, 0, 2, 0, 0, []), (88, .bipush 45, 90, 0, 0, 0, 0, 45, []), (90, .iaload, 91, 0, 0, 0, 0, 0, []), (91, .iload 5, 93, 5, 0, 0, 0, 0, []), (93, .invokestatic 213, 96, 172, 2, 0, 24, 0, []), (96, .ifCond .ne 84, 99, 180, 0, 0, 0, 0, []), (99, .aload_n 0, 100, 0, 0, 0, 0, 0, []), (100, .iload 5, 102, 5, 0, 0, 0, 0, []), (102, .invokevirtual 201, 105, 177, 2, 1, 24, 0, []), (105, .iload 4, 107, 4, 0, 0, 0, 0, []), (107, .invokestatic 213, 110, 172, 2, 0, 24, 0, []), (110, .ifCond .eq 70, 113, 180, 0, 0, 0, 0, []), (113, .aload_n 0, 114, 0, 0, 0, 0, 0, []), (114, .getfield 50, 117, 12, 39, 2, 0, 0, []), (117, .iload 4, 119, 4, 0, 0, 0, 0, []), (119, .iaload, 120, 0, 0, 0, 0, 0, []), (120, .ldc_w 324, 123, 0, 0, 0, 0, 1000000, []), (123, .if_icmp .lt 6, 126, 129, 0, 0, 0, 0, []), (126, .goto 54, 129, 180, 0, 0, 0, 0, []), (129, .aload_n 0, 130, 0, 0, 0, 0, 0, []), (130, .getfield 50, 133, 12, 39, 2, 0, 0, []), (133, .iload 4, 135, 4, 0, 0, 0, 0, []), (135, .iaload, 136, 0, 0, 0, 0, 0, []), (136, .iload_n 2, 137, 2, 0, 0, 0, 0, []), (137, .ifCond .eq 13, 140, 150, 0, 0, 0, 0, []), (140, .aload_n 0, 141, 0, 0, 0, 0, 0, []), (141, .getfield 13, 144, 12, 2, 2, 0, 0, []), (144, .iload 5, 146, 5, 0, 0, 0, 0, []), (146, .iaload, 147, 0, 0, 0, 0, 0, []), (147, .goto 4, 150, 151, 0, 0, 0, 0, []), (150, .iconst 1, 151, 0, 0, 0, 0, 1, []), (151, .iadd, 152, 0, 0, 0, 0, 0, []), (152, .istore 6, 154, 6, 0, 0, 0, 0, []), (154, .iload 6, 156, 6, 0, 0, 0, 0, []), (156, .aload_n 0, 157, 0, 0, 0, 0, 0, []), (157, .getfield 50, 160, 12, 39, 2, 0, 0, []), (160, .iload 5, 162, 5, 0, 0, 0, 0, []), (162, .iaload, 163, 0, 0, 0, 0, 0, []), (163, .if_icmp .lt 6, 166, 169, 0, 0, 0, 0, []), (166, .goto 14, 169, 180, 0, 0, 0, 0, []), (169, .aload_n 0, 170, 0, 0, 0, 0, 0, []), (170, .getfield 50, 173, 12, 39, 2, 0, 0, []), (173, .iload 5, 175, 5, 0, 0, 0, 0, []), (175, .iload 6, 177, 6, 0, 0, 0, 0, []), (177, .iastore, 178, 0, 0, 0, 0, 0, []), (178, .iconst 1, 179, 0, 0, 0, 0, 1, []), (179, .istore_n 3, 180, 3, 0, 0, 0, 0, []), (180, .iinc 5 1, 183, 5, 0, 0, 0, 1, []), (183, .goto (-108), 186, 75, 0, 0, 0, 0, []), (186, .iinc 4 1, 189, 4, 0, 0, 0, 1, []), (189, .goto (-126), 192, 63, 0, 0, 0, 0, []), (192, .goto (-138), 195, 54, 0, 0, 0, 0, []), (195, .return_, 196, 0, 0, 0, 0, 0, [])]
def zc_242 : List zE := [(0, .aload_n 0, 1, 0, 0, 0, 0, 0, []), (1, .iconst 0, 2, 0, 0, 0, 0, 0, []), (2, .putfield 78, 5, 12, 12, 0, 0, 0, []), (5, .aload_n 0, 6, 0, 0, 0, 0, 0, []), (6, .iload_n 1, 7, 1, 0, 0, 0, 0, []), (7, .invokevirtual 194, 10, 175, 2, 1, 24, 0, []), (10, .ifCond .ne 5, 13, 15, 0, 0, 0, 0, []), (13, .iconst (-1), 14, 0, 0, 0, 0, (-1), []), (14, .ireturn, 15, 0, 0, 0, 0, 0, []), (15, .aload_n 0, 16, 0, 0, 0, 0, 0, []), (16, .iload_n 1, 17, 1, 0, 0, 0, 0, []), (17, .iconst 0, 18, 0, 0, 0, 0, 0, []), (18, .invokevirtual 325, 21, 241, 3, 1, 25, 0, []), (21, .iconst 0, 22, 0, 0, 0, 0, 0, []), (22, .istore_n 2, 23, 2, 0, 0, 0, 0, []), (23, .iconst 0, 24, 0, 0, 0, 0, 0, []), (24, .istore_n 3, 25, 3, 0, 0, 0, 0, []), (25, .iconst 0, 26, 0, 0, 0, 0, 0, []), (26, .istore 4, 28, 4, 0, 0, 0, 0, []), (28, .iload 4, 30, 4, 0, 0, 0, 0, []), (30, .aload_n 0, 31, 0, 0, 0, 0, 0, []), (31, .getfield 85, 34, 12, 1, 0, 0, 0, []), (34, .if_icmp .ge 50, 37, 84, 0, 0, 0, 0, []), (37, .iload 4, 39, 4, 0, 0, 0, 0, []), (39, .iload_n 1, 40, 1, 0, 0, 0, 0, []), (40, .if_icmp .eq 38, 43, 78, 0, 0, 0, 0, []), (43, .aload_n 0, 44, 0, 0, 0, 0, 0, []), (44, .getfield 50, 47, 12, 39, 2, 0, 0, []), (47, .iload 4, 49, 4, 0, 0, 0, 0, []), (49, .iaload, 50, 0, 0, 0, 0, 0, []), (50, .ldc_w 324, 53, 0, 0, 0, 0, 1000000, []), (53, .if_icmp .lt 6, 56, 59, 0, 0, 0, 0, []), (56, .goto 22, 59, 78, 0, 0, 0, 0, []), (59, .iload_n 2, 60, 2, 0, 0, 0, 0, []), (60, .iconst 1, 61, 0, 0, 0, 0, 1, []), (61, .iload 4, 63, 4, 0, 0, 0, 0, []), (63, .ishl, 64, 0, 0, 0, 0, 0, []), (64, .ior, 65, 0, 0, 0, 0, 0, []), (65, .istore_n 2, 66, 2, 0, 0, 0, 0, []), (66, .iload_n 3, 67, 3, 0, 0, 0, 0, []), (67, .aload_n 0, 68, 0, 0, 0, 0, 0, []), (68, .getfield 50, 71, 12, 39, 2, 0, 0, []), (71, .iload 4, 73, 4, 0, 0, 0, 0, []), (73, .iaload, 74, 0, 0, 0, 0, 0, []), (74, .invokestatic 210, 77, 3, 2, 0, 28, 0, []), (77, .istore_n 3, 78, 3, 0, 0, 0, 0, []), (78, .iinc 4 1, 81, 4, 0, 0, 0, 1, []), (81, .goto (-53), 84, 28, 0, 0, 0, 0, []), (84, .aload_n 0, 85, 0, 0, 0, 0, 0, []), (85, .iconst 0, 86, 0, 0, 0, 0, 0, []), (86, .putfield 82, 89, 12, 11, 0, 0, 0, []), (89, .aload_n 0, 90, 0, 0, 0, 0, 0, []), (90, .iload_n 3, 91, 3, 0, 0, 0, 0, []), (91, .invokevirtual 270, 94, 174, 2, 1, 25, 0, []), (94, .iload_n 2, 95, 2, 0, 0, 0, 0, []), (95, .ireturn, 96, 0, 0, 0, 0, 0, [])]
def zc_243 : List zE := [(0, .aload_n 0, 1, 0, 0, 0, 0, 0, []), (1, .iconst 0, 2, 0, 0, 0, 0, 0, []), (2, .putfield 78, 5, 12, 12, 0, 0, 0, []), (5, .aload_n 0, 6, 0, 0, 0, 0, 0, []), (6, .iload_n 1, 7, 1, 0, 0, 0, 0, []), (7, .invokevirtual 194, 10, 175, 2, 1, 24, 0, []), (10, .ifCond .eq 39, 13, 49, 0, 0, 0, 0, []), (13, .aload_n 0, 14, 0, 0, 0, 0, 0, []), (14, .iload_n 2, 15, 2, 0, 0, 0, 0, []), (15, .invokevirtual 194, 18, 175, 2, 1, 24, 0, []), (18, .ifCond .eq 31, 21, 49, 0, 0, 0, 0, []), (21, .aload_n 0, 22, 0, 0, 0, 0, 0, []), (22, .getfield 9, 25, 12, 0, 2, 0, 0, []), (25, .bipush 45, 27, 0, 0, 0, 0, 45, []), (27, .iaload, 28, 0, 0, 0, 0, 0, []), (28, .iload_n 1, 29, 1, 0, 0, 0, 0, []), (29, .invokestatic 213, 32, 172, 2, 0, 24, 0, []), (32, .ifCond .ne 17, 35, 49, 0, 0, 0, 0, []), (35, .aload_n 0, 36, 0, 0, 0, 0, 0, []), (36, .getfield 9, 39, 12, 0, 2, 0, 0, []), (39, .bipush 45, 41, 0, 0, 0, 0, 45, []), (41, .iaload, 42, 0, 0, 0, 0, 0, []), (42, .iload_n 2, 43, 2, 0, 0, 0, 0, []), (43, .invokestatic 213, 46, 172, 2, 0, 24, 0, []), (46, .ifCond .eq 5, 49, 51, 0, 0, 0, 0, []), (49, .iconst (-1), 50, 0, 0, 0, 0, (-1), []), (50, .ireturn, 51, 0, 0, 0, 0, 0, []), (51, .iconst 0, 52, 0, 0, 0, 0, 0, []), (52, .istore_n 3, 53, 3, 0, 0, 0, 0, []), (53, .iload_n 3, 54, 3, 0, 0, 0, 0, []), (54, .aload_n 0, 55, 0, 0, 0, 0, 0, []), (55, .getfield 85, 58, 12, 1, 0, 0, 0, []), (58, .if_icmp .ge 27, 61, 85, 0, 0, 0, 0, []), (61, .aload_n 0, 62, 0, 0, 0, 0, 0, []), (62, .getfield 53, 65, 12, 40, 2, 0, 0, []), (65, .iload_n 3, 66, 3, 0, 0, 0, 0, []), (66, .iload_n 3, 67, 3, 0, 0, 0, 0, []), (67, .iload_n 2, 68, 2, 0, 0, 0, 0, []), (68, .if_icmp .ne 7, 71, 75, 0, 0, 0, 0, []), (71, .iconst 0, 72, 0, 0, 0, 0, 0, []), (72, .goto 6, 75, 78, 0, 0, 0, 0, []), (75, .ldc_w 324, 78, 0, 0, 0, 0, 1000000, []), (78, .iastore, 79, 0, 0, 0, 0, 0, []), (79, .iinc 3 1, 82, 3, 0, 0, 0, 1, []), (82, .goto (-29), 85, 53, 0, 0, 0, 0, []), (85, .iconst 1, 86, 0, 0, 0, 0, 1, []), (86, .istore_n 3, 87, 3, 0, 0, 0, 0, []), (87, .iload_n 3, 88, 3, 0, 0, 0, 0, []), (88, .ifCond .eq 107, 91, 195, 0, 0, 0, 0, []), (91, .iconst 0, 92, 0, 0, 0, 0, 0, []), (92, .istore_n 3, 93, 3, 0, 0, 0, 0, []), (93, .iconst 0, 94, 0, 0, 0, 0, 0, []), (94, .istore 4, 96, 4, 0, 0, 0, 0, []), (96, .iload 4, 98, 4, 0, 0, 0, 0, []), (98, .aload_n 0, 99, 0, 0, 0, 0, 0, []), (99, .getfield 85, 102, 12, 1, 0, 0, 0, []), (102, .if_icmp .ge 90, 105, 192, 0, 0, 0, 0, []), (105, .iconst 0, 106, 0, 0, 0, 0, 0, []), (106, .istore 5, 108, 5, 0, 0, 0, 0, []), (108, .iload 5, 110, 5, 0, 0, 0, 0, []), (110, .aload_n 0, 111, 0, 0, 0, 0, 0, []), (111, .getfield 85, 114, 12, 1, 0, 0, 0, []), (114, .if_icmp .ge 72, 117, 186, 0, 0, 0, 0, []), (117, .aload_n 0, 118, 0, 0, 0, 0, 0, []), (118, .iload 4, 120, 4, 0, 0, 0, 0, []), (120, .iload 5, 122, 5, 0, 0, 0, 0, []), (122, .invokevirtual 329, 125, 244, 3, 1, 24, 0, []), (125, .ifCond .eq 55, 128, 180, 0, 0, 0, 0, []), (128, .aload_n 0, 129, 0, 0, 0, 0, 0, []), (129, .getfield 53, 132, 12, 40, 2, 0, 0, []), (132, .iload 5, 134, 5, 0, 0, 0, 0, []), (134, .iaload, 135, 0, 0, 0, 0, 0, []), (135, .aload_n 0, 136, 0, 0, 0, 0, 0, []), (136, .getfield 13, 139, 12, 2, 2, 0, 0, []), (139, .iload 5, 141, 5, 0, 0, 0, 0, []), (141, .iaload, 142, 0, 0, 0, 0, 0, []), (142, .iadd, 143, 0, 0, 0, 0, 0, []), (143, .aload_n 0, 144, 0, 0, 0, 0, 0, []), (144, .getfield 53, 147, 12, 40, 2, 0, 0, []), (147, .iload 4, 149, 4, 0, 0, 0, 0, []), (149, .iaload, 150, 0, 0, 0, 0, 0, []), (150, .if_icmp .lt 6, 153, 156, 0, 0, 0, 0, []), (153, .goto 27, 156, 180, 0, 0, 0, 0, []), (156, .aload_n 0, 157, 0, 0, 0, 0, 0, []), (157, .getfield 53, 160, 12, 40, 2, 0, 0, []), (160, .iload 4, 162, 4, 0, 0, 0, 0, []), (162, .aload_n 0, 163, 0, 0, 0, 0, 0, []), (163, .getfield 53, 166, 12, 40, 2, 0, 0, []), (166, .iload 5, 168, 5, 0, 0, 0, 0, []), (168, .iaload, 169, 0, 0, 0, 0, 0, []), (169, .aload_n 0, 170, 0, 0, 0, 0, 0, []), (170, .getfield 13, 173, 12, 2, 2, 0, 0, []), (173, .iload 5, 175, 5, 0, 0, 0, 0, []), (175, .iaload, 176, 0, 0, 0, 0, 0, []), (176, .iadd, 177, 0, 0, 0, 0, 0, []), (177, .iastore, 178, 0, 0, 0, 0, 0, []), (178, .iconst 1, 179, 0, 0, 0, 0, 1, []), (179, .istore_n 3, 180, 3, 0, 0, 0, 0, []), (180, .iinc 5 1, 183, 5, 0, 0, 0, 1, []), (183, .goto (-75), 186, 108, 0, 0, 0, 0, []), (186, .iinc 4 1, 189, 4, 0, 0, 0, 1, []), (189, .goto (-93), 192, 96, 0, 0, 0, 0, []), (192, .goto (-105), 195, 87, 0, 0, 0, 0, []), (195, .aload_n 0, 196, 0, 0, 0, 0, 0, []), (196, .getfield 53, 199, 12, 40, 2, 0, 0, []), (199, .iload_n 1, 200, 1, 0, 0, 0, 0, []), (200, .iaload, 201, 0, 0, 0, 0, 0, []), (201, .ldc_w 324, 204, 0, 0, 0, 0, 1000000, []), (204, .if_icmp .lt 6, 207, 210, 0, 0, 0, 0, []), (207, .bipush (-2), 209, 0, 0, 0, 0, (-2), []), (209, .ireturn, 210, 0, 0, 0, 0, 0, []), (210, .aload_n 0, 211, 0, 0, 0, 0, 0, []), (211, .iconst 0, 212, 0, 0, 0, 0, 0, []), (212, .putfield 82, 215, 12, 11, 0, 0, 0, []), (215, .iload_n 1, 216, 1, 0, 0, 0, 0, []), (216, .istore 4, 218, 4, 0, 0, 0, 0, []), (218, .iload 4, 220, 4, 0, 0, 0, 0, []), (220, .iload_n 2, 221, 2, 0, 0, 0, 0, []), (221, .if_icmp .eq 61, 224, 282, 0, 0, 0, 0, []), (224, .iconst 0, 225, 0, 0, 0, 0, 0, []), (225, .istore 5, 227, 5, 0, 0, 0, 0, []), (227, .aload_n 0, 228, 0, 0, 0, 0, 0, []), (228, .iload 4, 230, 4, 0, 0, 0, 0, []), (230, .iload 5, 232, 5, 0, 0, 0, 0, []), (232, .invokevirtual 329, 235, 244, 3, 1, 24, 0, []), (235, .ifCond .eq 28, 238, 263, 0, 0, 0, 0, []), (238, .aload_n 0, 239, 0, 0, 0, 0, 0, []), (239, .getfield 53, 242, 12, 40, 2, 0, 0, []), (242, .iload 5, 244, 5, 0, 0, 0, 0, []), (244, .iaload, 245, 0, 0, 0, 0, 0, []), (245, .aload_n 0, 246, 0, 0, 0, 0, 0, []), (246, .getfield 13, 249, 12, 2, 2, 0, 0, []), (249, .iload 5, 251, 5, 0, 0, 0, 0, []), (251, .iaload, 252, 0, 0, 0, 0, 0, []), (252, .iadd, 253, 0, 0, 0, 0, 0, []), (253, .aload_n 0, 254, 0, 0, 0, 0, 0, []), (254, .getfield 53, 257, 12, 40, 2, 0, 0, []), (257, .iload 4, 259, 4, 0, 0, 0, 0, []), (259, .iaload, 260, 0, 0, 0, 0, 0, []), (260, .if_icmp .eq 9, 263, 269, 0, 0, 0, 0, []), (263, .iinc 5 1, 266, 5, 0, 0, 0, 1, []), (266, .goto (-39), 269, 227, 0, 0, 0, 0, []), (269, .aload_n 0, 270, 0, 0, 0, 0, 0, []), (270, .iload 5, 272, 5, 0, 0, 0, 0, []), (272, .invokevirtual 270, 275, 174, 2, 1, 25, 0, []), (275, .iload 5, 277, 5, 0, 0, 0, 0, []), (277, .istore 4, 279, 4, 0, 0, 0, 0, []), (279, .goto (-61), 282, 218, 0, 0, 0, 0, []), (282, .aload_n 0, 283, 0, 0, 0, 0, 0, []), (283, .getfield 53, 286, 12, 40, 2, 0, 0, []), (286, .iload_n 1, 287, 1, 0, 0, 0, 0, []), (287, .iaload, 288, 0, 0, 0, 0, 0, []), (288, .ireturn, 289, 0, 0, 0, 0, 0, [])]
def zc_244 : List zE := [(0, .aload_n 0, 1, 0, 0, 0, 0, 0, []), (1, .getfield 9, 4, 12, 0, 2, 0, 0, []), (4, .bipush 45, 6, 0, 0, 0, 0, 45, []), (6, .iaload, 7, 0, 0, 0, 0, 0, []), (7, .iload_n 1, 8, 1, 0, 0, 0, 0, []), (8, .invokestatic 213, 11, 172, 2, 0, 24, 0, []), (11, .ifCond .ne 33, 14, 44, 0, 0, 0, 0, []), (14, .aload_n 0, 15, 0, 0, 0, 0, 0, []), (15, .getfield 9, 18, 12, 0, 2, 0, 0, []), (18, .bipush 45, 20, 0, 0, 0, 0, 45, []), (20, .iaload, 21, 0, 0, 0, 0, 0, []), (21, .iload_n 2, 22, 2, 0, 0, 0, 0, []), (22, .invokestatic 213, 25, 172, 2, 0, 24, 0, []), (25, .ifCond .ne 19, 28, 44, 0, 0, 0, 0, []), (28, .aload_n 0, 29, 0, 0, 0, 0, 0, []), (29, .iload_n 2, 30, 2, 0, 0, 0, 0, []), (30, .invokevirtual 201, 33, 177, 2, 1, 24, 0, []), (33, .iload_n 1, 34, 1, 0, 0, 0, 0, []), (34, .invokestatic 213, 37, 172, 2, 0, 24, 0, []), (37, .ifCond .eq 7, 40, 44, 0, 0, 0, 0, []), (40, .iconst 1, 41, 0, 0, 0, 0, 1, []), (41, .goto 4, 44, 45, 0, 0, 0, 0, []), (44, .iconst 0, 45, 0, 0, 0, 0, 0, []), (45, .ireturn, 46, 0, 0, 1, 0, 0, [])]
def zc_245 : List zE := [(0, .aload_n 0, 1, 0, 0, 0, 0, 0, []), (1, .iconst 0, 2, 0, 0, 0, 0, 0, []), (2, .putfield 78, 5, 12, 12, 0, 0, 0, []), (5, .iconst (-1), 6, 0, 0, 0, 0, (-1), []), (6, .istore_n 1, 7, 1, 0, 0, 0, 0, []), (7, .iconst 0, 8, 0, 0, 0, 0, 0, []), (8, .istore_n 2, 9, 2, 0, 0, 0, 0, []), (9, .iload_n 2, 10, 2, 0, 0, 0, 0, []), (10, .aload_n 0, 11, 0, 0, 0, 0, 0, []), (11, .invokevirtual 92, 14, 176, 1, 1, 24, 0, []), (14, .if_icmp .gt 42, 17, 56, 0, 0, 0, 0, []), (17, .iload_n 1, 18, 1, 0, 0, 0, 0, []), (18, .iconst (-1), 19, 0, 0, 0, 0, (-1), []), (19, .if_icmp .eq 17, 22, 36, 0, 0, 0, 0, []), (22, .iload_n 2, 23, 2, 0, 0, 0, 0, []), (23, .invokestatic 223, 26, 0, 1, 0, 26, 0, []), (26, .iload_n 1, 27, 1, 0, 0, 0, 0, []), (27, .invokestatic 223, 30, 0, 1, 0, 26, 0, []), (30, .if_icmp .lt 6, 33, 36, 0, 0, 0, 0, []), (33, .goto 17, 36, 50, 0, 0, 0, 0, []), (36, .aload_n 0, 37, 0, 0, 0, 0, 0, []), (37, .iload_n 2, 38, 2, 0, 0, 0, 0, []), (38, .invokevirtual 220, 41, 203, 2, 1, 24, 0, []), (41, .aload_n 0, 42, 0, 0, 0, 0, 0, []), (42, .invokevirtual 92, 45, 176, 1, 1, 24, 0, []), (45, .if_icmp .ne 5, 48, 50, 0, 0, 0, 0, []), (48, .iload_n 2, 49, 2, 0, 0, 0, 0, []), (49, .istore_n 1, 50, 1, 0, 0, 0, 0, []), (50, .iinc 2 1, 53, 2, 0, 0, 0, 1, []), (53, .goto (-44), 56, 9, 0, 0, 0, 0, []), (56, .iload_n 1, 57, 1, 0, 0, 0, 0, []), (57, .iconst (-1), 58, 0, 0, 0, 0, (-1), []), (58, .if_icmp .ne 6, 61, 64, 0, 0, 0, 0, []), (61, .bipush (-2), 63, 0, 0, 0, 0, (-2), []), (63, .ireturn, 64, 0, 0, 0, 0, 0, []), (64, .aload_n 0, 65, 0, 0, 0, 0, 0, []), (65, .iconst 0, 66, 0, 0, 0, 0, 0, []), (66, .putfield 82, 69, 12, 11, 0, 0, 0, []), (69, .aload_n 0, 70, 0, 0, 0, 0, 0, []), (70, .iload_n 1, 71, 1, 0, 0, 0, 0, []), (71, .invokevirtual 270, 74, 174, 2, 1, 25, 0, []), (74, .iload_n 1, 75, 1, 0, 0, 0, 0, []), (75, .invokestatic 223, 78, 0, 1, 0, 26, 0, []), (78, .ireturn, 79, 0, 0, 0, 0, 0, [])]
def zc_246 : List zE := [(0, .iconst 0, 1, 0, 0, 0, 0, 0, []), (1, .bipush 9, 3, 0, 0, 0, 0, 9, []), (3, .iload_n 0, 4, 0, 0, 0, 0, 0, []), (4, .iload_n 1, 5, 1, 0, 0, 0, 0, []), (5, .iadd, 6, 0, 0, 0, 0, 0, []), (6, .invokestatic 204, 9, 4, 2, 0, 28, 0, []), (9, .invokestatic 210, 12, 3, 2, 0, 28, 0, []), (12, .ireturn, 13, 0, 0, 0, 0, 0, [])]
def zc_247 : List zE := [(0, .aload_n 0, 1, 0, 0, 0, 0, 0, []), (1, .invokevirtual 300, 4, 227, 1, 1, 25, 0, []), (4, .aload_n 0, 5, 0, 0, 0, 0, 0, []), (5, .getfield 44, 8, 12, 34, 2, 0, 0, []), (8, .iload_n 1, 9, 1, 0, 0, 0, 0, []), (9, .aload_n 0, 10, 0, 0, 0, 0, 0, []), (10, .getfield 44, 13, 12, 34, 2, 0, 0, []), (13, .iload_n 1, 14, 1, 0, 0, 0, 0, []), (14, .iaload, 15, 0, 0, 0, 0, 0, []), (15, .iload_n 2, 16, 2, 0, 0, 0, 0, []), (16, .invokestatic 332, 19, 246, 2, 0, 24, 0, []), (19, .iastore, 20, 0, 0, 0, 0, 0, []), (20, .aload_n 0, 21, 0, 0, 0, 0, 0, []), (21, .sipush 300, 24, 0, 0, 0, 0, 300, []), (24, .invokevirtual 303, 27, 228, 2, 1, 24, 0, []), (27, .ireturn, 28, 0, 0, 0, 0, 0, [])]
def zc_248 : List zE := [(0, .aload_n 0, 1, 0, 0, 0, 0, 0, []), (1, .iconst 0, 2, 0, 0, 0, 0, 0, []), (2, .putfield 78, 5, 12, 12, 0, 0, 0, []), (5, .iload_n 1, 6, 1, 0, 0, 0, 0, []), (6, .iconst 1, 7, 0, 0, 0, 0, 1, []), (7, .bipush 9, 9, 0, 0, 0, 0, 9, []), (9, .invokestatic 88, 12, 171, 3, 0, 24, 0, []), (12, .ifCond .eq 14, 15, 26, 0, 0, 0, 0, []), (15, .iload_n 2, 16, 2, 0, 0, 0, 0, []), (16, .iconst 0, 17, 0, 0, 0, 0, 0, []), (17, .sipush 299, 20, 0, 0, 0, 0, 299, []), (20, .invokestatic 88, 23, 171, 3, 0, 24, 0, []), (23, .ifCond .ne 5, 26, 28, 0, 0, 0, 0, []), (26, .iconst (-1), 27, 0, 0, 0, 0, (-1), []), (27, .ireturn, 28, 0, 0, 0, 0, 0, []), (28, .bipush (-2), 30, 0, 0, 0, 0, (-2), []), (30, .istore_n 3, 31, 3, 0, 0, 0, 0, []), (31, .iconst (-1), 32, 0, 0, 0, 0, (-1), []), (32, .istore 4, 34, 4, 0, 0, 0, 0, []), (34, .ldc_w 335, 37, 0, 0, 0, 0, 1000001, []), (37, .istore 5, 39, 5, 0, 0, 0, 0, []), (39, .iconst 0, 40, 0, 0, 0, 0, 0, []), (40, .istore 6, 42, 6, 0, 0, 0, 0, []), (42, .iload 6, 44, 6, 0, 0, 0, 0, []), (44, .aload_n 0, 45, 0, 0, 0, 0, 0, []), (45, .getfield 85, 48, 12, 1, 0, 0, 0, []), (48, .if_icmp .ge 60, 51, 108, 0, 0, 0, 0, []), (51, .aload_n 0, 52, 0, 0, 0, 0, 0, []), (52, .iload 6, 54, 6, 0, 0, 0, 0, []), (54, .iload_n 1, 55, 1, 0, 0, 0, 0, []), (55, .invokevirtual 336, 58, 247, 3, 1, 24, 0, []), (58, .istore 7, 60, 7, 0, 0, 0, 0, []), (60, .iload 7, 62, 7, 0, 0, 0, 0, []), (62, .iconst (-1), 63, 0, 0, 0, 0, (-1), []), (63, .if_icmp .ne 9, 66, 72, 0, 0, 0, 0, []), (66, .ldc_w 324, 69, 0, 0, 0, 0, 1000000, []), (69, .goto 10, 72, 79, 0, 0, 0, 0, []), (72, .iload 7, 74, 7, 0, 0, 0, 0, []), (74, .iload_n 2, 75, 2, 0, 0, 0, 0, []), (75, .isub, 76, 0, 0, 0, 0, 0, []), (76, .invokestatic 339, 79, 2, 1, 0, 28, 0, []), (79, .istore 8, 81, 8, 0, 0, 0, 0, []), (81, .iload 8, 83, 8, 0, 0, 0, 0, []), (83, .iload 5, 85, 5, 0, 0, 0, 0, []), (85, .if_icmp .lt 6, 88, 91, 0, 0, 0, 0, []), (88, .goto 14, 91, 102, 0, 0, 0, 0, []), (91, .iload 6, 93, 6, 0, 0, 0, 0, []), (93, .istore_n 3, 94, 3, 0, 0, 0, 0, []), (94, .iload 7, 96, 7, 0, 0, 0, 0, []), (96, .istore 4, 98, 4, 0, 0, 0, 0, []), (98, .iload 8, 100, 8, 0, 0, 0, 0, []), (100, .istore 5, 102, 5, 0, 0, 0, 0, []), (102, .iinc 6 1, 105, 6, 0, 0, 0, 1, []), (105, .goto (-63), 108, 42, 0, 0, 0, 0, []), (108, .iload_n 3, 109, 3, 0, 0, 0, 0, []), (109, .ifCond .ge 6, 112, 115, 0, 0, 0, 0, []), (112, .bipush (-2), 114, 0, 0, 0, 0, (-2), []), (114, .ireturn, 115, 0, 0, 0, 0, 0, []), (115, .aload_n 0, 116, 0, 0, 0, 0, 0, []), (116, .iconst 0, 117, 0, 0, 0, 0, 0, []), (117, .putfield 82, 120, 12, 11, 0, 0, 0, []), (120, .aload_n 0, 121, 0, 0, 0, 0, 0, []), (121, .iload 4, 123, 4, 0, 0, 0, 0, []), (123, .invokevirtual 270, 126, 174, 2, 1, 25, 0, []), (126, .iload_n 3, 127, 3, 0, 0, 0, 0, []), (127, .ireturn, 128, 0, 0, 0, 0, 0, [])]
def zc_249 : List zE := [(0, .iload_n 0, 1, 0, 0, 0, 0, 0, []), (1, .iconst (-1), 2, 0, 0, 0, 0, (-1), []), (2, .if_icmp .ne 9, 5, 11, 0, 0, 0, 0, []), (5, .ldc_w 324, 8, 0, 0, 0, 0, 1000000, []), (8, .goto 4, 11, 12, 0, 0, 0, 0, []), (11, .iload_n 0, 12, 0, 0, 0, 0, 0, []), (12, .ireturn, 13, 0, 0, 0, 0, 0, [])]
def zc_250 : List zE := [(0, .aload_n 0, 1, 0, 0, 0, 0, 0, []), (1, .iconst 0, 2, 0, 0, 0, 0, 0, []), (2, .putfield 78, 5, 12, 12, 0, 0, 0, []), (5, .bipush (-2), 7, 0, 0, 0, 0, (-2), []), (7, .istore_n 1, 8, 1, 0, 0, 0, 0, []), (8, .iconst (-1), 9, 0, 0, 0, 0, (-1), []), (9, .istore_n 2, 10, 2, 0, 0, 0, 0, []), (10, .iconst 0, 11, 0, 0, 0, 0, 0, []), (11, .istore_n 3, 12, 3, 0, 0, 0, 0, []), (12, .iload_n 3, 13, 3, 0, 0, 0, 0, []), (13, .aload_n 0, 14, 0, 0, 0, 0, 0, []), (14, .getfield 85, 17, 12, 1, 0, 0, 0, []), (17, .if_icmp .ge 70, 20, 87, 0, 0, 0, 0, []), (20, .aload_n 0, 21, 0, 0, 0, 0, 0, []), (21, .aload_n 0, 22, 0, 0, 0, 0, 0, []), (22, .getfield 9, 25, 12, 0, 2, 0, 0, []), (25, .iload_n 3, 26, 3, 0, 0, 0, 0, []), (26, .invokevirtual 256, 29, 210, 3, 1, 24, 0, []), (29, .ifCond .ne 6, 32, 35, 0, 0, 0, 0, []), (32, .goto 49, 35, 81, 0, 0, 0, 0, []), (35, .aload_n 0, 36, 0, 0, 0, 0, 0, []), (36, .invokevirtual 300, 39, 227, 1, 1, 25, 0, []), (39, .aload_n 0, 40, 0, 0, 0, 0, 0, []), (40, .getfield 44, 43, 12, 34, 2, 0, 0, []), (43, .iload_n 3, 44, 3, 0, 0, 0, 0, []), (44, .iconst 1, 45, 0, 0, 0, 0, 1, []), (45, .invokestatic 264, 48, 211, 3, 0, 25, 0, []), (48, .aload_n 0, 49, 0, 0, 0, 0, 0, []), (49, .sipush 300, 52, 0, 0, 0, 0, 300, []), (52, .invokevirtual 303, 55, 228, 2, 1, 24, 0, []), (55, .istore 4, 57, 4, 0, 0, 0, 0, []), (57, .iload_n 1, 58, 1, 0, 0, 0, 0, []), (58, .ifCond .lt 18, 61, 76, 0, 0, 0, 0, []), (61, .iload 4, 63, 4, 0, 0, 0, 0, []), (63, .invokestatic 342, 66, 249, 1, 0, 24, 0, []), (66, .iload_n 2, 67, 2, 0, 0, 0, 0, []), (67, .invokestatic 342, 70, 249, 1, 0, 24, 0, []), (70, .if_icmp .lt 6, 73, 76, 0, 0, 0, 0, []), (73, .goto 8, 76, 81, 0, 0, 0, 0, []), (76, .iload_n 3, 77, 3, 0, 0, 0, 0, []), (77, .istore_n 1, 78, 1, 0, 0, 0, 0, []), (78, .iload 4, 80, 4, 0, 0, 0, 0, []), (80, .istore_n 2, 81, 2, 0, 0, 0, 0, []), (81, .iinc 3 1, 84, 3, 0, 0, 0, 1, []), (84, .goto (-72), 87, 12, 0, 0, 0, 0, []), (87, .iload_n 1, 88, 1, 0, 0, 0, 0, []), (88, .ifCond .ge 6, 91, 94, 0, 0, 0, 0, []), (91, .bipush (-2), 93, 0, 0, 0, 0, (-2), []), (93, .ireturn, 94, 0, 0, 0, 0, 0, []), (94, .aload_n 0, 95, 0, 0, 0, 0, 0, []), (95, .invokevirtual 300, 98, 227, 1, 1, 25, 0, []), (98, .aload_n 0, 99, 0, 0, 0, 0, 0, []), (99, .sipush 300, 102, 0, 0, 0, 0, 300, []), (102, .invokevirtual 303, 105, 228, 2, 1, 24, 0, []), (105, .istore_n 3, 106, 3, 0, 0, 0, 0, []), (106, .aload_n 0, 107, 0, 0, 0, 0, 0, []), (107, .iconst 0, 108, 0, 0, 0, 0, 0, []), (108, .putfield 82, 111, 12, 11, 0, 0, 0, []), (111, .aload_n 0, 112, 0, 0, 0, 0, 0, []), (112, .iload_n 2, 113, 2, 0, 0, 0, 0, []), (113, .invokevirtual 270, 116, 174, 2, 1, 25, 0, []), (116, .aload_n 0, 117, 0, 0, 0, 0, 0, []), (117, .iload_n 3, 118, 3, 0, 0, 0, 0, []), (118, .invokevirtual 270, 121, 174, 2, 1, 25, 0, []), (121, .iload_n 1, 122, 1, 0, 0, 0, 0, []), (122, .ireturn, 123, 0, 0, 0, 0, 0, [])]
def zc_251 : List zE := [(0, .aload_n 0, 1, 0, 0, 0, 0, 0, []), (1, .iconst 0, 2, 0, 0, 0, 0, 0, []), (2, .putfield 78, 5, 12, 12, 0, 0, 0, []), (5, .aload_n 0, 6, 0, 0, 0, 0, 0, []), (6, .iload_n 1, 7, 1, 0, 0, 0, 0, []), (7, .invokevirtual 194, 10, 175, 2, 1, 24, 0, []), (10, .ifCond .eq 10, 13, 20, 0, 0, 0, 0, []), (13, .iload_n 2, 14, 2, 0, 0, 0, 0, []), (14, .invokestatic 312, 17, 178, 1, 0, 24, 0, []), (17, .ifCond .ne 5, 20, 22, 0, 0, 0, 0, []), (20, .iconst (-1), 21, 0, 0, 0, 0, (-1), []), (21, .ireturn, 22, 0, 0, 0, 0, 0, []), (22, .iconst 0, 23, 0, 0, 0, 0, 0, []), (23, .istore_n 3, 24, 3, 0, 0, 0, 0, []), (24, .iload_n 3, 25, 3, 0, 0, 0, 0, []), (25, .bipush 9, 27, 0, 0, 0, 0, 9, []), (27, .if_icmp .gt 47, 30, 74, 0, 0, 0, 0, []), (30, .aload_n 0, 31, 0, 0, 0, 0, 0, []), (31, .invokevirtual 300, 34, 227, 1, 1, 25, 0, []), (34, .aload_n 0, 35, 0, 0, 0, 0, 0, []), (35, .getfield 44, 38, 12, 34, 2, 0, 0, []), (38, .iload_n 1, 39, 1, 0, 0, 0, 0, []), (39, .aload_n 0, 40, 0, 0, 0, 0, 0, []), (40, .getfield 44, 43, 12, 34, 2, 0, 0, []), (43, .iload_n 1, 44, 1, 0, 0, 0, 0, []), (44, .iaload, 45, 0, 0, 0, 0, 0, []), (45, .iload_n 3, 46, 3, 0, 0, 0, 0, []), (46, .ineg, 47, 0, 0, 0, 0, 0, []), (47, .invokestatic 332, 50, 246, 2, 0, 24, 0, []), (50, .iastore, 51, 0, 0, 0, 0, 0, []), (51, .aload_n 0, 52, 0, 0, 0, 0, 0, []), (52, .iload_n 2, 53, 2, 0, 0, 0, 0, []), (53, .invokevirtual 309, 56, 230, 2, 1, 24, 0, []), (56, .pop, 57, 0, 0, 0, 0, 0, []), (57, .aload_n 0, 58, 0, 0, 0, 0, 0, []), (58, .getfield 47, 61, 12, 37, 2, 0, 0, []), (61, .iload_n 1, 62, 1, 0, 0, 0, 0, []), (62, .iaload, 63, 0, 0, 0, 0, 0, []), (63, .ifCond .ne 5, 66, 68, 0, 0, 0, 0, []), (66, .iload_n 3, 67, 3, 0, 0, 0, 0, []), (67, .ireturn, 68, 0, 0, 0, 0, 0, []), (68, .iinc 3 1, 71, 3, 0, 0, 0, 1, []), (71, .goto (-47), 74, 24, 0, 0, 0, 0, []), (74, .bipush (-2), 76, 0, 0, 0, 0, (-2), []), (76, .ireturn, 77, 0, 0, 0, 0, 0, [])]
def zc_252 : List zE := [(0, .aload_n 0, 1, 0, 0, 0, 0, 0, []), (1, .iconst 0, 2, 0, 0, 0, 0, 0, []), (2, .putfield 78, 5, 12, 12, 0, 0, 0, []), (5, .iload_n 1, 6, 1, 0, 0, 0, 0, []), (6, .invokestatic 312, 9, 178, 1, 0, 24, 0, []), (9, .ifCond .ne 5, 12, 14, 0, 0, 0, 0, []), (12, .iconst (-1), 13, 0, 0, 0, 0, (-1), []), (13, .ireturn, 14, 0, 0, 0, 0, 0, []), (14, .iconst (-1), 15, 0, 0, 0, 0, (-1), []), (15, .istore_n 2, 16, 2, 0, 0, 0, 0, []), (16, .iconst 0, 17, 0, 0, 0, 0, 0, []), (17, .istore_n 3, 18, 3, 0, 0, 0, 0, []), (18, .iload_n 3, 19, 3, 0, 0, 0, 0, []), (19, .aload_n 0, 20, 0, 0, 0, 0, 0, []), (20, .invokevirtual 92, 23, 176, 1, 1, 24, 0, []), (23, .if_icmp .gt 102, 26, 125, 0, 0, 0, 0, []), (26, .iload_n 3, 27, 3, 0, 0, 0, 0, []), (27, .aload_n 0, 28, 0, 0, 0, 0, 0, []), (28, .getfield 9, 31, 12, 0, 2, 0, 0, []), (31, .bipush 45, 33, 0, 0, 0, 0, 45, []), (33, .iaload, 34, 0, 0, 0, 0, 0, []), (34, .iand, 35, 0, 0, 0, 0, 0, []), (35, .ifCond .ne 84, 38, 119, 0, 0, 0, 0, []), (38, .iload_n 2, 39, 2, 0, 0, 0, 0, []), (39, .iconst (-1), 40, 0, 0, 0, 0, (-1), []), (40, .if_icmp .eq 17, 43, 57, 0, 0, 0, 0, []), (43, .iload_n 3, 44, 3, 0, 0, 0, 0, []), (44, .invokestatic 223, 47, 0, 1, 0, 26, 0, []), (47, .iload_n 2, 48, 2, 0, 0, 0, 0, []), (48, .invokestatic 223, 51, 0, 1, 0, 26, 0, []), (51, .if_icmp .lt 6, 54, 57, 0, 0, 0, 0, []), (54, .goto 65, 57, 119, 0, 0, 0, 0, []), (57, .aload_n 0, 58, 0, 0, 0, 0, 0, []), (58, .invokevirtual 300, 61, 227, 1, 1, 25, 0, []), (61, .iconst 0, 62, 0, 0, 0, 0, 0, []), (62, .istore 4, 64, 4, 0, 0, 0, 0, []), (64, .iload 4, 66, 4, 0, 0, 0, 0, []), (66, .aload_n 0, 67, 0, 0, 0, 0, 0, []), (67, .getfield 85, 70, 12, 1, 0, 0, 0, []), (70, .if_icmp .ge 27, 73, 97, 0, 0, 0, 0, []), (73, .iload_n 3, 74, 3, 0, 0, 0, 0, []), (74, .iload 4, 76, 4, 0, 0, 0, 0, []), (76, .invokestatic 213, 79, 172, 2, 0, 24, 0, []), (79, .ifCond .eq 12, 82, 91, 0, 0, 0, 0, []), (82, .aload_n 0, 83, 0, 0, 0, 0, 0, []), (83, .getfield 44, 86, 12, 34, 2, 0, 0, []), (86, .iload 4, 88, 4, 0, 0, 0, 0, []), (88, .invokestatic 136, 91, 190, 2, 0, 25, 0, []), (91, .iinc 4 1, 94, 4, 0, 0, 0, 1, []), (94, .goto (-30), 97, 64, 0, 0, 0, 0, []), (97, .aload_n 0, 98, 0, 0, 0, 0, 0, []), (98, .getfield 44, 101, 12, 34, 2, 0, 0, []), (101, .bipush 45, 103, 0, 0, 0, 0, 45, []), (103, .dup2, 104, 0, 0, 0, 0, 0, []), (104, .iaload, 105, 0, 0, 0, 0, 0, []), (105, .iload_n 3, 106, 3, 0, 0, 0, 0, []), (106, .ior, 107, 0, 0, 0, 0, 0, []), (107, .iastore, 108, 0, 0, 0, 0, 0, []), (108, .aload_n 0, 109, 0, 0, 0, 0, 0, []), (109, .iload_n 1, 110, 1, 0, 0, 0, 0, []), (110, .invokevirtual 303, 113, 228, 2, 1, 24, 0, []), (113, .iconst (-1), 114, 0, 0, 0, 0, (-1), []), (114, .if_icmp .ne 5, 117, 119, 0, 0, 0, 0, []), (117, .iload_n 3, 118, 3, 0, 0, 0, 0, []), (118, .istore_n 2, 119, 2, 0, 0, 0, 0, []), (119, .iinc 3 1, 122, 3, 0, 0, 0, 1, []), (122, .goto (-104), 125, 18, 0, 0, 0, 0, []), (125, .aload_n 0, 126, 0, 0, 0, 0, 0, []), (126, .iconst 0, 127, 0, 0, 0, 0, 0, []), (127, .putfield 82, 130, 12, 11, 0, 0, 0, []), (130, .aload_n 0, 131, 0, 0, 0, 0, 0, []), (131, .iload_n 2, 132, 2, 0, 0, 0, 0, []), (132, .invokevirtual 270, 135, 174, 2, 1, 25, 0, []), (135, .iload_n 2, 136, 2, 0, 0, 0, 0, []), (136, .invokestatic 223, 139, 0, 1, 0, 26, 0, []), (139, .ireturn, 140, 0, 0, 0, 0, 0, [])]
def zc_253 : List zE := [(0, .aload_n 0, 1, 0, 0, 0, 0, 0, []), (1, .invokevirtual 300, 4, 227, 1, 1, 25, 0, []), (4, .iconst 0, 5, 0, 0, 0, 0, 0, []), (5, .istore_n 3, 6, 3, 0, 0, 0, 0, []), (6, .iconst 0, 7, 0, 0, 0, 0, 0, []), (7, .istore 4, 9, 4, 0, 0, 0, 0, []), (9, .iload 4, 11, 4, 0, 0, 0, 0, []), (11, .iload_n 2, 12, 2, 0, 0, 0, 0, []), (12, .if_icmp .ge 75, 15, 87, 0, 0, 0, 0, []), (15, .aload_n 0, 16, 0, 0, 0, 0, 0, []), (16, .aload_n 0, 17, 0, 0, 0, 0, 0, []), (17, .getfield 44, 20, 12, 34, 2, 0, 0, []), (20, .invokevirtual 273, 23, 205, 2, 1, 25, 0, []), (23, .iconst 1, 24, 0, 0, 0, 0, 1, []), (24, .istore 5, 26, 5, 0, 0, 0, 0, []), (26, .iload 5, 28, 5, 0, 0, 0, 0, []), (28, .aload_n 0, 29, 0, 0, 0, 0, 0, []), (29, .getfield 228, 32, 12, 26, 0, 0, 0, []), (32, .invokestatic 223, 35, 0, 1, 0, 26, 0, []), (35, .if_icmp .gt 46, 38, 81, 0, 0, 0, 0, []), (38, .iload_n 3, 39, 3, 0, 0, 0, 0, []), (39, .aload_n 0, 40, 0, 0, 0, 0, 0, []), (40, .getfield 44, 43, 12, 34, 2, 0, 0, []), (43, .bipush 48, 45, 0, 0, 0, 0, 48, []), (45, .iconst 4, 46, 0, 0, 0, 0, 4, []), (46, .aload_n 0, 47, 0, 0, 0, 0, 0, []), (47, .getfield 44, 50, 12, 34, 2, 0, 0, []), (50, .bipush 47, 52, 0, 0, 0, 0, 47, []), (52, .iaload, 53, 0, 0, 0, 0, 0, []), (53, .iload 5, 55, 5, 0, 0, 0, 0, []), (55, .isub, 56, 0, 0, 0, 0, 0, []), (56, .bipush 60, 58, 0, 0, 0, 0, 60, []), (58, .irem, 59, 0, 0, 0, 0, 0, []), (59, .imul, 60, 0, 0, 0, 0, 0, []), (60, .iadd, 61, 0, 0, 0, 0, 0, []), (61, .iconst 2, 62, 0, 0, 0, 0, 2, []), (62, .iadd, 63, 0, 0, 0, 0, 0, []), (63, .iaload, 64, 0, 0, 0, 0, 0, []), (64, .iload_n 1, 65, 1, 0, 0, 0, 0, []), (65, .if_icmp .ne 7, 68, 72, 0, 0, 0, 0, []), (68, .iconst 1, 69, 0, 0, 0, 0, 1, []), (69, .goto 4, 72, 73, 0, 0, 0, 0, []), (72, .iconst 0, 73, 0, 0, 0, 0, 0, []), (73, .iadd, 74, 0, 0, 0, 0, 0, []), (74, .istore_n 3, 75, 3, 0, 0, 0, 0, []), (75, .iinc 5 1, 78, 5, 0, 0, 0, 1, []), (78, .goto (-52), 81, 26, 0, 0, 0, 0, []), (81, .iinc 4 1, 84, 4, 0, 0, 0, 1, []), (84, .goto (-75), 87, 9, 0, 0, 0, 0, []), (87, .iload_n 3, 88, 3, 0, 0, 0, 0, []), (88, .ireturn, 89, 0, 0, 0, 0, 0, [])]
def zc_254 : List zE := [(0, .aload_n 0, 1, 0, 0, 0, 0, 0, []), (1, .iconst 0, 2, 0, 0, 0, 0, 0, []), (2, .putfield 78, 5, 12, 12, 0, 0, 0, []), (5, .aload_n 0, 6, 0, 0, 0, 0, 0, []), (6, .iload_n 1, 7, 1, 0, 0, 0, 0, []), (7, .invokevirtual 194, 10, 175, 2, 1, 24, 0, []), (10, .ifCond .eq 10, 13, 20, 0, 0, 0, 0, []), (13, .iload_n 2, 14, 2, 0, 0, 0, 0, []), (14, .invokestatic 312, 17, 178, 1, 0, 24, 0, []), (17, .ifCond .ne 6, 20, 23, 0, 0, 0, 0, []), (20, .bipush (-2), 22, 0, 0, 0, 0, (-2), []), (22, .ireturn, 23, 0, 0, 0, 0, 0, []), (23, .iconst (-1), 24, 0, 0, 0, 0, (-1), []), (24, .istore_n 3, 25, 3, 0, 0, 0, 0, []), (25, .aload_n 0, 26, 0, 0, 0, 0, 0, []), (26, .iload_n 1, 27, 1, 0, 0, 0, 0, []), (27, .iload_n 2, 28, 2, 0, 0, 0, 0, []), (28, .invokevirtual 345, 31, 253, 3, 1, 24, 0, []), (31, .istore 4, 33, 4, 0, 0, 0, 0, []), (33, .iconst 0, 34, 0, 0, 0, 0, 0, []), (34, .istore 5, 36, 5, 0, 0, 0, 0, []), (36, .iload 5, 38, 5, 0, 0, 0, 0, []), (38, .aload_n 0, 39, 0, 0, 0, 0, 0, []), (39, .getfield 85, 42, 12, 1, 0, 0, 0, []), (42, .if_icmp .ge 74, 45, 116, 0, 0, 0, 0, []), (45, .iload 5, 47, 5, 0, 0, 0, 0, []), (47, .iload_n 1, 48, 1, 0, 0, 0, 0, []), (48, .if_icmp .ne 6, 51, 54, 0, 0, 0, 0, []), (51, .goto 59, 54, 110, 0, 0, 0, 0, []), (54, .aload_n 0, 55, 0, 0, 0, 0, 0, []), (55, .getfield 16, 58, 12, 3, 2, 0, 0, []), (58, .iload 5, 60, 5, 0, 0, 0, 0, []), (60, .iaload, 61, 0, 0, 0, 0, 0, []), (61, .istore 6, 63, 6, 0, 0, 0, 0, []), (63, .aload_n 0, 64, 0, 0, 0, 0, 0, []), (64, .getfield 16, 67, 12, 3, 2, 0, 0, []), (67, .iload 5, 69, 5, 0, 0, 0, 0, []), (69, .dup2, 70, 0, 0, 0, 0, 0, []), (70, .iaload, 71, 0, 0, 0, 0, 0, []), (71, .iconst 1, 72, 0, 0, 0, 0, 1, []), (72, .iload_n 1, 73, 1, 0, 0, 0, 0, []), (73, .ishl, 74, 0, 0, 0, 0, 0, []), (74, .ior, 75, 0, 0, 0, 0, 0, []), (75, .iastore, 76, 0, 0, 0, 0, 0, []), (76, .aload_n 0, 77, 0, 0, 0, 0, 0, []), (77, .iload_n 1, 78, 1, 0, 0, 0, 0, []), (78, .iload_n 2, 79, 2, 0, 0, 0, 0, []), (79, .invokevirtual 345, 82, 253, 3, 1, 24, 0, []), (82, .istore 7, 84, 7, 0, 0, 0, 0, []), (84, .aload_n 0, 85, 0, 0, 0, 0, 0, []), (85, .getfield 16, 88, 12, 3, 2, 0, 0, []), (88, .iload 5, 90, 5, 0, 0, 0, 0, []), (90, .iload 6, 92, 6, 0, 0, 0, 0, []), (92, .iastore, 93, 0, 0, 0, 0, 0, []), (93, .iload 7, 95, 7, 0, 0, 0, 0, []), (95, .iload 4, 97, 4, 0, 0, 0, 0, []), (97, .if_icmp .gt 6, 100, 103, 0, 0, 0, 0, []), (100, .goto 10, 103, 110, 0, 0, 0, 0, []), (103, .iload 5, 105, 5, 0, 0, 0, 0, []), (105, .istore_n 3, 106, 3, 0, 0, 0, 0, []), (106, .iload 7, 108, 7, 0, 0, 0, 0, []), (108, .istore 4, 110, 4, 0, 0, 0, 0, []), (110, .iinc 5 1, 113, 5, 0, 0, 0, 1, []), (113, .goto (-77), 116, 36, 0, 0, 0, 0, []), (116, .aload_n 0, 117, 0, 0, 0, 0, 0, []), (117, .iconst 0, 118, 0, 0, 0, 0, 0, []), (118, .putfield 82, 121, 12, 11, 0, 0, 0, []), (121, .aload_n 0, 122, 0, 0, 0, 0, 0, []), (122, .iload 4, 124, 4, 0, 0, 0, 0, []), (124, .invokevirtual 270, 127, 174, 2, 1, 25, 0, []), (127, .iload_n 3, 128, 3, 0, 0, 0, 0, []), (128, .ireturn, 129, 0, 0, 0, 0, 0, [])]
def zc_255 : List zE := [(0, .aload_n 0, 1, 0, 0, 0, 0, 0, []), (1, .invokevirtual 300, 4, 227, 1, 1, 25, 0, []), (4, .aload_n 0, 5, 0, 0, 0, 0, 0, []), (5, .getfield 56, 8, 12, 41, 2, 0, 0, []), (8, .iconst 0, 9, 0, 0, 0, 0, 0, []), (9, .iaload, 10, 0, 0, 0, 0, 0, []), (10, .iconst (-1), 11, 0, 0, 0, 0, (-1), []), (11, .if_icmp .eq 29, 14, 40, 0, 0, 0, 0, []), (14, .aload_n 0, 15, 0, 0, 0, 0, 0, []), (15, .getfield 44, 18, 12, 34, 2, 0, 0, []), (18, .aload_n 0, 19, 0, 0, 0, 0, 0, []), (19, .getfield 56, 22, 12, 41, 2, 0, 0, []), (22, .iconst 0, 23, 0, 0, 0, 0, 0, []), (23, .iaload, 24, 0, 0, 0, 0, 0, []), (24, .aload_n 0, 25, 0, 0, 0, 0, 0, []), (25, .getfield 44, 28, 12, 34, 2, 0, 0, []), (28, .aload_n 0, 29, 0, 0, 0, 0, 0, []), (29, .getfield 56, 32, 12, 41, 2, 0, 0, []), (32, .iconst 0, 33, 0, 0, 0, 0, 0, []), (33, .iaload, 34, 0, 0, 0, 0, 0, []), (34, .iaload, 35, 0, 0, 0, 0, 0, []), (35, .iconst 4, 36, 0, 0, 0, 0, 4, []), (36, .invokestatic 332, 39, 246, 2, 0, 24, 0, []), (39, .iastore, 40, 0, 0, 0, 0, 0, []), (40, .aload_n 0, 41, 0, 0, 0, 0, 0, []), (41, .getfield 56, 44, 12, 41, 2, 0, 0, []), (44, .iconst 1, 45, 0, 0, 0, 0, 1, []), (45, .iaload, 46, 0, 0, 0, 0, 0, []), (46, .iconst (-1), 47, 0, 0, 0, 0, (-1), []), (47, .if_icmp .eq 30, 50, 77, 0, 0, 0, 0, []), (50, .aload_n 0, 51, 0, 0, 0, 0, 0, []), (51, .getfield 44, 54, 12, 34, 2, 0, 0, []), (54, .aload_n 0, 55, 0, 0, 0, 0, 0, []), (55, .getfield 56, 58, 12, 41, 2, 0, 0, []), (58, .iconst 1, 59, 0, 0, 0, 0, 1, []), (59, .iaload, 60, 0, 0, 0, 0, 0, []), (60, .aload_n 0, 61, 0, 0, 0, 0, 0, []), (61, .getfield 44, 64, 12, 34, 2, 0, 0, []), (64, .aload_n 0, 65, 0, 0, 0, 0, 0, []), (65, .getfield 56, 68, 12, 41, 2, 0, 0, []), (68, .iconst 1, 69, 0, 0, 0, 0, 1, []), (69, .iaload, 70, 0, 0, 0, 0, 0, []), (70, .iaload, 71, 0, 0, 0, 0, 0, []), (71, .bipush (-4), 73, 0, 0, 0, 0, (-4), []), (73, .invokestatic 332, 76, 246, 2, 0, 24, 0, []), (76, .iastore, 77, 0, 0, 0, 0, 0, []), (77, .aload_n 0, 78, 0, 0, 0, 0, 0, []), (78, .sipush 300, 81, 0, 0, 0, 0, 300, []), (81, .invokevirtual 303, 84, 228, 2, 1, 24, 0, []), (84, .ireturn, 85, 0, 0, 0, 0, 0, [])]
def zc_256 : List zE := [(0, .aload_n 0, 1, 0, 0, 0, 0, 0, []), (1, .iconst 0, 2, 0, 0, 0, 0, 0, []), (2, .putfield 78, 5, 12, 12, 0, 0, 0, []), (5, .iload_n 1, 6, 1, 0, 0, 0, 0, []), (6, .iconst 0, 7, 0, 0, 0, 0, 0, []), (7, .bipush 20, 9, 0, 0, 0, 0, 20, []), (9, .invokestatic 88, 12, 171, 3, 0, 24, 0, []), (12, .ifCond .ne 5, 15, 17, 0, 0, 0, 0, []), (15, .iconst (-1), 16, 0, 0, 0, 0, (-1), []), (16, .ireturn, 17, 0, 0, 0, 0, 0, []), (17, .aload_n 0, 18, 0, 0, 0, 0, 0, []), (18, .getfield 56, 21, 12, 41, 2, 0, 0, []), (21, .iconst 0, 22, 0, 0, 0, 0, 0, []), (22, .iconst (-1), 23, 0, 0, 0, 0, (-1), []), (23, .iastore, 24, 0, 0, 0, 0, 0, []), (24, .aload_n 0, 25, 0, 0, 0, 0, 0, []), (25, .getfield 56, 28, 12, 41, 2, 0, 0, []), (28, .iconst 1, 29, 0, 0, 0, 0, 1, []), (29, .iconst (-1), 30, 0, 0, 0, 0, (-1), []), (30, .iastore, 31, 0, 0, 0, 0, 0, []), (31, .iconst 0, 32, 0, 0, 0, 0, 0, []), (32, .istore_n 2, 33, 2, 0, 0, 0, 0, []), (33, .iconst 0, 34, 0, 0, 0, 0, 0, []), (34, .istore_n 3, 35, 3, 0, 0, 0, 0, []), (35, .iload_n 2, 36, 2, 0, 0, 0, 0, []), (36, .iload_n 1, 37, 1, 0, 0, 0, 0, []), (37, .if_icmp .ge 134, 40, 171, 0, 0, 0, 0, []), (40, .iload_n 3, 41, 3, 0, 0, 0, 0, []), (41, .iconst 2, 42, 0, 0, 0, 0, 2, []), (42, .if_icmp .ge 129, 45, 171, 0, 0, 0, 0, []), (45, .iload_n 2, 46, 2, 0, 0, 0, 0, []), (46, .iconst 2, 47, 0, 0, 0, 0, 2, []), (47, .irem, 48, 0, 0, 0, 0, 0, []), (48, .istore 4, 50, 4, 0, 0, 0, 0, []), (50, .aload_n 0, 51, 0, 0, 0, 0, 0, []), (51, .getfield 56, 54, 12, 41, 2, 0, 0, []), (54, .iload 4, 56, 4, 0, 0, 0, 0, []), (56, .iaload, 57, 0, 0, 0, 0, 0, []), (57, .istore 5, 59, 5, 0, 0, 0, 0, []), (59, .iload 5, 61, 5, 0, 0, 0, 0, []), (61, .istore 6, 63, 6, 0, 0, 0, 0, []), (63, .aload_n 0, 64, 0, 0, 0, 0, 0, []), (64, .invokevirtual 348, 67, 255, 1, 1, 24, 0, []), (67, .invokestatic 342, 70, 249, 1, 0, 24, 0, []), (70, .istore 7, 72, 7, 0, 0, 0, 0, []), (72, .iconst (-1), 73, 0, 0, 0, 0, (-1), []), (73, .istore 8, 75, 8, 0, 0, 0, 0, []), (75, .iload 8, 77, 8, 0, 0, 0, 0, []), (77, .aload_n 0, 78, 0, 0, 0, 0, 0, []), (78, .getfield 85, 81, 12, 1, 0, 0, 0, []), (81, .if_icmp .ge 60, 84, 141, 0, 0, 0, 0, []), (84, .aload_n 0, 85, 0, 0, 0, 0, 0, []), (85, .getfield 56, 88, 12, 41, 2, 0, 0, []), (88, .iload 4, 90, 4, 0, 0, 0, 0, []), (90, .iload 8, 92, 8, 0, 0, 0, 0, []), (92, .iastore, 93, 0, 0, 0, 0, 0, []), (93, .aload_n 0, 94, 0, 0, 0, 0, 0, []), (94, .invokevirtual 348, 97, 255, 1, 1, 24, 0, []), (97, .invokestatic 342, 100, 249, 1, 0, 24, 0, []), (100, .istore 9, 102, 9, 0, 0, 0, 0, []), (102, .iload 4, 104, 4, 0, 0, 0, 0, []), (104, .ifCond .ne 13, 107, 117, 0, 0, 0, 0, []), (107, .iload 9, 109, 9, 0, 0, 0, 0, []), (109, .iload 7, 111, 7, 0, 0, 0, 0, []), (111, .if_icmp .lt 16, 114, 127, 0, 0, 0, 0, []), (114, .goto 21, 117, 135, 0, 0, 0, 0, []), (117, .iload 9, 119, 9, 0, 0, 0, 0, []), (119, .iload 7, 121, 7, 0, 0, 0, 0, []), (121, .if_icmp .gt 6, 124, 127, 0, 0, 0, 0, []), (124, .goto 11, 127, 135, 0, 0, 0, 0, []), (127, .iload 8, 129, 8, 0, 0, 0, 0, []), (129, .istore 6, 131, 6, 0, 0, 0, 0, []), (131, .iload 9, 133, 9, 0, 0, 0, 0, []), (133, .istore 7, 135, 7, 0, 0, 0, 0, []), (135, .iinc 8 1, 138, 8, 0, 0, 0, 1, []), (138, .goto (-63), 141, 75, 0, 0, 0, 0, []), (141, .aload_n 0, 142, 0, 0, 0, 0, 0, []), (142, .getfield 56, 145, 12, 41, 2, 0, 0, []), (145, .iload 4, 147, 4, 0, 0, 0, 0, []), (147, .iload 6, 149, 6, 0, 0, 0, 0, []), (149, .iastore, 150, 0, 0, 0, 0, 0, []), (150, .iload 6, 152, 6, 0, 0, 0, 0, []), (152, .iload 5, 154, 5, 0, 0, 0, 0, []), (154, .if_icmp .ne 9, 157, 163, 0, 0, 0, 0, []), (157, .iload_n 3, 158, 3, 0, 0, 0, 0, []), (158, .iconst 1, 159, 0, 0, 0, 0, 1, []), (159, .iadd, 160, 0, 0, 0, 0, 0, []), (160, .goto 4, 163, 164, 0, 0, 0, 0, []), (163, .iconst 0, 164, 0, 0, 0, 0, 0, []), (164, .istore_n 3, 165, 3, 0, 0, 0, 0, []), (165, .iinc 2 1, 168, 2, 0, 0, 0, 1, []), (168, .goto (-133), 171, 35, 0, 0, 0, 0, []), (171, .aload_n 0, 172, 0, 0, 0, 0, 0, []), (172, .invokevirtual 348, 175, 255, 1, 1, 24, 0, []), (175, .istore 4, 177, 4, 0, 0, 0, 0, []), (177, .aload_n 0, 178, 0, 0, 0, 0, 0, []), (178, .iconst 0, 179, 0, 0, 0, 0, 0, []), (179, .putfield 82, 182, 12, 11, 0, 0, 0, []), (182, .aload_n 0, 183, 0, 0, 0, 0, 0, []), (183, .iload_n 3, 184, 3, 0, 0, 0, 0, []), (184, .iconst 2, 185, 0, 0, 0, 0, 2, []), (185, .if_icmp .ne 7, 188, 192, 0, 0, 0, 0, []), (188, .iconst 1, 189, 0, 0, 0, 0, 1, []), (189, .goto 4, 192, 193, 0, 0, 0, 0, []), (192, .iconst 0, 193, 0, 0, 0, 0, 0, []), (193, .invokevirtual 270, 196, 174, 2, 1, 25, 0, []), (196, .aload_n 0, 197, 0, 0, 0, 0, 0, []), (197, .aload_n 0, 198, 0, 0, 0, 0, 0, []), (198, .getfield 56, 201, 12, 41, 2, 0, 0, []), (201, .iconst 0, 202, 0, 0, 0, 0, 0, []), (202, .iaload, 203, 0, 0, 0, 0, 0, []), (203, .invokevirtual 270, 206, 174, 2, 1, 25, 0, []), (206, .aload_n 0, 207, 0, 0, 0, 0, 0, []), (207, .aload_n 0, 208, 0, 0, 0, 0, 0, []), (208, .getfield 56, 211, 12, 41, 2, 0, 0, []), (211, .iconst 1, 212, 0, 0, 0, 0, 1, []), (212, .iaload, 213, 0, 0, 0, 0, 0, []), (213, .invokevirtual 270, 216, 174, 2, 1, 25, 0, []), (216, .aload_n 0, 217, 0, 0, 0, 0, 0, []), (217, .iload 4, 219, 4, 0, 0, 0, 0, []), (219, .invokevirtual 270, 222, 174, 2, 1, 25, 0, []), (222, .iload_n 2, 223, 2, 0, 0, 0, 0, []), (223, .ireturn, 224, 0, 0, 0, 0, 0, [])]
def zc_257 : List zE := [(0, .aload_n 0, 1, 0, 0, 0, 0, 0, []), (1, .iconst 0, 2, 0, 0, 0, 0, 0, []), (2, .putfield 78, 5, 12, 12, 0, 0, 0, []), (5, .iload_n 1, 6, 1, 0, 0, 0, 0, []), (6, .iconst 0, 7, 0, 0, 0, 0, 0, []), (7, .sipush 600, 10, 0, 0, 0, 0, 600, []), (10, .invokestatic 88, 13, 171, 3, 0, 24, 0, []), (13, .ifCond .eq 23, 16, 36, 0, 0, 0, 0, []), (16, .iload_n 2, 17, 2, 0, 0, 0, 0, []), (17, .iconst 0, 18, 0, 0, 0, 0, 0, []), (18, .bipush 9, 20, 0, 0, 0, 0, 9, []), (20, .invokestatic 88, 23, 171, 3, 0, 24, 0, []), (23, .ifCond .eq 13, 26, 36, 0, 0, 0, 0, []), (26, .iload_n 3, 27, 3, 0, 0, 0, 0, []), (27, .iconst 0, 28, 0, 0, 0, 0, 0, []), (28, .bipush 99, 30, 0, 0, 0, 0, 99, []), (30, .invokestatic 88, 33, 171, 3, 0, 24, 0, []), (33, .ifCond .ne 5, 36, 38, 0, 0, 0, 0, []), (36, .iconst (-1), 37, 0, 0, 0, 0, (-1), []), (37, .ireturn, 38, 0, 0, 0, 0, 0, []), (38, .aload_n 0, 39, 0, 0, 0, 0, 0, []), (39, .getfield 351, 42, 12, 43, 0, 0, 0, []), (42, .iconst 5, 43, 0, 0, 0, 0, 5, []), (43, .if_icmp .ne 6, 46, 49, 0, 0, 0, 0, []), (46, .bipush (-2), 48, 0, 0, 0, 0, (-2), []), (48, .ireturn, 49, 0, 0, 0, 0, 0, []), (49, .aload_n 0, 50, 0, 0, 0, 0, 0, []), (50, .getfield 59, 53, 12, 42, 2, 0, 0, []), (53, .iconst 3, 54, 0, 0, 0, 0, 3, []), (54, .aload_n 0, 55, 0, 0, 0, 0, 0, []), (55, .getfield 351, 58, 12, 43, 0, 0, 0, []), (58, .imul, 59, 0, 0, 0, 0, 0, []), (59, .iload_n 1, 60, 1, 0, 0, 0, 0, []), (60, .iastore, 61, 0, 0, 0, 0, 0, []), (61, .aload_n 0, 62, 0, 0, 0, 0, 0, []), (62, .getfield 59, 65, 12, 42, 2, 0, 0, []), (65, .iconst 3, 66, 0, 0, 0, 0, 3, []), (66, .aload_n 0, 67, 0, 0, 0, 0, 0, []), (67, .getfield 351, 70, 12, 43, 0, 0, 0, []), (70, .imul, 71, 0, 0, 0, 0, 0, []), (71, .iconst 1, 72, 0, 0, 0, 0, 1, []), (72, .iadd, 73, 0, 0, 0, 0, 0, []), (73, .iload_n 2, 74, 2, 0, 0, 0, 0, []), (74, .iastore, 75, 0, 0, 0, 0, 0, []), (75, .aload_n 0, 76, 0, 0, 0, 0, 0, []), (76, .getfield 59, 79, 12, 42, 2, 0, 0, []), (79, .iconst 3, 80, 0, 0, 0, 0, 3, []), (80, .aload_n 0, 81, 0, 0, 0, 0, 0, []), (81, .getfield 351, 84, 12, 43, 0, 0, 0, []), (84, .imul, 85, 0, 0, 0, 0, 0, []), (85, .iconst 2, 86, 0, 0, 0, 0, 2, []), (86, .iadd, 87, 0, 0, 0, 0, 0, []), (87, .iload_n 3, 88, 3, 0, 0, 0, 0, []), (88, .iastore, 89, 0, 0, 0, 0, 0, []), (89, .aload_n 0, 90, 0, 0, 0, 0, 0, []), (90, .dup, 91, 0, 0, 0, 0, 0, []), (91, .getfield 351, 94, 12, 43, 0, 0, 0, []), (94, .iconst 1, 95, 0, 0, 0, 0, 1, []), (95, .iadd, 96, 0, 0, 0, 0, 0, []), (96, .putfield 351, 99, 12, 43, 0, 0, 0, []), (99, .aload_n 0, 100, 0, 0, 0, 0, 0, []), (100, .getfield 351, 103, 12, 43, 0, 0, 0, []), (103, .iconst 1, 104, 0, 0, 0, 0, 1, []), (104, .isub, 105, 0, 0, 0, 0, 0, []), (105, .ireturn, 106, 0, 0, 0, 0, 0, [])]
def zc_258 : List zE := [(0, .aload_n 0, 1, 0, 0, 0, 0, 0, []), (1, .iconst 0, 2, 0, 0, 0, 0, 0, []), (2, .putfield 78, 5, 12, 12, 0, 0, 0, []), (5, .aload_n 0, 6, 0, 0, 0, 0, 0, []), (6, .getfield 351, 9, 12, 43, 0, 0, 0, []), (9, .istore_n 1, 10, 1, 0, 0, 0, 0, []), (10, .aload_n 0, 11, 0, 0, 0, 0, 0, []), (11, .iconst 0, 12, 0, 0, 0, 0, 0, []), (12, .putfield 351, 15, 12, 43, 0, 0, 0, []), (15, .iload_n 1, 16, 1, 0, 0, 0, 0, []), (16, .ireturn, 17, 0, 0, 0, 0, 0, [])]
def zc_259 : List zE := [(0, .iload_n 2, 1, 2, 0, 0, 0, 0, []), (1, .iload_n 3, 2, 3, 0, 0, 0, 0, []), (2, .if_icmp .gt 20, 5, 22, 0, 0, 0, 0, []), (5, .aload_n 0, 6, 0, 0, 0, 0, 0, []), (6, .getfield 59, 9, 12, 42, 2, 0, 0, []), (9, .iconst 3, 10, 0, 0, 0, 0, 3, []), (10, .iload_n 1, 11, 1, 0, 0, 0, 0, []), (11, .imul, 12, 0, 0, 0, 0, 0, []), (12, .iconst 1, 13, 0, 0, 0, 0, 1, []), (13, .iadd, 14, 0, 0, 0, 0, 0, []), (14, .iaload, 15, 0, 0, 0, 0, 0, []), (15, .iload_n 3, 16, 3, 0, 0, 0, 0, []), (16, .iload_n 2, 17, 2, 0, 0, 0, 0, []), (17, .isub, 18, 0, 0, 0, 0, 0, []), (18, .imul, 19, 0, 0, 0, 0, 0, []), (19, .goto 17, 22, 36, 0, 0, 0, 0, []), (22, .aload_n 0, 23, 0, 0, 0, 0, 0, []), (23, .getfield 59, 26, 12, 42, 2, 0, 0, []), (26, .iconst 3, 27, 0, 0, 0, 0, 3, []), (27, .iload_n 1, 28, 1, 0, 0, 0, 0, []), (28, .imul, 29, 0, 0, 0, 0, 0, []), (29, .iconst 2, 30, 0, 0, 0, 0, 2, []), (30, .iadd, 31, 0, 0, 0, 0, 0, []), (31, .iaload, 32, 0, 0, 0, 0, 0, []), (32, .iload_n 2, 33, 2, 0, 0, 0, 0, []), (33, .iload_n 3, 34, 3, 0, 0, 0, 0, []), (34, .isub, 35, 0, 0, 0, 0, 0, []), (35, .imul, 36, 0, 0, 0, 0, 0, []), (36, .ireturn, 37, 0, 0, 0, 0, 0, [])]
def zc_260 : List zE := [(0, .aload_n 0, 1, 0, 0, 0, 0, 0, []), (1, .iconst 0, 2, 0, 0, 0, 0, 0, []), (2, .putfield 78, 5, 12, 12, 0, 0, 0, []), (5, .iload_n 1, 6, 1, 0, 0, 0, 0, []), (6, .iconst 0, 7, 0, 0, 0, 0, 0, []), (7, .aload_n 0, 8, 0, 0, 0, 0, 0, []), (8, .getfield 351, 11, 12, 43, 0, 0, 0, []), (11, .iconst 1, 12, 0, 0, 0, 0, 1, []), (12, .isub, 13, 0, 0, 0, 0, 0, []), (13, .invokestatic 88, 16, 171, 3, 0, 24, 0, []), (16, .ifCond .ne 5, 19, 21, 0, 0, 0, 0, []), (19, .iconst (-1), 20, 0, 0, 0, 0, (-1), []), (20, .ireturn, 21, 0, 0, 0, 0, 0, []), (21, .aload_n 0, 22, 0, 0, 0, 0, 0, []), (22, .invokevirtual 300, 25, 227, 1, 1, 25, 0, []), (25, .aload_n 0, 26, 0, 0, 0, 0, 0, []), (26, .sipush 300, 29, 0, 0, 0, 0, 300, []), (29, .invokevirtual 303, 32, 228, 2, 1, 24, 0, []), (32, .istore_n 2, 33, 2, 0, 0, 0, 0, []), (33, .iload_n 2, 34, 2, 0, 0, 0, 0, []), (34, .iconst (-1), 35, 0, 0, 0, 0, (-1), []), (35, .if_icmp .ne 6, 38, 41, 0, 0, 0, 0, []), (38, .bipush (-2), 40, 0, 0, 0, 0, (-2), []), (40, .ireturn, 41, 0, 0, 0, 0, 0, []), (41, .aload_n 0, 42, 0, 0, 0, 0, 0, []), (42, .iconst 0, 43, 0, 0, 0, 0, 0, []), (43, .putfield 82, 46, 12, 11, 0, 0, 0, []), (46, .aload_n 0, 47, 0, 0, 0, 0, 0, []), (47, .aload_n 0, 48, 0, 0, 0, 0, 0, []), (48, .getfield 59, 51, 12, 42, 2, 0, 0, []), (51, .iconst 3, 52, 0, 0, 0, 0, 3, []), (52, .iload_n 1, 53, 1, 0, 0, 0, 0, []), (53, .imul, 54, 0, 0, 0, 0, 0, []), (54, .iaload, 55, 0, 0, 0, 0, 0, []), (55, .iload_n 2, 56, 2, 0, 0, 0, 0, []), (56, .if_icmp .gt 7, 59, 63, 0, 0, 0, 0, []), (59, .iconst 1, 60, 0, 0, 0, 0, 1, []), (60, .goto 4, 63, 64, 0, 0, 0, 0, []), (63, .iconst 0, 64, 0, 0, 0, 0, 0, []), (64, .invokevirtual 270, 67, 174, 2, 1, 25, 0, []), (67, .aload_n 0, 68, 0, 0, 0, 0, 0, []), (68, .iload_n 1, 69, 1, 0, 0, 0, 0, []), (69, .aload_n 0, 70, 0, 0, 0, 0, 0, []), (70, .getfield 59, 73, 12, 42, 2, 0, 0, []), (73, .iconst 3, 74, 0, 0, 0, 0, 3, []), (74, .iload_n 1, 75, 1, 0, 0, 0, 0, []), (75, .imul, 76, 0, 0, 0, 0, 0, []), (76, .iaload, 77, 0, 0, 0, 0, 0, []), (77, .iload_n 2, 78, 2, 0, 0, 0, 0, []), (78, .invokevirtual 354, 81, 259, 4, 1, 24, 0, []), (81, .ireturn, 82, 0, 0, 0, 0, 0, [])]
def zc_261 : List zE := [(0, .aload_n 0, 1, 0, 0, 0, 0, 0, []), (1, .iconst 0, 2, 0, 0, 0, 0, 0, []), (2, .putfield 78, 5, 12, 12, 0, 0, 0, []), (5, .iload_n 1, 6, 1, 0, 0, 0, 0, []), (6, .iconst 0, 7, 0, 0, 0, 0, 0, []), (7, .aload_n 0, 8, 0, 0, 0, 0, 0, []), (8, .getfield 351, 11, 12, 43, 0, 0, 0, []), (11, .iconst 1, 12, 0, 0, 0, 0, 1, []), (12, .isub, 13, 0, 0, 0, 0, 0, []), (13, .invokestatic 88, 16, 171, 3, 0, 24, 0, []), (16, .ifCond .ne 5, 19, 21, 0, 0, 0, 0, []), (19, .iconst (-1), 20, 0, 0, 0, 0, (-1), []), (20, .ireturn, 21, 0, 0, 0, 0, 0, []), (21, .iconst 0, 22, 0, 0, 0, 0, 0, []), (22, .istore_n 2, 23, 2, 0, 0, 0, 0, []), (23, .iconst (-1), 24, 0, 0, 0, 0, (-1), []), (24, .istore_n 3, 25, 3, 0, 0, 0, 0, []), (25, .iload_n 3, 26, 3, 0, 0, 0, 0, []), (26, .aload_n 0, 27, 0, 0, 0, 0, 0, []), (27, .getfield 85, 30, 12, 1, 0, 0, 0, []), (30, .if_icmp .ge 51, 33, 81, 0, 0, 0, 0, []), (33, .iload_n 3, 34, 3, 0, 0, 0, 0, []), (34, .iconst (-1), 35, 0, 0, 0, 0, (-1), []), (35, .if_icmp .ne 12, 38, 47, 0, 0, 0, 0, []), (38, .aload_n 0, 39, 0, 0, 0, 0, 0, []), (39, .iconst 0, 40, 0, 0, 0, 0, 0, []), (40, .iconst 0, 41, 0, 0, 0, 0, 0, []), (41, .invokevirtual 336, 44, 247, 3, 1, 24, 0, []), (44, .goto 9, 47, 53, 0, 0, 0, 0, []), (47, .aload_n 0, 48, 0, 0, 0, 0, 0, []), (48, .iload_n 3, 49, 3, 0, 0, 0, 0, []), (49, .iconst 3, 50, 0, 0, 0, 0, 3, []), (50, .invokevirtual 336, 53, 247, 3, 1, 24, 0, []), (53, .istore 4, 55, 4, 0, 0, 0, 0, []), (55, .iload 4, 57, 4, 0, 0, 0, 0, []), (57, .iconst (-1), 58, 0, 0, 0, 0, (-1), []), (58, .if_icmp .ne 6, 61, 64, 0, 0, 0, 0, []), (61, .goto 14, 64, 75, 0, 0, 0, 0, []), (64, .aload_n 0, 65, 0, 0, 0, 0, 0, []), (65, .getfield 62, 68, 12, 44, 2, 0, 0, []), (68, .iload_n 2, 69, 2, 0, 0, 0, 0, []), (69, .iload 4, 71, 4, 0, 0, 0, 0, []), (71, .iastore, 72, 0, 0, 0, 0, 0, []), (72, .iinc 2 1, 75, 2, 0, 0, 0, 1, []), (75, .iinc 3 1, 78, 3, 0, 0, 0, 1, []), (78, .goto (-53), 81, 25, 0, 0, 0, 0, []), (81, .iload_n 2, 82, 2, 0, 0, 0, 0, []), (82, .ifCond .ne 6, 85, 88, 0, 0, 0, 0, []), (85, .bipush (-2), 87, 0, 0, 0, 0, (-2), []), (87, .ireturn, 88, 0, 0, 0, 0, 0, []), (88, .iconst 0, 89, 0, 0, 0, 0, 0, []), (89, .istore_n 3, 90, 3, 0, 0, 0, 0, []), (90, .ldc_w 358, 93, 0, 0, 0, 0, 2147483647, []), (93, .istore 4, 95, 4, 0, 0, 0, 0, []), (95, .iconst 0, 96, 0, 0, 0, 0, 0, []), (96, .istore 5, 98, 5, 0, 0, 0, 0, []), (98, .iload 5, 100, 5, 0, 0, 0, 0, []), (100, .sipush 300, 103, 0, 0, 0, 0, 300, []), (103, .if_icmp .ge 63, 106, 166, 0, 0, 0, 0, []), (106, .iconst 0, 107, 0, 0, 0, 0, 0, []), (107, .istore 6, 109, 6, 0, 0, 0, 0, []), (109, .iconst 0, 110, 0, 0, 0, 0, 0, []), (110, .istore 7, 112, 7, 0, 0, 0, 0, []), (112, .iload 7, 114, 7, 0, 0, 0, 0, []), (114, .iload_n 2, 115, 2, 0, 0, 0, 0, []), (115, .if_icmp .ge 28, 118, 143, 0, 0, 0, 0, []), (118, .iload 6, 120, 6, 0, 0, 0, 0, []), (120, .aload_n 0, 121, 0, 0, 0, 0, 0, []), (121, .iload_n 1, 122, 1, 0, 0, 0, 0, []), (122, .iload 5, 124, 5, 0, 0, 0, 0, []), (124, .aload_n 0, 125, 0, 0, 0, 0, 0, []), (125, .getfield 62, 128, 12, 44, 2, 0, 0, []), (128, .iload 7, 130, 7, 0, 0, 0, 0, []), (130, .iaload, 131, 0, 0, 0, 0, 0, []), (131, .invokevirtual 354, 134, 259, 4, 1, 24, 0, []), (134, .iadd, 135, 0, 0, 0, 0, 0, []), (135, .istore 6, 137, 6, 0, 0, 0, 0, []), (137, .iinc 7 1, 140, 7, 0, 0, 0, 1, []), (140, .goto (-28), 143, 112, 0, 0, 0, 0, []), (143, .iload 6, 145, 6, 0, 0, 0, 0, []), (145, .iload 4, 147, 4, 0, 0, 0, 0, []), (147, .if_icmp .lt 6, 150, 153, 0, 0, 0, 0, []), (150, .goto 10, 153, 160, 0, 0, 0, 0, []), (153, .iload 5, 155, 5, 0, 0, 0, 0, []), (155, .istore_n 3, 156, 3, 0, 0, 0, 0, []), (156, .iload 6, 158, 6, 0, 0, 0, 0, []), (158, .istore 4, 160, 4, 0, 0, 0, 0, []), (160, .iinc 5 1, 163, 5, 0, 0, 0, 1, []), (163, .goto (-65), 166, 98, 0, 0, 0, 0, []), (166, .aload_n 0, 167, 0, 0, 0, 0, 0, []), (167, .iconst 0, 168, 0, 0, 0, 0, 0, []), (168, .putfield 82, 171, 12, 11, 0, 0, 0, []), (171, .aload_n 0, 172, 0, 0, 0, 0, 0, []), (172, .iload 4, 174, 4, 0, 0, 0, 0, []), (174, .invokevirtual 270, 177, 174, 2, 1, 25, 0, []), (177, .aload_n 0, 178, 0, 0, 0, 0, 0, []), (178, .iload_n 2, 179, 2, 0, 0, 0, 0, []), (179, .invokevirtual 270, 182, 174, 2, 1, 25, 0, []), (182, .iload_n 3, 183, 3, 0, 0, 0, 0, []), (183, .ireturn, 184, 0, 0, 0, 0, 0, [])]
def zc_262 : List zE := [(0, .aload_n 0, 1, 0, 0, 0, 0, 0, []), (1, .iconst 0, 2, 0, 0, 0, 0, 0, []), (2, .putfield 78, 5, 12, 12, 0, 0, 0, []), (5, .aload_n 0, 6, 0, 0, 0, 0, 0, []), (6, .iload_n 1, 7, 1, 0, 0, 0, 0, []), (7, .invokevirtual 194, 10, 175, 2, 1, 24, 0, []), (10, .ifCond .eq 22, 13, 32, 0, 0, 0, 0, []), (13, .iload_n 2, 14, 2, 0, 0, 0, 0, []), (14, .iconst 0, 15, 0, 0, 0, 0, 0, []), (15, .bipush 60, 17, 0, 0, 0, 0, 60, []), (17, .invokestatic 88, 20, 171, 3, 0, 24, 0, []), (20, .ifCond .eq 12, 23, 32, 0, 0, 0, 0, []), (23, .aload_n 0, 24, 0, 0, 0, 0, 0, []), (24, .getfield 359, 27, 12, 46, 0, 0, 0, []), (27, .bipush 10, 29, 0, 0, 0, 0, 10, []), (29, .if_icmp .ne 5, 32, 34, 0, 0, 0, 0, []), (32, .iconst (-1), 33, 0, 0, 0, 0, (-1), []), (33, .ireturn, 34, 0, 0, 0, 0, 0, []), (34, .aload_n 0, 35, 0, 0, 0, 0, 0, []), (35, .getfield 65, 38, 12, 45, 2, 0, 0, []), (38, .iconst 2, 39, 0, 0, 0, 0, 2, []), (39, .aload_n 0, 40, 0, 0, 0, 0, 0, []), (40, .getfield 359, 43, 12, 46, 0, 0, 0, []), (43, .imul, 44, 0, 0, 0, 0, 0, []), (44, .iload_n 1, 45, 1, 0, 0, 0, 0, []), (45, .iastore, 46, 0, 0, 0, 0, 0, []), (46, .aload_n 0, 47, 0, 0, 0, 0, 0, []), (47, .getfield 65, 50, 12, 45, 2, 0, 0, []), (50, .iconst 2, 51, 0, 0, 0, 0, 2, []), (51, .aload_n 0, 52, 0, 0, 0, 0, 0, []), (52, .getfield 359, 55, 12, 46, 0, 0, 0, []), (55, .imul, 56, 0, 0, 0, 0, 0, []), (56, .iconst 1, 57, 0, 0, 0, 0, 1, []), (57, .iadd, 58, 0, 0, 0, 0, 0, []), (58, .iload_n 2, 59, 2, 0, 0, 0, 0, []), (59, .iastore, 60, 0, 0, 0, 0, 0, []), (60, .aload_n 0, 61, 0, 0, 0, 0, 0, []), (61, .dup, 62, 0, 0, 0, 0, 0, []), (62, .getfield 359, 65, 12, 46, 0, 0, 0, []), (65, .iconst 1, 66, 0, 0, 0, 0, 1, []), (66, .iadd, 67, 0, 0, 0, 0, 0, []), (67, .putfield 359, 70, 12, 46, 0, 0, 0, []), (70, .aload_n 0, 71, 0, 0, 0, 0, 0, []), (71, .getfield 359, 74, 12, 46, 0, 0, 0, []), (74, .ireturn, 75, 0, 0, 0, 0, 0, [])]
def zc_263 : List zE := [(0, .aload_n 0, 1, 0, 0, 0, 0, 0, []), (1, .iconst 0, 2, 0, 0, 0, 0, 0, []), (2, .putfield 78, 5, 12, 12, 0, 0, 0, []), (5, .aload_n 0, 6, 0, 0, 0, 0, 0, []), (6, .getfield 359, 9, 12, 46, 0, 0, 0, []), (9, .istore_n 1, 10, 1, 0, 0, 0, 0, []), (10, .aload_n 0, 11, 0, 0, 0, 0, 0, []), (11, .iconst 0, 12, 0, 0, 0, 0, 0, []), (12, .putfield 359, 15, 12, 46, 0, 0, 0, []), (15, .iload_n 1, 16, 1, 0, 0, 0, 0, []), (16, .ireturn, 17, 0, 0, 0, 0, 0, [])]
def zc_264 : List zE := [(0, .aload_n 0, 1, 0, 0, 0, 0, 0, []), (1, .invokevirtual 300, 4, 227, 1, 1, 25, 0, []), (4, .iconst 0, 5, 0, 0, 0, 0, 0, []), (5, .istore_n 2, 6, 2, 0, 0, 0, 0, []), (6, .iload_n 2, 7, 2, 0, 0, 0, 0, []), (7, .aload_n 0, 8, 0, 0, 0, 0, 0, []), (8, .getfield 85, 11, 12, 1, 0, 0, 0, []), (11, .if_icmp .ge 26, 14, 37, 0, 0, 0, 0, []), (14, .iload_n 1, 15, 1, 0, 0, 0, 0, []), (15, .iload_n 2, 16, 2, 0, 0, 0, 0, []), (16, .invokestatic 213, 19, 172, 2, 0, 24, 0, []), (19, .ifCond .eq 12, 22, 31, 0, 0, 0, 0, []), (22, .aload_n 0, 23, 0, 0, 0, 0, 0, []), (23, .getfield 44, 26, 12, 34, 2, 0, 0, []), (26, .iload_n 2, 27, 2, 0, 0, 0, 0, []), (27, .iconst 0, 28, 0, 0, 0, 0, 0, []), (28, .invokestatic 264, 31, 211, 3, 0, 25, 0, []), (31, .iinc 2 1, 34, 2, 0, 0, 0, 1, []), (34, .goto (-28), 37, 6, 0, 0, 0, 0, []), (37, .iconst 0, 38, 0, 0, 0, 0, 0, []), (38, .istore_n 2, 39, 2, 0, 0, 0, 0, []), (39, .iload_n 2, 40, 2, 0, 0, 0, 0, []), (40, .bipush 60, 42, 0, 0, 0, 0, 60, []), (42, .if_icmp .gt 67, 45, 109, 0, 0, 0, 0, []), (45, .aload_n 0, 46, 0, 0, 0, 0, 0, []), (46, .aload_n 0, 47, 0, 0, 0, 0, 0, []), (47, .getfield 44, 50, 12, 34, 2, 0, 0, []), (50, .invokevirtual 273, 53, 205, 2, 1, 25, 0, []), (53, .iconst 0, 54, 0, 0, 0, 0, 0, []), (54, .istore_n 3, 55, 3, 0, 0, 0, 0, []), (55, .iload_n 3, 56, 3, 0, 0, 0, 0, []), (56, .aload_n 0, 57, 0, 0, 0, 0, 0, []), (57, .getfield 359, 60, 12, 46, 0, 0, 0, []), (60, .if_icmp .ge 43, 63, 103, 0, 0, 0, 0, []), (63, .aload_n 0, 64, 0, 0, 0, 0, 0, []), (64, .getfield 65, 67, 12, 45, 2, 0, 0, []), (67, .iconst 2, 68, 0, 0, 0, 0, 2, []), (68, .iload_n 3, 69, 3, 0, 0, 0, 0, []), (69, .imul, 70, 0, 0, 0, 0, 0, []), (70, .iconst 1, 71, 0, 0, 0, 0, 1, []), (71, .iadd, 72, 0, 0, 0, 0, 0, []), (72, .iaload, 73, 0, 0, 0, 0, 0, []), (73, .iload_n 2, 74, 2, 0, 0, 0, 0, []), (74, .if_icmp .ne 23, 77, 97, 0, 0, 0, 0, []), (77, .aload_n 0, 78, 0, 0, 0, 0, 0, []), (78, .getfield 228, 81, 12, 26, 0, 0, 0, []), (81, .aload_n 0, 82, 0, 0, 0, 0, 0, []), (82, .getfield 65, 85, 12, 45, 2, 0, 0, []), (85, .iconst 2, 86, 0, 0, 0, 0, 2, []), (86, .iload_n 3, 87, 3, 0, 0, 0, 0, []), (87, .imul, 88, 0, 0, 0, 0, 0, []), (88, .iaload, 89, 0, 0, 0, 0, 0, []), (89, .invokestatic 213, 92, 172, 2, 0, 24, 0, []), (92, .ifCond .ne 5, 95, 97, 0, 0, 0, 0, []), (95, .iconst 0, 96, 0, 0, 0, 0, 0, []), (96, .ireturn, 97, 0, 0, 1, 0, 0, []), (97, .iinc 3 1, 100, 3, 0, 0, 0, 1, []), (100, .goto (-45), 103, 55, 0, 0, 0, 0, []), (103, .iinc 2 1, 106, 2, 0, 0, 0, 1, []), (106, .goto (-67), 109, 39, 0, 0, 0, 0, []), (109, .iconst 1, 110, 0, 0, 0, 0, 1, []), (110, .ireturn, 111, 0, 0, 1, 0, 0, [])]
def zc_265 : List zE := [(0, .iconst 0, 1, 0, 0, 0, 0, 0, []), (1, .istore_n 1, 2, 1, 0, 0, 0, 0, []), (2, .iconst 0, 3, 0, 0, 0, 0, 0, []), (3, .istore_n 2, 4, 2, 0, 0, 0, 0, []), (4, .iload_n 2, 5, 2, 0, 0, 0, 0, []), (5, .aload_n 0, 6, 0, 0, 0, 0, 0, []), (6, .getfield 85, 9, 12, 1, 0, 0, 0, []), (9, .if_icmp .ge 31, 12, 40, 0, 0, 0, 0, []), (12, .iload_n 1, 13, 1, 0, 0, 0, 0, []), (13, .aload_n 0, 14, 0, 0, 0, 0, 0, []), (14, .aload_n 0, 15, 0, 0, 0, 0, 0, []), (15, .getfield 9, 18, 12, 0, 2, 0, 0, []), (18, .iload_n 2, 19, 2, 0, 0, 0, 0, []), (19, .invokevirtual 256, 22, 210, 3, 1, 24, 0, []), (22, .ifCond .eq 9, 25, 31, 0, 0, 0, 0, []), (25, .iconst 1, 26, 0, 0, 0, 0, 1, []), (26, .iload_n 2, 27, 2, 0, 0, 0, 0, []), (27, .ishl, 28, 0, 0, 0, 0, 0, []), (28, .goto 4, 31, 32, 0, 0, 0, 0, []), (31, .iconst 0, 32, 0, 0, 0, 0, 0, []), (32, .ior, 33, 0, 0, 0, 0, 0, []), (33, .istore_n 1, 34, 1, 0, 0, 0, 0, []), (34, .iinc 2 1, 37, 2, 0, 0, 0, 1, []), (37, .goto (-33), 40, 4, 0, 0, 0, 0, []), (40, .iload_n 1, 41, 1, 0, 0, 0, 0, []), (41, .ireturn, 42, 0, 0, 0, 0, 0, [])]
def zc_266 : List zE := [(0, .aload_n 0, 1, 0, 0, 0, 0, 0, []), (1, .iconst 0, 2, 0, 0, 0, 0, 0, []), (2, .putfield 78, 5, 12, 12, 0, 0, 0, []), (5, .iconst 0, 6, 0, 0, 0, 0, 0, []), (6, .istore_n 1, 7, 1, 0, 0, 0, 0, []), (7, .iconst 0, 8, 0, 0, 0, 0, 0, []), (8, .istore_n 2, 9, 2, 0, 0, 0, 0, []), (9, .iload_n 2, 10, 2, 0, 0, 0, 0, []), (10, .aload_n 0, 11, 0, 0, 0, 0, 0, []), (11, .getfield 85, 14, 12, 1, 0, 0, 0, []), (14, .if_icmp .ge 36, 17, 50, 0, 0, 0, 0, []), (17, .aload_n 0, 18, 0, 0, 0, 0, 0, []), (18, .invokevirtual 362, 21, 265, 1, 1, 24, 0, []), (21, .iload_n 2, 22, 2, 0, 0, 0, 0, []), (22, .invokestatic 213, 25, 172, 2, 0, 24, 0, []), (25, .ifCond .eq 19, 28, 44, 0, 0, 0, 0, []), (28, .aload_n 0, 29, 0, 0, 0, 0, 0, []), (29, .iconst 1, 30, 0, 0, 0, 0, 1, []), (30, .iload_n 2, 31, 2, 0, 0, 0, 0, []), (31, .ishl, 32, 0, 0, 0, 0, 0, []), (32, .invokevirtual 365, 35, 264, 2, 1, 24, 0, []), (35, .ifCond .eq 9, 38, 44, 0, 0, 0, 0, []), (38, .iload_n 1, 39, 1, 0, 0, 0, 0, []), (39, .iconst 1, 40, 0, 0, 0, 0, 1, []), (40, .iload_n 2, 41, 2, 0, 0, 0, 0, []), (41, .ishl, 42, 0, 0, 0, 0, 0, []), (42, .ior, 43, 0, 0, 0, 0, 0, []), (43, .istore_n 1, 44, 1, 0, 0, 0, 0, []), (44, .iinc 2 1, 47, 2, 0, 0, 0, 1, []), (47, .goto (-38), 50, 9, 0, 0, 0, 0, []), (50, .aload_n 0, 51, 0, 0, 0, 0, 0, []), (51, .iconst 0, 52, 0, 0, 0, 0, 0, []), (52, .invokevirtual 365, 55, 264, 2, 1, 24, 0, []), (55, .istore_n 2, 56, 2, 0, 0, 0, 0, []), (56, .aload_n 0, 57, 0, 0, 0, 0, 0, []), (57, .iconst 0, 58, 0, 0, 0, 0, 0, []), (58, .putfield 82, 61, 12, 11, 0, 0, 0, []), (61, .aload_n 0, 62, 0, 0, 0, 0, 0, []), (62, .iload_n 2, 63, 2, 0, 0, 0, 0, []), (63, .ifCond .eq 7, 66, 70, 0, 0, 0, 0, []), (66, .iconst 1, 67, 0, 0, 0, 0, 1, []), (67, .goto 4, 70, 71, 0, 0, 0, 0, []), (70, .iconst 0, 71, 0, 0, 0, 0, 0, []), (71, .invokevirtual 270, 74, 174, 2, 1, 25, 0, []), (74, .iload_n 1, 75, 1, 0, 0, 0, 0, []), (75, .ireturn, 76, 0, 0, 0, 0, 0, [])]
def zc_267 : List zE := [(0, .aload_n 0, 1, 0, 0, 0, 0, 0, []), (1, .iconst 0, 2, 0, 0, 0, 0, 0, []), (2, .putfield 78, 5, 12, 12, 0, 0, 0, []), (5, .aload_n 0, 6, 0, 0, 0, 0, 0, []), (6, .iload_n 1, 7, 1, 0, 0, 0, 0, []), (7, .invokevirtual 194, 10, 175, 2, 1, 24, 0, []), (10, .ifCond .ne 5, 13, 15, 0, 0, 0, 0, []), (13, .iconst (-1), 14, 0, 0, 0, 0, (-1), []), (14, .ireturn, 15, 0, 0, 0, 0, 0, []), (15, .aload_n 0, 16, 0, 0, 0, 0, 0, []), (16, .getfield 13, 19, 12, 2, 2, 0, 0, []), (19, .iload_n 1, 20, 1, 0, 0, 0, 0, []), (20, .iaload, 21, 0, 0, 0, 0, 0, []), (21, .istore_n 2, 22, 2, 0, 0, 0, 0, []), (22, .iconst 0, 23, 0, 0, 0, 0, 0, []), (23, .istore_n 3, 24, 3, 0, 0, 0, 0, []), (24, .iconst 1, 25, 0, 0, 0, 0, 1, []), (25, .istore 4, 27, 4, 0, 0, 0, 0, []), (27, .iload 4, 29, 4, 0, 0, 0, 0, []), (29, .bipush 9, 31, 0, 0, 0, 0, 9, []), (31, .if_icmp .gt 36, 34, 67, 0, 0, 0, 0, []), (34, .aload_n 0, 35, 0, 0, 0, 0, 0, []), (35, .getfield 13, 38, 12, 2, 2, 0, 0, []), (38, .iload_n 1, 39, 1, 0, 0, 0, 0, []), (39, .iload 4, 41, 4, 0, 0, 0, 0, []), (41, .iastore, 42, 0, 0, 0, 0, 0, []), (42, .iload_n 3, 43, 3, 0, 0, 0, 0, []), (43, .aload_n 0, 44, 0, 0, 0, 0, 0, []), (44, .iconst 0, 45, 0, 0, 0, 0, 0, []), (45, .invokevirtual 365, 48, 264, 2, 1, 24, 0, []), (48, .ifCond .eq 10, 51, 58, 0, 0, 0, 0, []), (51, .iconst 1, 52, 0, 0, 0, 0, 1, []), (52, .iload 4, 54, 4, 0, 0, 0, 0, []), (54, .ishl, 55, 0, 0, 0, 0, 0, []), (55, .goto 4, 58, 59, 0, 0, 0, 0, []), (58, .iconst 0, 59, 0, 0, 0, 0, 0, []), (59, .ior, 60, 0, 0, 0, 0, 0, []), (60, .istore_n 3, 61, 3, 0, 0, 0, 0, []), (61, .iinc 4 1, 64, 4, 0, 0, 0, 1, []), (64, .goto (-37), 67, 27, 0, 0, 0, 0, []), (67, .aload_n 0, 68, 0, 0, 0, 0, 0, []), (68, .getfield 13, 71, 12, 2, 2, 0, 0, []), (71, .iload_n 1, 72, 1, 0, 0, 0, 0, []), (72, .iload_n 2, 73, 2, 0, 0, 0, 0, []), (73, .iastore, 74, 0, 0, 0, 0, 0, []), (74, .iload_n 3, 75, 3, 0, 0, 0, 0, []), (75, .ireturn, 76, 0, 0, 0, 0, 0, [])]
def zc_268 : List zE := [(0, .aload_n 0, 1, 0, 0, 0, 0, 0, []), (1, .iconst 0, 2, 0, 0, 0, 0, 0, []), (2, .putfield 78, 5, 12, 12, 0, 0, 0, []), (5, .aload_n 0, 6, 0, 0, 0, 0, 0, []), (6, .invokevirtual 362, 9, 265, 1, 1, 24, 0, []), (9, .istore_n 1, 10, 1, 0, 0, 0, 0, []), (10, .iconst (-1), 11, 0, 0, 0, 0, (-1), []), (11, .istore_n 2, 12, 2, 0, 0, 0, 0, []), (12, .iconst 0, 13, 0, 0, 0, 0, 0, []), (13, .istore_n 3, 14, 3, 0, 0, 0, 0, []), (14, .iload_n 3, 15, 3, 0, 0, 0, 0, []), (15, .iload_n 1, 16, 1, 0, 0, 0, 0, []), (16, .if_icmp .gt 46, 19, 62, 0, 0, 0, 0, []), (19, .iload_n 3, 20, 3, 0, 0, 0, 0, []), (20, .iload_n 1, 21, 1, 0, 0, 0, 0, []), (21, .iconst (-1), 22, 0, 0, 0, 0, (-1), []), (22, .ixor, 23, 0, 0, 0, 0, 0, []), (23, .iand, 24, 0, 0, 0, 0, 0, []), (24, .ifCond .ne 32, 27, 56, 0, 0, 0, 0, []), (27, .iload_n 2, 28, 2, 0, 0, 0, 0, []), (28, .iconst (-1), 29, 0, 0, 0, 0, (-1), []), (29, .if_icmp .eq 17, 32, 46, 0, 0, 0, 0, []), (32, .iload_n 3, 33, 3, 0, 0, 0, 0, []), (33, .invokestatic 223, 36, 0, 1, 0, 26, 0, []), (36, .iload_n 2, 37, 2, 0, 0, 0, 0, []), (37, .invokestatic 223, 40, 0, 1, 0, 26, 0, []), (40, .if_icmp .lt 6, 43, 46, 0, 0, 0, 0, []), (43, .goto 13, 46, 56, 0, 0, 0, 0, []), (46, .aload_n 0, 47, 0, 0, 0, 0, 0, []), (47, .iload_n 3, 48, 3, 0, 0, 0, 0, []), (48, .invokevirtual 365, 51, 264, 2, 1, 24, 0, []), (51, .ifCond .eq 5, 54, 56, 0, 0, 0, 0, []), (54, .iload_n 3, 55, 3, 0, 0, 0, 0, []), (55, .istore_n 2, 56, 2, 0, 0, 0, 0, []), (56, .iinc 3 1, 59, 3, 0, 0, 0, 1, []), (59, .goto (-45), 62, 14, 0, 0, 0, 0, []), (62, .iload_n 2, 63, 2, 0, 0, 0, 0, []), (63, .iconst (-1), 64, 0, 0, 0, 0, (-1), []), (64, .if_icmp .ne 6, 67, 70, 0, 0, 0, 0, []), (67, .bipush (-2), 69, 0, 0, 0, 0, (-2), []), (69, .ireturn, 70, 0, 0, 0, 0, 0, []), (70, .aload_n 0, 71, 0, 0, 0, 0, 0, []), (71, .iconst 0, 72, 0, 0, 0, 0, 0, []), (72, .putfield 82, 75, 12, 11, 0, 0, 0, []), (75, .aload_n 0, 76, 0, 0, 0, 0, 0, []), (76, .iload_n 2, 77, 2, 0, 0, 0, 0, []), (77, .invokevirtual 270, 80, 174, 2, 1, 25, 0, []), (80, .iload_n 2, 81, 2, 0, 0, 0, 0, []), (81, .invokestatic 223, 84, 0, 1, 0, 26, 0, []), (84, .ireturn, 85, 0, 0, 0, 0, 0, [])]
def zc_269 : List zE := [(0, .aload_n 0, 1, 0, 0, 0, 0, 0, []), (1, .iconst 0, 2, 0, 0, 0, 0, 0, []), (2, .putfield 78, 5, 12, 12, 0, 0, 0, []), (5, .iload_n 2, 6, 2, 0, 0, 0, 0, []), (6, .iconst 1, 7, 0, 0, 0, 0, 1, []), (7, .bipush 20, 9, 0, 0, 0, 0, 20, []), (9, .invokestatic 88, 12, 171, 3, 0, 24, 0, []), (12, .ifCond .ne 5, 15, 17, 0, 0, 0, 0, []), (15, .iconst (-1), 16, 0, 0, 0, 0, (-1), []), (16, .ireturn, 17, 0, 0, 0, 0, 0, []), (17, .iload_n 1, 18, 1, 0, 0, 0, 0, []), (18, .istore_n 3, 19, 3, 0, 0, 0, 0, []), (19, .iconst 0, 20, 0, 0, 0, 0, 0, []), (20, .istore 4, 22, 4, 0, 0, 0, 0, []), (22, .iconst (-1), 23, 0, 0, 0, 0, (-1), []), (23, .istore 5, 25, 5, 0, 0, 0, 0, []), (25, .iconst (-1), 26, 0, 0, 0, 0, (-1), []), (26, .istore 6, 28, 6, 0, 0, 0, 0, []), (28, .iconst 0, 29, 0, 0, 0, 0, 0, []), (29, .istore 7, 31, 7, 0, 0, 0, 0, []), (31, .iload 7, 33, 7, 0, 0, 0, 0, []), (33, .bipush 9, 35, 0, 0, 0, 0, 9, []), (35, .if_icmp .ge 17, 38, 52, 0, 0, 0, 0, []), (38, .aload_n 0, 39, 0, 0, 0, 0, 0, []), (39, .getfield 47, 42, 12, 37, 2, 0, 0, []), (42, .iload 7, 44, 7, 0, 0, 0, 0, []), (44, .iconst 0, 45, 0, 0, 0, 0, 0, []), (45, .iastore, 46, 0, 0, 0, 0, 0, []), (46, .iinc 7 1, 49, 7, 0, 0, 0, 1, []), (49, .goto (-18), 52, 31, 0, 0, 0, 0, []), (52, .iconst 0, 53, 0, 0, 0, 0, 0, []), (53, .istore 7, 55, 7, 0, 0, 0, 0, []), (55, .iload 7, 57, 7, 0, 0, 0, 0, []), (57, .iload_n 2, 58, 2, 0, 0, 0, 0, []), (58, .if_icmp .ge 118, 61, 176, 0, 0, 0, 0, []), (61, .aload_n 0, 62, 0, 0, 0, 0, 0, []), (62, .invokevirtual 300, 65, 227, 1, 1, 25, 0, []), (65, .iconst 0, 66, 0, 0, 0, 0, 0, []), (66, .istore 8, 68, 8, 0, 0, 0, 0, []), (68, .iload 8, 70, 8, 0, 0, 0, 0, []), (70, .aload_n 0, 71, 0, 0, 0, 0, 0, []), (71, .getfield 85, 74, 12, 1, 0, 0, 0, []), (74, .if_icmp .ge 33, 77, 107, 0, 0, 0, 0, []), (77, .iload_n 3, 78, 3, 0, 0, 0, 0, []), (78, .ldc_w 367, 81, 0, 0, 0, 0, 1103515245, []), (81, .imul, 82, 0, 0, 0, 0, 0, []), (82, .sipush 12345, 85, 0, 0, 0, 0, 12345, []), (85, .iadd, 86, 0, 0, 0, 0, 0, []), (86, .istore_n 3, 87, 3, 0, 0, 0, 0, []), (87, .aload_n 0, 88, 0, 0, 0, 0, 0, []), (88, .getfield 44, 91, 12, 34, 2, 0, 0, []), (91, .iload 8, 93, 8, 0, 0, 0, 0, []), (93, .iload_n 3, 94, 3, 0, 0, 0, 0, []), (94, .bipush 16, 96, 0, 0, 0, 0, 16, []), (96, .iushr, 97, 0, 0, 0, 0, 0, []), (97, .bipush 10, 99, 0, 0, 0, 0, 10, []), (99, .irem, 100, 0, 0, 0, 0, 0, []), (100, .iastore, 101, 0, 0, 0, 0, 0, []), (101, .iinc 8 1, 104, 8, 0, 0, 0, 1, []), (104, .goto (-36), 107, 68, 0, 0, 0, 0, []), (107, .aload_n 0, 108, 0, 0, 0, 0, 0, []), (108, .sipush 300, 111, 0, 0, 0, 0, 300, []), (111, .invokevirtual 303, 114, 228, 2, 1, 24, 0, []), (114, .istore 8, 116, 8, 0, 0, 0, 0, []), (116, .iload 8, 118, 8, 0, 0, 0, 0, []), (118, .iconst (-1), 119, 0, 0, 0, 0, (-1), []), (119, .if_icmp .ne 6, 122, 125, 0, 0, 0, 0, []), (122, .goto 48, 125, 170, 0, 0, 0, 0, []), (125, .iinc 4 1, 128, 4, 0, 0, 0, 1, []), (128, .iload 5, 130, 5, 0, 0, 0, 0, []), (130, .iconst (-1), 131, 0, 0, 0, 0, (-1), []), (131, .if_icmp .ne 8, 134, 139, 0, 0, 0, 0, []), (134, .iload 8, 136, 8, 0, 0, 0, 0, []), (136, .goto 10, 139, 146, 0, 0, 0, 0, []), (139, .iload 5, 141, 5, 0, 0, 0, 0, []), (141, .iload 8, 143, 8, 0, 0, 0, 0, []), (143, .invokestatic 204, 146, 4, 2, 0, 28, 0, []), (146, .istore 5, 148, 5, 0, 0, 0, 0, []), (148, .iload 6, 150, 6, 0, 0, 0, 0, []), (150, .iload 8, 152, 8, 0, 0, 0, 0, []), (152, .invokestatic 210, 155, 3, 2, 0, 28, 0, []), (155, .istore 6, 157, 6, 0, 0, 0, 0, []), (157, .aload_n 0, 158, 0, 0, 0, 0, 0, []), (158, .getfield 47, 161, 12, 37, 2, 0, 0, []), (161, .aload_n 0, 162, 0, 0, 0, 0, 0, []), (162, .getfield 297, 165, 12, 35, 0, 0, 0, []), (165, .dup2, 166, 0, 0, 0, 0, 0, []), (166, .iaload, 167, 0, 0, 0, 0, 0, []), (167, .iconst 1, 168, 0, 0, 0, 0, 1, []), (168, .iadd, 169, 0, 0, 0, 0, 0, []), (169, .iastore, 170, 0, 0, 0, 0, 0, []), (170, .iinc 7 1, 173, 7, 0, 0, 0, 1, []), (173, .goto (-118), 176, 55, 0, 0, 0, 0, []), (176, .iconst (-1), 177, 0, 0, 0, 0, (-1), []), (177, .istore 7, 179, 7, 0, 0, 0, 0, []), (179, .iconst 0, 180, 0, 0, 0, 0, 0, []), (180, .istore 8, 182, 8, 0, 0, 0, 0, []), (182, .iload 8, 184, 8, 0, 0, 0, 0, []), (184, .aload_n 0, 185, 0, 0, 0, 0, 0, []), (185, .getfield 85, 188, 12, 1, 0, 0, 0, []), (188, .if_icmp .ge 40, 191, 228, 0, 0, 0, 0, []), (191, .aload_n 0, 192, 0, 0, 0, 0, 0, []), (192, .getfield 47, 195, 12, 37, 2, 0, 0, []), (195, .iload 8, 197, 8, 0, 0, 0, 0, []), (197, .iaload, 198, 0, 0, 0, 0, 0, []), (198, .iload 7, 200, 7, 0, 0, 0, 0, []), (200, .iconst (-1), 201, 0, 0, 0, 0, (-1), []), (201, .if_icmp .ne 7, 204, 208, 0, 0, 0, 0, []), (204, .iconst 0, 205, 0, 0, 0, 0, 0, []), (205, .goto 10, 208, 215, 0, 0, 0, 0, []), (208, .aload_n 0, 209, 0, 0, 0, 0, 0, []), (209, .getfield 47, 212, 12, 37, 2, 0, 0, []), (212, .iload 7, 214, 7, 0, 0, 0, 0, []), (214, .iaload, 215, 0, 0, 0, 0, 0, []), (215, .if_icmp .le 7, 218, 222, 0, 0, 0, 0, []), (218, .iload 8, 220, 8, 0, 0, 0, 0, []), (220, .istore 7, 222, 7, 0, 0, 0, 0, []), (222, .iinc 8 1, 225, 8, 0, 0, 0, 1, []), (225, .goto (-43), 228, 182, 0, 0, 0, 0, []), (228, .aload_n 0, 229, 0, 0, 0, 0, 0, []), (229, .iconst 0, 230, 0, 0, 0, 0, 0, []), (230, .putfield 82, 233, 12, 11, 0, 0, 0, []), (233, .aload_n 0, 234, 0, 0, 0, 0, 0, []), (234, .iload 5, 236, 5, 0, 0, 0, 0, []), (236, .invokevirtual 270, 239, 174, 2, 1, 25, 0, []), (239, .aload_n 0, 240, 0, 0, 0, 0, 0, []), (240, .iload 6, 242, 6, 0, 0, 0, 0, []), (242, .invokevirtual 270, 245, 174, 2, 1, 25, 0, []), (245, .aload_n 0, 246, 0, 0, 0, 0, 0, []), (246, .iload 7, 248, 7, 0, 0, 0, 0, []), (248, .invokevirtual 270, 251, 174, 2, 1, 25, 0, []), (251, .aload_n 0, 252, 0, 0, 0, 0, 0, []), (252, .iload 7, 254, 7, 0, 0, 0, 0, []), (254, .iconst (-1), 255, 0, 0, 0, 0, (-1), []), (255, .if_icmp .ne 7, 258, 262, 0, 0, 0, 0, []), (258, .iconst 0, 259, 0, 0, 0, 0, 0, []), (259, .goto 10, 262, 269, 0, 0, 0, 0, []), (262, .aload_n 0, 263, 0, 0, 0, 0, 0, []), (263, .getfield 47, 266, 12, 37, 2, 0, 0, []), (266, .iload 7, 268, 7, 0, 0, 0, 0, []), (268, .iaload, 269, 0, 0, 0, 0, 0, []), (269, .invokevirtual 270, 272, 174, 2, 1, 25, 0, []), (272, .iload 4, 274, 4, 0, 0, 0, 0, []), (274, .ireturn, 275, 0, 0, 0, 0, 0, [])]
def zc_270 : List zE := [(0, .aload_n 0, 1, 0, 0, 0, 0, 0, []), (1, .iconst 0, 2, 0, 0, 0, 0, 0, []), (2, .putfield 78, 5, 12, 12, 0, 0, 0, []), (5, .iload_n 1, 6, 1, 0, 0, 0, 0, []), (6, .iconst 0, 7, 0, 0, 0, 0, 0, []), (7, .iconst 1, 8, 0, 0, 0, 0, 1, []), (8, .invokestatic 88, 11, 171, 3, 0, 24, 0, []), (11, .ifCond .ne 5, 14, 16, 0, 0, 0, 0, []), (14, .iconst 0, 15, 0, 0, 0, 0, 0, []), (15, .ireturn, 16, 0, 0, 1, 0, 0, []), (16, .aload_n 0, 17, 0, 0, 0, 0, 0, []), (17, .getfield 71, 20, 12, 49, 2, 0, 0, []), (20, .iload_n 1, 21, 1, 0, 0, 0, 0, []), (21, .iconst 1, 22, 0, 0, 0, 0, 1, []), (22, .bastore, 23, 0, 0, 0, 0, 0, []), (23, .aload_n 0, 24, 0, 0, 0, 0, 0, []), (24, .getfield 75, 27, 12, 50, 2, 0, 0, []), (27, .iload_n 1, 28, 1, 0, 0, 0, 0, []), (28, .aload_n 0, 29, 0, 0, 0, 0, 0, []), (29, .getfield 143, 32, 12, 47, 0, 0, 0, []), (32, .iastore, 33, 0, 0, 0, 0, 0, []), (33, .aload_n 0, 34, 0, 0, 0, 0, 0, []), (34, .getfield 9, 37, 12, 0, 2, 0, 0, []), (37, .aload_n 0, 38, 0, 0, 0, 0, 0, []), (38, .getfield 68, 41, 12, 48, 2, 0, 0, []), (41, .sipush 288, 44, 0, 0, 0, 0, 288, []), (44, .iload_n 1, 45, 1, 0, 0, 0, 0, []), (45, .imul, 46, 0, 0, 0, 0, 0, []), (46, .invokestatic 252, 49, 208, 3, 0, 25, 0, []), (49, .iconst 1, 50, 0, 0, 0, 0, 1, []), (50, .ireturn, 51, 0, 0, 1, 0, 0, [])]
def zc_271 : List zE := [(0, .aload_n 0, 1, 0, 0, 0, 0, 0, []), (1, .iconst 0, 2, 0, 0, 0, 0, 0, []), (2, .putfield 78, 5, 12, 12, 0, 0, 0, []), (5, .iload_n 1, 6, 1, 0, 0, 0, 0, []), (6, .iconst 0, 7, 0, 0, 0, 0, 0, []), (7, .iconst 1, 8, 0, 0, 0, 0, 1, []), (8, .invokestatic 88, 11, 171, 3, 0, 24, 0, []), (11, .ifCond .eq 25, 14, 36, 0, 0, 0, 0, []), (14, .aload_n 0, 15, 0, 0, 0, 0, 0, []), (15, .getfield 71, 18, 12, 49, 2, 0, 0, []), (18, .iload_n 1, 19, 1, 0, 0, 0, 0, []), (19, .baload, 20, 0, 0, 0, 0, 0, []), (20, .ifCond .eq 16, 23, 36, 0, 0, 0, 0, []), (23, .aload_n 0, 24, 0, 0, 0, 0, 0, []), (24, .getfield 75, 27, 12, 50, 2, 0, 0, []), (27, .iload_n 1, 28, 1, 0, 0, 0, 0, []), (28, .iaload, 29, 0, 0, 0, 0, 0, []), (29, .aload_n 0, 30, 0, 0, 0, 0, 0, []), (30, .getfield 143, 33, 12, 47, 0, 0, 0, []), (33, .if_icmp .eq 5, 36, 38, 0, 0, 0, 0, []), (36, .iconst 0, 37, 0, 0, 0, 0, 0, []), (37, .ireturn, 38, 0, 0, 1, 0, 0, []), (38, .iconst 0, 39, 0, 0, 0, 0, 0, []), (39, .istore_n 2, 40, 2, 0, 0, 0, 0, []), (40, .iload_n 2, 41, 2, 0, 0, 0, 0, []), (41, .sipush 288, 44, 0, 0, 0, 0, 288, []), (44, .if_icmp .ge 27, 47, 71, 0, 0, 0, 0, []), (47, .aload_n 0, 48, 0, 0, 0, 0, 0, []), (48, .getfield 9, 51, 12, 0, 2, 0, 0, []), (51, .iload_n 2, 52, 2, 0, 0, 0, 0, []), (52, .aload_n 0, 53, 0, 0, 0, 0, 0, []), (53, .getfield 68, 56, 12, 48, 2, 0, 0, []), (56, .sipush 288, 59, 0, 0, 0, 0, 288, []), (59, .iload_n 1, 60, 1, 0, 0, 0, 0, []), (60, .imul, 61, 0, 0, 0, 0, 0, []), (61, .iload_n 2, 62, 2, 0, 0, 0, 0, []), (62, .iadd, 63, 0, 0, 0, 0, 0, []), (63, .iaload, 64, 0, 0, 0, 0, 0, []), (64, .iastore, 65, 0, 0, 0, 0, 0, []), (65, .iinc 2 1, 68, 2, 0, 0, 0, 1, []), (68, .goto (-28), 71, 40, 0, 0, 0, 0, []), (71, .aload_n 0, 72, 0, 0, 0, 0, 0, []), (72, .iconst 0, 73, 0, 0, 0, 0, 0, []), (73, .putfield 140, 76, 12, 30, 0, 0, 0, []), (76, .iconst 1, 77, 0, 0, 0, 0, 1, []), (77, .ireturn, 78, 0, 0, 1, 0, 0, [])]
def zc_272 : List zE := [(0, .aload_n 0, 1, 0, 0, 0, 0, 0, []), (1, .iconst 0, 2, 0, 0, 0, 0, 0, []), (2, .putfield 78, 5, 12, 12, 0, 0, 0, []), (5, .iconst 0, 6, 0, 0, 0, 0, 0, []), (6, .istore_n 2, 7, 2, 0, 0, 0, 0, []), (7, .iload_n 1, 8, 1, 0, 0, 0, 0, []), (8, .tableswitch 188 0 11 #[64, 69, 77, 82, 90, 131, 136, 163, 168, 173, 178, 183], 72, 196, 0, 0, 0, 0, [(0, 72), (1, 77), (2, 85), (3, 90), (4, 98), (5, 139), (6, 144), (7, 171), (8, 176), (9, 181), (10, 186), (11, 191)]), (72, .aload_n 0, 73, 0, 0, 0, 0, 0, []), (73, .getfield 85, 76, 12, 1, 0, 0, 0, []), (76, .ireturn, 77, 0, 0, 0, 0, 0, []), (77, .aload_n 0, 78, 0, 0, 0, 0, 0, []), (78, .getfield 9, 81, 12, 0, 2, 0, 0, []), (81, .bipush 46, 83, 0, 0, 0, 0, 46, []), (83, .iaload, 84, 0, 0, 0, 0, 0, []), (84, .ireturn, 85, 0, 0, 0, 0, 0, []), (85, .aload_n 0, 86, 0, 0, 0, 0, 0, []), (86, .getfield 217, 89, 12, 4, 0, 0, 0, []), (89, .ireturn, 90, 0, 0, 0, 0, 0, []), (90, .aload_n 0, 91, 0, 0, 0, 0, 0, []), (91, .getfield 9, 94, 12, 0, 2, 0, 0, []), (94, .bipush 45, 96, 0, 0, 0, 0, 45, []), (96, .iaload, 97, 0, 0, 0, 0, 0, []), (97, .ireturn, 98, 0, 0, 0, 0, 0, []), (98, .iconst 0, 99, 0, 0, 0, 0, 0, []), (99, .istore_n 3, 100, 3, 0, 0, 0, 0, []), (100, .iload_n 3, 101, 3, 0, 0, 0, 0, []), (101, .aload_n 0, 102, 0, 0, 0, 0, 0, []), (102, .getfield 85, 105, 12, 1, 0, 0, 0, []), (105, .if_icmp .ge 32, 108, 137, 0, 0, 0, 0, []), (108, .iload_n 2, 109, 2, 0, 0, 0, 0, []), (109, .aload_n 0, 110, 0, 0, 0, 0, 0, []), (110, .getfield 9, 113, 12, 0, 2, 0, 0, []), (113, .bipush 18, 115, 0, 0, 0, 0, 18, []), (115, .iload_n 3, 116, 3, 0, 0, 0, 0, []), (116, .iadd, 117, 0, 0, 0, 0, 0, []), (117, .iaload, 118, 0, 0, 0, 0, 0, []), (118, .iconst (-1), 119, 0, 0, 0, 0, (-1), []), (119, .if_icmp .ne 7, 122, 126, 0, 0, 0, 0, []), (122, .iconst 0, 123, 0, 0, 0, 0, 0, []), (123, .goto 6, 126, 129, 0, 0, 0, 0, []), (126, .iconst 1, 127, 0, 0, 0, 0, 1, []), (127, .iload_n 3, 128, 3, 0, 0, 0, 0, []), (128, .ishl, 129, 0, 0, 0, 0, 0, []), (129, .ior, 130, 0, 0, 0, 0, 0, []), (130, .istore_n 2, 131, 2, 0, 0, 0, 0, []), (131, .iinc 3 1, 134, 3, 0, 0, 0, 1, []), (134, .goto (-34), 137, 100, 0, 0, 0, 0, []), (137, .iload_n 2, 138, 2, 0, 0, 0, 0, []), (138, .ireturn, 139, 0, 0, 0, 0, 0, []), (139, .aload_n 0, 140, 0, 0, 0, 0, 0, []), (140, .invokevirtual 288, 143, 223, 1, 1, 24, 0, []), (143, .ireturn, 144, 0, 0, 0, 0, 0, []), (144, .iconst 0, 145, 0, 0, 0, 0, 0, []), (145, .istore_n 3, 146, 3, 0, 0, 0, 0, []), (146, .iload_n 3, 147, 3, 0, 0, 0, 0, []), (147, .aload_n 0, 148, 0, 0, 0, 0, 0, []), (148, .getfield 85, 151, 12, 1, 0, 0, 0, []), (151, .if_icmp .ge 18, 154, 169, 0, 0, 0, 0, []), (154, .iload_n 2, 155, 2, 0, 0, 0, 0, []), (155, .aload_n 0, 156, 0, 0, 0, 0, 0, []), (156, .getfield 9, 159, 12, 0, 2, 0, 0, []), (159, .iload_n 3, 160, 3, 0, 0, 0, 0, []), (160, .iaload, 161, 0, 0, 0, 0, 0, []), (161, .iadd, 162, 0, 0, 0, 0, 0, []), (162, .istore_n 2, 163, 2, 0, 0, 0, 0, []), (163, .iinc 3 1, 166, 3, 0, 0, 0, 1, []), (166, .goto (-20), 169, 146, 0, 0, 0, 0, []), (169, .iload_n 2, 170, 2, 0, 0, 0, 0, []), (170, .ireturn, 171, 0, 0, 0, 0, 0, []), (171, .aload_n 0, 172, 0, 0, 0, 0, 0, []), (172, .getfield 351, 175, 12, 43, 0, 0, 0, []), (175, .ireturn, 176, 0, 0, 0, 0, 0, []), (176, .aload_n 0, 177, 0, 0, 0, 0, 0, []), (177, .getfield 140, 180, 12, 30, 0, 0, 0, []), (180, .ireturn, 181, 0, 0, 0, 0, 0, []), (181, .aload_n 0, 182, 0, 0, 0, 0, 0, []), (182, .getfield 359, 185, 12, 46, 0, 0, 0, []), (185, .ireturn, 186, 0, 0, 0, 0, 0, []), (186, .aload_n 0, 187, 0, 0, 0, 0, 0, []), (187, .getfield 82, 190, 12, 11, 0, 0, 0, []), (190, .ireturn, 191, 0, 0, 0, 0, 0, []), (191, .aload_n 0, 192, 0, 0, 0, 0, 0, []), (192, .getfield 96, 195, 12, 9, 0, 0, 0, []), (195, .ireturn, 196, 0, 0, 0, 0, 0, []), (196, .iconst (-1), 197, 0, 0, 0, 0, (-1), []), (197, .ireturn, 198, 0, 0, 0, 0, 0, [])]
def zc_273 : List zE := [(0, .aload_n 0, 1, 0, 0, 0, 0, 0, []), (1, .iconst 0, 2, 0, 0, 0, 0, 0, []), (2, .putfield 78, 5, 12, 12, 0, 0, 0, []), (5, .iload_n 1, 6, 1, 0, 0, 0, 0, []), (6, .iconst 0, 7, 0, 0, 0, 0, 0, []), (7, .aload_n 0, 8, 0, 0, 0, 0, 0, []), (8, .getfield 82, 11, 12, 11, 0, 0, 0, []), (11, .iconst 1, 12, 0, 0, 0, 0, 1, []), (12, .isub, 13, 0, 0, 0, 0, 0, []), (13, .invokestatic 88, 16, 171, 3, 0, 24, 0, []), (16, .ifCond .eq 12, 19, 28, 0, 0, 0, 0, []), (19, .aload_n 0, 20, 0, 0, 0, 0, 0, []), (20, .getfield 26, 23, 12, 10, 2, 0, 0, []), (23, .iload_n 1, 24, 1, 0, 0, 0, 0, []), (24, .iaload, 25, 0, 0, 0, 0, 0, []), (25, .goto 7, 28, 32, 0, 0, 0, 0, []), (28, .aload_n 0, 29, 0, 0, 0, 0, 0, []), (29, .invokevirtual 198, 32, 173, 1, 1, 24, 0, []), (32, .ireturn, 33, 0, 0, 0, 0, 0, [])]
def zProg : List (List zE) := [zc_0, zc_1, zc_2, zc_3, zc_4, zc_5, zc_6, zc_7, zc_8, zc_9, zc_10, zc_11, zc_12, zc_13, zc_14, zc_15, zc_16, zc_17, zc_18, zc_19, zc_20, zc_21, zc_22, zc_23, zc_24, zc_25, zc_26, zc_27, zc_28, zc_29, zc_30, zc_31, zc_32, zc_33, zc_34, zc_35, zc_36, zc_37, zc_38, zc_39, zc_40, zc_41, zc_42, zc_43, zc_44, zc_45, zc_46, zc_47, zc_48, zc_49, zc_50, zc_51, zc_52, zc_53, zc_54, zc_55, zc_56, zc_57, zc_58, zc_59, zc_60, zc_61, zc_62, zc_63, zc_64, zc_65, zc_66, zc_67, zc_68, zc_69, zc_70, zc_71, zc_72, zc_73, zc_74, zc_75, zc_76, zc_77, zc_78, zc_79, zc_80, zc_81, zc_82, zc_83, zc_84, zc_85, zc_86, zc_87, zc_88, zc_89, zc_90, zc_91, zc_92, zc_93, zc_94, zc_95, zc_96, zc_97, zc_98, zc_99, zc_100, zc_101, zc_102, zc_103, zc_104, zc_105, zc_106, zc_107, zc_108, zc_109, zc_110, zc_111, zc_112, zc_113, zc_114, zc_115, zc_116, zc_117, zc_118, zc_119, zc_120, zc_121, zc_122, zc_123, zc_124, zc_125, zc_126, zc_127, zc_128, zc_129, zc_130, zc_131, zc_132, zc_133, zc_134, zc_135, zc_136, zc_137, zc_138, zc_139, zc_140, zc_141, zc_142, zc_143, zc_144, zc_145, zc_146, zc_147, zc_148, zc_149, zc_150, zc_151, zc_152, zc_153, zc_154, zc_155, zc_156, zc_157, zc_158, zc_159, zc_160, zc_161, zc_162, zc_163, zc_164, zc_165, zc_166, zc_167, zc_168, zc_169, zc_170, zc_171, zc_172, zc_173, zc_174, zc_175, zc_176, zc_177, zc_178, zc_179, zc_180, zc_181, zc_182, zc_183, zc_184, zc_185, zc_186, zc_187, zc_188, zc_189, zc_190, zc_191, zc_192, zc_193, zc_194, zc_195, zc_196, zc_197, zc_198, zc_199, zc_200, zc_201, zc_202, zc_203, zc_204, zc_205, zc_206, zc_207, zc_208, zc_209, zc_210, zc_211, zc_212, zc_213, zc_214, zc_215, zc_216, zc_217, zc_218, zc_219, zc_220, zc_221, zc_222, zc_223, zc_224, zc_225, zc_226, zc_227, zc_228, zc_229, zc_230, zc_231, zc_232, zc_233, zc_234, zc_235, zc_236, zc_237, zc_238, zc_239, zc_240, zc_241, zc_242, zc_243, zc_244, zc_245, zc_246, zc_247, zc_248, zc_249, zc_250, zc_251, zc_252, zc_253, zc_254, zc_255, zc_256, zc_257, zc_258, zc_259, zc_260, zc_261, zc_262, zc_263, zc_264, zc_265, zc_266, zc_267, zc_268, zc_269, zc_270, zc_271, zc_272, zc_273]
def zYs : List MethodName := [⟨"java/lang/Integer", "bitCount", "(I)I"⟩, ⟨"java/lang/Math", "floorMod", "(II)I"⟩, ⟨"java/lang/Math", "abs", "(I)I"⟩, ⟨"java/lang/Math", "max", "(II)I"⟩, ⟨"java/lang/Math", "min", "(II)I"⟩, ⟨"java/util/Arrays", "fill", "([II)V"⟩, ⟨"StartedByAYawn$Acts", "<init>", "(LStartedByAYawn$Text;)V"⟩, ⟨"StartedByAYawn$Acts", "readAll", "()Z"⟩, ⟨"StartedByAYawn$Acts", "readOne", "()Z"⟩, ⟨"StartedByAYawn$Acts", "readMinutes", "()Z"⟩, ⟨"StartedByAYawn$Acts", "put", "(III)Z"⟩, ⟨"StartedByAYawn$Book", "<init>", "()V"⟩, ⟨"StartedByAYawn$Book", "take", "(LStartedByAYawn$Book;)V"⟩, ⟨"StartedByAYawn$Book", "holds", "(I)Z"⟩, ⟨"StartedByAYawn$Book", "place", "(I)I"⟩, ⟨"StartedByAYawn$Book", "write", "(IIII)V"⟩, ⟨"StartedByAYawn$Book", "causeOf", "(I)I"⟩, ⟨"StartedByAYawn$Book", "faceOf", "(I)I"⟩, ⟨"StartedByAYawn$Book", "latestBefore", "(II)I"⟩, ⟨"StartedByAYawn$Crews", "<init>", "()V"⟩, ⟨"StartedByAYawn$Crews", "add", "(III)Z"⟩, ⟨"StartedByAYawn$Crews", "price", "(III)I"⟩, ⟨"StartedByAYawn$Kept", "<init>", "()V"⟩, ⟨"StartedByAYawn$Kept", "take", "(LStartedByAYawn$Wall;LStartedByAYawn$Book;)V"⟩, ⟨"StartedByAYawn$Kept", "give", "(LStartedByAYawn$Wall;LStartedByAYawn$Book;)V"⟩, ⟨"StartedByAYawn$Moment", "<init>", "()V"⟩, ⟨"StartedByAYawn$Moment", "take", "(LStartedByAYawn$Moment;)V"⟩, ⟨"StartedByAYawn$Moment", "plan", "(IIII)V"⟩, ⟨"StartedByAYawn$Moment", "drop", "(I)V"⟩, ⟨"StartedByAYawn$Moment", "dropAll", "()V"⟩, ⟨"StartedByAYawn$Moment", "waiting", "()I"⟩, ⟨"StartedByAYawn$Moment", "turnAway", "(I)V"⟩, ⟨"StartedByAYawn$Moment", "send", "(I)V"⟩, ⟨"StartedByAYawn$Moment", "tire", "(II)V"⟩, ⟨"StartedByAYawn$Past", "<init>", "()V"⟩, ⟨"StartedByAYawn$Past", "draft", "(LStartedByAYawn$Wall;LStartedByAYawn$Book;)V"⟩, ⟨"StartedByAYawn$Past", "confirm", "()V"⟩, ⟨"StartedByAYawn$Past", "bringBack", "(LStartedByAYawn$Wall;LStartedByAYawn$Book;)Z"⟩, ⟨"StartedByAYawn$Rule", "<init>", "()V"⟩, ⟨"StartedByAYawn$Rule", "reset", "()V"⟩, ⟨"StartedByAYawn$Rule", "take", "(LStartedByAYawn$RuleReader;)V"⟩, ⟨"StartedByAYawn$Rule", "takeWind", "([II)V"⟩, ⟨"StartedByAYawn$Rule", "windAt", "(I)I"⟩, ⟨"StartedByAYawn$Rule", "holds", "()Z"⟩, ⟨"StartedByAYawn$Rule", "joined", "(III)I"⟩, ⟨"StartedByAYawn$RuleReader", "<init>", "(LStartedByAYawn$Text;)V"⟩, ⟨"StartedByAYawn$RuleReader", "readAll", "()Z"⟩, ⟨"StartedByAYawn$RuleReader", "put", "(I)V"⟩, ⟨"StartedByAYawn$RuleReader", "expression", "(I)Z"⟩, ⟨"StartedByAYawn$RuleReader", "sum", "(I)Z"⟩, ⟨"StartedByAYawn$RuleReader", "product", "(I)Z"⟩, ⟨"StartedByAYawn$RuleReader", "signed", "(I)Z"⟩, ⟨"StartedByAYawn$RuleReader", "thing", "(I)Z"⟩, ⟨"StartedByAYawn$RuleReader", "restOfNumber", "(I)I"⟩, ⟨"StartedByAYawn$RuleReader", "valueOf", "(I)I"⟩, ⟨"StartedByAYawn$Sightings", "<init>", "()V"⟩, ⟨"StartedByAYawn$Sightings", "add", "(II)Z"⟩, ⟨"StartedByAYawn$Sightings", "comeOn", "(LStartedByAYawn$Wall;)Z"⟩, ⟨"StartedByAYawn$Text", "<init>", "()V"⟩, ⟨"StartedByAYawn$Text", "put", "(I)Z"⟩, ⟨"StartedByAYawn$Text", "open", "(I)V"⟩, ⟨"StartedByAYawn$Text", "isOver", "()Z"⟩, ⟨"StartedByAYawn$Text", "close", "(Z)Z"⟩, ⟨"StartedByAYawn$Text", "fault", "()I"⟩, ⟨"StartedByAYawn$Text", "peek", "()I"⟩, ⟨"StartedByAYawn$Text", "step", "()V"⟩, ⟨"StartedByAYawn$Text", "pick", "(I)Z"⟩, ⟨"StartedByAYawn$Text", "digit", "(I)I"⟩, ⟨"StartedByAYawn$Text", "letter", "(I)I"⟩, ⟨"StartedByAYawn$Text", "valueFrom", "(III)I"⟩, ⟨"StartedByAYawn$Wall", "<init>", "(LStartedByAYawn$Rule;)V"⟩, ⟨"StartedByAYawn$Wall", "take", "(LStartedByAYawn$Wall;)V"⟩, ⟨"StartedByAYawn$Wall", "everybody", "()I"⟩, ⟨"StartedByAYawn$Wall", "present", "()I"⟩, ⟨"StartedByAYawn$Wall", "sight", "(I)I"⟩, ⟨"StartedByAYawn$Wall", "sightOf", "(I)I"⟩, ⟨"StartedByAYawn$Wall", "seersOf", "(I)I"⟩, ⟨"StartedByAYawn$Wall", "pass", "(Z)V"⟩, ⟨"StartedByAYawn$Wall", "yawnAll", "(Z)V"⟩, ⟨"StartedByAYawn$Wall", "catchAll", "()V"⟩, ⟨"StartedByAYawn$Wall", "causeFor", "(II)I"⟩, ⟨"StartedByAYawn", "<init>", "()V"⟩, ⟨"StartedByAYawn", "sign", "(I)I"⟩, ⟨"StartedByAYawn", "end", "(I)Z"⟩, ⟨"StartedByAYawn", "wall", "()I"⟩, ⟨"StartedByAYawn", "wind", "()I"⟩, ⟨"StartedByAYawn", "rule", "()I"⟩, ⟨"StartedByAYawn", "face", "(II)I"⟩, ⟨"StartedByAYawn", "set", "(III)I"⟩, ⟨"StartedByAYawn", "sheet", "(IIII)I"⟩, ⟨"StartedByAYawn", "judges", "(I)I"⟩, ⟨"StartedByAYawn", "yawn", "(II)Z"⟩, ⟨"StartedByAYawn", "away", "(I)I"⟩, ⟨"StartedByAYawn", "catchers", "(II)I"⟩, ⟨"StartedByAYawn", "minute", "()I"⟩, ⟨"StartedByAYawn", "minutes", "(I)I"⟩, ⟨"StartedByAYawn", "hour", "()I"⟩, ⟨"StartedByAYawn", "undo", "()I"⟩, ⟨"StartedByAYawn", "book", "(II)I"⟩, ⟨"StartedByAYawn", "back", "(I)I"⟩, ⟨"StartedByAYawn", "start", "()I"⟩, ⟨"StartedByAYawn", "ahead", "(I)I"⟩, ⟨"StartedByAYawn", "watch", "(I)I"⟩, ⟨"StartedByAYawn", "when", "(I)I"⟩, ⟨"StartedByAYawn", "spreads", "(II)I"⟩, ⟨"StartedByAYawn", "dies", "(I)I"⟩, ⟨"StartedByAYawn", "everlasting", "()I"⟩, ⟨"StartedByAYawn", "cuts", "(I)I"⟩, ⟨"StartedByAYawn", "reach", "(I)I"⟩, ⟨"StartedByAYawn", "path", "(II)I"⟩, ⟨"StartedByAYawn", "enough", "()I"⟩, ⟨"StartedByAYawn", "dull", "(II)I"⟩, ⟨"StartedByAYawn", "bluff", "()I"⟩, ⟨"StartedByAYawn", "calm", "(II)I"⟩, ⟨"StartedByAYawn", "hush", "(I)I"⟩, ⟨"StartedByAYawn", "gaze", "(II)I"⟩, ⟨"StartedByAYawn", "rests", "(I)I"⟩, ⟨"StartedByAYawn", "crew", "(III)I"⟩, ⟨"StartedByAYawn", "home", "()I"⟩, ⟨"StartedByAYawn", "cost", "(I)I"⟩, ⟨"StartedByAYawn", "best", "(I)I"⟩, ⟨"StartedByAYawn", "seen", "(II)I"⟩, ⟨"StartedByAYawn", "forget", "()I"⟩, ⟨"StartedByAYawn", "began", "()I"⟩, ⟨"StartedByAYawn", "delays", "(I)I"⟩, ⟨"StartedByAYawn", "fewest", "()I"⟩, ⟨"StartedByAYawn", "season", "(II)I"⟩, ⟨"StartedByAYawn", "keep", "(I)Z"⟩, ⟨"StartedByAYawn", "again", "(I)Z"⟩, ⟨"StartedByAYawn", "count", "(I)I"⟩, ⟨"StartedByAYawn", "row", "(I)I"⟩, ⟨"StartedByAYawn", "bit", "(I)I"⟩, ⟨"StartedByAYawn", "has", "(II)Z"⟩, ⟨"StartedByAYawn", "isIn", "(III)Z"⟩, ⟨"StartedByAYawn", "isFace", "(I)Z"⟩, ⟨"StartedByAYawn", "isPresent", "(I)Z"⟩, ⟨"StartedByAYawn", "canYawn", "(I)Z"⟩, ⟨"StartedByAYawn", "remember", "()V"⟩, ⟨"StartedByAYawn", "tell", "(I)V"⟩, ⟨"StartedByAYawn", "tell", "(II)V"⟩, ⟨"StartedByAYawn", "tell", "(IIII)V"⟩, ⟨"StartedByAYawn", "readLines", "()I"⟩, ⟨"StartedByAYawn", "readLine", "(I)Z"⟩, ⟨"StartedByAYawn", "readLetters", "()I"⟩, ⟨"StartedByAYawn", "exchange", "([III)I"⟩, ⟨"StartedByAYawn", "asTired", "(II)I"⟩, ⟨"StartedByAYawn", "sumOfTired", "()I"⟩, ⟨"StartedByAYawn", "falseIn", "(LStartedByAYawn$Wall;)I"⟩, ⟨"StartedByAYawn", "goBy", "()I"⟩, ⟨"StartedByAYawn", "act", "(III)I"⟩, ⟨"StartedByAYawn", "startWithin", "(I)I"⟩, ⟨"StartedByAYawn", "leastOf", "(I)I"⟩, ⟨"StartedByAYawn", "orLatest", "(I)I"⟩, ⟨"StartedByAYawn", "startIfTired", "(II)I"⟩, ⟨"StartedByAYawn", "playOn", "(I)I"⟩, ⟨"StartedByAYawn", "mostInTally", "()I"⟩, ⟨"StartedByAYawn", "sumOfTally", "()I"⟩, ⟨"StartedByAYawn", "thoseInTally", "()I"⟩, ⟨"StartedByAYawn", "firstYawn", "(II)I"⟩, ⟨"StartedByAYawn", "diesWithout", "(II)I"⟩, ⟨"StartedByAYawn", "nextSet", "(II)I"⟩, ⟨"StartedByAYawn", "measureTo", "(I)V"⟩, ⟨"StartedByAYawn", "isStep", "(II)Z"⟩, ⟨"StartedByAYawn", "nextOnPath", "(I)I"⟩, ⟨"StartedByAYawn", "causedIfSeen", "(III)I"⟩, ⟨"StartedByAYawn", "setBoth", "(II)V"⟩, ⟨"StartedByAYawn", "choiceOf", "(III)I"⟩, ⟨"StartedByAYawn", "priceOfAll", "(III)I"⟩, ⟨"StartedByAYawn", "comesIfYawn", "(I)Z"⟩, ⟨"StartedByAYawnModel", "<init>", "()V"⟩, ⟨"StartedByAYawnModel", "thrown", "()I"⟩, ⟨"StartedByAYawnModel", "in", "(III)Z"⟩, ⟨"StartedByAYawnModel", "has", "(II)Z"⟩, ⟨"StartedByAYawnModel", "lost", "()I"⟩, ⟨"StartedByAYawnModel", "tell", "(I)V"⟩, ⟨"StartedByAYawnModel", "isFace", "(I)Z"⟩, ⟨"StartedByAYawnModel", "all", "()I"⟩, ⟨"StartedByAYawnModel", "sight", "(I)I"⟩, ⟨"StartedByAYawnModel", "isMore", "(I)Z"⟩, ⟨"StartedByAYawnModel", "sign", "(I)I"⟩, ⟨"StartedByAYawnModel", "end", "(I)Z"⟩, ⟨"StartedByAYawnModel", "begin", "([BII)V"⟩, ⟨"StartedByAYawnModel", "here", "()I"⟩, ⟨"StartedByAYawnModel", "fine", "()Z"⟩, ⟨"StartedByAYawnModel", "fault", "(I)V"⟩, ⟨"StartedByAYawnModel", "passes", "(C)Z"⟩, ⟨"StartedByAYawnModel", "need", "(C)V"⟩, ⟨"StartedByAYawnModel", "digit", "(I)I"⟩, ⟨"StartedByAYawnModel", "letter", "()I"⟩, ⟨"StartedByAYawnModel", "wall", "()I"⟩, ⟨"StartedByAYawnModel", "clear", "([II)V"⟩, ⟨"StartedByAYawnModel", "readFace", "(I)V"⟩, ⟨"StartedByAYawnModel", "wind", "()I"⟩, ⟨"StartedByAYawnModel", "held", "(I)I"⟩, ⟨"StartedByAYawnModel", "sum", "(I)I"⟩, ⟨"StartedByAYawnModel", "product", "(I)I"⟩, ⟨"StartedByAYawnModel", "thing", "(I)I"⟩, ⟨"StartedByAYawnModel", "valueOf", "(I[I)I"⟩, ⟨"StartedByAYawnModel", "rule", "()I"⟩, ⟨"StartedByAYawnModel", "catches", "([IIIII)Z"⟩, ⟨"StartedByAYawnModel", "face", "(II)I"⟩, ⟨"StartedByAYawnModel", "set", "(III)I"⟩, ⟨"StartedByAYawnModel", "sheet", "(IIII)I"⟩, ⟨"StartedByAYawnModel", "seenBy", "(I)I"⟩, ⟨"StartedByAYawnModel", "judges", "(I)I"⟩, ⟨"StartedByAYawnModel", "goMinute", "([I)V"⟩, ⟨"StartedByAYawnModel", "goYawn", "([III)V"⟩, ⟨"StartedByAYawnModel", "goCatch", "([III)V"⟩, ⟨"StartedByAYawnModel", "lay", "([I[II)V"⟩, ⟨"StartedByAYawnModel", "remember", "([I)V"⟩, ⟨"StartedByAYawnModel", "canYawn", "([II)Z"⟩, ⟨"StartedByAYawnModel", "begins", "([III)V"⟩, ⟨"StartedByAYawnModel", "yawn", "(II)Z"⟩, ⟨"StartedByAYawnModel", "goAway", "(I)V"⟩, ⟨"StartedByAYawnModel", "away", "(I)I"⟩, ⟨"StartedByAYawnModel", "catchers", "(II)I"⟩, ⟨"StartedByAYawnModel", "falseOnes", "()I"⟩, ⟨"StartedByAYawnModel", "minute", "()I"⟩, ⟨"StartedByAYawnModel", "minutes", "(I)I"⟩, ⟨"StartedByAYawnModel", "hour", "()I"⟩, ⟨"StartedByAYawnModel", "readAct", "(I)V"⟩, ⟨"StartedByAYawnModel", "act", "(I)Z"⟩, ⟨"StartedByAYawnModel", "undo", "()I"⟩, ⟨"StartedByAYawnModel", "bookMany", "()I"⟩, ⟨"StartedByAYawnModel", "lineOf", "(I)I"⟩, ⟨"StartedByAYawnModel", "book", "(II)I"⟩, ⟨"StartedByAYawnModel", "back", "(I)I"⟩, ⟨"StartedByAYawnModel", "beginThen", "()V"⟩, ⟨"StartedByAYawnModel", "findStart", "(I)I"⟩, ⟨"StartedByAYawnModel", "start", "()I"⟩, ⟨"StartedByAYawnModel", "count0", "(I)I"⟩, ⟨"StartedByAYawnModel", "ahead", "(I)I"⟩, ⟨"StartedByAYawnModel", "watch", "(I)I"⟩, ⟨"StartedByAYawnModel", "when", "(I)I"⟩, ⟨"StartedByAYawnModel", "whoYawns", "()I"⟩, ⟨"StartedByAYawnModel", "spreads", "(II)I"⟩, ⟨"StartedByAYawnModel", "isDue", "()Z"⟩, ⟨"StartedByAYawnModel", "diesIn", "(II)I"⟩, ⟨"StartedByAYawnModel", "dies", "(I)I"⟩, ⟨"StartedByAYawnModel", "everlasting", "()I"⟩, ⟨"StartedByAYawnModel", "cuts", "(I)I"⟩, ⟨"StartedByAYawnModel", "findFar", "(IZ)V"⟩, ⟨"StartedByAYawnModel", "reach", "(I)I"⟩, ⟨"StartedByAYawnModel", "path", "(II)I"⟩, ⟨"StartedByAYawnModel", "leads", "(II)Z"⟩, ⟨"StartedByAYawnModel", "enough", "()I"⟩, ⟨"StartedByAYawnModel", "more", "(II)I"⟩, ⟨"StartedByAYawnModel", "startWith", "(II)I"⟩, ⟨"StartedByAYawnModel", "dull", "(II)I"⟩, ⟨"StartedByAYawnModel", "late", "(I)I"⟩, ⟨"StartedByAYawnModel", "bluff", "()I"⟩, ⟨"StartedByAYawnModel", "calm", "(II)I"⟩, ⟨"StartedByAYawnModel", "hush", "(I)I"⟩, ⟨"StartedByAYawnModel", "causedBy", "(II)I"⟩, ⟨"StartedByAYawnModel", "gaze", "(II)I"⟩, ⟨"StartedByAYawnModel", "startBy", "()I"⟩, ⟨"StartedByAYawnModel", "rests", "(I)I"⟩, ⟨"StartedByAYawnModel", "crew", "(III)I"⟩, ⟨"StartedByAYawnModel", "home", "()I"⟩, ⟨"StartedByAYawnModel", "costOf", "(III)I"⟩, ⟨"StartedByAYawnModel", "cost", "(I)I"⟩, ⟨"StartedByAYawnModel", "best", "(I)I"⟩, ⟨"StartedByAYawnModel", "seen", "(II)I"⟩, ⟨"StartedByAYawnModel", "forget", "()I"⟩, ⟨"StartedByAYawnModel", "comes", "(I)Z"⟩, ⟨"StartedByAYawnModel", "able", "()I"⟩, ⟨"StartedByAYawnModel", "began", "()I"⟩, ⟨"StartedByAYawnModel", "delays", "(I)I"⟩, ⟨"StartedByAYawnModel", "fewest", "()I"⟩, ⟨"StartedByAYawnModel", "season", "(II)I"⟩, ⟨"StartedByAYawnModel", "keep", "(I)Z"⟩, ⟨"StartedByAYawnModel", "again", "(I)Z"⟩, ⟨"StartedByAYawnModel", "count", "(I)I"⟩, ⟨"StartedByAYawnModel", "row", "(I)I"⟩]
def zBs : List ByteArray := [prog_17_method_49_code, prog_18_method_50_code, prog_18_method_59_code, prog_18_method_65_code, prog_18_method_69_code, prog_23_method_103_code, prog_2_method_1_code, prog_2_method_2_code, prog_2_method_3_code, prog_2_method_4_code, prog_2_method_5_code, prog_3_method_1_code, prog_3_method_2_code, prog_3_method_3_code, prog_3_method_4_code, prog_3_method_5_code, prog_3_method_6_code, prog_3_method_7_code, prog_3_method_8_code, prog_4_method_1_code, prog_4_method_2_code, prog_4_method_3_code, prog_5_method_1_code, prog_5_method_2_code, prog_5_method_3_code, prog_6_method_1_code, prog_6_method_2_code, prog_6_method_3_code, prog_6_method_4_code, prog_6_method_5_code, prog_6_method_6_code, prog_6_method_7_code, prog_6_method_8_code, prog_6_method_9_code, prog_7_method_1_code, prog_7_method_2_code, prog_7_method_3_code, prog_7_method_4_code, prog_8_method_1_code, prog_8_method_2_code, prog_8_method_3_code, prog_8_method_4_code, prog_8_method_5_code, prog_8_method_6_code, prog_8_method_7_code, prog_9_method_1_code, prog_9_method_2_code, prog_9_method_3_code, prog_9_method_4_code, prog_9_method_5_code, prog_9_method_6_code, prog_9_method_7_code, prog_9_method_8_code, prog_9_method_9_code, prog_9_method_10_code, prog_10_method_1_code, prog_10_method_2_code, prog_10_method_3_code, prog_11_method_1_code, prog_11_method_2_code, prog_11_method_3_code, prog_11_method_4_code, prog_11_method_5_code, prog_11_method_6_code, prog_11_method_7_code, prog_11_method_8_code, prog_11_method_9_code, prog_11_method_10_code, prog_11_method_11_code, prog_11_method_12_code, prog_12_method_1_code, prog_12_method_2_code, prog_12_method_3_code, prog_12_method_4_code, prog_12_method_5_code, prog_12_method_6_code, prog_12_method_7_code, prog_12_method_8_code, prog_12_method_9_code, prog_12_method_10_code, prog_12_method_11_code, prog_1_method_1_code, prog_1_method_2_code, prog_1_method_3_code, prog_1_method_4_code, prog_1_method_5_code, prog_1_method_6_code, prog_1_method_7_code, prog_1_method_8_code, prog_1_method_9_code, prog_1_method_10_code, prog_1_method_11_code, prog_1_method_12_code, prog_1_method_13_code, prog_1_method_14_code, prog_1_method_15_code, prog_1_method_16_code, prog_1_method_17_code, prog_1_method_18_code, prog_1_method_19_code, prog_1_method_20_code, prog_1_method_21_code, prog_1_method_22_code, prog_1_method_23_code, prog_1_method_24_code, prog_1_method_25_code, prog_1_method_26_code, prog_1_method_27_code, prog_1_method_28_code, prog_1_method_29_code, prog_1_method_30_code, prog_1_method_31_code, prog_1_method_32_code, prog_1_method_33_code, prog_1_method_34_code, prog_1_method_35_code, prog_1_method_36_code, prog_1_method_37_code, prog_1_method_38_code, prog_1_method_39_code, prog_1_method_40_code, prog_1_method_41_code, prog_1_method_42_code, prog_1_method_43_code, prog_1_method_44_code, prog_1_method_45_code, prog_1_method_46_code, prog_1_method_47_code, prog_1_method_48_code, prog_1_method_49_code, prog_1_method_50_code, prog_1_method_51_code, prog_1_method_52_code, prog_1_method_53_code, prog_1_method_54_code, prog_1_method_55_code, prog_1_method_56_code, prog_1_method_57_code, prog_1_method_58_code, prog_1_method_59_code, prog_1_method_60_code, prog_1_method_61_code, prog_1_method_62_code, prog_1_method_63_code, prog_1_method_64_code, prog_1_method_65_code, prog_1_method_66_code, prog_1_method_67_code, prog_1_method_68_code, prog_1_method_69_code, prog_1_method_70_code, prog_1_method_71_code, prog_1_method_72_code, prog_1_method_73_code, prog_1_method_74_code, prog_1_method_75_code, prog_1_method_76_code, prog_1_method_77_code, prog_1_method_78_code, prog_1_method_79_code, prog_1_method_80_code, prog_1_method_81_code, prog_1_method_82_code, prog_1_method_83_code, prog_1_method_84_code, prog_1_method_85_code, prog_1_method_86_code, prog_1_method_87_code, prog_1_method_88_code, prog_14_method_1_code, prog_14_method_2_code, prog_14_method_3_code, prog_14_method_4_code, prog_14_method_5_code, prog_14_method_6_code, prog_14_method_7_code, prog_14_method_8_code, prog_14_method_9_code, prog_14_method_10_code, prog_14_method_11_code, prog_14_method_12_code, prog_14_method_13_code, prog_14_method_14_code, prog_14_method_15_code, prog_14_method_16_code, prog_14_method_17_code, prog_14_method_18_code, prog_14_method_19_code, prog_14_method_20_code, prog_14_method_21_code, prog_14_method_22_code, prog_14_method_23_code, prog_14_method_24_code, prog_14_method_25_code, prog_14_method_26_code, prog_14_method_27_code, prog_14_method_28_code, prog_14_method_29_code, prog_14_method_30_code, prog_14_method_31_code, prog_14_method_32_code, prog_14_method_33_code, prog_14_method_34_code, prog_14_method_35_code, prog_14_method_36_code, prog_14_method_37_code, prog_14_method_38_code, prog_14_method_39_code, prog_14_method_40_code, prog_14_method_41_code, prog_14_method_42_code, prog_14_method_43_code, prog_14_method_44_code, prog_14_method_45_code, prog_14_method_46_code, prog_14_method_47_code, prog_14_method_48_code, prog_14_method_49_code, prog_14_method_50_code, prog_14_method_51_code, prog_14_method_52_code, prog_14_method_53_code, prog_14_method_54_code, prog_14_method_55_code, prog_14_method_56_code, prog_14_method_57_code, prog_14_method_58_code, prog_14_method_59_code, prog_14_method_60_code, prog_14_method_61_code, prog_14_method_62_code, prog_14_method_63_code, prog_14_method_64_code, prog_14_method_65_code, prog_14_method_66_code, prog_14_method_67_code, prog_14_method_68_code, prog_14_method_69_code, prog_14_method_70_code, prog_14_method_71_code, prog_14_method_72_code, prog_14_method_73_code, prog_14_method_74_code, prog_14_method_75_code, prog_14_method_76_code, prog_14_method_77_code, prog_14_method_78_code, prog_14_method_79_code, prog_14_method_80_code, prog_14_method_81_code, prog_14_method_82_code, prog_14_method_83_code, prog_14_method_84_code, prog_14_method_85_code, prog_14_method_86_code, prog_14_method_87_code, prog_14_method_88_code, prog_14_method_89_code, prog_14_method_90_code, prog_14_method_91_code, prog_14_method_92_code, prog_14_method_93_code, prog_14_method_94_code, prog_14_method_95_code, prog_14_method_96_code, prog_14_method_97_code, prog_14_method_98_code, prog_14_method_99_code, prog_14_method_100_code, prog_14_method_101_code, prog_14_method_102_code, prog_14_method_103_code, prog_14_method_104_code, prog_14_method_105_code]
def zMs : List (Nat × Nat × Option FieldType) := [(13, 1, some .int), (14, 3, some .int), (14, 1, some .int), (14, 2, some .int), (14, 2, some .int), (15, 4, none), (0, 2, none), (0, 2, some .boolean), (0, 4, some .boolean), (0, 3, some .boolean), (0, 4, some .boolean), (1, 1, none), (1, 2, none), (1, 2, some .boolean), (1, 2, some .int), (1, 6, none), (1, 2, some .int), (1, 2, some .int), (1, 5, some .int), (2, 1, none), (2, 4, some .boolean), (2, 4, some .int), (3, 1, none), (3, 3, none), (3, 3, none), (4, 1, none), (4, 2, none), (4, 5, none), (4, 2, none), (4, 1, none), (4, 3, some .int), (4, 2, none), (4, 3, none), (4, 3, none), (5, 2, none), (5, 4, none), (5, 1, none), (5, 4, some .boolean), (6, 1, none), (6, 1, none), (6, 2, none), (6, 4, none), (6, 2, some .int), (6, 5, some .boolean), (6, 3, some .int), (7, 2, none), (7, 1, some .boolean), (7, 2, none), (7, 3, some .boolean), (7, 5, some .boolean), (7, 5, some .boolean), (7, 3, some .boolean), (7, 4, some .boolean), (7, 5, some .int), (7, 1, some .int), (8, 1, none), (8, 3, some .boolean), (8, 5, some .boolean), (9, 1, none), (9, 3, some .boolean), (9, 2, none), (9, 1, some .boolean), (9, 2, some .boolean), (9, 1, some .int), (9, 1, some .int), (9, 1, none), (9, 2, some .boolean), (9, 2, some .int), (9, 2, some .int), (9, 5, some .int), (10, 2, none), (10, 2, none), (10, 1, some .int), (10, 1, some .int), (10, 2, some .int), (10, 4, some .int), (10, 4, some .int), (10, 3, none), (10, 4, none), (10, 5, none), (10, 5, some .int), (11, 2, none), (11, 2, some .int), (11, 2, some .boolean), (11, 2, some .int), (11, 2, some .int), (11, 2, some .int), (11, 5, some .int), (11, 4, some .int), (11, 8, some .int), (11, 2, some .int), (11, 3, some .boolean), (11, 2, some .int), (11, 3, some .int), (11, 1, some .int), (11, 8, some .int), (11, 5, some .int), (11, 1, some .int), (11, 4, some .int), (11, 7, some .int), (11, 2, some .int), (11, 4, some .int), (11, 4, some .int), (11, 3, some .int), (11, 5, some .int), (11, 2, some .int), (11, 3, some .int), (11, 6, some .int), (11, 6, some .int), (11, 6, some .int), (11, 4, some .int), (11, 7, some .int), (11, 5, some .int), (11, 4, some .int), (11, 4, some .int), (11, 7, some .int), (11, 8, some .int), (11, 5, some .int), (11, 2, some .int), (11, 4, some .int), (11, 7, some .int), (11, 3, some .int), (11, 2, some .int), (11, 3, some .int), (11, 4, some .int), (11, 4, some .int), (11, 9, some .int), (11, 2, some .boolean), (11, 2, some .boolean), (11, 2, some .int), (11, 2, some .int), (11, 1, some .int), (11, 2, some .boolean), (11, 3, some .boolean), (11, 2, some .boolean), (11, 2, some .boolean), (11, 2, some .boolean), (11, 1, none), (11, 2, none), (11, 3, none), (11, 5, none), (11, 2, some .int), (11, 5, some .boolean), (11, 4, some .int), (11, 4, some .int), (11, 3, some .int), (11, 3, some .int), (11, 2, some .int), (11, 3, some .int), (11, 6, some .int), (11, 6, some .int), (11, 1, some .int), (11, 1, some .int), (11, 3, some .int), (11, 5, some .int), (11, 3, some .int), (11, 3, some .int), (11, 3, some .int), (11, 4, some .int), (11, 4, some .int), (11, 4, some .int), (11, 6, none), (11, 3, some .boolean), (11, 3, some .int), (11, 7, some .int), (11, 3, none), (11, 9, some .int), (11, 6, some .int), (11, 3, some .boolean), (12, 1, none), (12, 1, some .int), (12, 3, some .boolean), (12, 2, some .boolean), (12, 1, some .int), (12, 2, none), (12, 2, some .boolean), (12, 1, some .int), (12, 2, some .int), (12, 1, some .boolean), (12, 3, some .int), (12, 2, some .boolean), (12, 4, none), (12, 1, some .int), (12, 1, some .boolean), (12, 2, none), (12, 2, some .boolean), (12, 2, none), (12, 2, some .int), (12, 1, some .int), (12, 4, some .int), (12, 2, none), (12, 4, none), (12, 3, some .int), (12, 3, some .int), (12, 5, some .int), (12, 5, some .int), (12, 5, some .int), (12, 3, some .int), (12, 3, some .int), (12, 6, some .boolean), (12, 4, some .int), (12, 5, some .int), (12, 9, some .int), (12, 4, some .int), (12, 2, some .int), (12, 4, none), (12, 5, none), (12, 6, none), (12, 4, none), (12, 3, none), (12, 3, some .boolean), (12, 3, none), (12, 3, some .boolean), (12, 2, none), (12, 2, some .int), (12, 6, some .int), (12, 1, some .int), (12, 1, some .int), (12, 6, some .int), (12, 4, some .int), (12, 3, none), (12, 4, some .boolean), (12, 2, some .int), (12, 1, some .int), (12, 2, some .int), (12, 4, some .int), (12, 7, some .int), (12, 1, none), (12, 5, some .int), (12, 2, some .int), (12, 5, some .int), (12, 4, some .int), (12, 4, some .int), (12, 4, some .int), (12, 3, some .int), (12, 6, some .int), (12, 2, some .boolean), (12, 5, some .int), (12, 3, some .int), (12, 3, some .int), (12, 6, some .int), (12, 7, none), (12, 5, some .int), (12, 6, some .int), (12, 3, some .boolean), (12, 3, some .int), (12, 2, some .int), (12, 3, some .int), (12, 9, some .int), (12, 1, some .int), (12, 5, some .int), (12, 4, some .int), (12, 5, some .int), (12, 6, some .int), (12, 8, some .int), (12, 1, some .int), (12, 10, some .int), (12, 4, some .int), (12, 2, some .int), (12, 4, some .int), (12, 3, some .int), (12, 8, some .int), (12, 3, some .int), (12, 2, some .int), (12, 4, some .boolean), (12, 3, some .int), (12, 3, some .int), (12, 5, some .int), (12, 4, some .int), (12, 9, some .int), (12, 2, some .boolean), (12, 3, some .boolean), (12, 4, some .int), (12, 2, some .int)]
def zCode (i : Nat) : List zE := zProg.getD i []
def zY (i : Nat) : MethodName := zYs.getD i ⟨"", "", ""⟩
def zB (i : Nat) : ByteArray := zBs.getD i ⟨#[]⟩
def zMi (i : Nat) : Nat × Nat × Option FieldType := zMs.getD i (0, 0, none)
def zCs (i : Nat) : String := zCn.getD i ""
end
section
/-! the entries are what the bytes decode to -/
def zdok (b : ByteArray) (l : List zE) : Bool := l.all fun e => decide (decode b e.1 = .ok (e.2.1, e.2.2.1 - e.1)) && decide (e.1 < e.2.2.1)
theorem zd_0 : zdok prog_17_method_49_code zc_0 = true := by decide +kernel
theorem zd_1 : zdok prog_18_method_50_code zc_1 = true := by decide +kernel
theorem zd_2 : zdok prog_18_method_59_code zc_2 = true := by decide +kernel
theorem zd_3 : zdok prog_18_method_65_code zc_3 = true := by decide +kernel
theorem zd_4 : zdok prog_18_method_69_code zc_4 = true := by decide +kernel
theorem zd_5 : zdok prog_23_method_103_code zc_5 = true := by decide +kernel
theorem zd_6 : zdok prog_2_method_1_code zc_6 = true := by decide +kernel
theorem zd_7 : zdok prog_2_method_2_code zc_7 = true := by decide +kernel
theorem zd_8 : zdok prog_2_method_3_code zc_8 = true := by decide +kernel
theorem zd_9 : zdok prog_2_method_4_code zc_9 = true := by decide +kernel
theorem zd_10 : zdok prog_2_method_5_code zc_10 = true := by decide +kernel
theorem zd_11 : zdok prog_3_method_1_code zc_11 = true := by decide +kernel
theorem zd_12 : zdok prog_3_method_2_code zc_12 = true := by decide +kernel
theorem zd_13 : zdok prog_3_method_3_code zc_13 = true := by decide +kernel
theorem zd_14 : zdok prog_3_method_4_code zc_14 = true := by decide +kernel
theorem zd_15 : zdok prog_3_method_5_code zc_15 = true := by decide +kernel
theorem zd_16 : zdok prog_3_method_6_code zc_16 = true := by decide +kernel
theorem zd_17 : zdok prog_3_method_7_code zc_17 = true := by decide +kernel
theorem zd_18 : zdok prog_3_method_8_code zc_18 = true := by decide +kernel
theorem zd_19 : zdok prog_4_method_1_code zc_19 = true := by decide +kernel
theorem zd_20 : zdok prog_4_method_2_code zc_20 = true := by decide +kernel
theorem zd_21 : zdok prog_4_method_3_code zc_21 = true := by decide +kernel
theorem zd_22 : zdok prog_5_method_1_code zc_22 = true := by decide +kernel
theorem zd_23 : zdok prog_5_method_2_code zc_23 = true := by decide +kernel
theorem zd_24 : zdok prog_5_method_3_code zc_24 = true := by decide +kernel
theorem zd_25 : zdok prog_6_method_1_code zc_25 = true := by decide +kernel
theorem zd_26 : zdok prog_6_method_2_code zc_26 = true := by decide +kernel
theorem zd_27 : zdok prog_6_method_3_code zc_27 = true := by decide +kernel
theorem zd_28 : zdok prog_6_method_4_code zc_28 = true := by decide +kernel
theorem zd_29 : zdok prog_6_method_5_code zc_29 = true := by decide +kernel
theorem zd_30 : zdok prog_6_method_6_code zc_30 = true := by decide +kernel
theorem zd_31 : zdok prog_6_method_7_code zc_31 = true := by decide +kernel
theorem zd_32 : zdok prog_6_method_8_code zc_32 = true := by decide +kernel
theorem zd_33 : zdok prog_6_method_9_code zc_33 = true := by decide +kernel
theorem zd_34 : zdok prog_7_method_1_code zc_34 = true := by decide +kernel
theorem zd_35 : zdok prog_7_method_2_code zc_35 = true := by decide +kernel
theorem zd_36 : zdok prog_7_method_3_code zc_36 = true := by decide +kernel
theorem zd_37 : zdok prog_7_method_4_code zc_37 = true := by decide +kernel
theorem zd_38 : zdok prog_8_method_1_code zc_38 = true := by decide +kernel
theorem zd_39 : zdok prog_8_method_2_code zc_39 = true := by decide +kernel
theorem zd_40 : zdok prog_8_method_3_code zc_40 = true := by decide +kernel
theorem zd_41 : zdok prog_8_method_4_code zc_41 = true := by decide +kernel
theorem zd_42 : zdok prog_8_method_5_code zc_42 = true := by decide +kernel
theorem zd_43 : zdok prog_8_method_6_code zc_43 = true := by decide +kernel
theorem zd_44 : zdok prog_8_method_7_code zc_44 = true := by decide +kernel
theorem zd_45 : zdok prog_9_method_1_code zc_45 = true := by decide +kernel
theorem zd_46 : zdok prog_9_method_2_code zc_46 = true := by decide +kernel
theorem zd_47 : zdok prog_9_method_3_code zc_47 = true := by decide +kernel
theorem zd_48 : zdok prog_9_method_4_code zc_48 = true := by decide +kernel
theorem zd_49 : zdok prog_9_method_5_code zc_49 = true := by decide +kernel
theorem zd_50 : zdok prog_9_method_6_code zc_50 = true := by decide +kernel
theorem zd_51 : zdok prog_9_method_7_code zc_51 = true := by decide +kernel
theorem zd_52 : zdok prog_9_method_8_code zc_52 = true := by decide +kernel
theorem zd_53 : zdok prog_9_method_9_code zc_53 = true := by decide +kernel
theorem zd_54 : zdok prog_9_method_10_code zc_54 = true := by decide +kernel
theorem zd_55 : zdok prog_10_method_1_code zc_55 = true := by decide +kernel
theorem zd_56 : zdok prog_10_method_2_code zc_56 = true := by decide +kernel
theorem zd_57 : zdok prog_10_method_3_code zc_57 = true := by decide +kernel
theorem zd_58 : zdok prog_11_method_1_code zc_58 = true := by decide +kernel
theorem zd_59 : zdok prog_11_method_2_code zc_59 = true := by decide +kernel
theorem zd_60 : zdok prog_11_method_3_code zc_60 = true := by decide +kernel
theorem zd_61 : zdok prog_11_method_4_code zc_61 = true := by decide +kernel
theorem zd_62 : zdok prog_11_method_5_code zc_62 = true := by decide +kernel
theorem zd_63 : zdok prog_11_method_6_code zc_63 = true := by decide +kernel
theorem zd_64 : zdok prog_11_method_7_code zc_64 = true := by decide +kernel
theorem zd_65 : zdok prog_11_method_8_code zc_65 = true := by decide +kernel
theorem zd_66 : zdok prog_11_method_9_code zc_66 = true := by decide +kernel
theorem zd_67 : zdok prog_11_method_10_code zc_67 = true := by decide +kernel
theorem zd_68 : zdok prog_11_method_11_code zc_68 = true := by decide +kernel
theorem zd_69 : zdok prog_11_method_12_code zc_69 = true := by decide +kernel
theorem zd_70 : zdok prog_12_method_1_code zc_70 = true := by decide +kernel
theorem zd_71 : zdok prog_12_method_2_code zc_71 = true := by decide +kernel
theorem zd_72 : zdok prog_12_method_3_code zc_72 = true := by decide +kernel
theorem zd_73 : zdok prog_12_method_4_code zc_73 = true := by decide +kernel
theorem zd_74 : zdok prog_12_method_5_code zc_74 = true := by decide +kernel
theorem zd_75 : zdok prog_12_method_6_code zc_75 = true := by decide +kernel
theorem zd_76 : zdok prog_12_method_7_code zc_76 = true := by decide +kernel
theorem zd_77 : zdok prog_12_method_8_code zc_77 = true := by decide +kernel
theorem zd_78 : zdok prog_12_method_9_code zc_78 = true := by decide +kernel
theorem zd_79 : zdok prog_12_method_10_code zc_79 = true := by decide +kernel
theorem zd_80 : zdok prog_12_method_11_code zc_80 = true := by decide +kernel
theorem zd_81 : zdok prog_1_method_1_code zc_81 = true := by decide +kernel
theorem zd_82 : zdok prog_1_method_2_code zc_82 = true := by decide +kernel
theorem zd_83 : zdok prog_1_method_3_code zc_83 = true := by decide +kernel
theorem zd_84 : zdok prog_1_method_4_code zc_84 = true := by decide +kernel
theorem zd_85 : zdok prog_1_method_5_code zc_85 = true := by decide +kernel
theorem zd_86 : zdok prog_1_method_6_code zc_86 = true := by decide +kernel
theorem zd_87 : zdok prog_1_method_7_code zc_87 = true := by decide +kernel
theorem zd_88 : zdok prog_1_method_8_code zc_88 = true := by decide +kernel
theorem zd_89 : zdok prog_1_method_9_code zc_89 = true := by decide +kernel
theorem zd_90 : zdok prog_1_method_10_code zc_90 = true := by decide +kernel
theorem zd_91 : zdok prog_1_method_11_code zc_91 = true := by decide +kernel
theorem zd_92 : zdok prog_1_method_12_code zc_92 = true := by decide +kernel
theorem zd_93 : zdok prog_1_method_13_code zc_93 = true := by decide +kernel
theorem zd_94 : zdok prog_1_method_14_code zc_94 = true := by decide +kernel
theorem zd_95 : zdok prog_1_method_15_code zc_95 = true := by decide +kernel
theorem zd_96 : zdok prog_1_method_16_code zc_96 = true := by decide +kernel
theorem zd_97 : zdok prog_1_method_17_code zc_97 = true := by decide +kernel
theorem zd_98 : zdok prog_1_method_18_code zc_98 = true := by decide +kernel
theorem zd_99 : zdok prog_1_method_19_code zc_99 = true := by decide +kernel
theorem zd_100 : zdok prog_1_method_20_code zc_100 = true := by decide +kernel
theorem zd_101 : zdok prog_1_method_21_code zc_101 = true := by decide +kernel
theorem zd_102 : zdok prog_1_method_22_code zc_102 = true := by decide +kernel
theorem zd_103 : zdok prog_1_method_23_code zc_103 = true := by decide +kernel
theorem zd_104 : zdok prog_1_method_24_code zc_104 = true := by decide +kernel
theorem zd_105 : zdok prog_1_method_25_code zc_105 = true := by decide +kernel
theorem zd_106 : zdok prog_1_method_26_code zc_106 = true := by decide +kernel
theorem zd_107 : zdok prog_1_method_27_code zc_107 = true := by decide +kernel
theorem zd_108 : zdok prog_1_method_28_code zc_108 = true := by decide +kernel
theorem zd_109 : zdok prog_1_method_29_code zc_109 = true := by decide +kernel
theorem zd_110 : zdok prog_1_method_30_code zc_110 = true := by decide +kernel
theorem zd_111 : zdok prog_1_method_31_code zc_111 = true := by decide +kernel
theorem zd_112 : zdok prog_1_method_32_code zc_112 = true := by decide +kernel
theorem zd_113 : zdok prog_1_method_33_code zc_113 = true := by decide +kernel
theorem zd_114 : zdok prog_1_method_34_code zc_114 = true := by decide +kernel
theorem zd_115 : zdok prog_1_method_35_code zc_115 = true := by decide +kernel
theorem zd_116 : zdok prog_1_method_36_code zc_116 = true := by decide +kernel
theorem zd_117 : zdok prog_1_method_37_code zc_117 = true := by decide +kernel
theorem zd_118 : zdok prog_1_method_38_code zc_118 = true := by decide +kernel
theorem zd_119 : zdok prog_1_method_39_code zc_119 = true := by decide +kernel
theorem zd_120 : zdok prog_1_method_40_code zc_120 = true := by decide +kernel
theorem zd_121 : zdok prog_1_method_41_code zc_121 = true := by decide +kernel
theorem zd_122 : zdok prog_1_method_42_code zc_122 = true := by decide +kernel
theorem zd_123 : zdok prog_1_method_43_code zc_123 = true := by decide +kernel
theorem zd_124 : zdok prog_1_method_44_code zc_124 = true := by decide +kernel
theorem zd_125 : zdok prog_1_method_45_code zc_125 = true := by decide +kernel
theorem zd_126 : zdok prog_1_method_46_code zc_126 = true := by decide +kernel
theorem zd_127 : zdok prog_1_method_47_code zc_127 = true := by decide +kernel
theorem zd_128 : zdok prog_1_method_48_code zc_128 = true := by decide +kernel
theorem zd_129 : zdok prog_1_method_49_code zc_129 = true := by decide +kernel
theorem zd_130 : zdok prog_1_method_50_code zc_130 = true := by decide +kernel
theorem zd_131 : zdok prog_1_method_51_code zc_131 = true := by decide +kernel
theorem zd_132 : zdok prog_1_method_52_code zc_132 = true := by decide +kernel
theorem zd_133 : zdok prog_1_method_53_code zc_133 = true := by decide +kernel
theorem zd_134 : zdok prog_1_method_54_code zc_134 = true := by decide +kernel
theorem zd_135 : zdok prog_1_method_55_code zc_135 = true := by decide +kernel
theorem zd_136 : zdok prog_1_method_56_code zc_136 = true := by decide +kernel
theorem zd_137 : zdok prog_1_method_57_code zc_137 = true := by decide +kernel
theorem zd_138 : zdok prog_1_method_58_code zc_138 = true := by decide +kernel
theorem zd_139 : zdok prog_1_method_59_code zc_139 = true := by decide +kernel
theorem zd_140 : zdok prog_1_method_60_code zc_140 = true := by decide +kernel
theorem zd_141 : zdok prog_1_method_61_code zc_141 = true := by decide +kernel
theorem zd_142 : zdok prog_1_method_62_code zc_142 = true := by decide +kernel
theorem zd_143 : zdok prog_1_method_63_code zc_143 = true := by decide +kernel
theorem zd_144 : zdok prog_1_method_64_code zc_144 = true := by decide +kernel
theorem zd_145 : zdok prog_1_method_65_code zc_145 = true := by decide +kernel
theorem zd_146 : zdok prog_1_method_66_code zc_146 = true := by decide +kernel
theorem zd_147 : zdok prog_1_method_67_code zc_147 = true := by decide +kernel
theorem zd_148 : zdok prog_1_method_68_code zc_148 = true := by decide +kernel
theorem zd_149 : zdok prog_1_method_69_code zc_149 = true := by decide +kernel
theorem zd_150 : zdok prog_1_method_70_code zc_150 = true := by decide +kernel
theorem zd_151 : zdok prog_1_method_71_code zc_151 = true := by decide +kernel
theorem zd_152 : zdok prog_1_method_72_code zc_152 = true := by decide +kernel
theorem zd_153 : zdok prog_1_method_73_code zc_153 = true := by decide +kernel
theorem zd_154 : zdok prog_1_method_74_code zc_154 = true := by decide +kernel
theorem zd_155 : zdok prog_1_method_75_code zc_155 = true := by decide +kernel
theorem zd_156 : zdok prog_1_method_76_code zc_156 = true := by decide +kernel
theorem zd_157 : zdok prog_1_method_77_code zc_157 = true := by decide +kernel
theorem zd_158 : zdok prog_1_method_78_code zc_158 = true := by decide +kernel
theorem zd_159 : zdok prog_1_method_79_code zc_159 = true := by decide +kernel
theorem zd_160 : zdok prog_1_method_80_code zc_160 = true := by decide +kernel
theorem zd_161 : zdok prog_1_method_81_code zc_161 = true := by decide +kernel
theorem zd_162 : zdok prog_1_method_82_code zc_162 = true := by decide +kernel
theorem zd_163 : zdok prog_1_method_83_code zc_163 = true := by decide +kernel
theorem zd_164 : zdok prog_1_method_84_code zc_164 = true := by decide +kernel
theorem zd_165 : zdok prog_1_method_85_code zc_165 = true := by decide +kernel
theorem zd_166 : zdok prog_1_method_86_code zc_166 = true := by decide +kernel
theorem zd_167 : zdok prog_1_method_87_code zc_167 = true := by decide +kernel
theorem zd_168 : zdok prog_1_method_88_code zc_168 = true := by decide +kernel
theorem zd_169 : zdok prog_14_method_1_code zc_169 = true := by decide +kernel
theorem zd_170 : zdok prog_14_method_2_code zc_170 = true := by decide +kernel
theorem zd_171 : zdok prog_14_method_3_code zc_171 = true := by decide +kernel
theorem zd_172 : zdok prog_14_method_4_code zc_172 = true := by decide +kernel
theorem zd_173 : zdok prog_14_method_5_code zc_173 = true := by decide +kernel
theorem zd_174 : zdok prog_14_method_6_code zc_174 = true := by decide +kernel
theorem zd_175 : zdok prog_14_method_7_code zc_175 = true := by decide +kernel
theorem zd_176 : zdok prog_14_method_8_code zc_176 = true := by decide +kernel
theorem zd_177 : zdok prog_14_method_9_code zc_177 = true := by decide +kernel
theorem zd_178 : zdok prog_14_method_10_code zc_178 = true := by decide +kernel
theorem zd_179 : zdok prog_14_method_11_code zc_179 = true := by decide +kernel
theorem zd_180 : zdok prog_14_method_12_code zc_180 = true := by decide +kernel
theorem zd_181 : zdok prog_14_method_13_code zc_181 = true := by decide +kernel
theorem zd_182 : zdok prog_14_method_14_code zc_182 = true := by decide +kernel
theorem zd_183 : zdok prog_14_method_15_code zc_183 = true := by decide +kernel
theorem zd_184 : zdok prog_14_method_16_code zc_184 = true := by decide +kernel
theorem zd_185 : zdok prog_14_method_17_code zc_185 = true := by decide +kernel
theorem zd_186 : zdok prog_14_method_18_code zc_186 = true := by decide +kernel
theorem zd_187 : zdok prog_14_method_19_code zc_187 = true := by decide +kernel
theorem zd_188 : zdok prog_14_method_20_code zc_188 = true := by decide +kernel
theorem zd_189 : zdok prog_14_method_21_code zc_189 = true := by decide +kernel
theorem zd_190 : zdok prog_14_method_22_code zc_190 = true := by decide +kernel
theorem zd_191 : zdok prog_14_method_23_code zc_191 = true := by decide +kernel
theorem zd_192 : zdok prog_14_method_24_code zc_192 = true := by decide +kernel
theorem zd_193 : zdok prog_14_method_25_code zc_193 = true := by decide +kernel
theorem zd_194 : zdok prog_14_method_26_code zc_194 = true := by decide +kernel
theorem zd_195 : zdok prog_14_method_27_code zc_195 = true := by decide +kernel
theorem zd_196 : zdok prog_14_method_28_code zc_196 = true := by decide +kernel
theorem zd_197 : zdok prog_14_method_29_code zc_197 = true := by decide +kernel
theorem zd_198 : zdok prog_14_method_30_code zc_198 = true := by decide +kernel
theorem zd_199 : zdok prog_14_method_31_code zc_199 = true := by decide +kernel
theorem zd_200 : zdok prog_14_method_32_code zc_200 = true := by decide +kernel
theorem zd_201 : zdok prog_14_method_33_code zc_201 = true := by decide +kernel
theorem zd_202 : zdok prog_14_method_34_code zc_202 = true := by decide +kernel
theorem zd_203 : zdok prog_14_method_35_code zc_203 = true := by decide +kernel
theorem zd_204 : zdok prog_14_method_36_code zc_204 = true := by decide +kernel
theorem zd_205 : zdok prog_14_method_37_code zc_205 = true := by decide +kernel
theorem zd_206 : zdok prog_14_method_38_code zc_206 = true := by decide +kernel
theorem zd_207 : zdok prog_14_method_39_code zc_207 = true := by decide +kernel
theorem zd_208 : zdok prog_14_method_40_code zc_208 = true := by decide +kernel
theorem zd_209 : zdok prog_14_method_41_code zc_209 = true := by decide +kernel
theorem zd_210 : zdok prog_14_method_42_code zc_210 = true := by decide +kernel
theorem zd_211 : zdok prog_14_method_43_code zc_211 = true := by decide +kernel
theorem zd_212 : zdok prog_14_method_44_code zc_212 = true := by decide +kernel
theorem zd_213 : zdok prog_14_method_45_code zc_213 = true := by decide +kernel
theorem zd_214 : zdok prog_14_method_46_code zc_214 = true := by decide +kernel
theorem zd_215 : zdok prog_14_method_47_code zc_215 = true := by decide +kernel
theorem zd_216 : zdok prog_14_method_48_code zc_216 = true := by decide +kernel
theorem zd_217 : zdok prog_14_method_49_code zc_217 = true := by decide +kernel
theorem zd_218 : zdok prog_14_method_50_code zc_218 = true := by decide +kernel
theorem zd_219 : zdok prog_14_method_51_code zc_219 = true := by decide +kernel
theorem zd_220 : zdok prog_14_method_52_code zc_220 = true := by decide +kernel
theorem zd_221 : zdok prog_14_method_53_code zc_221 = true := by decide +kernel
theorem zd_222 : zdok prog_14_method_54_code zc_222 = true := by decide +kernel
theorem zd_223 : zdok prog_14_method_55_code zc_223 = true := by decide +kernel
theorem zd_224 : zdok prog_14_method_56_code zc_224 = true := by decide +kernel
theorem zd_225 : zdok prog_14_method_57_code zc_225 = true := by decide +kernel
theorem zd_226 : zdok prog_14_method_58_code zc_226 = true := by decide +kernel
theorem zd_227 : zdok prog_14_method_59_code zc_227 = true := by decide +kernel
theorem zd_228 : zdok prog_14_method_60_code zc_228 = true := by decide +kernel
theorem zd_229 : zdok prog_14_method_61_code zc_229 = true := by decide +kernel
theorem zd_230 : zdok prog_14_method_62_code zc_230 = true := by decide +kernel
theorem zd_231 : zdok prog_14_method_63_code zc_231 = true := by decide +kernel
theorem zd_232 : zdok prog_14_method_64_code zc_232 = true := by decide +kernel
theorem zd_233 : zdok prog_14_method_65_code zc_233 = true := by decide +kernel
theorem zd_234 : zdok prog_14_method_66_code zc_234 = true := by decide +kernel
theorem zd_235 : zdok prog_14_method_67_code zc_235 = true := by decide +kernel
theorem zd_236 : zdok prog_14_method_68_code zc_236 = true := by decide +kernel
theorem zd_237 : zdok prog_14_method_69_code zc_237 = true := by decide +kernel
theorem zd_238 : zdok prog_14_method_70_code zc_238 = true := by decide +kernel
theorem zd_239 : zdok prog_14_method_71_code zc_239 = true := by decide +kernel
theorem zd_240 : zdok prog_14_method_72_code zc_240 = true := by decide +kernel
theorem zd_241 : zdok prog_14_method_73_code zc_241 = true := by decide +kernel
theorem zd_242 : zdok prog_14_method_74_code zc_242 = true := by decide +kernel
theorem zd_243 : zdok prog_14_method_75_code zc_243 = true := by decide +kernel
theorem zd_244 : zdok prog_14_method_76_code zc_244 = true := by decide +kernel
theorem zd_245 : zdok prog_14_method_77_code zc_245 = true := by decide +kernel
theorem zd_246 : zdok prog_14_method_78_code zc_246 = true := by decide +kernel
theorem zd_247 : zdok prog_14_method_79_code zc_247 = true := by decide +kernel
theorem zd_248 : zdok prog_14_method_80_code zc_248 = true := by decide +kernel
theorem zd_249 : zdok prog_14_method_81_code zc_249 = true := by decide +kernel
theorem zd_250 : zdok prog_14_method_82_code zc_250 = true := by decide +kernel
theorem zd_251 : zdok prog_14_method_83_code zc_251 = true := by decide +kernel
theorem zd_252 : zdok prog_14_method_84_code zc_252 = true := by decide +kernel
theorem zd_253 : zdok prog_14_method_85_code zc_253 = true := by decide +kernel
theorem zd_254 : zdok prog_14_method_86_code zc_254 = true := by decide +kernel
theorem zd_255 : zdok prog_14_method_87_code zc_255 = true := by decide +kernel
theorem zd_256 : zdok prog_14_method_88_code zc_256 = true := by decide +kernel
theorem zd_257 : zdok prog_14_method_89_code zc_257 = true := by decide +kernel
theorem zd_258 : zdok prog_14_method_90_code zc_258 = true := by decide +kernel
theorem zd_259 : zdok prog_14_method_91_code zc_259 = true := by decide +kernel
theorem zd_260 : zdok prog_14_method_92_code zc_260 = true := by decide +kernel
theorem zd_261 : zdok prog_14_method_93_code zc_261 = true := by decide +kernel
theorem zd_262 : zdok prog_14_method_94_code zc_262 = true := by decide +kernel
theorem zd_263 : zdok prog_14_method_95_code zc_263 = true := by decide +kernel
theorem zd_264 : zdok prog_14_method_96_code zc_264 = true := by decide +kernel
theorem zd_265 : zdok prog_14_method_97_code zc_265 = true := by decide +kernel
theorem zd_266 : zdok prog_14_method_98_code zc_266 = true := by decide +kernel
theorem zd_267 : zdok prog_14_method_99_code zc_267 = true := by decide +kernel
theorem zd_268 : zdok prog_14_method_100_code zc_268 = true := by decide +kernel
theorem zd_269 : zdok prog_14_method_101_code zc_269 = true := by decide +kernel
theorem zd_270 : zdok prog_14_method_102_code zc_270 = true := by decide +kernel
theorem zd_271 : zdok prog_14_method_103_code zc_271 = true := by decide +kernel
theorem zd_272 : zdok prog_14_method_104_code zc_272 = true := by decide +kernel
theorem zd_273 : zdok prog_14_method_105_code zc_273 = true := by decide +kernel
end
section
/-! A SMALL MACHINE OF ITS OWN: objects are numbers (in the order in which they are made), what they hold are ints by object and place; kinds of objects stand in a table. One step, in any answer type. -/
abbrev zS : Type := Nat → Nat → Int32
abbrev zKd : Type := Nat → Nat × Nat × List Nat
def zput (σ : zS) (o : Nat) (f : Nat → Int32) : zS := fun o' => if o' = o then f else σ o'
def zup (σ : zS) (o i : Nat) (v : Int32) : zS := zput σ o (upd (σ o) i v)
def zin (i : Int32) (n : Nat) : Bool := !decide (i < 0) && decide (i.toNatClampNeg < n)
def zrem (x y : Int32) : Int32 := x - x / y * y
def zshl (x y : Int32) : Int32 := x <<< (y &&& 31)
def zshr (x y : Int32) : Int32 := x >>> (y &&& 31)
def zushr (x y : Int32) : Int32 := (x.toUInt32 >>> (y.toUInt32 &&& Int32.toUInt32 31)).toInt32
def zi2b (x : Int32) : Int32 := x.toInt8.toInt32
def zi2s (x : Int32) : Int32 := x.toInt16.toInt32
def zdec (v : Int32) : Value := if v = 0 then .null else .ref (v.toNatClampNeg - 1)
def zenc : Value → Int32
  | .ref o => nI (o + 1)
  | _ => 0
def zc1 : Value → Bool
  | .int _ => true
  | .ref _ => true
  | .null => true
  | _ => false
def zrefs : Value → Bool
  | .ref o => Nat.blt o 1000
  | .null => true
  | _ => false
section ZST
variable {ρ : Type} (bad : ρ) (K : Nat → List Value → List Value → Nat → zS → ρ) (R : Int32 → Nat → zS → ρ) (C : Nat → List Value → Nat → zS → (Int32 → Nat → zS → ρ) → ρ)
def zBin (f : Int32 → Int32 → Int32) (nx : Nat) (ls st : List Value) (n : Nat) (σ : zS) : ρ := match st with
  | .int y :: .int x :: r => K nx ls (.int (f x y) :: r) n σ
  | _ => bad
def zDiv (f : Int32 → Int32 → Int32) (nx : Nat) (ls st : List Value) (n : Nat) (σ : zS) : ρ := match st with
  | .int y :: .int x :: r => if y = 0 then bad else K nx ls (.int (f x y) :: r) n σ
  | _ => bad
def zUn (f : Int32 → Int32) (nx : Nat) (ls st : List Value) (n : Nat) (σ : zS) : ρ := match st with
  | .int x :: r => K nx ls (.int (f x) :: r) n σ
  | _ => bad
def zCnd (c : ClassFile.Cond) (x y : Int32) (t f : ρ) : ρ := match c with
  | .eq => if x = y then t else f
  | .ne => if x = y then f else t
  | .lt => if x < y then t else f
  | .ge => if x < y then f else t
  | .gt => if y < x then t else f
  | .le => if y < x then f else t
def zIf (c : ClassFile.Cond) (a nx : Nat) (ls st : List Value) (n : Nat) (σ : zS) : ρ := match st with
  | .int x :: r => zCnd c x 0 (K a ls r n σ) (K nx ls r n σ)
  | _ => bad
def zIf2 (c : ClassFile.Cond) (a nx : Nat) (ls st : List Value) (n : Nat) (σ : zS) : ρ := match st with
  | .int y :: .int x :: r => zCnd c x y (K a ls r n σ) (K nx ls r n σ)
  | _ => bad
def zIld (a nx : Nat) (ls st : List Value) (n : Nat) (σ : zS) : ρ := match ls[a]? with
  | some (.int x) => K nx ls (.int x :: st) n σ
  | _ => bad
def zAld (a nx : Nat) (ls st : List Value) (n : Nat) (σ : zS) : ρ := match ls[a]? with
  | some (.ref o) => K nx ls (.ref o :: st) n σ
  | some .null => K nx ls (.null :: st) n σ
  | _ => bad
def zIst (a nx : Nat) (ls st : List Value) (n : Nat) (σ : zS) : ρ := match st with
  | .int x :: r => if a < ls.length then K nx (ls.set a (.int x)) r n σ else bad
  | _ => bad
def zAst (a nx : Nat) (ls st : List Value) (n : Nat) (σ : zS) : ρ := match st with
  | .ref o :: r => if a < ls.length then K nx (ls.set a (.ref o)) r n σ else bad
  | .null :: r => if a < ls.length then K nx (ls.set a .null) r n σ else bad
  | _ => bad
def zInc (c : Int32) (a nx : Nat) (ls st : List Value) (n : Nat) (σ : zS) : ρ := match ls[a]? with
  | some (.int x) => K nx (ls.set a (.int (x + c))) st n σ
  | _ => bad
def zNul (a nx : Nat) (ls st : List Value) (n : Nat) (σ : zS) : ρ := match st with
  | .null :: r => K a ls r n σ
  | .ref _ :: r => K nx ls r n σ
  | _ => bad
def zDup (nx : Nat) (ls st : List Value) (n : Nat) (σ : zS) : ρ := match st with
  | v :: r => if zc1 v = true then K nx ls (v :: v :: r) n σ else bad
  | _ => bad
def zPop (nx : Nat) (ls st : List Value) (n : Nat) (σ : zS) : ρ := match st with
  | v :: r => if zc1 v = true then K nx ls r n σ else bad
  | _ => bad
def zDup2 (nx : Nat) (ls st : List Value) (n : Nat) (σ : zS) : ρ := match st with
  | v :: w :: r => if (zc1 v && zc1 w) = true then K nx ls (v :: w :: v :: w :: r) n σ else bad
  | _ => bad
def zDupX (nx : Nat) (ls st : List Value) (n : Nat) (σ : zS) : ρ := match st with
  | v :: w :: r => if (zc1 v && zc1 w) = true then K nx ls (v :: w :: v :: r) n σ else bad
  | _ => bad
def zSwc (a : Nat) (ls st : List Value) (n : Nat) (σ : zS) (x : Int32) : List (Int32 × Nat) → ρ
  | [] => K a ls st n σ
  | (v, t) :: r => if x = v then K t ls st n σ else zSwc a ls st n σ x r
def zSw (sw : List (Int32 × Nat)) (a : Nat) (ls st : List Value) (n : Nat) (σ : zS) : ρ := match st with
  | .int x :: r => zSwc K a ls r n σ x sw
  | _ => bad
variable (zk : zKd)
def zFld (o b f : Nat) (σ : zS) : Value := match f with
  | 0 => .int (σ o b)
  | 1 => zdec (σ o b)
  | j + 2 => .ref j
def zGet (a b nx : Nat) (ls st : List Value) (n : Nat) (σ : zS) : ρ := match st with
  | .ref o :: r => match zk o with
    | (t, ci, fl) => match fl[b]? with
      | some f => if (Nat.blt o n && t == 0 && ci == a) = true then K nx ls (zFld o b f σ :: r) n σ else bad
      | none => bad
  | _ => bad
def zPutI (a b d nx o : Nat) (x : Int32) (ls r : List Value) (n : Nat) (σ : zS) : ρ := match zk o with
  | (t, ci, fl) => if (Nat.blt o n && t == 0 && ci == a && fl[b]? == some 0) = true then (match d with
    | 0 => K nx ls r n (zup σ o b x)
    | 1 => if x &&& 1 = x then K nx ls r n (zup σ o b x) else bad
    | _ => bad) else bad
def zPut (a b d nx : Nat) (ls st : List Value) (n : Nat) (σ : zS) : ρ := match st with
  | .int x :: .ref o :: r => zPutI bad K zk a b d nx o x ls r n σ
  | v :: .ref o :: r => match zk o with
    | (t, ci, fl) => if (Nat.blt o n && t == 0 && ci == a && fl[b]? == some 1 && d == 2 && zrefs v) = true then K nx ls r n (zup σ o b (zenc v)) else bad
  | _ => bad
def zAld1 (t1 t2 nx : Nat) (ls st : List Value) (n : Nat) (σ : zS) : ρ := match st with
  | .int i :: .ref o :: r => match zk o with
    | (t, len, _) => if (Nat.blt o n && (t == t1 || t == t2)) = true then (if zin i len = true then K nx ls (.int (σ o i.toNatClampNeg) :: r) n σ else bad) else bad
  | _ => bad
def zAst1 (nx : Nat) (ls st : List Value) (n : Nat) (σ : zS) : ρ := match st with
  | .int x :: .int i :: .ref o :: r => match zk o with
    | (t, len, _) => if (Nat.blt o n && t == 1) = true then (if zin i len = true then K nx ls r n (zup σ o i.toNatClampNeg x) else bad) else bad
  | _ => bad
def zAst2 (al : Bool) (nx : Nat) (ls st : List Value) (n : Nat) (σ : zS) : ρ := match st with
  | .int x :: .int i :: .ref o :: r => match zk o with
    | (t, len, _) => if (Nat.blt o n && !al) = true then (if zin i len = true then (match t with
      | 2 => K nx ls r n (zup σ o i.toNatClampNeg (zi2b x))
      | 3 => K nx ls r n (zup σ o i.toNatClampNeg (x &&& 1))
      | _ => bad) else bad) else bad
  | _ => bad
def zAldq (nx : Nat) (ls st : List Value) (n : Nat) (σ : zS) : ρ := match st with
  | .int i :: .ref o :: r => match zk o with
    | (t, len, fl) => if Nat.blt o n = true then (if zin i len = true then (match t with
      | 5 => K nx ls (.ref (fl.getD i.toNatClampNeg 0) :: r) n σ
      | 6 => K nx ls (zdec (σ o i.toNatClampNeg) :: r) n σ
      | _ => bad) else bad) else bad
  | _ => bad
def zAstq (nx : Nat) (ls st : List Value) (n : Nat) (σ : zS) : ρ := match st with
  | .ref v :: .int i :: .ref o :: r => match zk o, zk v with
    | (t, len, _), (t2, ci, _) => if (Nat.blt o n && Nat.blt v n && t == 6 && t2 == 0 && ci == 3 && Nat.blt v 1000 && zin i len) = true then K nx ls r n (zup σ o i.toNatClampNeg (nI (v + 1))) else bad
  | _ => bad
def zLen (nx : Nat) (ls st : List Value) (n : Nat) (σ : zS) : ρ := match st with
  | .ref o :: r => match zk o with
    | (t, len, _) => if (Nat.blt o n && Nat.blt 0 t && Nat.blt t 7) = true then K nx ls (.int (Int32.ofNat len) :: r) n σ else bad
  | _ => bad
def zRet (d : Nat) (st : List Value) (n : Nat) (σ : zS) : ρ := match st with
  | .int v :: [] => if d = 0 then R v n σ else (if v &&& 1 = v then R v n σ else bad)
  | _ => bad
def zRetv (st : List Value) (n : Nat) (σ : zS) : ρ := match st with
  | [] => R 0 n σ
  | _ => bad
def zGo (a b f nx : Nat) (ls st : List Value) (n : Nat) (σ : zS) : ρ :=
  if (Nat.ble b st.length && Nat.ble st.length (b + 8)) = true then C a ((st.take b).reverse) n σ (fun v n' σ' => K nx ls (if f % 2 = 1 then st.drop b else .int v :: st.drop b) n' σ') else bad
def zVirt (a b f nx : Nat) (ls st : List Value) (n : Nat) (σ : zS) : ρ := match st[b - 1]? with
  | some (.ref o) => match zk o with
    | (t, ci, _) => if (Nat.blt o n && t == 0 && ci == f / 2) = true then zGo bad K C a b f nx ls st n σ else bad
  | _ => bad
def zSpec (a b f nx : Nat) (ls st : List Value) (n : Nat) (σ : zS) : ρ := match st[b - 1]? with
  | some (.ref o) => if Nat.blt o n = true then zGo bad K C a b f nx ls st n σ else bad
  | _ => bad
def zCopy (al : Bool) (nx : Nat) (ls st : List Value) (n : Nat) (σ : zS) : ρ := match st with
  | .int m :: .int dp :: .ref o :: .int sp :: .ref o0 :: r => match zk o, zk o0 with
    | (t, len, _), (t0, len0, _) => if (!al && Nat.blt o n && Nat.blt o0 n && t == 1 && t0 == 1 && zin m (len + 1) && zin dp (len + 1) && zin sp (len0 + 1) && Nat.ble (dp.toNatClampNeg + m.toNatClampNeg) len && Nat.ble (sp.toNatClampNeg + m.toNatClampNeg) len0 && Nat.ble r.length 8) = true then K nx ls r n (zput σ o (va_cpy (σ o0) (σ o) sp.toNatClampNeg dp.toNatClampNeg m.toNatClampNeg)) else bad
  | _ => bad
def zObj (nx : Nat) (ls st : List Value) (n : Nat) (σ : zS) : ρ := match st with
  | .ref o :: r => if (Nat.blt o n && Nat.ble r.length 8) = true then K nx ls r n σ else bad
  | _ => bad
def zNew (al : Bool) (a nx : Nat) (ls st : List Value) (n : Nat) (σ : zS) : ρ := match zk n with
  | (t, ci, fl) => if (al && t == 0 && ci == a && fl.all (fun f => Nat.ble f 1)) = true then K nx ls (.ref n :: st) (n + 1) σ else bad
def zNewa (al : Bool) (a nx : Nat) (ls st : List Value) (n : Nat) (σ : zS) : ρ := match st with
  | .int m :: r => match zk n with
    | (t, len, _) => if (al && t == a && zin m (len + 1) && (m.toNatClampNeg == len)) = true then K nx ls (.ref n :: r) (n + 1) σ else bad
  | _ => bad
def zStep (al : Bool) (e : zE) (ls st : List Value) (n : Nat) (σ : zS) : ρ := match e with
  | (_, ins, nx, a, b, d, f, c, sw) => match ins with
    | .iconst _ => K nx ls (.int c :: st) n σ
    | .bipush _ => K nx ls (.int c :: st) n σ
    | .sipush _ => K nx ls (.int c :: st) n σ
    | .ldc _ => if d = 0 then K nx ls (.int c :: st) n σ else bad
    | .ldc_w _ => if d = 0 then K nx ls (.int c :: st) n σ else bad
    | .aconst_null => K nx ls (.null :: st) n σ
    | .iload_n _ => zIld bad K a nx ls st n σ
    | .iload _ => zIld bad K a nx ls st n σ
    | .aload_n _ => zAld bad K a nx ls st n σ
    | .aload _ => zAld bad K a nx ls st n σ
    | .istore_n _ => zIst bad K a nx ls st n σ
    | .istore _ => zIst bad K a nx ls st n σ
    | .astore_n _ => zAst bad K a nx ls st n σ
    | .astore _ => zAst bad K a nx ls st n σ
    | .iinc _ _ => zInc bad K c a nx ls st n σ
    | .ifCond cd _ => zIf bad K cd a nx ls st n σ
    | .if_icmp cd _ => zIf2 bad K cd a nx ls st n σ
    | .goto _ => K a ls st n σ
    | .ifnull _ => zNul bad K a nx ls st n σ
    | .ifnonnull _ => zNul bad K nx a ls st n σ
    | .iadd => zBin bad K (fun x y => x + y) nx ls st n σ
    | .isub => zBin bad K (fun x y => x - y) nx ls st n σ
    | .imul => zBin bad K (fun x y => x * y) nx ls st n σ
    | .iand => zBin bad K (fun x y => x &&& y) nx ls st n σ
    | .ior => zBin bad K (fun x y => x ||| y) nx ls st n σ
    | .ixor => zBin bad K (fun x y => x ^^^ y) nx ls st n σ
    | .ishl => zBin bad K zshl nx ls st n σ
    | .ishr => zBin bad K zshr nx ls st n σ
    | .iushr => zBin bad K zushr nx ls st n σ
    | .idiv => zDiv bad K (fun x y => x / y) nx ls st n σ
    | .irem => zDiv bad K zrem nx ls st n σ
    | .ineg => zUn bad K (fun x => -x) nx ls st n σ
    | .i2b => zUn bad K zi2b nx ls st n σ
    | .i2s => zUn bad K zi2s nx ls st n σ
    | .dup => zDup bad K nx ls st n σ
    | .dup2 => zDup2 bad K nx ls st n σ
    | .dup_x1 => zDupX bad K nx ls st n σ
    | .pop => zPop bad K nx ls st n σ
    | .getfield _ => zGet bad K zk a b nx ls st n σ
    | .putfield _ => zPut bad K zk a b d nx ls st n σ
    | .iaload => zAld1 bad K zk 1 1 nx ls st n σ
    | .baload => zAld1 bad K zk 2 3 nx ls st n σ
    | .aaload => zAldq bad K zk nx ls st n σ
    | .iastore => zAst1 bad K zk nx ls st n σ
    | .bastore => zAst2 bad K zk al nx ls st n σ
    | .aastore => zAstq bad K zk nx ls st n σ
    | .arraylength => zLen bad K zk nx ls st n σ
    | .tableswitch _ _ _ _ => zSw bad K sw a ls st n σ
    | .lookupswitch _ _ => zSw bad K sw a ls st n σ
    | .ireturn => zRet bad R d st n σ
    | .return_ => zRetv bad R st n σ
    | .invokestatic _ => if d = 5 then zCopy bad K zk al nx ls st n σ else zGo bad K C a b f nx ls st n σ
    | .invokevirtual _ => zVirt bad K C zk a b f nx ls st n σ
    | .invokespecial _ => if d = 6 then zObj bad K nx ls st n σ else (if d = 9 then bad else zSpec bad K C a b f nx ls st n σ)
    | .new _ => if d = 0 then zNew bad K zk al a nx ls st n σ else bad
    | .newarray _ => zNewa bad K zk al a nx ls st n σ
    | .anewarray _ => zNewa bad K zk al 6 nx ls st n σ
    | _ => bad
end ZST
/-- the entry at a pc -/
def zAt (l : List zE) (pc : Nat) : Option zE := match l with
  | [] => none
  | e :: r => if Nat.beq e.1 pc = true then some e else zAt r pc
/-- a run: d calls deep at most, k steps at most -/
def zrunI (zk : zKd) (al : Bool) (callee : Nat → Nat → List Value → Nat → zS → Option (Int32 × Nat × zS)) (code : List zE) : Nat → Nat → List Value → List Value → Nat → zS → Option (Int32 × Nat × zS)
  | 0, _, _, _, _, _ => none
  | k + 1, pc, ls, st, n, σ => match zAt code pc with
    | none => none
    | some e => zStep none (zrunI zk al callee code k) (fun v n σ => some (v, n, σ)) (fun mi as n σ kk => match callee k mi as n σ with
      | none => none
      | some (v, n', σ') => kk v n' σ') zk al e ls st n σ
def zloc (mi : Nat) (as : List Value) : List Value := as ++ List.replicate ((zMi mi).2.1 - as.length) (.retAddr 0)
def zrun (zk : zKd) (al : Bool) : Nat → Nat → Nat → List Value → Nat → zS → Option (Int32 × Nat × zS)
  | 0, k, mi, as, n, σ => zrunI zk al (fun _ _ _ _ _ => none) (zCode mi) k 0 (zloc mi as) [] n σ
  | d + 1, k, mi, as, n, σ => zrunI zk al (zrun zk al d) (zCode mi) k 0 (zloc mi as) [] n σ
def zkL : List (Nat × Nat × List Nat) := [(0, 11, [3, 5, 10, 12, 16, 25, 34, 39, 184, 185, 189, 192, 0, 0, 0, 0, 193]), (0, 9, [4, 0, 0, 0, 0]), (1, 80, []), (0, 6, [6, 7, 0, 8, 9, 0]), (1, 9, []), (1, 40, []), (1, 40, []), (1, 40, []), (0, 7, [11, 0, 3]), (1, 40, []), (0, 0, [13, 14, 15, 0, 3]), (1, 20, []), (1, 20, []), (1, 20, []), (0, 10, [17, 18, 19, 0, 0, 0, 0, 24, 5]), (1, 9, []), (1, 9, []), (0, 4, [20, 21, 22, 23, 0, 0, 0]), (1, 9, []), (1, 9, []), (1, 9, []), (1, 9, []), (1, 9, []), (0, 10, [26, 27, 28, 0, 0, 0, 0, 33, 5]), (1, 9, []), (1, 9, []), (0, 4, [29, 30, 31, 32, 0, 0, 0]), (1, 9, []), (1, 9, []), (1, 9, []), (1, 9, []), (1, 9, []), (0, 1, [35, 36, 37, 38, 0, 0]), (1, 60, []), (1, 60, []), (1, 60, []), (1, 60, []), (0, 5, [0, 40, 0]), (5, 13, [39, 50, 61, 72, 83, 94, 105, 116, 127, 138, 149, 160, 171]), (0, 3, [0, 0, 42, 47]), (0, 4, [43, 44, 45, 46, 0, 0, 0]), (1, 9, []), (1, 9, []), (1, 9, []), (1, 9, []), (0, 1, [48, 49, 50, 51, 0, 0]), (1, 60, []), (1, 60, []), (1, 60, []), (1, 60, []), (0, 3, [0, 0, 53, 58]), (0, 4, [54, 55, 56, 57, 0, 0, 0]), (1, 9, []), (1, 9, []), (1, 9, []), (1, 9, []), (0, 1, [59, 60, 61, 62, 0, 0]), (1, 60, []), (1, 60, []), (1, 60, []), (1, 60, []), (0, 3, [0, 0, 64, 69]), (0, 4, [65, 66, 67, 68, 0, 0, 0]), (1, 9, []), (1, 9, []), (1, 9, []), (1, 9, []), (0, 1, [70, 71, 72, 73, 0, 0]), (1, 60, []), (1, 60, []), (1, 60, []), (1, 60, []), (0, 3, [0, 0, 75, 80]), (0, 4, [76, 77, 78, 79, 0, 0, 0]), (1, 9, []), (1, 9, []), (1, 9, []), (1, 9, []), (0, 1, [81, 82, 83, 84, 0, 0]), (1, 60, []), (1, 60, []), (1, 60, []), (1, 60, []), (0, 3, [0, 0, 86, 91]), (0, 4, [87, 88, 89, 90, 0, 0, 0]), (1, 9, []), (1, 9, []), (1, 9, []), (1, 9, []), (0, 1, [92, 93, 94, 95, 0, 0]), (1, 60, []), (1, 60, []), (1, 60, []), (1, 60, []), (0, 3, [0, 0, 97, 102]), (0, 4, [98, 99, 100, 101, 0, 0, 0]), (1, 9, []), (1, 9, []), (1, 9, []), (1, 9, []), (0, 1, [103, 104, 105, 106, 0, 0]), (1, 60, []), (1, 60, []), (1, 60, []), (1, 60, []), (0, 3, [0, 0, 108, 113]), (0, 4, [109, 110, 111, 112, 0, 0, 0]), (1, 9, []), (1, 9, []), (1, 9, []), (1, 9, []), (0, 1, [114, 115, 116, 117, 0, 0]), (1, 60, []), (1, 60, []), (1, 60, []), (1, 60, []), (0, 3, [0, 0, 119, 124]), (0, 4, [120, 121, 122, 123, 0, 0, 0]), (1, 9, []), (1, 9, []), (1, 9, []), (1, 9, []), (0, 1, [125, 126, 127, 128, 0, 0]), (1, 60, []), (1, 60, []), (1, 60, []), (1, 60, []), (0, 3, [0, 0, 130, 135]), (0, 4, [131, 132, 133, 134, 0, 0, 0]), (1, 9, []), (1, 9, []), (1, 9, []), (1, 9, []), (0, 1, [136, 137, 138, 139, 0, 0]), (1, 60, []), (1, 60, []), (1, 60, []), (1, 60, []), (0, 3, [0, 0, 141, 146]), (0, 4, [142, 143, 144, 145, 0, 0, 0]), (1, 9, []), (1, 9, []), (1, 9, []), (1, 9, []), (0, 1, [147, 148, 149, 150, 0, 0]), (1, 60, []), (1, 60, []), (1, 60, []), (1, 60, []), (0, 3, [0, 0, 152, 157]), (0, 4, [153, 154, 155, 156, 0, 0, 0]), (1, 9, []), (1, 9, []), (1, 9, []), (1, 9, []), (0, 1, [158, 159, 160, 161, 0, 0]), (1, 60, []), (1, 60, []), (1, 60, []), (1, 60, []), (0, 3, [0, 0, 163, 168]), (0, 4, [164, 165, 166, 167, 0, 0, 0]), (1, 9, []), (1, 9, []), (1, 9, []), (1, 9, []), (0, 1, [169, 170, 171, 172, 0, 0]), (1, 60, []), (1, 60, []), (1, 60, []), (1, 60, []), (0, 3, [0, 0, 174, 179]), (0, 4, [175, 176, 177, 178, 0, 0, 0]), (1, 9, []), (1, 9, []), (1, 9, []), (1, 9, []), (0, 1, [180, 181, 182, 183, 0, 0]), (1, 60, []), (1, 60, []), (1, 60, []), (1, 60, []), (5, 2, [192, 203]), (0, 2, [186, 187, 188, 0]), (1, 5, []), (1, 5, []), (1, 5, []), (0, 8, [0, 190, 191]), (1, 10, []), (1, 10, []), (1, 16, []), (1, 10, []), (0, 3, [0, 0, 195, 200]), (0, 4, [196, 197, 198, 199, 0, 0, 0]), (1, 9, []), (1, 9, []), (1, 9, []), (1, 9, []), (0, 1, [201, 202, 203, 204, 0, 0]), (1, 60, []), (1, 60, []), (1, 60, []), (1, 60, []), (0, 3, [0, 0, 206, 211]), (0, 4, [207, 208, 209, 210, 0, 0, 0]), (1, 9, []), (1, 9, []), (1, 9, []), (1, 9, []), (0, 1, [212, 213, 214, 215, 0, 0]), (1, 60, []), (1, 60, []), (1, 60, []), (1, 60, []), (0, 12, [217, 0, 218, 219, 0, 220, 0, 0, 221, 0, 222, 0, 0, 1, 0, 0, 0, 0, 223, 224, 0, 1, 0, 0, 0, 0, 0, 0, 0, 225, 0, 226, 227, 0, 228, 0, 0, 229, 0, 230, 231, 232, 233, 0, 234, 235, 0, 0, 236, 237, 238]), (1, 288, []), (1, 9, []), (1, 9, []), (1, 40, []), (2, 80, []), (1, 16, []), (1, 27, []), (2, 40, []), (1, 3456, []), (1, 288, []), (1, 240, []), (1, 288, []), (1, 9, []), (1, 9, []), (1, 9, []), (1, 2, []), (1, 15, []), (1, 10, []), (1, 20, []), (1, 576, []), (3, 2, []), (1, 2, []), (4, 1, [])]
def zkS : zKd := fun o => zkL.getD o (9, 0, [])
def zkLC : List (Nat × Nat × List Nat) := [(0, 11, [1, 1, 1, 1, 1, 1, 1, 1, 1, 1, 1, 1, 0, 0, 0, 0, 1]), (0, 9, [1, 0, 0, 0, 0]), (1, 80, []), (0, 6, [1, 1, 0, 1, 1, 0]), (1, 9, []), (1, 40, []), (1, 40, []), (1, 40, []), (0, 7, [1, 0, 1]), (1, 40, []), (0, 0, [1, 1, 1, 0, 1]), (1, 20, []), (1, 20, []), (1, 20, []), (0, 10, [1, 1, 1, 0, 0, 0, 0, 1, 1]), (1, 9, []), (1, 9, []), (0, 4, [1, 1, 1, 1, 0, 0, 0]), (1, 9, []), (1, 9, []), (1, 9, []), (1, 9, []), (1, 9, []), (0, 10, [1, 1, 1, 0, 0, 0, 0, 1, 1]), (1, 9, []), (1, 9, []), (0, 4, [1, 1, 1, 1, 0, 0, 0]), (1, 9, []), (1, 9, []), (1, 9, []), (1, 9, []), (1, 9, []), (0, 1, [1, 1, 1, 1, 0, 0]), (1, 60, []), (1, 60, []), (1, 60, []), (1, 60, []), (0, 5, [0, 1, 0]), (6, 13, []), (0, 3, [0, 0, 1, 1]), (0, 4, [1, 1, 1, 1, 0, 0, 0]), (1, 9, []), (1, 9, []), (1, 9, []), (1, 9, []), (0, 1, [1, 1, 1, 1, 0, 0]), (1, 60, []), (1, 60, []), (1, 60, []), (1, 60, []), (0, 3, [0, 0, 1, 1]), (0, 4, [1, 1, 1, 1, 0, 0, 0]), (1, 9, []), (1, 9, []), (1, 9, []), (1, 9, []), (0, 1, [1, 1, 1, 1, 0, 0]), (1, 60, []), (1, 60, []), (1, 60, []), (1, 60, []), (0, 3, [0, 0, 1, 1]), (0, 4, [1, 1, 1, 1, 0, 0, 0]), (1, 9, []), (1, 9, []), (1, 9, []), (1, 9, []), (0, 1, [1, 1, 1, 1, 0, 0]), (1, 60, []), (1, 60, []), (1, 60, []), (1, 60, []), (0, 3, [0, 0, 1, 1]), (0, 4, [1, 1, 1, 1, 0, 0, 0]), (1, 9, []), (1, 9, []), (1, 9, []), (1, 9, []), (0, 1, [1, 1, 1, 1, 0, 0]), (1, 60, []), (1, 60, []), (1, 60, []), (1, 60, []), (0, 3, [0, 0, 1, 1]), (0, 4, [1, 1, 1, 1, 0, 0, 0]), (1, 9, []), (1, 9, []), (1, 9, []), (1, 9, []), (0, 1, [1, 1, 1, 1, 0, 0]), (1, 60, []), (1, 60, []), (1, 60, []), (1, 60, []), (0, 3, [0, 0, 1, 1]), (0, 4, [1, 1, 1, 1, 0, 0, 0]), (1, 9, []), (1, 9, []), (1, 9, []), (1, 9, []), (0, 1, [1, 1, 1, 1, 0, 0]), (1, 60, []), (1, 60, []), (1, 60, []), (1, 60, []), (0, 3, [0, 0, 1, 1]), (0, 4, [1, 1, 1, 1, 0, 0, 0]), (1, 9, []), (1, 9, []), (1, 9, []), (1, 9, []), (0, 1, [1, 1, 1, 1, 0, 0]), (1, 60, []), (1, 60, []), (1, 60, []), (1, 60, []), (0, 3, [0, 0, 1, 1]), (0, 4, [1, 1, 1, 1, 0, 0, 0]), (1, 9, []), (1, 9, []), (1, 9, []), (1, 9, []), (0, 1, [1, 1, 1, 1, 0, 0]), (1, 60, []), (1, 60, []), (1, 60, []), (1, 60, []), (0, 3, [0, 0, 1, 1]), (0, 4, [1, 1, 1, 1, 0, 0, 0]), (1, 9, []), (1, 9, []), (1, 9, []), (1, 9, []), (0, 1, [1, 1, 1, 1, 0, 0]), (1, 60, []), (1, 60, []), (1, 60, []), (1, 60, []), (0, 3, [0, 0, 1, 1]), (0, 4, [1, 1, 1, 1, 0, 0, 0]), (1, 9, []), (1, 9, []), (1, 9, []), (1, 9, []), (0, 1, [1, 1, 1, 1, 0, 0]), (1, 60, []), (1, 60, []), (1, 60, []), (1, 60, []), (0, 3, [0, 0, 1, 1]), (0, 4, [1, 1, 1, 1, 0, 0, 0]), (1, 9, []), (1, 9, []), (1, 9, []), (1, 9, []), (0, 1, [1, 1, 1, 1, 0, 0]), (1, 60, []), (1, 60, []), (1, 60, []), (1, 60, []), (0, 3, [0, 0, 1, 1]), (0, 4, [1, 1, 1, 1, 0, 0, 0]), (1, 9, []), (1, 9, []), (1, 9, []), (1, 9, []), (0, 1, [1, 1, 1, 1, 0, 0]), (1, 60, []), (1, 60, []), (1, 60, []), (1, 60, []), (0, 3, [0, 0, 1, 1]), (0, 4, [1, 1, 1, 1, 0, 0, 0]), (1, 9, []), (1, 9, []), (1, 9, []), (1, 9, []), (0, 1, [1, 1, 1, 1, 0, 0]), (1, 60, []), (1, 60, []), (1, 60, []), (1, 60, []), (6, 2, []), (0, 2, [1, 1, 1, 0]), (1, 5, []), (1, 5, []), (1, 5, []), (0, 8, [0, 1, 1]), (1, 10, []), (1, 10, []), (1, 16, []), (1, 10, []), (0, 3, [0, 0, 1, 1]), (0, 4, [1, 1, 1, 1, 0, 0, 0]), (1, 9, []), (1, 9, []), (1, 9, []), (1, 9, []), (0, 1, [1, 1, 1, 1, 0, 0]), (1, 60, []), (1, 60, []), (1, 60, []), (1, 60, []), (0, 3, [0, 0, 1, 1]), (0, 4, [1, 1, 1, 1, 0, 0, 0]), (1, 9, []), (1, 9, []), (1, 9, []), (1, 9, []), (0, 1, [1, 1, 1, 1, 0, 0]), (1, 60, []), (1, 60, []), (1, 60, []), (1, 60, []), (0, 12, [1, 0, 1, 1, 0, 1, 0, 0, 1, 0, 1, 0, 0, 1, 0, 0, 0, 0, 1, 1, 0, 1, 0, 0, 0, 0, 0, 0, 0, 1, 0, 1, 1, 0, 1, 0, 0, 1, 0, 1, 1, 1, 1, 0, 1, 1, 0, 0, 1, 1, 1]), (1, 288, []), (1, 9, []), (1, 9, []), (1, 40, []), (2, 80, []), (1, 16, []), (1, 27, []), (2, 40, []), (1, 3456, []), (1, 288, []), (1, 240, []), (1, 288, []), (1, 9, []), (1, 9, []), (1, 9, []), (1, 2, []), (1, 15, []), (1, 10, []), (1, 20, []), (1, 576, []), (3, 2, []), (1, 2, []), (4, 1, [])]
def zkC : zKd := fun o => zkLC.getD o (9, 0, [])
end
section
/-! a step says the same in any answer type -/
section ZNAT
variable {ρ1 ρ2 : Type} (r : ρ1 → ρ2 → Prop) {bad1 : ρ1} {bad2 : ρ2} {K1 : Nat → List Value → List Value → Nat → zS → ρ1} {K2 : Nat → List Value → List Value → Nat → zS → ρ2} {R1 : Int32 → Nat → zS → ρ1} {R2 : Int32 → Nat → zS → ρ2} {C1 : Nat → List Value → Nat → zS → (Int32 → Nat → zS → ρ1) → ρ1} {C2 : Nat → List Value → Nat → zS → (Int32 → Nat → zS → ρ2) → ρ2}
theorem zStep_rel (hbad : r bad1 bad2) (hK : ∀ pc ls st n σ, r (K1 pc ls st n σ) (K2 pc ls st n σ)) (hR : ∀ v n σ, r (R1 v n σ) (R2 v n σ)) (hC : ∀ mi as n σ k1 k2, (∀ v n' σ', r (k1 v n' σ') (k2 v n' σ')) → r (C1 mi as n σ k1) (C2 mi as n σ k2)) (zk : zKd) (al : Bool) (e : zE) (ls st : List Value) (n : Nat) (σ : zS) : r (zStep bad1 K1 R1 C1 zk al e ls st n σ) (zStep bad2 K2 R2 C2 zk al e ls st n σ) := by
  obtain ⟨pc, ins, nx, a, b, d, f, c, sw⟩ := e
  have hgo : ∀ ls st, r (zGo bad1 K1 C1 a b f nx ls st n σ) (zGo bad2 K2 C2 a b f nx ls st n σ) := by
    intro ls st
    unfold zGo
    split
    · exact hC _ _ _ _ _ _ (fun v n' σ' => hK _ _ _ _ _)
    · exact hbad
  have hsw : ∀ ls st x sw, r (zSwc K1 a ls st n σ x sw) (zSwc K2 a ls st n σ x sw) := by
    intro ls st x sw
    induction sw with
    | nil => exact hK _ _ _ _ _
    | cons q t ih =>
      obtain ⟨v, t'⟩ := q
      unfold zSwc
      split
      · exact hK _ _ _ _ _
      · exact ih
  have hcd : ∀ c x y t1 t2 f1 f2, r t1 t2 → r f1 f2 → r (zCnd c x y t1 f1) (zCnd c x y t2 f2) := by
    intro c x y t1 t2 f1 f2 h1 h2
    unfold zCnd
    split <;> split <;> first | exact h1 | exact h2
  cases ins
  all_goals first
    | exact hbad
    | exact hK _ _ _ _ _
    | (simp only [zStep]; split <;> first | exact hbad | exact hK _ _ _ _ _ | skip
       all_goals first
         | done
         | exact hgo _ _
         | (unfold zCopy; repeat' split
            all_goals first | exact hbad | exact hK _ _ _ _ _)
         | (unfold zObj; repeat' split
            all_goals first | exact hbad | exact hK _ _ _ _ _)
         | (unfold zNew; repeat' split
            all_goals first | exact hbad | exact hK _ _ _ _ _)
         | (split
            · exact hbad
            · unfold zSpec
              repeat' split
              all_goals first | exact hbad | exact hgo _ _)
         | (unfold zSpec; repeat' split
            all_goals first | exact hbad | exact hgo _ _))
    | (simp only [zStep, zBin, zDiv, zUn, zIld, zAld, zIst, zAst, zInc, zNul, zDup, zPop, zDup2, zDupX, zGet, zAld1, zAst1, zAst2, zAldq, zAstq, zLen, zRet, zRetv, zNewa]
       repeat' split
       all_goals first | exact hbad | exact hK _ _ _ _ _ | exact hR _ _ _)
    | (simp only [zStep, zIf, zIf2]
       split
       · exact hcd _ _ _ _ _ _ _ (hK _ _ _ _ _) (hK _ _ _ _ _)
       · exact hbad)
    | (simp only [zStep, zSw]
       split
       · exact hsw _ _ _ _
       · exact hbad)
    | (simp only [zStep, zVirt]
       repeat' split
       all_goals first | exact hbad | exact hgo _ _)
    | (simp only [zStep, zPut, zPutI]
       repeat' split
       all_goals first | exact hbad | exact hK _ _ _ _ _)
end ZNAT
end
section
def zTf (a : Nat) : vw_C := zCl.getD a ("", zT0, 0)
def zFL : List (Nat × Nat × Nat × Nat) := [(0, 11, 0, 0), (0, 15, 0, 1), (0, 18, 0, 2), (0, 21, 0, 4), (0, 25, 0, 3), (1, 9, 1, 0), (1, 15, 1, 1), (1, 18, 1, 2), (1, 21, 1, 3), (1, 30, 1, 4), (1, 34, 1, 5), (2, 9, 2, 0), (2, 13, 2, 1), (2, 16, 2, 2), (2, 19, 2, 3), (3, 10, 3, 2), (3, 19, 3, 3), (3, 23, 10, 2), (3, 33, 10, 3), (3, 37, 3, 1), (3, 38, 3, 0), (4, 9, 4, 0), (4, 15, 4, 1), (4, 18, 4, 2), (4, 21, 4, 3), (4, 33, 4, 4), (4, 37, 4, 5), (4, 40, 4, 6), (5, 13, 5, 1), (5, 18, 5, 2), (5, 26, 5, 0), (6, 9, 6, 0), (6, 15, 6, 1), (6, 18, 6, 3), (6, 21, 6, 4), (6, 27, 6, 2), (6, 31, 7, 0), (6, 40, 7, 1), (6, 47, 6, 5), (7, 9, 7, 0), (7, 15, 7, 2), (7, 19, 7, 1), (8, 11, 8, 1), (8, 15, 8, 2), (8, 18, 8, 0), (8, 34, 10, 4), (9, 9, 9, 0), (9, 15, 9, 1), (9, 19, 9, 2), (9, 28, 9, 3), (9, 31, 9, 4), (10, 9, 10, 0), (10, 15, 10, 1), (10, 21, 10, 2), (10, 25, 10, 7), (10, 28, 10, 8), (10, 42, 10, 3), (10, 54, 4, 5), (10, 71, 4, 6), (10, 78, 10, 4), (10, 81, 10, 5), (10, 84, 4, 0), (10, 87, 4, 2), (10, 90, 4, 4), (10, 93, 4, 3), (10, 100, 4, 1), (10, 103, 10, 6), (10, 117, 6, 0), (11, 10, 11, 0), (11, 19, 11, 1), (11, 28, 11, 2), (11, 35, 11, 3), (11, 44, 11, 4), (11, 48, 11, 5), (11, 54, 11, 6), (11, 61, 11, 7), (11, 67, 11, 8), (11, 74, 11, 9), (11, 81, 11, 10), (11, 85, 11, 11), (11, 89, 11, 16), (11, 97, 9, 1), (11, 116, 10, 3), (11, 119, 5, 0), (11, 124, 9, 0), (11, 155, 10, 2), (11, 159, 4, 2), (11, 164, 4, 0), (11, 167, 10, 0), (11, 173, 4, 1), (11, 176, 4, 6), (11, 179, 4, 3), (11, 182, 4, 4), (11, 189, 4, 5), (11, 200, 10, 1), (11, 213, 11, 13), (11, 243, 10, 4), (11, 246, 10, 5), (11, 258, 10, 6), (11, 276, 0, 3), (11, 277, 0, 0), (11, 280, 0, 1), (11, 283, 0, 2), (11, 305, 1, 0), (11, 308, 1, 1), (11, 309, 1, 2), (11, 310, 1, 3), (11, 324, 11, 14), (11, 327, 11, 15), (11, 333, 11, 12), (11, 342, 10, 7), (11, 397, 2, 3), (11, 401, 2, 0), (11, 412, 8, 0), (11, 437, 3, 0), (11, 441, 3, 1), (11, 445, 1, 4), (12, 9, 12, 0), (12, 13, 12, 2), (12, 16, 12, 3), (12, 19, 12, 5), (12, 22, 12, 8), (12, 26, 12, 10), (12, 29, 12, 18), (12, 32, 12, 19), (12, 35, 12, 29), (12, 38, 12, 31), (12, 41, 12, 32), (12, 44, 12, 34), (12, 47, 12, 37), (12, 50, 12, 39), (12, 53, 12, 40), (12, 56, 12, 41), (12, 59, 12, 42), (12, 62, 12, 44), (12, 65, 12, 45), (12, 68, 12, 48), (12, 71, 12, 49), (12, 75, 12, 50), (12, 78, 12, 12), (12, 82, 12, 11), (12, 85, 12, 1), (12, 96, 12, 9), (12, 99, 12, 13), (12, 102, 12, 14), (12, 105, 12, 15), (12, 108, 12, 16), (12, 111, 12, 17), (12, 140, 12, 30), (12, 143, 12, 47), (12, 157, 12, 6), (12, 172, 12, 21), (12, 179, 12, 22), (12, 182, 12, 23), (12, 185, 12, 24), (12, 188, 12, 25), (12, 191, 12, 20), (12, 217, 12, 4), (12, 228, 12, 26), (12, 231, 12, 27), (12, 234, 12, 28), (12, 237, 12, 7), (12, 282, 12, 33), (12, 294, 12, 36), (12, 297, 12, 35), (12, 306, 12, 38), (12, 351, 12, 43), (12, 359, 12, 46)]
def zML : List (Nat × Nat × Nat × Nat) := [(0, 29, 61, 1), (0, 35, 8, 1), (0, 38, 66, 1), (0, 42, 64, 1), (0, 46, 65, 1), (0, 49, 9, 1), (0, 52, 68, 1), (0, 56, 67, 1), (0, 59, 10, 1), (1, 37, 1, 0), (1, 43, 14, 1), (3, 9, 25, 2), (3, 18, 11, 4), (3, 26, 26, 1), (3, 30, 12, 1), (4, 24, 29, 1), (4, 43, 131, 3), (4, 47, 27, 1), (4, 51, 5, 0), (4, 57, 28, 1), (4, 61, 132, 3), (4, 65, 31, 1), (4, 68, 4, 0), (4, 74, 3, 0), (5, 17, 22, 4), (5, 22, 23, 1), (5, 29, 4, 0), (5, 35, 24, 1), (6, 24, 39, 1), (6, 41, 4, 0), (6, 50, 44, 0), (7, 23, 48, 1), (7, 27, 49, 1), (7, 30, 64, 1), (7, 36, 65, 1), (7, 39, 47, 1), (7, 43, 50, 1), (7, 46, 51, 1), (7, 49, 66, 1), (7, 52, 52, 1), (7, 55, 67, 1), (7, 59, 53, 1), (7, 62, 54, 0), (8, 22, 3, 0), (8, 28, 77, 1), (8, 37, 132, 3), (9, 22, 4, 0), (9, 35, 64, 1), (9, 39, 69, 1), (10, 20, 25, 2), (10, 38, 26, 1), (10, 46, 131, 3), (10, 50, 72, 1), (10, 57, 132, 3), (10, 61, 74, 1), (10, 64, 78, 1), (10, 68, 79, 1), (10, 74, 33, 1), (10, 96, 28, 1), (10, 106, 73, 1), (10, 109, 80, 1), (10, 113, 27, 1), (10, 122, 0, 0), (10, 127, 42, 1), (10, 130, 43, 1), (11, 9, 58, 4), (11, 18, 38, 2), (11, 25, 45, 2), (11, 34, 6, 2), (11, 41, 70, 2), (11, 53, 11, 4), (11, 60, 34, 2), (11, 73, 19, 4), (11, 80, 55, 4), (11, 92, 22, 4), (11, 93, 59, 1), (11, 101, 60, 1), (11, 105, 141, 1), (11, 109, 62, 1), (11, 113, 63, 1), (11, 120, 67, 1), (11, 127, 41, 1), (11, 131, 61, 1), (11, 135, 46, 1), (11, 138, 39, 1), (11, 141, 40, 1), (11, 145, 134, 1), (11, 170, 74, 1), (11, 185, 132, 0), (11, 192, 133, 0), (11, 196, 144, 0), (11, 203, 145, 0), (11, 207, 146, 1), (11, 210, 72, 1), (11, 216, 75, 1), (11, 219, 0, 0), (11, 224, 136, 1), (11, 227, 137, 1), (11, 230, 27, 1), (11, 234, 31, 1), (11, 237, 71, 1), (11, 240, 131, 0), (11, 249, 79, 1), (11, 252, 76, 1), (11, 255, 138, 1), (11, 261, 148, 1), (11, 264, 147, 1), (11, 268, 139, 1), (11, 271, 7, 1), (11, 272, 35, 1), (11, 286, 149, 1), (11, 290, 36, 1), (11, 293, 37, 1), (11, 297, 13, 1), (11, 302, 14, 1), (11, 312, 16, 1), (11, 315, 18, 1), (11, 318, 17, 1), (11, 321, 150, 1), (11, 330, 154, 1), (11, 336, 155, 1), (11, 339, 158, 1), (11, 345, 156, 1), (11, 348, 157, 1), (11, 351, 159, 1), (11, 354, 73, 1), (11, 357, 160, 0), (11, 360, 135, 1), (11, 363, 161, 1), (11, 366, 163, 1), (11, 369, 153, 1), (11, 372, 2, 0), (11, 377, 152, 0), (11, 380, 33, 1), (11, 383, 32, 1), (11, 386, 164, 1), (11, 389, 166, 1), (11, 392, 165, 1), (11, 395, 140, 1), (11, 398, 20, 1), (11, 404, 21, 1), (11, 407, 167, 1), (11, 410, 56, 1), (11, 413, 168, 1), (11, 416, 57, 1), (11, 420, 30, 1), (11, 423, 5, 0), (11, 429, 4, 0), (11, 432, 3, 0), (11, 435, 23, 1), (11, 442, 24, 1), (11, 448, 142, 1), (11, 451, 66, 1), (11, 454, 143, 1), (11, 457, 68, 1), (11, 460, 77, 1), (11, 464, 15, 1), (11, 467, 151, 0), (11, 470, 29, 1), (11, 473, 162, 1), (12, 88, 171, 0), (12, 92, 176, 1), (12, 114, 183, 1), (12, 118, 182, 1), (12, 121, 185, 1), (12, 125, 184, 1), (12, 129, 181, 1), (12, 133, 191, 1), (12, 136, 190, 0), (12, 146, 187, 1), (12, 150, 186, 1), (12, 154, 188, 1), (12, 160, 194, 1), (12, 163, 195, 1), (12, 166, 196, 1), (12, 169, 193, 1), (12, 175, 197, 1), (12, 194, 175, 1), (12, 198, 173, 1), (12, 201, 177, 1), (12, 204, 4, 0), (12, 210, 3, 0), (12, 213, 172, 0), (12, 220, 203, 1), (12, 223, 0, 0), (12, 241, 206, 1), (12, 245, 207, 1), (12, 248, 199, 1), (12, 252, 208, 0), (12, 256, 210, 1), (12, 260, 209, 1), (12, 264, 211, 0), (12, 267, 213, 1), (12, 270, 174, 1), (12, 273, 205, 1), (12, 276, 216, 1), (12, 279, 220, 1), (12, 285, 221, 1), (12, 288, 223, 1), (12, 291, 224, 1), (12, 300, 227, 1), (12, 303, 228, 1), (12, 309, 230, 1), (12, 312, 178, 0), (12, 315, 234, 1), (12, 318, 236, 1), (12, 321, 237, 1), (12, 325, 241, 1), (12, 329, 244, 1), (12, 332, 246, 0), (12, 336, 247, 1), (12, 339, 2, 0), (12, 342, 249, 0), (12, 345, 253, 1), (12, 348, 255, 1), (12, 354, 259, 1), (12, 362, 265, 1), (12, 365, 264, 1)]
def zNL : List (Nat × Nat × Nat) := [(3, 7, 4), (3, 16, 1), (5, 11, 3), (10, 18, 4), (11, 7, 9), (11, 16, 6), (11, 23, 7), (11, 32, 0), (11, 39, 10), (11, 51, 1), (11, 58, 5), (11, 65, 3), (11, 71, 2), (11, 78, 8)]
def zAL : List (Nat × Nat) := [(5, 11), (11, 65)]
def zCP : List (Nat × Nat) := [(1, 24), (4, 27), (6, 34), (10, 32)]
def zOB : List (Nat × Nat) := [(0, 3), (1, 3), (2, 1), (3, 1), (4, 3), (5, 3), (6, 3), (7, 3), (8, 3), (9, 3), (10, 3), (11, 1), (12, 3)]
def zKN : List (Nat × Nat × Int32) := [(11, 428, 1103515245), (12, 324, 1000000), (12, 335, 1000001), (12, 358, 2147483647), (12, 367, 1103515245), (13, 265, 1431655765), (13, 266, 858993459), (13, 267, 252645135)]
abbrev zWF (q : Nat × Nat × Nat × Nat) : Cond := .fieldLink (zCs q.1) q.2.1 (zCs q.2.2.1) ((zTf q.2.2.1).2.1 q.2.2.2).2.1 ((zTf q.2.2.1).2.1 q.2.2.2).2.2.1
abbrev zWM (q : Nat × Nat × Nat × Nat) : Cond := if q.2.2.2 < 3 then .methodLink (zCs q.1) q.2.1 (zY q.2.2.1) else .methodLinkNest (zCs q.1) q.2.1 (zY q.2.2.1) "StartedByAYawn"
set_option maxRecDepth 100000 in
theorem zFLc_0 : zWF (0, 11, 0, 0) ∈ tables_1 := List.mem_of_getElem? (i := 109) rfl
set_option maxRecDepth 100000 in
theorem zFLc_1 : zWF (0, 15, 0, 1) ∈ tables_1 := List.mem_of_getElem? (i := 111) rfl
set_option maxRecDepth 100000 in
theorem zFLc_2 : zWF (0, 18, 0, 2) ∈ tables_1 := List.mem_of_getElem? (i := 113) rfl
set_option maxRecDepth 100000 in
theorem zFLc_3 : zWF (0, 21, 0, 4) ∈ tables_1 := List.mem_of_getElem? (i := 117) rfl
set_option maxRecDepth 100000 in
theorem zFLc_4 : zWF (0, 25, 0, 3) ∈ tables_1 := List.mem_of_getElem? (i := 115) rfl
set_option maxRecDepth 100000 in
theorem zFLc_5 : zWF (1, 9, 1, 0) ∈ tables_1 := List.mem_of_getElem? (i := 229) rfl
set_option maxRecDepth 100000 in
theorem zFLc_6 : zWF (1, 15, 1, 1) ∈ tables_1 := List.mem_of_getElem? (i := 231) rfl
set_option maxRecDepth 100000 in
theorem zFLc_7 : zWF (1, 18, 1, 2) ∈ tables_1 := List.mem_of_getElem? (i := 233) rfl
set_option maxRecDepth 100000 in
theorem zFLc_8 : zWF (1, 21, 1, 3) ∈ tables_1 := List.mem_of_getElem? (i := 235) rfl
set_option maxRecDepth 100000 in
theorem zFLc_9 : zWF (1, 30, 1, 4) ∈ tables_1 := List.mem_of_getElem? (i := 237) rfl
set_option maxRecDepth 100000 in
theorem zFLc_10 : zWF (1, 34, 1, 5) ∈ tables_1 := List.mem_of_getElem? (i := 239) rfl
set_option maxRecDepth 100000 in
theorem zFLc_11 : zWF (2, 9, 2, 0) ∈ tables_1 := List.mem_of_getElem? (i := 303) rfl
set_option maxRecDepth 100000 in
theorem zFLc_12 : zWF (2, 13, 2, 1) ∈ tables_1 := List.mem_of_getElem? (i := 305) rfl
set_option maxRecDepth 100000 in
theorem zFLc_13 : zWF (2, 16, 2, 2) ∈ tables_1 := List.mem_of_getElem? (i := 306) rfl
set_option maxRecDepth 100000 in
theorem zFLc_14 : zWF (2, 19, 2, 3) ∈ tables_1 := List.mem_of_getElem? (i := 307) rfl
set_option maxRecDepth 100000 in
theorem zFLc_15 : zWF (3, 10, 3, 2) ∈ tables_1 := List.mem_of_getElem? (i := 274) rfl
set_option maxRecDepth 100000 in
theorem zFLc_16 : zWF (3, 19, 3, 3) ∈ tables_1 := List.mem_of_getElem? (i := 275) rfl
set_option maxRecDepth 100000 in
theorem zFLc_17 : zWF (3, 23, 10, 2) ∈ tables_1 := List.mem_of_getElem? (i := 189) rfl
set_option maxRecDepth 100000 in
theorem zFLc_18 : zWF (3, 33, 10, 3) ∈ tables_1 := List.mem_of_getElem? (i := 191) rfl
set_option maxRecDepth 100000 in
theorem zFLc_19 : zWF (3, 37, 3, 1) ∈ tables_1 := List.mem_of_getElem? (i := 272) rfl
set_option maxRecDepth 100000 in
theorem zFLc_20 : zWF (3, 38, 3, 0) ∈ tables_1 := List.mem_of_getElem? (i := 270) rfl
set_option maxRecDepth 100000 in
theorem zFLc_21 : zWF (4, 9, 4, 0) ∈ tables_1 := List.mem_of_getElem? (i := 148) rfl
set_option maxRecDepth 100000 in
theorem zFLc_22 : zWF (4, 15, 4, 1) ∈ tables_1 := List.mem_of_getElem? (i := 151) rfl
set_option maxRecDepth 100000 in
theorem zFLc_23 : zWF (4, 18, 4, 2) ∈ tables_1 := List.mem_of_getElem? (i := 154) rfl
set_option maxRecDepth 100000 in
theorem zFLc_24 : zWF (4, 21, 4, 3) ∈ tables_1 := List.mem_of_getElem? (i := 157) rfl
set_option maxRecDepth 100000 in
theorem zFLc_25 : zWF (4, 33, 4, 4) ∈ tables_1 := List.mem_of_getElem? (i := 160) rfl
set_option maxRecDepth 100000 in
theorem zFLc_26 : zWF (4, 37, 4, 5) ∈ tables_1 := List.mem_of_getElem? (i := 163) rfl
set_option maxRecDepth 100000 in
theorem zFLc_27 : zWF (4, 40, 4, 6) ∈ tables_1 := List.mem_of_getElem? (i := 166) rfl
set_option maxRecDepth 100000 in
theorem zFLc_28 : zWF (5, 13, 5, 1) ∈ tables_1 := List.mem_of_getElem? (i := 287) rfl
set_option maxRecDepth 100000 in
theorem zFLc_29 : zWF (5, 18, 5, 2) ∈ tables_1 := List.mem_of_getElem? (i := 288) rfl
set_option maxRecDepth 100000 in
theorem zFLc_30 : zWF (5, 26, 5, 0) ∈ tables_1 := List.mem_of_getElem? (i := 285) rfl
set_option maxRecDepth 100000 in
theorem zFLc_31 : zWF (6, 9, 6, 0) ∈ tables_1 := List.mem_of_getElem? (i := 65) rfl
set_option maxRecDepth 100000 in
theorem zFLc_32 : zWF (6, 15, 6, 1) ∈ tables_1 := List.mem_of_getElem? (i := 67) rfl
set_option maxRecDepth 100000 in
theorem zFLc_33 : zWF (6, 18, 6, 3) ∈ tables_1 := List.mem_of_getElem? (i := 69) rfl
set_option maxRecDepth 100000 in
theorem zFLc_34 : zWF (6, 21, 6, 4) ∈ tables_1 := List.mem_of_getElem? (i := 70) rfl
set_option maxRecDepth 100000 in
theorem zFLc_35 : zWF (6, 27, 6, 2) ∈ tables_1 := List.mem_of_getElem? (i := 68) rfl
set_option maxRecDepth 100000 in
theorem zFLc_36 : zWF (6, 31, 7, 0) ∈ tables_1 := List.mem_of_getElem? (i := 92) rfl
set_option maxRecDepth 100000 in
theorem zFLc_37 : zWF (6, 40, 7, 1) ∈ tables_1 := List.mem_of_getElem? (i := 94) rfl
set_option maxRecDepth 100000 in
theorem zFLc_38 : zWF (6, 47, 6, 5) ∈ tables_1 := List.mem_of_getElem? (i := 71) rfl
set_option maxRecDepth 100000 in
theorem zFLc_39 : zWF (7, 9, 7, 0) ∈ tables_1 := List.mem_of_getElem? (i := 91) rfl
set_option maxRecDepth 100000 in
theorem zFLc_40 : zWF (7, 15, 7, 2) ∈ tables_1 := List.mem_of_getElem? (i := 95) rfl
set_option maxRecDepth 100000 in
theorem zFLc_41 : zWF (7, 19, 7, 1) ∈ tables_1 := List.mem_of_getElem? (i := 93) rfl
set_option maxRecDepth 100000 in
theorem zFLc_42 : zWF (8, 11, 8, 1) ∈ tables_1 := List.mem_of_getElem? (i := 326) rfl
set_option maxRecDepth 100000 in
theorem zFLc_43 : zWF (8, 15, 8, 2) ∈ tables_1 := List.mem_of_getElem? (i := 327) rfl
set_option maxRecDepth 100000 in
theorem zFLc_44 : zWF (8, 18, 8, 0) ∈ tables_1 := List.mem_of_getElem? (i := 324) rfl
set_option maxRecDepth 100000 in
theorem zFLc_45 : zWF (8, 34, 10, 4) ∈ tables_1 := List.mem_of_getElem? (i := 194) rfl
set_option maxRecDepth 100000 in
theorem zFLc_46 : zWF (9, 9, 9, 0) ∈ tables_1 := List.mem_of_getElem? (i := 36) rfl
set_option maxRecDepth 100000 in
theorem zFLc_47 : zWF (9, 15, 9, 1) ∈ tables_1 := List.mem_of_getElem? (i := 38) rfl
set_option maxRecDepth 100000 in
theorem zFLc_48 : zWF (9, 19, 9, 2) ∈ tables_1 := List.mem_of_getElem? (i := 40) rfl
set_option maxRecDepth 100000 in
theorem zFLc_49 : zWF (9, 28, 9, 3) ∈ tables_1 := List.mem_of_getElem? (i := 41) rfl
set_option maxRecDepth 100000 in
theorem zFLc_50 : zWF (9, 31, 9, 4) ∈ tables_1 := List.mem_of_getElem? (i := 42) rfl
set_option maxRecDepth 100000 in
theorem zFLc_51 : zWF (10, 9, 10, 0) ∈ tables_1 := List.mem_of_getElem? (i := 184) rfl
set_option maxRecDepth 100000 in
theorem zFLc_52 : zWF (10, 15, 10, 1) ∈ tables_1 := List.mem_of_getElem? (i := 186) rfl
set_option maxRecDepth 100000 in
theorem zFLc_53 : zWF (10, 21, 10, 2) ∈ tables_1 := List.mem_of_getElem? (i := 188) rfl
set_option maxRecDepth 100000 in
theorem zFLc_54 : zWF (10, 25, 10, 7) ∈ tables_1 := List.mem_of_getElem? (i := 201) rfl
set_option maxRecDepth 100000 in
theorem zFLc_55 : zWF (10, 28, 10, 8) ∈ tables_1 := List.mem_of_getElem? (i := 203) rfl
set_option maxRecDepth 100000 in
theorem zFLc_56 : zWF (10, 42, 10, 3) ∈ tables_1 := List.mem_of_getElem? (i := 192) rfl
set_option maxRecDepth 100000 in
theorem zFLc_57 : zWF (10, 54, 4, 5) ∈ tables_1 := List.mem_of_getElem? (i := 164) rfl
set_option maxRecDepth 100000 in
theorem zFLc_58 : zWF (10, 71, 4, 6) ∈ tables_1 := List.mem_of_getElem? (i := 168) rfl
set_option maxRecDepth 100000 in
theorem zFLc_59 : zWF (10, 78, 10, 4) ∈ tables_1 := List.mem_of_getElem? (i := 195) rfl
set_option maxRecDepth 100000 in
theorem zFLc_60 : zWF (10, 81, 10, 5) ∈ tables_1 := List.mem_of_getElem? (i := 197) rfl
set_option maxRecDepth 100000 in
theorem zFLc_61 : zWF (10, 84, 4, 0) ∈ tables_1 := List.mem_of_getElem? (i := 150) rfl
set_option maxRecDepth 100000 in
theorem zFLc_62 : zWF (10, 87, 4, 2) ∈ tables_1 := List.mem_of_getElem? (i := 156) rfl
set_option maxRecDepth 100000 in
theorem zFLc_63 : zWF (10, 90, 4, 4) ∈ tables_1 := List.mem_of_getElem? (i := 162) rfl
set_option maxRecDepth 100000 in
theorem zFLc_64 : zWF (10, 93, 4, 3) ∈ tables_1 := List.mem_of_getElem? (i := 159) rfl
set_option maxRecDepth 100000 in
theorem zFLc_65 : zWF (10, 100, 4, 1) ∈ tables_1 := List.mem_of_getElem? (i := 153) rfl
set_option maxRecDepth 100000 in
theorem zFLc_66 : zWF (10, 103, 10, 6) ∈ tables_1 := List.mem_of_getElem? (i := 199) rfl
set_option maxRecDepth 100000 in
theorem zFLc_67 : zWF (10, 117, 6, 0) ∈ tables_1 := List.mem_of_getElem? (i := 66) rfl
set_option maxRecDepth 100000 in
theorem zFLc_68 : zWF (11, 10, 11, 0) ∈ tables_1 := List.mem_of_getElem? (i := 336) rfl
set_option maxRecDepth 100000 in
theorem zFLc_69 : zWF (11, 19, 11, 1) ∈ tables_1 := List.mem_of_getElem? (i := 337) rfl
set_option maxRecDepth 100000 in
theorem zFLc_70 : zWF (11, 28, 11, 2) ∈ tables_1 := List.mem_of_getElem? (i := 338) rfl
set_option maxRecDepth 100000 in
theorem zFLc_71 : zWF (11, 35, 11, 3) ∈ tables_1 := List.mem_of_getElem? (i := 339) rfl
set_option maxRecDepth 100000 in
theorem zFLc_72 : zWF (11, 44, 11, 4) ∈ tables_1 := List.mem_of_getElem? (i := 340) rfl
set_option maxRecDepth 100000 in
theorem zFLc_73 : zWF (11, 48, 11, 5) ∈ tables_1 := List.mem_of_getElem? (i := 341) rfl
set_option maxRecDepth 100000 in
theorem zFLc_74 : zWF (11, 54, 11, 6) ∈ tables_1 := List.mem_of_getElem? (i := 342) rfl
set_option maxRecDepth 100000 in
theorem zFLc_75 : zWF (11, 61, 11, 7) ∈ tables_1 := List.mem_of_getElem? (i := 343) rfl
set_option maxRecDepth 100000 in
theorem zFLc_76 : zWF (11, 67, 11, 8) ∈ tables_1 := List.mem_of_getElem? (i := 344) rfl
set_option maxRecDepth 100000 in
theorem zFLc_77 : zWF (11, 74, 11, 9) ∈ tables_1 := List.mem_of_getElem? (i := 345) rfl
set_option maxRecDepth 100000 in
theorem zFLc_78 : zWF (11, 81, 11, 10) ∈ tables_1 := List.mem_of_getElem? (i := 346) rfl
set_option maxRecDepth 100000 in
theorem zFLc_79 : zWF (11, 85, 11, 11) ∈ tables_1 := List.mem_of_getElem? (i := 347) rfl
set_option maxRecDepth 100000 in
theorem zFLc_80 : zWF (11, 89, 11, 16) ∈ tables_1 := List.mem_of_getElem? (i := 352) rfl
set_option maxRecDepth 100000 in
theorem zFLc_81 : zWF (11, 97, 9, 1) ∈ tables_1 := List.mem_of_getElem? (i := 39) rfl
set_option maxRecDepth 100000 in
theorem zFLc_82 : zWF (11, 116, 10, 3) ∈ tables_1 := List.mem_of_getElem? (i := 193) rfl
set_option maxRecDepth 100000 in
theorem zFLc_83 : zWF (11, 119, 5, 0) ∈ tables_1 := List.mem_of_getElem? (i := 286) rfl
set_option maxRecDepth 100000 in
theorem zFLc_84 : zWF (11, 124, 9, 0) ∈ tables_1 := List.mem_of_getElem? (i := 37) rfl
set_option maxRecDepth 100000 in
theorem zFLc_85 : zWF (11, 155, 10, 2) ∈ tables_1 := List.mem_of_getElem? (i := 190) rfl
set_option maxRecDepth 100000 in
theorem zFLc_86 : zWF (11, 159, 4, 2) ∈ tables_1 := List.mem_of_getElem? (i := 155) rfl
set_option maxRecDepth 100000 in
theorem zFLc_87 : zWF (11, 164, 4, 0) ∈ tables_1 := List.mem_of_getElem? (i := 149) rfl
set_option maxRecDepth 100000 in
theorem zFLc_88 : zWF (11, 167, 10, 0) ∈ tables_1 := List.mem_of_getElem? (i := 185) rfl
set_option maxRecDepth 100000 in
theorem zFLc_89 : zWF (11, 173, 4, 1) ∈ tables_1 := List.mem_of_getElem? (i := 152) rfl
set_option maxRecDepth 100000 in
theorem zFLc_90 : zWF (11, 176, 4, 6) ∈ tables_1 := List.mem_of_getElem? (i := 167) rfl
set_option maxRecDepth 100000 in
theorem zFLc_91 : zWF (11, 179, 4, 3) ∈ tables_1 := List.mem_of_getElem? (i := 158) rfl
set_option maxRecDepth 100000 in
theorem zFLc_92 : zWF (11, 182, 4, 4) ∈ tables_1 := List.mem_of_getElem? (i := 161) rfl
set_option maxRecDepth 100000 in
theorem zFLc_93 : zWF (11, 189, 4, 5) ∈ tables_1 := List.mem_of_getElem? (i := 165) rfl
set_option maxRecDepth 100000 in
theorem zFLc_94 : zWF (11, 200, 10, 1) ∈ tables_1 := List.mem_of_getElem? (i := 187) rfl
set_option maxRecDepth 100000 in
theorem zFLc_95 : zWF (11, 213, 11, 13) ∈ tables_1 := List.mem_of_getElem? (i := 349) rfl
set_option maxRecDepth 100000 in
theorem zFLc_96 : zWF (11, 243, 10, 4) ∈ tables_1 := List.mem_of_getElem? (i := 196) rfl
set_option maxRecDepth 100000 in
theorem zFLc_97 : zWF (11, 246, 10, 5) ∈ tables_1 := List.mem_of_getElem? (i := 198) rfl
set_option maxRecDepth 100000 in
theorem zFLc_98 : zWF (11, 258, 10, 6) ∈ tables_1 := List.mem_of_getElem? (i := 200) rfl
set_option maxRecDepth 100000 in
theorem zFLc_99 : zWF (11, 276, 0, 3) ∈ tables_1 := List.mem_of_getElem? (i := 116) rfl
set_option maxRecDepth 100000 in
theorem zFLc_100 : zWF (11, 277, 0, 0) ∈ tables_1 := List.mem_of_getElem? (i := 110) rfl
set_option maxRecDepth 100000 in
theorem zFLc_101 : zWF (11, 280, 0, 1) ∈ tables_1 := List.mem_of_getElem? (i := 112) rfl
set_option maxRecDepth 100000 in
theorem zFLc_102 : zWF (11, 283, 0, 2) ∈ tables_1 := List.mem_of_getElem? (i := 114) rfl
set_option maxRecDepth 100000 in
theorem zFLc_103 : zWF (11, 305, 1, 0) ∈ tables_1 := List.mem_of_getElem? (i := 230) rfl
set_option maxRecDepth 100000 in
theorem zFLc_104 : zWF (11, 308, 1, 1) ∈ tables_1 := List.mem_of_getElem? (i := 232) rfl
set_option maxRecDepth 100000 in
theorem zFLc_105 : zWF (11, 309, 1, 2) ∈ tables_1 := List.mem_of_getElem? (i := 234) rfl
set_option maxRecDepth 100000 in
theorem zFLc_106 : zWF (11, 310, 1, 3) ∈ tables_1 := List.mem_of_getElem? (i := 236) rfl
set_option maxRecDepth 100000 in
theorem zFLc_107 : zWF (11, 324, 11, 14) ∈ tables_1 := List.mem_of_getElem? (i := 350) rfl
set_option maxRecDepth 100000 in
theorem zFLc_108 : zWF (11, 327, 11, 15) ∈ tables_1 := List.mem_of_getElem? (i := 351) rfl
set_option maxRecDepth 100000 in
theorem zFLc_109 : zWF (11, 333, 11, 12) ∈ tables_1 := List.mem_of_getElem? (i := 348) rfl
set_option maxRecDepth 100000 in
theorem zFLc_110 : zWF (11, 342, 10, 7) ∈ tables_1 := List.mem_of_getElem? (i := 202) rfl
set_option maxRecDepth 100000 in
theorem zFLc_111 : zWF (11, 397, 2, 3) ∈ tables_1 := List.mem_of_getElem? (i := 308) rfl
set_option maxRecDepth 100000 in
theorem zFLc_112 : zWF (11, 401, 2, 0) ∈ tables_1 := List.mem_of_getElem? (i := 304) rfl
set_option maxRecDepth 100000 in
theorem zFLc_113 : zWF (11, 412, 8, 0) ∈ tables_1 := List.mem_of_getElem? (i := 325) rfl
set_option maxRecDepth 100000 in
theorem zFLc_114 : zWF (11, 437, 3, 0) ∈ tables_1 := List.mem_of_getElem? (i := 271) rfl
set_option maxRecDepth 100000 in
theorem zFLc_115 : zWF (11, 441, 3, 1) ∈ tables_1 := List.mem_of_getElem? (i := 273) rfl
set_option maxRecDepth 100000 in
theorem zFLc_116 : zWF (11, 445, 1, 4) ∈ tables_1 := List.mem_of_getElem? (i := 238) rfl
set_option maxRecDepth 100000 in
theorem zFLc_117 : zWF (12, 9, 12, 0) ∈ tables_1 := List.mem_of_getElem? (i := 1121) rfl
set_option maxRecDepth 100000 in
theorem zFLc_118 : zWF (12, 13, 12, 2) ∈ tables_1 := List.mem_of_getElem? (i := 1123) rfl
set_option maxRecDepth 100000 in
theorem zFLc_119 : zWF (12, 16, 12, 3) ∈ tables_1 := List.mem_of_getElem? (i := 1124) rfl
set_option maxRecDepth 100000 in
theorem zFLc_120 : zWF (12, 19, 12, 5) ∈ tables_1 := List.mem_of_getElem? (i := 1126) rfl
set_option maxRecDepth 100000 in
theorem zFLc_121 : zWF (12, 22, 12, 8) ∈ tables_1 := List.mem_of_getElem? (i := 1129) rfl
set_option maxRecDepth 100000 in
theorem zFLc_122 : zWF (12, 26, 12, 10) ∈ tables_1 := List.mem_of_getElem? (i := 1131) rfl
set_option maxRecDepth 100000 in
theorem zFLc_123 : zWF (12, 29, 12, 18) ∈ tables_1 := List.mem_of_getElem? (i := 1139) rfl
set_option maxRecDepth 100000 in
theorem zFLc_124 : zWF (12, 32, 12, 19) ∈ tables_1 := List.mem_of_getElem? (i := 1140) rfl
set_option maxRecDepth 100000 in
theorem zFLc_125 : zWF (12, 35, 12, 29) ∈ tables_1 := List.mem_of_getElem? (i := 1150) rfl
set_option maxRecDepth 100000 in
theorem zFLc_126 : zWF (12, 38, 12, 31) ∈ tables_1 := List.mem_of_getElem? (i := 1152) rfl
set_option maxRecDepth 100000 in
theorem zFLc_127 : zWF (12, 41, 12, 32) ∈ tables_1 := List.mem_of_getElem? (i := 1153) rfl
set_option maxRecDepth 100000 in
theorem zFLc_128 : zWF (12, 44, 12, 34) ∈ tables_1 := List.mem_of_getElem? (i := 1155) rfl
set_option maxRecDepth 100000 in
theorem zFLc_129 : zWF (12, 47, 12, 37) ∈ tables_1 := List.mem_of_getElem? (i := 1158) rfl
set_option maxRecDepth 100000 in
theorem zFLc_130 : zWF (12, 50, 12, 39) ∈ tables_1 := List.mem_of_getElem? (i := 1160) rfl
set_option maxRecDepth 100000 in
theorem zFLc_131 : zWF (12, 53, 12, 40) ∈ tables_1 := List.mem_of_getElem? (i := 1161) rfl
set_option maxRecDepth 100000 in
theorem zFLc_132 : zWF (12, 56, 12, 41) ∈ tables_1 := List.mem_of_getElem? (i := 1162) rfl
set_option maxRecDepth 100000 in
theorem zFLc_133 : zWF (12, 59, 12, 42) ∈ tables_1 := List.mem_of_getElem? (i := 1163) rfl
set_option maxRecDepth 100000 in
theorem zFLc_134 : zWF (12, 62, 12, 44) ∈ tables_1 := List.mem_of_getElem? (i := 1165) rfl
set_option maxRecDepth 100000 in
theorem zFLc_135 : zWF (12, 65, 12, 45) ∈ tables_1 := List.mem_of_getElem? (i := 1166) rfl
set_option maxRecDepth 100000 in
theorem zFLc_136 : zWF (12, 68, 12, 48) ∈ tables_1 := List.mem_of_getElem? (i := 1169) rfl
set_option maxRecDepth 100000 in
theorem zFLc_137 : zWF (12, 71, 12, 49) ∈ tables_1 := List.mem_of_getElem? (i := 1170) rfl
set_option maxRecDepth 100000 in
theorem zFLc_138 : zWF (12, 75, 12, 50) ∈ tables_1 := List.mem_of_getElem? (i := 1171) rfl
set_option maxRecDepth 100000 in
theorem zFLc_139 : zWF (12, 78, 12, 12) ∈ tables_1 := List.mem_of_getElem? (i := 1133) rfl
set_option maxRecDepth 100000 in
theorem zFLc_140 : zWF (12, 82, 12, 11) ∈ tables_1 := List.mem_of_getElem? (i := 1132) rfl
set_option maxRecDepth 100000 in
theorem zFLc_141 : zWF (12, 85, 12, 1) ∈ tables_1 := List.mem_of_getElem? (i := 1122) rfl
set_option maxRecDepth 100000 in
theorem zFLc_142 : zWF (12, 96, 12, 9) ∈ tables_1 := List.mem_of_getElem? (i := 1130) rfl
set_option maxRecDepth 100000 in
theorem zFLc_143 : zWF (12, 99, 12, 13) ∈ tables_1 := List.mem_of_getElem? (i := 1134) rfl
set_option maxRecDepth 100000 in
theorem zFLc_144 : zWF (12, 102, 12, 14) ∈ tables_1 := List.mem_of_getElem? (i := 1135) rfl
set_option maxRecDepth 100000 in
theorem zFLc_145 : zWF (12, 105, 12, 15) ∈ tables_1 := List.mem_of_getElem? (i := 1136) rfl
set_option maxRecDepth 100000 in
theorem zFLc_146 : zWF (12, 108, 12, 16) ∈ tables_1 := List.mem_of_getElem? (i := 1137) rfl
set_option maxRecDepth 100000 in
theorem zFLc_147 : zWF (12, 111, 12, 17) ∈ tables_1 := List.mem_of_getElem? (i := 1138) rfl
set_option maxRecDepth 100000 in
theorem zFLc_148 : zWF (12, 140, 12, 30) ∈ tables_1 := List.mem_of_getElem? (i := 1151) rfl
set_option maxRecDepth 100000 in
theorem zFLc_149 : zWF (12, 143, 12, 47) ∈ tables_1 := List.mem_of_getElem? (i := 1168) rfl
set_option maxRecDepth 100000 in
theorem zFLc_150 : zWF (12, 157, 12, 6) ∈ tables_1 := List.mem_of_getElem? (i := 1127) rfl
set_option maxRecDepth 100000 in
theorem zFLc_151 : zWF (12, 172, 12, 21) ∈ tables_1 := List.mem_of_getElem? (i := 1142) rfl
set_option maxRecDepth 100000 in
theorem zFLc_152 : zWF (12, 179, 12, 22) ∈ tables_1 := List.mem_of_getElem? (i := 1143) rfl
set_option maxRecDepth 100000 in
theorem zFLc_153 : zWF (12, 182, 12, 23) ∈ tables_1 := List.mem_of_getElem? (i := 1144) rfl
set_option maxRecDepth 100000 in
theorem zFLc_154 : zWF (12, 185, 12, 24) ∈ tables_1 := List.mem_of_getElem? (i := 1145) rfl
set_option maxRecDepth 100000 in
theorem zFLc_155 : zWF (12, 188, 12, 25) ∈ tables_1 := List.mem_of_getElem? (i := 1146) rfl
set_option maxRecDepth 100000 in
theorem zFLc_156 : zWF (12, 191, 12, 20) ∈ tables_1 := List.mem_of_getElem? (i := 1141) rfl
set_option maxRecDepth 100000 in
theorem zFLc_157 : zWF (12, 217, 12, 4) ∈ tables_1 := List.mem_of_getElem? (i := 1125) rfl
set_option maxRecDepth 100000 in
theorem zFLc_158 : zWF (12, 228, 12, 26) ∈ tables_1 := List.mem_of_getElem? (i := 1147) rfl
set_option maxRecDepth 100000 in
theorem zFLc_159 : zWF (12, 231, 12, 27) ∈ tables_1 := List.mem_of_getElem? (i := 1148) rfl
set_option maxRecDepth 100000 in
theorem zFLc_160 : zWF (12, 234, 12, 28) ∈ tables_1 := List.mem_of_getElem? (i := 1149) rfl
set_option maxRecDepth 100000 in
theorem zFLc_161 : zWF (12, 237, 12, 7) ∈ tables_1 := List.mem_of_getElem? (i := 1128) rfl
set_option maxRecDepth 100000 in
theorem zFLc_162 : zWF (12, 282, 12, 33) ∈ tables_1 := List.mem_of_getElem? (i := 1154) rfl
set_option maxRecDepth 100000 in
theorem zFLc_163 : zWF (12, 294, 12, 36) ∈ tables_1 := List.mem_of_getElem? (i := 1157) rfl
set_option maxRecDepth 100000 in
theorem zFLc_164 : zWF (12, 297, 12, 35) ∈ tables_1 := List.mem_of_getElem? (i := 1156) rfl
set_option maxRecDepth 100000 in
theorem zFLc_165 : zWF (12, 306, 12, 38) ∈ tables_1 := List.mem_of_getElem? (i := 1159) rfl
set_option maxRecDepth 100000 in
theorem zFLc_166 : zWF (12, 351, 12, 43) ∈ tables_1 := List.mem_of_getElem? (i := 1164) rfl
set_option maxRecDepth 100000 in
theorem zFLc_167 : zWF (12, 359, 12, 46) ∈ tables_1 := List.mem_of_getElem? (i := 1167) rfl
def zFLc_l0 : List (Nat × Nat × Nat × Nat) := [(0, 11, 0, 0), (0, 15, 0, 1), (0, 18, 0, 2), (0, 21, 0, 4), (0, 25, 0, 3), (1, 9, 1, 0), (1, 15, 1, 1), (1, 18, 1, 2), (1, 21, 1, 3), (1, 30, 1, 4), (1, 34, 1, 5), (2, 9, 2, 0), (2, 13, 2, 1), (2, 16, 2, 2), (2, 19, 2, 3), (3, 10, 3, 2)]
theorem zFLc_r0 : ∀ q ∈ zFLc_l0, zWF q ∈ tables_1 := List.forall_mem_cons.mpr ⟨zFLc_0, List.forall_mem_cons.mpr ⟨zFLc_1, List.forall_mem_cons.mpr ⟨zFLc_2, List.forall_mem_cons.mpr ⟨zFLc_3, List.forall_mem_cons.mpr ⟨zFLc_4, List.forall_mem_cons.mpr ⟨zFLc_5, List.forall_mem_cons.mpr ⟨zFLc_6, List.forall_mem_cons.mpr ⟨zFLc_7, List.forall_mem_cons.mpr ⟨zFLc_8, List.forall_mem_cons.mpr ⟨zFLc_9, List.forall_mem_cons.mpr ⟨zFLc_10, List.forall_mem_cons.mpr ⟨zFLc_11, List.forall_mem_cons.mpr ⟨zFLc_12, List.forall_mem_cons.mpr ⟨zFLc_13, List.forall_mem_cons.mpr ⟨zFLc_14, List.forall_mem_cons.mpr ⟨zFLc_15, fun _ h => absurd h List.not_mem_nil⟩⟩⟩⟩⟩⟩⟩⟩⟩⟩⟩⟩⟩⟩⟩⟩
def zFLc_l1 : List (Nat × Nat × Nat × Nat) := [(3, 19, 3, 3), (3, 23, 10, 2), (3, 33, 10, 3), (3, 37, 3, 1), (3, 38, 3, 0), (4, 9, 4, 0), (4, 15, 4, 1), (4, 18, 4, 2), (4, 21, 4, 3), (4, 33, 4, 4), (4, 37, 4, 5), (4, 40, 4, 6), (5, 13, 5, 1), (5, 18, 5, 2), (5, 26, 5, 0), (6, 9, 6, 0)]
theorem zFLc_r1 : ∀ q ∈ zFLc_l1, zWF q ∈ tables_1 := List.forall_mem_cons.mpr ⟨zFLc_16, List.forall_mem_cons.mpr ⟨zFLc_17, List.forall_mem_cons.mpr ⟨zFLc_18, List.forall_mem_cons.mpr ⟨zFLc_19, List.forall_mem_cons.mpr ⟨zFLc_20, List.forall_mem_cons.mpr ⟨zFLc_21, List.forall_mem_cons.mpr ⟨zFLc_22, List.forall_mem_cons.mpr ⟨zFLc_23, List.forall_mem_cons.mpr ⟨zFLc_24, List.forall_mem_cons.mpr ⟨zFLc_25, List.forall_mem_cons.mpr ⟨zFLc_26, List.forall_mem_cons.mpr ⟨zFLc_27, List.forall_mem_cons.mpr ⟨zFLc_28, List.forall_mem_cons.mpr ⟨zFLc_29, List.forall_mem_cons.mpr ⟨zFLc_30, List.forall_mem_cons.mpr ⟨zFLc_31, fun _ h => absurd h List.not_mem_nil⟩⟩⟩⟩⟩⟩⟩⟩⟩⟩⟩⟩⟩⟩⟩⟩
def zFLc_l2 : List (Nat × Nat × Nat × Nat) := [(6, 15, 6, 1), (6, 18, 6, 3), (6, 21, 6, 4), (6, 27, 6, 2), (6, 31, 7, 0), (6, 40, 7, 1), (6, 47, 6, 5), (7, 9, 7, 0), (7, 15, 7, 2), (7, 19, 7, 1), (8, 11, 8, 1), (8, 15, 8, 2), (8, 18, 8, 0), (8, 34, 10, 4), (9, 9, 9, 0), (9, 15, 9, 1)]
theorem zFLc_r2 : ∀ q ∈ zFLc_l2, zWF q ∈ tables_1 := List.forall_mem_cons.mpr ⟨zFLc_32, List.forall_mem_cons.mpr ⟨zFLc_33, List.forall_mem_cons.mpr ⟨zFLc_34, List.forall_mem_cons.mpr ⟨zFLc_35, List.forall_mem_cons.mpr ⟨zFLc_36, List.forall_mem_cons.mpr ⟨zFLc_37, List.forall_mem_cons.mpr ⟨zFLc_38, List.forall_mem_cons.mpr ⟨zFLc_39, List.forall_mem_cons.mpr ⟨zFLc_40, List.forall_mem_cons.mpr ⟨zFLc_41, List.forall_mem_cons.mpr ⟨zFLc_42, List.forall_mem_cons.mpr ⟨zFLc_43, List.forall_mem_cons.mpr ⟨zFLc_44, List.forall_mem_cons.mpr ⟨zFLc_45, List.forall_mem_cons.mpr ⟨zFLc_46, List.forall_mem_cons.mpr ⟨zFLc_47, fun _ h => absurd h List.not_mem_nil⟩⟩⟩⟩⟩⟩⟩⟩⟩⟩⟩⟩⟩⟩⟩⟩
def zFLc_l3 : List (Nat × Nat × Nat × Nat) := [(9, 19, 9, 2), (9, 28, 9, 3), (9, 31, 9, 4), (10, 9, 10, 0), (10, 15, 10, 1), (10, 21, 10, 2), (10, 25, 10, 7), (10, 28, 10, 8), (10, 42, 10, 3), (10, 54, 4, 5), (10, 71, 4, 6), (10, 78, 10, 4), (10, 81, 10, 5), (10, 84, 4, 0), (10, 87, 4, 2), (10, 90, 4, 4)]
theorem zFLc_r3 : ∀ q ∈ zFLc_l3, zWF q ∈ tables_1 := List.forall_mem_cons.mpr ⟨zFLc_48, List.forall_mem_cons.mpr ⟨zFLc_49, List.forall_mem_cons.mpr ⟨zFLc_50, List.forall_mem_cons.mpr ⟨zFLc_51, List.forall_mem_cons.mpr ⟨zFLc_52, List.forall_mem_cons.mpr ⟨zFLc_53, List.forall_mem_cons.mpr ⟨zFLc_54, List.forall_mem_cons.mpr ⟨zFLc_55, List.forall_mem_cons.mpr ⟨zFLc_56, List.forall_mem_cons.mpr ⟨zFLc_57, List.forall_mem_cons.mpr ⟨zFLc_58, List.forall_mem_cons.mpr ⟨zFLc_59, List.forall_mem_cons.mpr ⟨zFLc_60, List.forall_mem_cons.mpr ⟨zFLc_61, List.forall_mem_cons.mpr ⟨zFLc_62, List.forall_mem_cons.mpr ⟨zFLc_63, fun _ h => absurd h List.not_mem_nil⟩⟩⟩⟩⟩⟩⟩⟩⟩⟩⟩⟩⟩⟩⟩⟩
def zFLc_l4 : List (Nat × Nat × Nat × Nat) := [(10, 93, 4, 3), (10, 100, 4, 1), (10, 103, 10, 6), (10, 117, 6, 0), (11, 10, 11, 0), (11, 19, 11, 1), (11, 28, 11, 2), (11, 35, 11, 3), (11, 44, 11, 4), (11, 48, 11, 5), (11, 54, 11, 6), (11, 61, 11, 7), (11, 67, 11, 8), (11, 74, 11, 9), (11, 81, 11, 10), (11, 85, 11, 11)]
theorem zFLc_r4 : ∀ q ∈ zFLc_l4, zWF q ∈ tables_1 := List.forall_mem_cons.mpr ⟨zFLc_64, List.forall_mem_cons.mpr ⟨zFLc_65, List.forall_mem_cons.mpr ⟨zFLc_66, List.forall_mem_cons.mpr ⟨zFLc_67, List.forall_mem_cons.mpr ⟨zFLc_68, List.forall_mem_cons.mpr ⟨zFLc_69, List.forall_mem_cons.mpr ⟨zFLc_70, List.forall_mem_cons.mpr ⟨zFLc_71, List.forall_mem_cons.mpr ⟨zFLc_72, List.forall_mem_cons.mpr ⟨zFLc_73, List.forall_mem_cons.mpr ⟨zFLc_74, List.forall_mem_cons.mpr ⟨zFLc_75, List.forall_mem_cons.mpr ⟨zFLc_76, List.forall_mem_cons.mpr ⟨zFLc_77, List.forall_mem_cons.mpr ⟨zFLc_78, List.forall_mem_cons.mpr ⟨zFLc_79, fun _ h => absurd h List.not_mem_nil⟩⟩⟩⟩⟩⟩⟩⟩⟩⟩⟩⟩⟩⟩⟩⟩
def zFLc_l5 : List (Nat × Nat × Nat × Nat) := [(11, 89, 11, 16), (11, 97, 9, 1), (11, 116, 10, 3), (11, 119, 5, 0), (11, 124, 9, 0), (11, 155, 10, 2), (11, 159, 4, 2), (11, 164, 4, 0), (11, 167, 10, 0), (11, 173, 4, 1), (11, 176, 4, 6), (11, 179, 4, 3), (11, 182, 4, 4), (11, 189, 4, 5), (11, 200, 10, 1), (11, 213, 11, 13)]
theorem zFLc_r5 : ∀ q ∈ zFLc_l5, zWF q ∈ tables_1 := List.forall_mem_cons.mpr ⟨zFLc_80, List.forall_mem_cons.mpr ⟨zFLc_81, List.forall_mem_cons.mpr ⟨zFLc_82, List.forall_mem_cons.mpr ⟨zFLc_83, List.forall_mem_cons.mpr ⟨zFLc_84, List.forall_mem_cons.mpr ⟨zFLc_85, List.forall_mem_cons.mpr ⟨zFLc_86, List.forall_mem_cons.mpr ⟨zFLc_87, List.forall_mem_cons.mpr ⟨zFLc_88, List.forall_mem_cons.mpr ⟨zFLc_89, List.forall_mem_cons.mpr ⟨zFLc_90, List.forall_mem_cons.mpr ⟨zFLc_91, List.forall_mem_cons.mpr ⟨zFLc_92, List.forall_mem_cons.mpr ⟨zFLc_93, List.forall_mem_cons.mpr ⟨zFLc_94, List.forall_mem_cons.mpr ⟨zFLc_95, fun _ h => absurd h List.not_mem_nil⟩⟩⟩⟩⟩⟩⟩⟩⟩⟩⟩⟩⟩⟩⟩⟩
def zFLc_l6 : List (Nat × Nat × Nat × Nat) := [(11, 243, 10, 4), (11, 246, 10, 5), (11, 258, 10, 6), (11, 276, 0, 3), (11, 277, 0, 0), (11, 280, 0, 1), (11, 283, 0, 2), (11, 305, 1, 0), (11, 308, 1, 1), (11, 309, 1, 2), (11, 310, 1, 3), (11, 324, 11, 14), (11, 327, 11, 15), (11, 333, 11, 12), (11, 342, 10, 7), (11, 397, 2, 3)]
theorem zFLc_r6 : ∀ q ∈ zFLc_l6, zWF q ∈ tables_1 := List.forall_mem_cons.mpr ⟨zFLc_96, List.forall_mem_cons.mpr ⟨zFLc_97, List.forall_mem_cons.mpr ⟨zFLc_98, List.forall_mem_cons.mpr ⟨zFLc_99, List.forall_mem_cons.mpr ⟨zFLc_100, List.forall_mem_cons.mpr ⟨zFLc_101, List.forall_mem_cons.mpr ⟨zFLc_102, List.forall_mem_cons.mpr ⟨zFLc_103, List.forall_mem_cons.mpr ⟨zFLc_104, List.forall_mem_cons.mpr ⟨zFLc_105, List.forall_mem_cons.mpr ⟨zFLc_106, List.forall_mem_cons.mpr ⟨zFLc_107, List.forall_mem_cons.mpr ⟨zFLc_108, List.forall_mem_cons.mpr ⟨zFLc_109, List.forall_mem_cons.mpr ⟨zFLc_110, List.forall_mem_cons.mpr ⟨zFLc_111, fun _ h => absurd h List.not_mem_nil⟩⟩⟩⟩⟩⟩⟩⟩⟩⟩⟩⟩⟩⟩⟩⟩
def zFLc_l7 : List (Nat × Nat × Nat × Nat) := [(11, 401, 2, 0), (11, 412, 8, 0), (11, 437, 3, 0), (11, 441, 3, 1), (11, 445, 1, 4), (12, 9, 12, 0), (12, 13, 12, 2), (12, 16, 12, 3), (12, 19, 12, 5), (12, 22, 12, 8), (12, 26, 12, 10), (12, 29, 12, 18), (12, 32, 12, 19), (12, 35, 12, 29), (12, 38, 12, 31), (12, 41, 12, 32)]
theorem zFLc_r7 : ∀ q ∈ zFLc_l7, zWF q ∈ tables_1 := List.forall_mem_cons.mpr ⟨zFLc_112, List.forall_mem_cons.mpr ⟨zFLc_113, List.forall_mem_cons.mpr ⟨zFLc_114, List.forall_mem_cons.mpr ⟨zFLc_115, List.forall_mem_cons.mpr ⟨zFLc_116, List.forall_mem_cons.mpr ⟨zFLc_117, List.forall_mem_cons.mpr ⟨zFLc_118, List.forall_mem_cons.mpr ⟨zFLc_119, List.forall_mem_cons.mpr ⟨zFLc_120, List.forall_mem_cons.mpr ⟨zFLc_121, List.forall_mem_cons.mpr ⟨zFLc_122, List.forall_mem_cons.mpr ⟨zFLc_123, List.forall_mem_cons.mpr ⟨zFLc_124, List.forall_mem_cons.mpr ⟨zFLc_125, List.forall_mem_cons.mpr ⟨zFLc_126, List.forall_mem_cons.mpr ⟨zFLc_127, fun _ h => absurd h List.not_mem_nil⟩⟩⟩⟩⟩⟩⟩⟩⟩⟩⟩⟩⟩⟩⟩⟩
def zFLc_l8 : List (Nat × Nat × Nat × Nat) := [(12, 44, 12, 34), (12, 47, 12, 37), (12, 50, 12, 39), (12, 53, 12, 40), (12, 56, 12, 41), (12, 59, 12, 42), (12, 62, 12, 44), (12, 65, 12, 45), (12, 68, 12, 48), (12, 71, 12, 49), (12, 75, 12, 50), (12, 78, 12, 12), (12, 82, 12, 11), (12, 85, 12, 1), (12, 96, 12, 9), (12, 99, 12, 13)]
theorem zFLc_r8 : ∀ q ∈ zFLc_l8, zWF q ∈ tables_1 := List.forall_mem_cons.mpr ⟨zFLc_128, List.forall_mem_cons.mpr ⟨zFLc_129, List.forall_mem_cons.mpr ⟨zFLc_130, List.forall_mem_cons.mpr ⟨zFLc_131, List.forall_mem_cons.mpr ⟨zFLc_132, List.forall_mem_cons.mpr ⟨zFLc_133, List.forall_mem_cons.mpr ⟨zFLc_134, List.forall_mem_cons.mpr ⟨zFLc_135, List.forall_mem_cons.mpr ⟨zFLc_136, List.forall_mem_cons.mpr ⟨zFLc_137, List.forall_mem_cons.mpr ⟨zFLc_138, List.forall_mem_cons.mpr ⟨zFLc_139, List.forall_mem_cons.mpr ⟨zFLc_140, List.forall_mem_cons.mpr ⟨zFLc_141, List.forall_mem_cons.mpr ⟨zFLc_142, List.forall_mem_cons.mpr ⟨zFLc_143, fun _ h => absurd h List.not_mem_nil⟩⟩⟩⟩⟩⟩⟩⟩⟩⟩⟩⟩⟩⟩⟩⟩
def zFLc_l9 : List (Nat × Nat × Nat × Nat) := [(12, 102, 12, 14), (12, 105, 12, 15), (12, 108, 12, 16), (12, 111, 12, 17), (12, 140, 12, 30), (12, 143, 12, 47), (12, 157, 12, 6), (12, 172, 12, 21), (12, 179, 12, 22), (12, 182, 12, 23), (12, 185, 12, 24), (12, 188, 12, 25), (12, 191, 12, 20), (12, 217, 12, 4), (12, 228, 12, 26), (12, 231, 12, 27)]
theorem zFLc_r9 : ∀ q ∈ zFLc_l9, zWF q ∈ tables_1 := List.forall_mem_cons.mpr ⟨zFLc_144, List.forall_mem_cons.mpr ⟨zFLc_145, List.forall_mem_cons.mpr ⟨zFLc_146, List.forall_mem_cons.mpr ⟨zFLc_147, List.forall_mem_cons.mpr ⟨zFLc_148, List.forall_mem_cons.mpr ⟨zFLc_149, List.forall_mem_cons.mpr ⟨zFLc_150, List.forall_mem_cons.mpr ⟨zFLc_151, List.forall_mem_cons.mpr ⟨zFLc_152, List.forall_mem_cons.mpr ⟨zFLc_153, List.forall_mem_cons.mpr ⟨zFLc_154, List.forall_mem_cons.mpr ⟨zFLc_155, List.forall_mem_cons.mpr ⟨zFLc_156, List.forall_mem_cons.mpr ⟨zFLc_157, List.forall_mem_cons.mpr ⟨zFLc_158, List.forall_mem_cons.mpr ⟨zFLc_159, fun _ h => absurd h List.not_mem_nil⟩⟩⟩⟩⟩⟩⟩⟩⟩⟩⟩⟩⟩⟩⟩⟩
def zFLc_l10 : List (Nat × Nat × Nat × Nat) := [(12, 234, 12, 28), (12, 237, 12, 7), (12, 282, 12, 33), (12, 294, 12, 36), (12, 297, 12, 35), (12, 306, 12, 38), (12, 351, 12, 43), (12, 359, 12, 46)]
theorem zFLc_r10 : ∀ q ∈ zFLc_l10, zWF q ∈ tables_1 := List.forall_mem_cons.mpr ⟨zFLc_160, List.forall_mem_cons.mpr ⟨zFLc_161, List.forall_mem_cons.mpr ⟨zFLc_162, List.forall_mem_cons.mpr ⟨zFLc_163, List.forall_mem_cons.mpr ⟨zFLc_164, List.forall_mem_cons.mpr ⟨zFLc_165, List.forall_mem_cons.mpr ⟨zFLc_166, List.forall_mem_cons.mpr ⟨zFLc_167, fun _ h => absurd h List.not_mem_nil⟩⟩⟩⟩⟩⟩⟩⟩
theorem zFLc_sp : zFL = zFLc_l0 ++ (zFLc_l1 ++ (zFLc_l2 ++ (zFLc_l3 ++ (zFLc_l4 ++ (zFLc_l5 ++ (zFLc_l6 ++ (zFLc_l7 ++ (zFLc_l8 ++ (zFLc_l9 ++ (zFLc_l10)))))))))) := by decide +kernel
theorem zFLc_all : ∀ q ∈ zFL, zWF q ∈ tables_1 := by
  rw [zFLc_sp]
  exact List.forall_mem_append.mpr ⟨zFLc_r0, List.forall_mem_append.mpr ⟨zFLc_r1, List.forall_mem_append.mpr ⟨zFLc_r2, List.forall_mem_append.mpr ⟨zFLc_r3, List.forall_mem_append.mpr ⟨zFLc_r4, List.forall_mem_append.mpr ⟨zFLc_r5, List.forall_mem_append.mpr ⟨zFLc_r6, List.forall_mem_append.mpr ⟨zFLc_r7, List.forall_mem_append.mpr ⟨zFLc_r8, List.forall_mem_append.mpr ⟨zFLc_r9, zFLc_r10⟩⟩⟩⟩⟩⟩⟩⟩⟩⟩
theorem zFL_ok2 : ∀ q ∈ zFL, (zTf q.2.2.1).1 = zCs q.2.2.1 ∧ q.2.2.2 < (zTf q.2.2.1).2.2 ∧ q.2.2.1 < 13 := by decide +kernel
set_option maxRecDepth 100000 in
theorem zMLc_0 : zWM (0, 29, 61, 1) ∈ tables_1 := List.mem_of_getElem? (i := 734) rfl
set_option maxRecDepth 100000 in
theorem zMLc_1 : zWM (0, 35, 8, 1) ∈ tables_1 := List.mem_of_getElem? (i := 735) rfl
set_option maxRecDepth 100000 in
theorem zMLc_2 : zWM (0, 38, 66, 1) ∈ tables_1 := List.mem_of_getElem? (i := 751) rfl
set_option maxRecDepth 100000 in
theorem zMLc_3 : zWM (0, 42, 64, 1) ∈ tables_1 := List.mem_of_getElem? (i := 739) rfl
set_option maxRecDepth 100000 in
theorem zMLc_4 : zWM (0, 46, 65, 1) ∈ tables_1 := List.mem_of_getElem? (i := 740) rfl
set_option maxRecDepth 100000 in
theorem zMLc_5 : zWM (0, 49, 9, 1) ∈ tables_1 := List.mem_of_getElem? (i := 741) rfl
set_option maxRecDepth 100000 in
theorem zMLc_6 : zWM (0, 52, 68, 1) ∈ tables_1 := List.mem_of_getElem? (i := 750) rfl
set_option maxRecDepth 100000 in
theorem zMLc_7 : zWM (0, 56, 67, 1) ∈ tables_1 := List.mem_of_getElem? (i := 745) rfl
set_option maxRecDepth 100000 in
theorem zMLc_8 : zWM (0, 59, 10, 1) ∈ tables_1 := List.mem_of_getElem? (i := 746) rfl
set_option maxRecDepth 100000 in
theorem zMLc_9 : zWM (1, 37, 1, 0) ∈ tables_1 := List.mem_of_getElem? (i := 711) rfl
set_option maxRecDepth 100000 in
theorem zMLc_10 : zWM (1, 43, 14, 1) ∈ tables_1 := List.mem_of_getElem? (i := 707) rfl
set_option maxRecDepth 100000 in
theorem zMLc_11 : zWM (3, 9, 25, 2) ∈ tables_1 := List.mem_of_getElem? (i := 267) rfl
set_option maxRecDepth 100000 in
theorem zMLc_12 : zWM (3, 18, 11, 4) ∈ tables_1 := List.mem_of_getElem? (i := 269) rfl
set_option maxRecDepth 100000 in
theorem zMLc_13 : zWM (3, 26, 26, 1) ∈ tables_1 := List.mem_of_getElem? (i := 606) rfl
set_option maxRecDepth 100000 in
theorem zMLc_14 : zWM (3, 30, 12, 1) ∈ tables_1 := List.mem_of_getElem? (i := 611) rfl
set_option maxRecDepth 100000 in
theorem zMLc_15 : zWM (4, 24, 29, 1) ∈ tables_1 := List.mem_of_getElem? (i := 141) rfl
set_option maxRecDepth 100000 in
theorem zMLc_16 : zWM (4, 43, 131, 3) ∈ tables_1 := List.mem_of_getElem? (i := 625) rfl
set_option maxRecDepth 100000 in
theorem zMLc_17 : zWM (4, 47, 27, 1) ∈ tables_1 := List.mem_of_getElem? (i := 638) rfl
set_option maxRecDepth 100000 in
theorem zMLc_18 : zWM (4, 51, 5, 0) ∈ tables_1 := List.mem_of_getElem? (i := 145) rfl
set_option maxRecDepth 100000 in
theorem zMLc_19 : zWM (4, 57, 28, 1) ∈ tables_1 := List.mem_of_getElem? (i := 634) rfl
set_option maxRecDepth 100000 in
theorem zMLc_20 : zWM (4, 61, 132, 3) ∈ tables_1 := List.mem_of_getElem? (i := 848) rfl
set_option maxRecDepth 100000 in
theorem zMLc_21 : zWM (4, 65, 31, 1) ∈ tables_1 := List.mem_of_getElem? (i := 849) rfl
set_option maxRecDepth 100000 in
theorem zMLc_22 : zWM (4, 68, 4, 0) ∈ tables_1 := List.mem_of_getElem? (i := 700) rfl
set_option maxRecDepth 100000 in
theorem zMLc_23 : zWM (4, 74, 3, 0) ∈ tables_1 := List.mem_of_getElem? (i := 701) rfl
set_option maxRecDepth 100000 in
theorem zMLc_24 : zWM (5, 17, 22, 4) ∈ tables_1 := List.mem_of_getElem? (i := 262) rfl
set_option maxRecDepth 100000 in
theorem zMLc_25 : zWM (5, 22, 23, 1) ∈ tables_1 := List.mem_of_getElem? (i := 602) rfl
set_option maxRecDepth 100000 in
theorem zMLc_26 : zWM (5, 29, 4, 0) ∈ tables_1 := List.mem_of_getElem? (i := 620) rfl
set_option maxRecDepth 100000 in
theorem zMLc_27 : zWM (5, 35, 24, 1) ∈ tables_1 := List.mem_of_getElem? (i := 764) rfl
set_option maxRecDepth 100000 in
theorem zMLc_28 : zWM (6, 24, 39, 1) ∈ tables_1 := List.mem_of_getElem? (i := 61) rfl
set_option maxRecDepth 100000 in
theorem zMLc_29 : zWM (6, 41, 4, 0) ∈ tables_1 := List.mem_of_getElem? (i := 466) rfl
set_option maxRecDepth 100000 in
theorem zMLc_30 : zWM (6, 50, 44, 0) ∈ tables_1 := List.mem_of_getElem? (i := 667) rfl
set_option maxRecDepth 100000 in
theorem zMLc_31 : zWM (7, 23, 48, 1) ∈ tables_1 := List.mem_of_getElem? (i := 475) rfl
set_option maxRecDepth 100000 in
theorem zMLc_32 : zWM (7, 27, 49, 1) ∈ tables_1 := List.mem_of_getElem? (i := 479) rfl
set_option maxRecDepth 100000 in
theorem zMLc_33 : zWM (7, 30, 64, 1) ∈ tables_1 := List.mem_of_getElem? (i := 496) rfl
set_option maxRecDepth 100000 in
theorem zMLc_34 : zWM (7, 36, 65, 1) ∈ tables_1 := List.mem_of_getElem? (i := 497) rfl
set_option maxRecDepth 100000 in
theorem zMLc_35 : zWM (7, 39, 47, 1) ∈ tables_1 := List.mem_of_getElem? (i := 506) rfl
set_option maxRecDepth 100000 in
theorem zMLc_36 : zWM (7, 43, 50, 1) ∈ tables_1 := List.mem_of_getElem? (i := 483) rfl
set_option maxRecDepth 100000 in
theorem zMLc_37 : zWM (7, 46, 51, 1) ∈ tables_1 := List.mem_of_getElem? (i := 487) rfl
set_option maxRecDepth 100000 in
theorem zMLc_38 : zWM (7, 49, 66, 1) ∈ tables_1 := List.mem_of_getElem? (i := 491) rfl
set_option maxRecDepth 100000 in
theorem zMLc_39 : zWM (7, 52, 52, 1) ∈ tables_1 := List.mem_of_getElem? (i := 492) rfl
set_option maxRecDepth 100000 in
theorem zMLc_40 : zWM (7, 55, 67, 1) ∈ tables_1 := List.mem_of_getElem? (i := 501) rfl
set_option maxRecDepth 100000 in
theorem zMLc_41 : zWM (7, 59, 53, 1) ∈ tables_1 := List.mem_of_getElem? (i := 502) rfl
set_option maxRecDepth 100000 in
theorem zMLc_42 : zWM (7, 62, 54, 0) ∈ tables_1 := List.mem_of_getElem? (i := 510) rfl
set_option maxRecDepth 100000 in
theorem zMLc_43 : zWM (8, 22, 3, 0) ∈ tables_1 := List.mem_of_getElem? (i := 994) rfl
set_option maxRecDepth 100000 in
theorem zMLc_44 : zWM (8, 28, 77, 1) ∈ tables_1 := List.mem_of_getElem? (i := 995) rfl
set_option maxRecDepth 100000 in
theorem zMLc_45 : zWM (8, 37, 132, 3) ∈ tables_1 := List.mem_of_getElem? (i := 996) rfl
set_option maxRecDepth 100000 in
theorem zMLc_46 : zWM (9, 22, 4, 0) ∈ tables_1 := List.mem_of_getElem? (i := 408) rfl
set_option maxRecDepth 100000 in
theorem zMLc_47 : zWM (9, 35, 64, 1) ∈ tables_1 := List.mem_of_getElem? (i := 431) rfl
set_option maxRecDepth 100000 in
theorem zMLc_48 : zWM (9, 39, 69, 1) ∈ tables_1 := List.mem_of_getElem? (i := 427) rfl
set_option maxRecDepth 100000 in
theorem zMLc_49 : zWM (10, 20, 25, 2) ∈ tables_1 := List.mem_of_getElem? (i := 137) rfl
set_option maxRecDepth 100000 in
theorem zMLc_50 : zWM (10, 38, 26, 1) ∈ tables_1 := List.mem_of_getElem? (i := 648) rfl
set_option maxRecDepth 100000 in
theorem zMLc_51 : zWM (10, 46, 131, 3) ∈ tables_1 := List.mem_of_getElem? (i := 558) rfl
set_option maxRecDepth 100000 in
theorem zMLc_52 : zWM (10, 50, 72, 1) ∈ tables_1 := List.mem_of_getElem? (i := 570) rfl
set_option maxRecDepth 100000 in
theorem zMLc_53 : zWM (10, 57, 132, 3) ∈ tables_1 := List.mem_of_getElem? (i := 563) rfl
set_option maxRecDepth 100000 in
theorem zMLc_54 : zWM (10, 61, 74, 1) ∈ tables_1 := List.mem_of_getElem? (i := 566) rfl
set_option maxRecDepth 100000 in
theorem zMLc_55 : zWM (10, 64, 78, 1) ∈ tables_1 := List.mem_of_getElem? (i := 691) rfl
set_option maxRecDepth 100000 in
theorem zMLc_56 : zWM (10, 68, 79, 1) ∈ tables_1 := List.mem_of_getElem? (i := 702) rfl
set_option maxRecDepth 100000 in
theorem zMLc_57 : zWM (10, 74, 33, 1) ∈ tables_1 := List.mem_of_getElem? (i := 696) rfl
set_option maxRecDepth 100000 in
theorem zMLc_58 : zWM (10, 96, 28, 1) ∈ tables_1 := List.mem_of_getElem? (i := 695) rfl
set_option maxRecDepth 100000 in
theorem zMLc_59 : zWM (10, 106, 73, 1) ∈ tables_1 := List.mem_of_getElem? (i := 653) rfl
set_option maxRecDepth 100000 in
theorem zMLc_60 : zWM (10, 109, 80, 1) ∈ tables_1 := List.mem_of_getElem? (i := 654) rfl
set_option maxRecDepth 100000 in
theorem zMLc_61 : zWM (10, 113, 27, 1) ∈ tables_1 := List.mem_of_getElem? (i := 670) rfl
set_option maxRecDepth 100000 in
theorem zMLc_62 : zWM (10, 122, 0, 0) ∈ tables_1 := List.mem_of_getElem? (i := 658) rfl
set_option maxRecDepth 100000 in
theorem zMLc_63 : zWM (10, 127, 42, 1) ∈ tables_1 := List.mem_of_getElem? (i := 659) rfl
set_option maxRecDepth 100000 in
theorem zMLc_64 : zWM (10, 130, 43, 1) ∈ tables_1 := List.mem_of_getElem? (i := 663) rfl
set_option maxRecDepth 100000 in
theorem zMLc_65 : zWM (11, 9, 58, 4) ∈ tables_1 := List.mem_of_getElem? (i := 32) rfl
set_option maxRecDepth 100000 in
theorem zMLc_66 : zWM (11, 18, 38, 2) ∈ tables_1 := List.mem_of_getElem? (i := 57) rfl
set_option maxRecDepth 100000 in
theorem zMLc_67 : zWM (11, 25, 45, 2) ∈ tables_1 := List.mem_of_getElem? (i := 87) rfl
set_option maxRecDepth 100000 in
theorem zMLc_68 : zWM (11, 34, 6, 2) ∈ tables_1 := List.mem_of_getElem? (i := 105) rfl
set_option maxRecDepth 100000 in
theorem zMLc_69 : zWM (11, 41, 70, 2) ∈ tables_1 := List.mem_of_getElem? (i := 131) rfl
set_option maxRecDepth 100000 in
theorem zMLc_70 : zWM (11, 53, 11, 4) ∈ tables_1 := List.mem_of_getElem? (i := 225) rfl
set_option maxRecDepth 100000 in
theorem zMLc_71 : zWM (11, 60, 34, 2) ∈ tables_1 := List.mem_of_getElem? (i := 255) rfl
set_option maxRecDepth 100000 in
theorem zMLc_72 : zWM (11, 73, 19, 4) ∈ tables_1 := List.mem_of_getElem? (i := 299) rfl
set_option maxRecDepth 100000 in
theorem zMLc_73 : zWM (11, 80, 55, 4) ∈ tables_1 := List.mem_of_getElem? (i := 320) rfl
set_option maxRecDepth 100000 in
theorem zMLc_74 : zWM (11, 92, 22, 4) ∈ tables_1 := List.mem_of_getElem? (i := 335) rfl
set_option maxRecDepth 100000 in
theorem zMLc_75 : zWM (11, 93, 59, 1) ∈ tables_1 := List.mem_of_getElem? (i := 392) rfl
set_option maxRecDepth 100000 in
theorem zMLc_76 : zWM (11, 101, 60, 1) ∈ tables_1 := List.mem_of_getElem? (i := 404) rfl
set_option maxRecDepth 100000 in
theorem zMLc_77 : zWM (11, 105, 141, 1) ∈ tables_1 := List.mem_of_getElem? (i := 411) rfl
set_option maxRecDepth 100000 in
theorem zMLc_78 : zWM (11, 109, 62, 1) ∈ tables_1 := List.mem_of_getElem? (i := 450) rfl
set_option maxRecDepth 100000 in
theorem zMLc_79 : zWM (11, 113, 63, 1) ∈ tables_1 := List.mem_of_getElem? (i := 454) rfl
set_option maxRecDepth 100000 in
theorem zMLc_80 : zWM (11, 120, 67, 1) ∈ tables_1 := List.mem_of_getElem? (i := 423) rfl
set_option maxRecDepth 100000 in
theorem zMLc_81 : zWM (11, 127, 41, 1) ∈ tables_1 := List.mem_of_getElem? (i := 462) rfl
set_option maxRecDepth 100000 in
theorem zMLc_82 : zWM (11, 131, 61, 1) ∈ tables_1 := List.mem_of_getElem? (i := 415) rfl
set_option maxRecDepth 100000 in
theorem zMLc_83 : zWM (11, 135, 46, 1) ∈ tables_1 := List.mem_of_getElem? (i := 471) rfl
set_option maxRecDepth 100000 in
theorem zMLc_84 : zWM (11, 138, 39, 1) ∈ tables_1 := List.mem_of_getElem? (i := 513) rfl
set_option maxRecDepth 100000 in
theorem zMLc_85 : zWM (11, 141, 40, 1) ∈ tables_1 := List.mem_of_getElem? (i := 514) rfl
set_option maxRecDepth 100000 in
theorem zMLc_86 : zWM (11, 145, 134, 1) ∈ tables_1 := List.mem_of_getElem? (i := 525) rfl
set_option maxRecDepth 100000 in
theorem zMLc_87 : zWM (11, 170, 74, 1) ∈ tables_1 := List.mem_of_getElem? (i := 882) rfl
set_option maxRecDepth 100000 in
theorem zMLc_88 : zWM (11, 185, 132, 0) ∈ tables_1 := List.mem_of_getElem? (i := 593) rfl
set_option maxRecDepth 100000 in
theorem zMLc_89 : zWM (11, 192, 133, 0) ∈ tables_1 := List.mem_of_getElem? (i := 529) rfl
set_option maxRecDepth 100000 in
theorem zMLc_90 : zWM (11, 196, 144, 0) ∈ tables_1 := List.mem_of_getElem? (i := 532) rfl
set_option maxRecDepth 100000 in
theorem zMLc_91 : zWM (11, 203, 145, 0) ∈ tables_1 := List.mem_of_getElem? (i := 539) rfl
set_option maxRecDepth 100000 in
theorem zMLc_92 : zWM (11, 207, 146, 1) ∈ tables_1 := List.mem_of_getElem? (i := 546) rfl
set_option maxRecDepth 100000 in
theorem zMLc_93 : zWM (11, 210, 72, 1) ∈ tables_1 := List.mem_of_getElem? (i := 554) rfl
set_option maxRecDepth 100000 in
theorem zMLc_94 : zWM (11, 216, 75, 1) ∈ tables_1 := List.mem_of_getElem? (i := 559) rfl
set_option maxRecDepth 100000 in
theorem zMLc_95 : zWM (11, 219, 0, 0) ∈ tables_1 := List.mem_of_getElem? (i := 571) rfl
set_option maxRecDepth 100000 in
theorem zMLc_96 : zWM (11, 224, 136, 1) ∈ tables_1 := List.mem_of_getElem? (i := 581) rfl
set_option maxRecDepth 100000 in
theorem zMLc_97 : zWM (11, 227, 137, 1) ∈ tables_1 := List.mem_of_getElem? (i := 594) rfl
set_option maxRecDepth 100000 in
theorem zMLc_98 : zWM (11, 230, 27, 1) ∈ tables_1 := List.mem_of_getElem? (i := 621) rfl
set_option maxRecDepth 100000 in
theorem zMLc_99 : zWM (11, 234, 31, 1) ∈ tables_1 := List.mem_of_getElem? (i := 630) rfl
set_option maxRecDepth 100000 in
theorem zMLc_100 : zWM (11, 237, 71, 1) ∈ tables_1 := List.mem_of_getElem? (i := 643) rfl
set_option maxRecDepth 100000 in
theorem zMLc_101 : zWM (11, 240, 131, 0) ∈ tables_1 := List.mem_of_getElem? (i := 447) rfl
set_option maxRecDepth 100000 in
theorem zMLc_102 : zWM (11, 249, 79, 1) ∈ tables_1 := List.mem_of_getElem? (i := 649) rfl
set_option maxRecDepth 100000 in
theorem zMLc_103 : zWM (11, 252, 76, 1) ∈ tables_1 := List.mem_of_getElem? (i := 671) rfl
set_option maxRecDepth 100000 in
theorem zMLc_104 : zWM (11, 255, 138, 1) ∈ tables_1 := List.mem_of_getElem? (i := 675) rfl
set_option maxRecDepth 100000 in
theorem zMLc_105 : zWM (11, 261, 148, 1) ∈ tables_1 := List.mem_of_getElem? (i := 683) rfl
set_option maxRecDepth 100000 in
theorem zMLc_106 : zWM (11, 264, 147, 1) ∈ tables_1 := List.mem_of_getElem? (i := 714) rfl
set_option maxRecDepth 100000 in
theorem zMLc_107 : zWM (11, 268, 139, 1) ∈ tables_1 := List.mem_of_getElem? (i := 718) rfl
set_option maxRecDepth 100000 in
theorem zMLc_108 : zWM (11, 271, 7, 1) ∈ tables_1 := List.mem_of_getElem? (i := 730) rfl
set_option maxRecDepth 100000 in
theorem zMLc_109 : zWM (11, 272, 35, 1) ∈ tables_1 := List.mem_of_getElem? (i := 598) rfl
set_option maxRecDepth 100000 in
theorem zMLc_110 : zWM (11, 286, 149, 1) ∈ tables_1 := List.mem_of_getElem? (i := 752) rfl
set_option maxRecDepth 100000 in
theorem zMLc_111 : zWM (11, 290, 36, 1) ∈ tables_1 := List.mem_of_getElem? (i := 616) rfl
set_option maxRecDepth 100000 in
theorem zMLc_112 : zWM (11, 293, 37, 1) ∈ tables_1 := List.mem_of_getElem? (i := 760) rfl
set_option maxRecDepth 100000 in
theorem zMLc_113 : zWM (11, 297, 13, 1) ∈ tables_1 := List.mem_of_getElem? (i := 772) rfl
set_option maxRecDepth 100000 in
theorem zMLc_114 : zWM (11, 302, 14, 1) ∈ tables_1 := List.mem_of_getElem? (i := 1106) rfl
set_option maxRecDepth 100000 in
theorem zMLc_115 : zWM (11, 312, 16, 1) ∈ tables_1 := List.mem_of_getElem? (i := 776) rfl
set_option maxRecDepth 100000 in
theorem zMLc_116 : zWM (11, 315, 18, 1) ∈ tables_1 := List.mem_of_getElem? (i := 780) rfl
set_option maxRecDepth 100000 in
theorem zMLc_117 : zWM (11, 318, 17, 1) ∈ tables_1 := List.mem_of_getElem? (i := 784) rfl
set_option maxRecDepth 100000 in
theorem zMLc_118 : zWM (11, 321, 150, 1) ∈ tables_1 := List.mem_of_getElem? (i := 792) rfl
set_option maxRecDepth 100000 in
theorem zMLc_119 : zWM (11, 330, 154, 1) ∈ tables_1 := List.mem_of_getElem? (i := 803) rfl
set_option maxRecDepth 100000 in
theorem zMLc_120 : zWM (11, 336, 155, 1) ∈ tables_1 := List.mem_of_getElem? (i := 812) rfl
set_option maxRecDepth 100000 in
theorem zMLc_121 : zWM (11, 339, 158, 1) ∈ tables_1 := List.mem_of_getElem? (i := 820) rfl
set_option maxRecDepth 100000 in
theorem zMLc_122 : zWM (11, 345, 156, 1) ∈ tables_1 := List.mem_of_getElem? (i := 828) rfl
set_option maxRecDepth 100000 in
theorem zMLc_123 : zWM (11, 348, 157, 1) ∈ tables_1 := List.mem_of_getElem? (i := 832) rfl
set_option maxRecDepth 100000 in
theorem zMLc_124 : zWM (11, 351, 159, 1) ∈ tables_1 := List.mem_of_getElem? (i := 840) rfl
set_option maxRecDepth 100000 in
theorem zMLc_125 : zWM (11, 354, 73, 1) ∈ tables_1 := List.mem_of_getElem? (i := 589) rfl
set_option maxRecDepth 100000 in
theorem zMLc_126 : zWM (11, 357, 160, 0) ∈ tables_1 := List.mem_of_getElem? (i := 863) rfl
set_option maxRecDepth 100000 in
theorem zMLc_127 : zWM (11, 360, 135, 1) ∈ tables_1 := List.mem_of_getElem? (i := 585) rfl
set_option maxRecDepth 100000 in
theorem zMLc_128 : zWM (11, 363, 161, 1) ∈ tables_1 := List.mem_of_getElem? (i := 874) rfl
set_option maxRecDepth 100000 in
theorem zMLc_129 : zWM (11, 366, 163, 1) ∈ tables_1 := List.mem_of_getElem? (i := 883) rfl
set_option maxRecDepth 100000 in
theorem zMLc_130 : zWM (11, 369, 153, 1) ∈ tables_1 := List.mem_of_getElem? (i := 895) rfl
set_option maxRecDepth 100000 in
theorem zMLc_131 : zWM (11, 372, 2, 0) ∈ tables_1 := List.mem_of_getElem? (i := 900) rfl
set_option maxRecDepth 100000 in
theorem zMLc_132 : zWM (11, 377, 152, 0) ∈ tables_1 := List.mem_of_getElem? (i := 907) rfl
set_option maxRecDepth 100000 in
theorem zMLc_133 : zWM (11, 380, 33, 1) ∈ tables_1 := List.mem_of_getElem? (i := 899) rfl
set_option maxRecDepth 100000 in
theorem zMLc_134 : zWM (11, 383, 32, 1) ∈ tables_1 := List.mem_of_getElem? (i := 844) rfl
set_option maxRecDepth 100000 in
theorem zMLc_135 : zWM (11, 386, 164, 1) ∈ tables_1 := List.mem_of_getElem? (i := 922) rfl
set_option maxRecDepth 100000 in
theorem zMLc_136 : zWM (11, 389, 166, 1) ∈ tables_1 := List.mem_of_getElem? (i := 930) rfl
set_option maxRecDepth 100000 in
theorem zMLc_137 : zWM (11, 392, 165, 1) ∈ tables_1 := List.mem_of_getElem? (i := 934) rfl
set_option maxRecDepth 100000 in
theorem zMLc_138 : zWM (11, 395, 140, 1) ∈ tables_1 := List.mem_of_getElem? (i := 938) rfl
set_option maxRecDepth 100000 in
theorem zMLc_139 : zWM (11, 398, 20, 1) ∈ tables_1 := List.mem_of_getElem? (i := 946) rfl
set_option maxRecDepth 100000 in
theorem zMLc_140 : zWM (11, 404, 21, 1) ∈ tables_1 := List.mem_of_getElem? (i := 958) rfl
set_option maxRecDepth 100000 in
theorem zMLc_141 : zWM (11, 407, 167, 1) ∈ tables_1 := List.mem_of_getElem? (i := 966) rfl
set_option maxRecDepth 100000 in
theorem zMLc_142 : zWM (11, 410, 56, 1) ∈ tables_1 := List.mem_of_getElem? (i := 974) rfl
set_option maxRecDepth 100000 in
theorem zMLc_143 : zWM (11, 413, 168, 1) ∈ tables_1 := List.mem_of_getElem? (i := 986) rfl
set_option maxRecDepth 100000 in
theorem zMLc_144 : zWM (11, 416, 57, 1) ∈ tables_1 := List.mem_of_getElem? (i := 990) rfl
set_option maxRecDepth 100000 in
theorem zMLc_145 : zWM (11, 420, 30, 1) ∈ tables_1 := List.mem_of_getElem? (i := 851) rfl
set_option maxRecDepth 100000 in
theorem zMLc_146 : zWM (11, 423, 5, 0) ∈ tables_1 := List.mem_of_getElem? (i := 807) rfl
set_option maxRecDepth 100000 in
theorem zMLc_147 : zWM (11, 429, 4, 0) ∈ tables_1 := List.mem_of_getElem? (i := 542) rfl
set_option maxRecDepth 100000 in
theorem zMLc_148 : zWM (11, 432, 3, 0) ∈ tables_1 := List.mem_of_getElem? (i := 543) rfl
set_option maxRecDepth 100000 in
theorem zMLc_149 : zWM (11, 435, 23, 1) ∈ tables_1 := List.mem_of_getElem? (i := 1014) rfl
set_option maxRecDepth 100000 in
theorem zMLc_150 : zWM (11, 442, 24, 1) ∈ tables_1 := List.mem_of_getElem? (i := 1019) rfl
set_option maxRecDepth 100000 in
theorem zMLc_151 : zWM (11, 448, 142, 1) ∈ tables_1 := List.mem_of_getElem? (i := 419) rfl
set_option maxRecDepth 100000 in
theorem zMLc_152 : zWM (11, 451, 66, 1) ∈ tables_1 := List.mem_of_getElem? (i := 435) rfl
set_option maxRecDepth 100000 in
theorem zMLc_153 : zWM (11, 454, 143, 1) ∈ tables_1 := List.mem_of_getElem? (i := 439) rfl
set_option maxRecDepth 100000 in
theorem zMLc_154 : zWM (11, 457, 68, 1) ∈ tables_1 := List.mem_of_getElem? (i := 443) rfl
set_option maxRecDepth 100000 in
theorem zMLc_155 : zWM (11, 460, 77, 1) ∈ tables_1 := List.mem_of_getElem? (i := 687) rfl
set_option maxRecDepth 100000 in
theorem zMLc_156 : zWM (11, 464, 15, 1) ∈ tables_1 := List.mem_of_getElem? (i := 703) rfl
set_option maxRecDepth 100000 in
theorem zMLc_157 : zWM (11, 467, 151, 0) ∈ tables_1 := List.mem_of_getElem? (i := 796) rfl
set_option maxRecDepth 100000 in
theorem zMLc_158 : zWM (11, 470, 29, 1) ∈ tables_1 := List.mem_of_getElem? (i := 850) rfl
set_option maxRecDepth 100000 in
theorem zMLc_159 : zWM (11, 473, 162, 1) ∈ tables_1 := List.mem_of_getElem? (i := 878) rfl
set_option maxRecDepth 100000 in
theorem zMLc_160 : zWM (12, 88, 171, 0) ∈ tables_1 := List.mem_of_getElem? (i := 1288) rfl
set_option maxRecDepth 100000 in
theorem zMLc_161 : zWM (12, 92, 176, 1) ∈ tables_1 := List.mem_of_getElem? (i := 1378) rfl
set_option maxRecDepth 100000 in
theorem zMLc_162 : zWM (12, 114, 183, 1) ∈ tables_1 := List.mem_of_getElem? (i := 1299) rfl
set_option maxRecDepth 100000 in
theorem zMLc_163 : zWM (12, 118, 182, 1) ∈ tables_1 := List.mem_of_getElem? (i := 1315) rfl
set_option maxRecDepth 100000 in
theorem zMLc_164 : zWM (12, 121, 185, 1) ∈ tables_1 := List.mem_of_getElem? (i := 1323) rfl
set_option maxRecDepth 100000 in
theorem zMLc_165 : zWM (12, 125, 184, 1) ∈ tables_1 := List.mem_of_getElem? (i := 1303) rfl
set_option maxRecDepth 100000 in
theorem zMLc_166 : zWM (12, 129, 181, 1) ∈ tables_1 := List.mem_of_getElem? (i := 1295) rfl
set_option maxRecDepth 100000 in
theorem zMLc_167 : zWM (12, 133, 191, 1) ∈ tables_1 := List.mem_of_getElem? (i := 1307) rfl
set_option maxRecDepth 100000 in
theorem zMLc_168 : zWM (12, 136, 190, 0) ∈ tables_1 := List.mem_of_getElem? (i := 1331) rfl
set_option maxRecDepth 100000 in
theorem zMLc_169 : zWM (12, 146, 187, 1) ∈ tables_1 := List.mem_of_getElem? (i := 1311) rfl
set_option maxRecDepth 100000 in
theorem zMLc_170 : zWM (12, 150, 186, 1) ∈ tables_1 := List.mem_of_getElem? (i := 1319) rfl
set_option maxRecDepth 100000 in
theorem zMLc_171 : zWM (12, 154, 188, 1) ∈ tables_1 := List.mem_of_getElem? (i := 1327) rfl
set_option maxRecDepth 100000 in
theorem zMLc_172 : zWM (12, 160, 194, 1) ∈ tables_1 := List.mem_of_getElem? (i := 1346) rfl
set_option maxRecDepth 100000 in
theorem zMLc_173 : zWM (12, 163, 195, 1) ∈ tables_1 := List.mem_of_getElem? (i := 1350) rfl
set_option maxRecDepth 100000 in
theorem zMLc_174 : zWM (12, 166, 196, 1) ∈ tables_1 := List.mem_of_getElem? (i := 1354) rfl
set_option maxRecDepth 100000 in
theorem zMLc_175 : zWM (12, 169, 193, 1) ∈ tables_1 := List.mem_of_getElem? (i := 1342) rfl
set_option maxRecDepth 100000 in
theorem zMLc_176 : zWM (12, 175, 197, 1) ∈ tables_1 := List.mem_of_getElem? (i := 1358) rfl
set_option maxRecDepth 100000 in
theorem zMLc_177 : zWM (12, 194, 175, 1) ∈ tables_1 := List.mem_of_getElem? (i := 1366) rfl
set_option maxRecDepth 100000 in
theorem zMLc_178 : zWM (12, 198, 173, 1) ∈ tables_1 := List.mem_of_getElem? (i := 1370) rfl
set_option maxRecDepth 100000 in
theorem zMLc_179 : zWM (12, 201, 177, 1) ∈ tables_1 := List.mem_of_getElem? (i := 1374) rfl
set_option maxRecDepth 100000 in
theorem zMLc_180 : zWM (12, 204, 4, 0) ∈ tables_1 := List.mem_of_getElem? (i := 1390) rfl
set_option maxRecDepth 100000 in
theorem zMLc_181 : zWM (12, 210, 3, 0) ∈ tables_1 := List.mem_of_getElem? (i := 1391) rfl
set_option maxRecDepth 100000 in
theorem zMLc_182 : zWM (12, 213, 172, 0) ∈ tables_1 := List.mem_of_getElem? (i := 1400) rfl
set_option maxRecDepth 100000 in
theorem zMLc_183 : zWM (12, 220, 203, 1) ∈ tables_1 := List.mem_of_getElem? (i := 1396) rfl
set_option maxRecDepth 100000 in
theorem zMLc_184 : zWM (12, 223, 0, 0) ∈ tables_1 := List.mem_of_getElem? (i := 1403) rfl
set_option maxRecDepth 100000 in
theorem zMLc_185 : zWM (12, 241, 206, 1) ∈ tables_1 := List.mem_of_getElem? (i := 1450) rfl
set_option maxRecDepth 100000 in
theorem zMLc_186 : zWM (12, 245, 207, 1) ∈ tables_1 := List.mem_of_getElem? (i := 1454) rfl
set_option maxRecDepth 100000 in
theorem zMLc_187 : zWM (12, 248, 199, 1) ∈ tables_1 := List.mem_of_getElem? (i := 1434) rfl
set_option maxRecDepth 100000 in
theorem zMLc_188 : zWM (12, 252, 208, 0) ∈ tables_1 := List.mem_of_getElem? (i := 1416) rfl
set_option maxRecDepth 100000 in
theorem zMLc_189 : zWM (12, 256, 210, 1) ∈ tables_1 := List.mem_of_getElem? (i := 1408) rfl
set_option maxRecDepth 100000 in
theorem zMLc_190 : zWM (12, 260, 209, 1) ∈ tables_1 := List.mem_of_getElem? (i := 1412) rfl
set_option maxRecDepth 100000 in
theorem zMLc_191 : zWM (12, 264, 211, 0) ∈ tables_1 := List.mem_of_getElem? (i := 1419) rfl
set_option maxRecDepth 100000 in
theorem zMLc_192 : zWM (12, 267, 213, 1) ∈ tables_1 := List.mem_of_getElem? (i := 1426) rfl
set_option maxRecDepth 100000 in
theorem zMLc_193 : zWM (12, 270, 174, 1) ∈ tables_1 := List.mem_of_getElem? (i := 1438) rfl
set_option maxRecDepth 100000 in
theorem zMLc_194 : zWM (12, 273, 205, 1) ∈ tables_1 := List.mem_of_getElem? (i := 1446) rfl
set_option maxRecDepth 100000 in
theorem zMLc_195 : zWM (12, 276, 216, 1) ∈ tables_1 := List.mem_of_getElem? (i := 1458) rfl
set_option maxRecDepth 100000 in
theorem zMLc_196 : zWM (12, 279, 220, 1) ∈ tables_1 := List.mem_of_getElem? (i := 1470) rfl
set_option maxRecDepth 100000 in
theorem zMLc_197 : zWM (12, 285, 221, 1) ∈ tables_1 := List.mem_of_getElem? (i := 1474) rfl
set_option maxRecDepth 100000 in
theorem zMLc_198 : zWM (12, 288, 223, 1) ∈ tables_1 := List.mem_of_getElem? (i := 1486) rfl
set_option maxRecDepth 100000 in
theorem zMLc_199 : zWM (12, 291, 224, 1) ∈ tables_1 := List.mem_of_getElem? (i := 1490) rfl
set_option maxRecDepth 100000 in
theorem zMLc_200 : zWM (12, 300, 227, 1) ∈ tables_1 := List.mem_of_getElem? (i := 1502) rfl
set_option maxRecDepth 100000 in
theorem zMLc_201 : zWM (12, 303, 228, 1) ∈ tables_1 := List.mem_of_getElem? (i := 1506) rfl
set_option maxRecDepth 100000 in
theorem zMLc_202 : zWM (12, 309, 230, 1) ∈ tables_1 := List.mem_of_getElem? (i := 1514) rfl
set_option maxRecDepth 100000 in
theorem zMLc_203 : zWM (12, 312, 178, 0) ∈ tables_1 := List.mem_of_getElem? (i := 1530) rfl
set_option maxRecDepth 100000 in
theorem zMLc_204 : zWM (12, 315, 234, 1) ∈ tables_1 := List.mem_of_getElem? (i := 1533) rfl
set_option maxRecDepth 100000 in
theorem zMLc_205 : zWM (12, 318, 236, 1) ∈ tables_1 := List.mem_of_getElem? (i := 1545) rfl
set_option maxRecDepth 100000 in
theorem zMLc_206 : zWM (12, 321, 237, 1) ∈ tables_1 := List.mem_of_getElem? (i := 1541) rfl
set_option maxRecDepth 100000 in
theorem zMLc_207 : zWM (12, 325, 241, 1) ∈ tables_1 := List.mem_of_getElem? (i := 1561) rfl
set_option maxRecDepth 100000 in
theorem zMLc_208 : zWM (12, 329, 244, 1) ∈ tables_1 := List.mem_of_getElem? (i := 1570) rfl
set_option maxRecDepth 100000 in
theorem zMLc_209 : zWM (12, 332, 246, 0) ∈ tables_1 := List.mem_of_getElem? (i := 1587) rfl
set_option maxRecDepth 100000 in
theorem zMLc_210 : zWM (12, 336, 247, 1) ∈ tables_1 := List.mem_of_getElem? (i := 1583) rfl
set_option maxRecDepth 100000 in
theorem zMLc_211 : zWM (12, 339, 2, 0) ∈ tables_1 := List.mem_of_getElem? (i := 1590) rfl
set_option maxRecDepth 100000 in
theorem zMLc_212 : zWM (12, 342, 249, 0) ∈ tables_1 := List.mem_of_getElem? (i := 1595) rfl
set_option maxRecDepth 100000 in
theorem zMLc_213 : zWM (12, 345, 253, 1) ∈ tables_1 := List.mem_of_getElem? (i := 1610) rfl
set_option maxRecDepth 100000 in
theorem zMLc_214 : zWM (12, 348, 255, 1) ∈ tables_1 := List.mem_of_getElem? (i := 1618) rfl
set_option maxRecDepth 100000 in
theorem zMLc_215 : zWM (12, 354, 259, 1) ∈ tables_1 := List.mem_of_getElem? (i := 1634) rfl
set_option maxRecDepth 100000 in
theorem zMLc_216 : zWM (12, 362, 265, 1) ∈ tables_1 := List.mem_of_getElem? (i := 1655) rfl
set_option maxRecDepth 100000 in
theorem zMLc_217 : zWM (12, 365, 264, 1) ∈ tables_1 := List.mem_of_getElem? (i := 1659) rfl
def zMLc_l0 : List (Nat × Nat × Nat × Nat) := [(0, 29, 61, 1), (0, 35, 8, 1), (0, 38, 66, 1), (0, 42, 64, 1), (0, 46, 65, 1), (0, 49, 9, 1), (0, 52, 68, 1), (0, 56, 67, 1), (0, 59, 10, 1), (1, 37, 1, 0), (1, 43, 14, 1), (3, 9, 25, 2), (3, 18, 11, 4), (3, 26, 26, 1), (3, 30, 12, 1), (4, 24, 29, 1)]
theorem zMLc_r0 : ∀ q ∈ zMLc_l0, zWM q ∈ tables_1 := List.forall_mem_cons.mpr ⟨zMLc_0, List.forall_mem_cons.mpr ⟨zMLc_1, List.forall_mem_cons.mpr ⟨zMLc_2, List.forall_mem_cons.mpr ⟨zMLc_3, List.forall_mem_cons.mpr ⟨zMLc_4, List.forall_mem_cons.mpr ⟨zMLc_5, List.forall_mem_cons.mpr ⟨zMLc_6, List.forall_mem_cons.mpr ⟨zMLc_7, List.forall_mem_cons.mpr ⟨zMLc_8, List.forall_mem_cons.mpr ⟨zMLc_9, List.forall_mem_cons.mpr ⟨zMLc_10, List.forall_mem_cons.mpr ⟨zMLc_11, List.forall_mem_cons.mpr ⟨zMLc_12, List.forall_mem_cons.mpr ⟨zMLc_13, List.forall_mem_cons.mpr ⟨zMLc_14, List.forall_mem_cons.mpr ⟨zMLc_15, fun _ h => absurd h List.not_mem_nil⟩⟩⟩⟩⟩⟩⟩⟩⟩⟩⟩⟩⟩⟩⟩⟩
def zMLc_l1 : List (Nat × Nat × Nat × Nat) := [(4, 43, 131, 3), (4, 47, 27, 1), (4, 51, 5, 0), (4, 57, 28, 1), (4, 61, 132, 3), (4, 65, 31, 1), (4, 68, 4, 0), (4, 74, 3, 0), (5, 17, 22, 4), (5, 22, 23, 1), (5, 29, 4, 0), (5, 35, 24, 1), (6, 24, 39, 1), (6, 41, 4, 0), (6, 50, 44, 0), (7, 23, 48, 1)]
theorem zMLc_r1 : ∀ q ∈ zMLc_l1, zWM q ∈ tables_1 := List.forall_mem_cons.mpr ⟨zMLc_16, List.forall_mem_cons.mpr ⟨zMLc_17, List.forall_mem_cons.mpr ⟨zMLc_18, List.forall_mem_cons.mpr ⟨zMLc_19, List.forall_mem_cons.mpr ⟨zMLc_20, List.forall_mem_cons.mpr ⟨zMLc_21, List.forall_mem_cons.mpr ⟨zMLc_22, List.forall_mem_cons.mpr ⟨zMLc_23, List.forall_mem_cons.mpr ⟨zMLc_24, List.forall_mem_cons.mpr ⟨zMLc_25, List.forall_mem_cons.mpr ⟨zMLc_26, List.forall_mem_cons.mpr ⟨zMLc_27, List.forall_mem_cons.mpr ⟨zMLc_28, List.forall_mem_cons.mpr ⟨zMLc_29, List.forall_mem_cons.mpr ⟨zMLc_30, List.forall_mem_cons.mpr ⟨zMLc_31, fun _ h => absurd h List.not_mem_nil⟩⟩⟩⟩⟩⟩⟩⟩⟩⟩⟩⟩⟩⟩⟩⟩
def zMLc_l2 : List (Nat × Nat × Nat × Nat) := [(7, 27, 49, 1), (7, 30, 64, 1), (7, 36, 65, 1), (7, 39, 47, 1), (7, 43, 50, 1), (7, 46, 51, 1), (7, 49, 66, 1), (7, 52, 52, 1), (7, 55, 67, 1), (7, 59, 53, 1), (7, 62, 54, 0), (8, 22, 3, 0), (8, 28, 77, 1), (8, 37, 132, 3), (9, 22, 4, 0), (9, 35, 64, 1)]
theorem zMLc_r2 : ∀ q ∈ zMLc_l2, zWM q ∈ tables_1 := List.forall_mem_cons.mpr ⟨zMLc_32, List.forall_mem_cons.mpr ⟨zMLc_33, List.forall_mem_cons.mpr ⟨zMLc_34, List.forall_mem_cons.mpr ⟨zMLc_35, List.forall_mem_cons.mpr ⟨zMLc_36, List.forall_mem_cons.mpr ⟨zMLc_37, List.forall_mem_cons.mpr ⟨zMLc_38, List.forall_mem_cons.mpr ⟨zMLc_39, List.forall_mem_cons.mpr ⟨zMLc_40, List.forall_mem_cons.mpr ⟨zMLc_41, List.forall_mem_cons.mpr ⟨zMLc_42, List.forall_mem_cons.mpr ⟨zMLc_43, List.forall_mem_cons.mpr ⟨zMLc_44, List.forall_mem_cons.mpr ⟨zMLc_45, List.forall_mem_cons.mpr ⟨zMLc_46, List.forall_mem_cons.mpr ⟨zMLc_47, fun _ h => absurd h List.not_mem_nil⟩⟩⟩⟩⟩⟩⟩⟩⟩⟩⟩⟩⟩⟩⟩⟩
def zMLc_l3 : List (Nat × Nat × Nat × Nat) := [(9, 39, 69, 1), (10, 20, 25, 2), (10, 38, 26, 1), (10, 46, 131, 3), (10, 50, 72, 1), (10, 57, 132, 3), (10, 61, 74, 1), (10, 64, 78, 1), (10, 68, 79, 1), (10, 74, 33, 1), (10, 96, 28, 1), (10, 106, 73, 1), (10, 109, 80, 1), (10, 113, 27, 1), (10, 122, 0, 0), (10, 127, 42, 1)]
theorem zMLc_r3 : ∀ q ∈ zMLc_l3, zWM q ∈ tables_1 := List.forall_mem_cons.mpr ⟨zMLc_48, List.forall_mem_cons.mpr ⟨zMLc_49, List.forall_mem_cons.mpr ⟨zMLc_50, List.forall_mem_cons.mpr ⟨zMLc_51, List.forall_mem_cons.mpr ⟨zMLc_52, List.forall_mem_cons.mpr ⟨zMLc_53, List.forall_mem_cons.mpr ⟨zMLc_54, List.forall_mem_cons.mpr ⟨zMLc_55, List.forall_mem_cons.mpr ⟨zMLc_56, List.forall_mem_cons.mpr ⟨zMLc_57, List.forall_mem_cons.mpr ⟨zMLc_58, List.forall_mem_cons.mpr ⟨zMLc_59, List.forall_mem_cons.mpr ⟨zMLc_60, List.forall_mem_cons.mpr ⟨zMLc_61, List.forall_mem_cons.mpr ⟨zMLc_62, List.forall_mem_cons.mpr ⟨zMLc_63, fun _ h => absurd h List.not_mem_nil⟩⟩⟩⟩⟩⟩⟩⟩⟩⟩⟩⟩⟩⟩⟩⟩
def zMLc_l4 : List (Nat × Nat × Nat × Nat) := [(10, 130, 43, 1), (11, 9, 58, 4), (11, 18, 38, 2), (11, 25, 45, 2), (11, 34, 6, 2), (11, 41, 70, 2), (11, 53, 11, 4), (11, 60, 34, 2), (11, 73, 19, 4), (11, 80, 55, 4), (11, 92, 22, 4), (11, 93, 59, 1), (11, 101, 60, 1), (11, 105, 141, 1), (11, 109, 62, 1), (11, 113, 63, 1)]
theorem zMLc_r4 : ∀ q ∈ zMLc_l4, zWM q ∈ tables_1 := List.forall_mem_cons.mpr ⟨zMLc_64, List.forall_mem_cons.mpr ⟨zMLc_65, List.forall_mem_cons.mpr ⟨zMLc_66, List.forall_mem_cons.mpr ⟨zMLc_67, List.forall_mem_cons.mpr ⟨zMLc_68, List.forall_mem_cons.mpr ⟨zMLc_69, List.forall_mem_cons.mpr ⟨zMLc_70, List.forall_mem_cons.mpr ⟨zMLc_71, List.forall_mem_cons.mpr ⟨zMLc_72, List.forall_mem_cons.mpr ⟨zMLc_73, List.forall_mem_cons.mpr ⟨zMLc_74, List.forall_mem_cons.mpr ⟨zMLc_75, List.forall_mem_cons.mpr ⟨zMLc_76, List.forall_mem_cons.mpr ⟨zMLc_77, List.forall_mem_cons.mpr ⟨zMLc_78, List.forall_mem_cons.mpr ⟨zMLc_79, fun _ h => absurd h List.not_mem_nil⟩⟩⟩⟩⟩⟩⟩⟩⟩⟩⟩⟩⟩⟩⟩⟩
def zMLc_l5 : List (Nat × Nat × Nat × Nat) := [(11, 120, 67, 1), (11, 127, 41, 1), (11, 131, 61, 1), (11, 135, 46, 1), (11, 138, 39, 1), (11, 141, 40, 1), (11, 145, 134, 1), (11, 170, 74, 1), (11, 185, 132, 0), (11, 192, 133, 0), (11, 196, 144, 0), (11, 203, 145, 0), (11, 207, 146, 1), (11, 210, 72, 1), (11, 216, 75, 1), (11, 219, 0, 0)]
theorem zMLc_r5 : ∀ q ∈ zMLc_l5, zWM q ∈ tables_1 := List.forall_mem_cons.mpr ⟨zMLc_80, List.forall_mem_cons.mpr ⟨zMLc_81, List.forall_mem_cons.mpr ⟨zMLc_82, List.forall_mem_cons.mpr ⟨zMLc_83, List.forall_mem_cons.mpr ⟨zMLc_84, List.forall_mem_cons.mpr ⟨zMLc_85, List.forall_mem_cons.mpr ⟨zMLc_86, List.forall_mem_cons.mpr ⟨zMLc_87, List.forall_mem_cons.mpr ⟨zMLc_88, List.forall_mem_cons.mpr ⟨zMLc_89, List.forall_mem_cons.mpr ⟨zMLc_90, List.forall_mem_cons.mpr ⟨zMLc_91, List.forall_mem_cons.mpr ⟨zMLc_92, List.forall_mem_cons.mpr ⟨zMLc_93, List.forall_mem_cons.mpr ⟨zMLc_94, List.forall_mem_cons.mpr ⟨zMLc_95, fun _ h => absurd h List.not_mem_nil⟩⟩⟩⟩⟩⟩⟩⟩⟩⟩⟩⟩⟩⟩⟩⟩
def zMLc_l6 : List (Nat × Nat × Nat × Nat) := [(11, 224, 136, 1), (11, 227, 137, 1), (11, 230, 27, 1), (11, 234, 31, 1), (11, 237, 71, 1), (11, 240, 131, 0), (11, 249, 79, 1), (11, 252, 76, 1), (11, 255, 138, 1), (11, 261, 148, 1), (11, 264, 147, 1), (11, 268, 139, 1), (11, 271, 7, 1), (11, 272, 35, 1), (11, 286, 149, 1), (11, 290, 36, 1)]
theorem zMLc_r6 : ∀ q ∈ zMLc_l6, zWM q ∈ tables_1 := List.forall_mem_cons.mpr ⟨zMLc_96, List.forall_mem_cons.mpr ⟨zMLc_97, List.forall_mem_cons.mpr ⟨zMLc_98, List.forall_mem_cons.mpr ⟨zMLc_99, List.forall_mem_cons.mpr ⟨zMLc_100, List.forall_mem_cons.mpr ⟨zMLc_101, List.forall_mem_cons.mpr ⟨zMLc_102, List.forall_mem_cons.mpr ⟨zMLc_103, List.forall_mem_cons.mpr ⟨zMLc_104, List.forall_mem_cons.mpr ⟨zMLc_105, List.forall_mem_cons.mpr ⟨zMLc_106, List.forall_mem_cons.mpr ⟨zMLc_107, List.forall_mem_cons.mpr ⟨zMLc_108, List.forall_mem_cons.mpr ⟨zMLc_109, List.forall_mem_cons.mpr ⟨zMLc_110, List.forall_mem_cons.mpr ⟨zMLc_111, fun _ h => absurd h List.not_mem_nil⟩⟩⟩⟩⟩⟩⟩⟩⟩⟩⟩⟩⟩⟩⟩⟩
def zMLc_l7 : List (Nat × Nat × Nat × Nat) := [(11, 293, 37, 1), (11, 297, 13, 1), (11, 302, 14, 1), (11, 312, 16, 1), (11, 315, 18, 1), (11, 318, 17, 1), (11, 321, 150, 1), (11, 330, 154, 1), (11, 336, 155, 1), (11, 339, 158, 1), (11, 345, 156, 1), (11, 348, 157, 1), (11, 351, 159, 1), (11, 354, 73, 1), (11, 357, 160, 0), (11, 360, 135, 1)]
theorem zMLc_r7 : ∀ q ∈ zMLc_l7, zWM q ∈ tables_1 := List.forall_mem_cons.mpr ⟨zMLc_112, List.forall_mem_cons.mpr ⟨zMLc_113, List.forall_mem_cons.mpr ⟨zMLc_114, List.forall_mem_cons.mpr ⟨zMLc_115, List.forall_mem_cons.mpr ⟨zMLc_116, List.forall_mem_cons.mpr ⟨zMLc_117, List.forall_mem_cons.mpr ⟨zMLc_118, List.forall_mem_cons.mpr ⟨zMLc_119, List.forall_mem_cons.mpr ⟨zMLc_120, List.forall_mem_cons.mpr ⟨zMLc_121, List.forall_mem_cons.mpr ⟨zMLc_122, List.forall_mem_cons.mpr ⟨zMLc_123, List.forall_mem_cons.mpr ⟨zMLc_124, List.forall_mem_cons.mpr ⟨zMLc_125, List.forall_mem_cons.mpr ⟨zMLc_126, List.forall_mem_cons.mpr ⟨zMLc_127, fun _ h => absurd h List.not_mem_nil⟩⟩⟩⟩⟩⟩⟩⟩⟩⟩⟩⟩⟩⟩⟩⟩
def zMLc_l8 : List (Nat × Nat × Nat × Nat) := [(11, 363, 161, 1), (11, 366, 163, 1), (11, 369, 153, 1), (11, 372, 2, 0), (11, 377, 152, 0), (11, 380, 33, 1), (11, 383, 32, 1), (11, 386, 164, 1), (11, 389, 166, 1), (11, 392, 165, 1), (11, 395, 140, 1), (11, 398, 20, 1), (11, 404, 21, 1), (11, 407, 167, 1), (11, 410, 56, 1), (11, 413, 168, 1)]
theorem zMLc_r8 : ∀ q ∈ zMLc_l8, zWM q ∈ tables_1 := List.forall_mem_cons.mpr ⟨zMLc_128, List.forall_mem_cons.mpr ⟨zMLc_129, List.forall_mem_cons.mpr ⟨zMLc_130, List.forall_mem_cons.mpr ⟨zMLc_131, List.forall_mem_cons.mpr ⟨zMLc_132, List.forall_mem_cons.mpr ⟨zMLc_133, List.forall_mem_cons.mpr ⟨zMLc_134, List.forall_mem_cons.mpr ⟨zMLc_135, List.forall_mem_cons.mpr ⟨zMLc_136, List.forall_mem_cons.mpr ⟨zMLc_137, List.forall_mem_cons.mpr ⟨zMLc_138, List.forall_mem_cons.mpr ⟨zMLc_139, List.forall_mem_cons.mpr ⟨zMLc_140, List.forall_mem_cons.mpr ⟨zMLc_141, List.forall_mem_cons.mpr ⟨zMLc_142, List.forall_mem_cons.mpr ⟨zMLc_143, fun _ h => absurd h List.not_mem_nil⟩⟩⟩⟩⟩⟩⟩⟩⟩⟩⟩⟩⟩⟩⟩⟩
def zMLc_l9 : List (Nat × Nat × Nat × Nat) := [(11, 416, 57, 1), (11, 420, 30, 1), (11, 423, 5, 0), (11, 429, 4, 0), (11, 432, 3, 0), (11, 435, 23, 1), (11, 442, 24, 1), (11, 448, 142, 1), (11, 451, 66, 1), (11, 454, 143, 1), (11, 457, 68, 1), (11, 460, 77, 1), (11, 464, 15, 1), (11, 467, 151, 0), (11, 470, 29, 1), (11, 473, 162, 1)]
theorem zMLc_r9 : ∀ q ∈ zMLc_l9, zWM q ∈ tables_1 := List.forall_mem_cons.mpr ⟨zMLc_144, List.forall_mem_cons.mpr ⟨zMLc_145, List.forall_mem_cons.mpr ⟨zMLc_146, List.forall_mem_cons.mpr ⟨zMLc_147, List.forall_mem_cons.mpr ⟨zMLc_148, List.forall_mem_cons.mpr ⟨zMLc_149, List.forall_mem_cons.mpr ⟨zMLc_150, List.forall_mem_cons.mpr ⟨zMLc_151, List.forall_mem_cons.mpr ⟨zMLc_152, List.forall_mem_cons.mpr ⟨zMLc_153, List.forall_mem_cons.mpr ⟨zMLc_154, List.forall_mem_cons.mpr ⟨zMLc_155, List.forall_mem_cons.mpr ⟨zMLc_156, List.forall_mem_cons.mpr ⟨zMLc_157, List.forall_mem_cons.mpr ⟨zMLc_158, List.forall_mem_cons.mpr ⟨zMLc_159, fun _ h => absurd h List.not_mem_nil⟩⟩⟩⟩⟩⟩⟩⟩⟩⟩⟩⟩⟩⟩⟩⟩
def zMLc_l10 : List (Nat × Nat × Nat × Nat) := [(12, 88, 171, 0), (12, 92, 176, 1), (12, 114, 183, 1), (12, 118, 182, 1), (12, 121, 185, 1), (12, 125, 184, 1), (12, 129, 181, 1), (12, 133, 191, 1), (12, 136, 190, 0), (12, 146, 187, 1), (12, 150, 186, 1), (12, 154, 188, 1), (12, 160, 194, 1), (12, 163, 195, 1), (12, 166, 196, 1), (12, 169, 193, 1)]
theorem zMLc_r10 : ∀ q ∈ zMLc_l10, zWM q ∈ tables_1 := List.forall_mem_cons.mpr ⟨zMLc_160, List.forall_mem_cons.mpr ⟨zMLc_161, List.forall_mem_cons.mpr ⟨zMLc_162, List.forall_mem_cons.mpr ⟨zMLc_163, List.forall_mem_cons.mpr ⟨zMLc_164, List.forall_mem_cons.mpr ⟨zMLc_165, List.forall_mem_cons.mpr ⟨zMLc_166, List.forall_mem_cons.mpr ⟨zMLc_167, List.forall_mem_cons.mpr ⟨zMLc_168, List.forall_mem_cons.mpr ⟨zMLc_169, List.forall_mem_cons.mpr ⟨zMLc_170, List.forall_mem_cons.mpr ⟨zMLc_171, List.forall_mem_cons.mpr ⟨zMLc_172, List.forall_mem_cons.mpr ⟨zMLc_173, List.forall_mem_cons.mpr ⟨zMLc_174, List.forall_mem_cons.mpr ⟨zMLc_175, fun _ h => absurd h List.not_mem_nil⟩⟩⟩⟩⟩⟩⟩⟩⟩⟩⟩⟩⟩⟩⟩⟩
def zMLc_l11 : List (Nat × Nat × Nat × Nat) := [(12, 175, 197, 1), (12, 194, 175, 1), (12, 198, 173, 1), (12, 201, 177, 1), (12, 204, 4, 0), (12, 210, 3, 0), (12, 213, 172, 0), (12, 220, 203, 1), (12, 223, 0, 0), (12, 241, 206, 1), (12, 245, 207, 1), (12, 248, 199, 1), (12, 252, 208, 0), (12, 256, 210, 1), (12, 260, 209, 1), (12, 264, 211, 0)]
theorem zMLc_r11 : ∀ q ∈ zMLc_l11, zWM q ∈ tables_1 := List.forall_mem_cons.mpr ⟨zMLc_176, List.forall_mem_cons.mpr ⟨zMLc_177, List.forall_mem_cons.mpr ⟨zMLc_178, List.forall_mem_cons.mpr ⟨zMLc_179, List.forall_mem_cons.mpr ⟨zMLc_180, List.forall_mem_cons.mpr ⟨zMLc_181, List.forall_mem_cons.mpr ⟨zMLc_182, List.forall_mem_cons.mpr ⟨zMLc_183, List.forall_mem_cons.mpr ⟨zMLc_184, List.forall_mem_cons.mpr ⟨zMLc_185, List.forall_mem_cons.mpr ⟨zMLc_186, List.forall_mem_cons.mpr ⟨zMLc_187, List.forall_mem_cons.mpr ⟨zMLc_188, List.forall_mem_cons.mpr ⟨zMLc_189, List.forall_mem_cons.mpr ⟨zMLc_190, List.forall_mem_cons.mpr ⟨zMLc_191, fun _ h => absurd h List.not_mem_nil⟩⟩⟩⟩⟩⟩⟩⟩⟩⟩⟩⟩⟩⟩⟩⟩
def zMLc_l12 : List (Nat × Nat × Nat × Nat) := [(12, 267, 213, 1), (12, 270, 174, 1), (12, 273, 205, 1), (12, 276, 216, 1), (12, 279, 220, 1), (12, 285, 221, 1), (12, 288, 223, 1), (12, 291, 224, 1), (12, 300, 227, 1), (12, 303, 228, 1), (12, 309, 230, 1), (12, 312, 178, 0), (12, 315, 234, 1), (12, 318, 236, 1), (12, 321, 237, 1), (12, 325, 241, 1)]
theorem zMLc_r12 : ∀ q ∈ zMLc_l12, zWM q ∈ tables_1 := List.forall_mem_cons.mpr ⟨zMLc_192, List.forall_mem_cons.mpr ⟨zMLc_193, List.forall_mem_cons.mpr ⟨zMLc_194, List.forall_mem_cons.mpr ⟨zMLc_195, List.forall_mem_cons.mpr ⟨zMLc_196, List.forall_mem_cons.mpr ⟨zMLc_197, List.forall_mem_cons.mpr ⟨zMLc_198, List.forall_mem_cons.mpr ⟨zMLc_199, List.forall_mem_cons.mpr ⟨zMLc_200, List.forall_mem_cons.mpr ⟨zMLc_201, List.forall_mem_cons.mpr ⟨zMLc_202, List.forall_mem_cons.mpr ⟨zMLc_203, List.forall_mem_cons.mpr ⟨zMLc_204, List.forall_mem_cons.mpr ⟨zMLc_205, List.forall_mem_cons.mpr ⟨zMLc_206, List.forall_mem_cons.mpr ⟨zMLc_207, fun _ h => absurd h List.not_mem_nil⟩⟩⟩⟩⟩⟩⟩⟩⟩⟩⟩⟩⟩⟩⟩⟩
def zMLc_l13 : List (Nat × Nat × Nat × Nat) := [(12, 329, 244, 1), (12, 332, 246, 0), (12, 336, 247, 1), (12, 339, 2, 0), (12, 342, 249, 0), (12, 345, 253, 1), (12, 348, 255, 1), (12, 354, 259, 1), (12, 362, 265, 1), (12, 365, 264, 1)]
theorem zMLc_r13 : ∀ q ∈ zMLc_l13, zWM q ∈ tables_1 := List.forall_mem_cons.mpr ⟨zMLc_208, List.forall_mem_cons.mpr ⟨zMLc_209, List.forall_mem_cons.mpr ⟨zMLc_210, List.forall_mem_cons.mpr ⟨zMLc_211, List.forall_mem_cons.mpr ⟨zMLc_212, List.forall_mem_cons.mpr ⟨zMLc_213, List.forall_mem_cons.mpr ⟨zMLc_214, List.forall_mem_cons.mpr ⟨zMLc_215, List.forall_mem_cons.mpr ⟨zMLc_216, List.forall_mem_cons.mpr ⟨zMLc_217, fun _ h => absurd h List.not_mem_nil⟩⟩⟩⟩⟩⟩⟩⟩⟩⟩
theorem zMLc_sp : zML = zMLc_l0 ++ (zMLc_l1 ++ (zMLc_l2 ++ (zMLc_l3 ++ (zMLc_l4 ++ (zMLc_l5 ++ (zMLc_l6 ++ (zMLc_l7 ++ (zMLc_l8 ++ (zMLc_l9 ++ (zMLc_l10 ++ (zMLc_l11 ++ (zMLc_l12 ++ (zMLc_l13))))))))))))) := by decide +kernel
theorem zMLc_all : ∀ q ∈ zML, zWM q ∈ tables_1 := by
  rw [zMLc_sp]
  exact List.forall_mem_append.mpr ⟨zMLc_r0, List.forall_mem_append.mpr ⟨zMLc_r1, List.forall_mem_append.mpr ⟨zMLc_r2, List.forall_mem_append.mpr ⟨zMLc_r3, List.forall_mem_append.mpr ⟨zMLc_r4, List.forall_mem_append.mpr ⟨zMLc_r5, List.forall_mem_append.mpr ⟨zMLc_r6, List.forall_mem_append.mpr ⟨zMLc_r7, List.forall_mem_append.mpr ⟨zMLc_r8, List.forall_mem_append.mpr ⟨zMLc_r9, List.forall_mem_append.mpr ⟨zMLc_r10, List.forall_mem_append.mpr ⟨zMLc_r11, List.forall_mem_append.mpr ⟨zMLc_r12, zMLc_r13⟩⟩⟩⟩⟩⟩⟩⟩⟩⟩⟩⟩⟩
theorem zML_ok2 : ∀ q ∈ zML, q.2.2.1 < 274 := by decide +kernel
theorem zNL_ok : ∀ q ∈ zNL, Cond.classLink (zCs q.1) q.2.1 (zCs q.2.2) ∈ tables_1 ∧ Cond.instantiable (zCs q.2.2) (zTf q.2.2).2.2 ∈ tables_1 ∧ Cond.initialized (zCs q.2.2) ∈ tables_1 ∧ q.2.2 < 13 ∧ (zTf q.2.2).1 = zCs q.2.2 := by decide +kernel
theorem zAL_ok : ∀ q ∈ zAL, Cond.classLink (zCs q.1) q.2 "StartedByAYawn$Kept" ∈ tables_1 := by decide +kernel
theorem zCP_ok : ∀ q ∈ zCP, Cond.methodLink (zCs q.1) q.2 arraycopyName ∈ tables_1 := by decide +kernel
theorem zOB_ok : ∀ q ∈ zOB, Cond.methodLink (zCs q.1) q.2 Lib.objectInit ∈ tables_1 := by decide +kernel
theorem zKN_ok : ∀ q ∈ zKN, Cond.constant (zCs q.1) q.2.1 q.2.2 ∈ tables_1 := by decide +kernel
def zSt : List Nat := [0, 1, 2, 3, 4, 5, 44, 54, 131, 132, 133, 144, 145, 151, 152, 160, 171, 172, 178, 190, 208, 211, 246, 249]
def zIn : List Nat := [6, 11, 19, 22, 25, 34, 38, 45, 55, 58, 70, 81, 169]
def zVi : List Nat := [7, 8, 9, 10, 12, 13, 14, 15, 16, 17, 18, 20, 21, 23, 24, 26, 27, 28, 29, 30, 31, 32, 33, 35, 36, 37, 39, 40, 41, 42, 43, 46, 47, 48, 49, 50, 51, 52, 53, 56, 57, 59, 60, 61, 62, 63, 64, 65, 66, 67, 68, 69, 71, 72, 73, 74, 75, 76, 77, 78, 79, 80, 82, 83, 84, 85, 86, 87, 88, 89, 90, 91, 92, 93, 94, 95, 96, 97, 98, 99, 100, 101, 102, 103, 104, 105, 106, 107, 108, 109, 110, 111, 112, 113, 114, 115, 116, 117, 118, 119, 120, 121, 122, 123, 124, 125, 126, 127, 128, 129, 130, 134, 135, 136, 137, 138, 139, 140, 141, 142, 143, 146, 147, 148, 149, 150, 153, 154, 155, 156, 157, 158, 159, 161, 162, 163, 164, 165, 166, 167, 168, 170, 173, 174, 175, 176, 177, 179, 180, 181, 182, 183, 184, 185, 186, 187, 188, 189, 191, 192, 193, 194, 195, 196, 197, 198, 199, 200, 201, 202, 203, 204, 205, 206, 207, 209, 210, 212, 213, 214, 215, 216, 217, 218, 219, 220, 221, 222, 223, 224, 225, 226, 227, 228, 229, 230, 231, 232, 233, 234, 235, 236, 237, 238, 239, 240, 241, 242, 243, 244, 245, 247, 248, 250, 251, 252, 253, 254, 255, 256, 257, 258, 259, 260, 261, 262, 263, 264, 265, 266, 267, 268, 269, 270, 271, 272, 273]
def zAll : List Nat := List.range 274
set_option maxRecDepth 100000 in
theorem zStc_0 : Cond.static (zY 0) ∈ tables_1 := List.mem_of_getElem? (i := 572) rfl
set_option maxRecDepth 100000 in
theorem zStc_1 : Cond.static (zY 1) ∈ tables_1 := List.mem_of_getElem? (i := 712) rfl
set_option maxRecDepth 100000 in
theorem zStc_2 : Cond.static (zY 2) ∈ tables_1 := List.mem_of_getElem? (i := 901) rfl
set_option maxRecDepth 100000 in
theorem zStc_3 : Cond.static (zY 3) ∈ tables_1 := List.mem_of_getElem? (i := 544) rfl
set_option maxRecDepth 100000 in
theorem zStc_4 : Cond.static (zY 4) ∈ tables_1 := List.mem_of_getElem? (i := 409) rfl
set_option maxRecDepth 100000 in
theorem zStc_5 : Cond.static (zY 5) ∈ tables_1 := List.mem_of_getElem? (i := 146) rfl
set_option maxRecDepth 100000 in
theorem zStc_6 : Cond.static (zY 44) ∈ tables_1 := List.mem_of_getElem? (i := 668) rfl
set_option maxRecDepth 100000 in
theorem zStc_7 : Cond.static (zY 54) ∈ tables_1 := List.mem_of_getElem? (i := 511) rfl
set_option maxRecDepth 100000 in
theorem zStc_8 : Cond.static (zY 131) ∈ tables_1 := List.mem_of_getElem? (i := 448) rfl
set_option maxRecDepth 100000 in
theorem zStc_9 : Cond.static (zY 132) ∈ tables_1 := List.mem_of_getElem? (i := 564) rfl
set_option maxRecDepth 100000 in
theorem zStc_10 : Cond.static (zY 133) ∈ tables_1 := List.mem_of_getElem? (i := 530) rfl
set_option maxRecDepth 100000 in
theorem zStc_11 : Cond.static (zY 144) ∈ tables_1 := List.mem_of_getElem? (i := 533) rfl
set_option maxRecDepth 100000 in
theorem zStc_12 : Cond.static (zY 145) ∈ tables_1 := List.mem_of_getElem? (i := 540) rfl
set_option maxRecDepth 100000 in
theorem zStc_13 : Cond.static (zY 151) ∈ tables_1 := List.mem_of_getElem? (i := 797) rfl
set_option maxRecDepth 100000 in
theorem zStc_14 : Cond.static (zY 152) ∈ tables_1 := List.mem_of_getElem? (i := 908) rfl
set_option maxRecDepth 100000 in
theorem zStc_15 : Cond.static (zY 160) ∈ tables_1 := List.mem_of_getElem? (i := 864) rfl
set_option maxRecDepth 100000 in
theorem zStc_16 : Cond.static (zY 171) ∈ tables_1 := List.mem_of_getElem? (i := 1289) rfl
set_option maxRecDepth 100000 in
theorem zStc_17 : Cond.static (zY 172) ∈ tables_1 := List.mem_of_getElem? (i := 1401) rfl
set_option maxRecDepth 100000 in
theorem zStc_18 : Cond.static (zY 178) ∈ tables_1 := List.mem_of_getElem? (i := 1531) rfl
set_option maxRecDepth 100000 in
theorem zStc_19 : Cond.static (zY 190) ∈ tables_1 := List.mem_of_getElem? (i := 1332) rfl
set_option maxRecDepth 100000 in
theorem zStc_20 : Cond.static (zY 208) ∈ tables_1 := List.mem_of_getElem? (i := 1417) rfl
set_option maxRecDepth 100000 in
theorem zStc_21 : Cond.static (zY 211) ∈ tables_1 := List.mem_of_getElem? (i := 1420) rfl
set_option maxRecDepth 100000 in
theorem zStc_22 : Cond.static (zY 246) ∈ tables_1 := List.mem_of_getElem? (i := 1588) rfl
set_option maxRecDepth 100000 in
theorem zStc_23 : Cond.static (zY 249) ∈ tables_1 := List.mem_of_getElem? (i := 1596) rfl
def zStc_l0 : List (Nat) := [0, 1, 2, 3, 4, 5, 44, 54, 131, 132, 133, 144, 145, 151, 152, 160]
theorem zStc_r0 : ∀ q ∈ zStc_l0, Cond.static (zY q) ∈ tables_1 := List.forall_mem_cons.mpr ⟨zStc_0, List.forall_mem_cons.mpr ⟨zStc_1, List.forall_mem_cons.mpr ⟨zStc_2, List.forall_mem_cons.mpr ⟨zStc_3, List.forall_mem_cons.mpr ⟨zStc_4, List.forall_mem_cons.mpr ⟨zStc_5, List.forall_mem_cons.mpr ⟨zStc_6, List.forall_mem_cons.mpr ⟨zStc_7, List.forall_mem_cons.mpr ⟨zStc_8, List.forall_mem_cons.mpr ⟨zStc_9, List.forall_mem_cons.mpr ⟨zStc_10, List.forall_mem_cons.mpr ⟨zStc_11, List.forall_mem_cons.mpr ⟨zStc_12, List.forall_mem_cons.mpr ⟨zStc_13, List.forall_mem_cons.mpr ⟨zStc_14, List.forall_mem_cons.mpr ⟨zStc_15, fun _ h => absurd h List.not_mem_nil⟩⟩⟩⟩⟩⟩⟩⟩⟩⟩⟩⟩⟩⟩⟩⟩
def zStc_l1 : List (Nat) := [171, 172, 178, 190, 208, 211, 246, 249]
theorem zStc_r1 : ∀ q ∈ zStc_l1, Cond.static (zY q) ∈ tables_1 := List.forall_mem_cons.mpr ⟨zStc_16, List.forall_mem_cons.mpr ⟨zStc_17, List.forall_mem_cons.mpr ⟨zStc_18, List.forall_mem_cons.mpr ⟨zStc_19, List.forall_mem_cons.mpr ⟨zStc_20, List.forall_mem_cons.mpr ⟨zStc_21, List.forall_mem_cons.mpr ⟨zStc_22, List.forall_mem_cons.mpr ⟨zStc_23, fun _ h => absurd h List.not_mem_nil⟩⟩⟩⟩⟩⟩⟩⟩
theorem zStc_sp : zSt = zStc_l0 ++ (zStc_l1) := by decide +kernel
theorem zStc_all : ∀ q ∈ zSt, Cond.static (zY q) ∈ tables_1 := by
  rw [zStc_sp]
  exact List.forall_mem_append.mpr ⟨zStc_r0, zStc_r1⟩
set_option maxRecDepth 100000 in
theorem zInc__0 : Cond.instanceMethod (zY 6) ∈ tables_1 := List.mem_of_getElem? (i := 106) rfl
set_option maxRecDepth 100000 in
theorem zInc__1 : Cond.instanceMethod (zY 11) ∈ tables_1 := List.mem_of_getElem? (i := 226) rfl
set_option maxRecDepth 100000 in
theorem zInc__2 : Cond.instanceMethod (zY 19) ∈ tables_1 := List.mem_of_getElem? (i := 300) rfl
set_option maxRecDepth 100000 in
theorem zInc__3 : Cond.instanceMethod (zY 22) ∈ tables_1 := List.mem_of_getElem? (i := 263) rfl
set_option maxRecDepth 100000 in
theorem zInc__4 : Cond.instanceMethod (zY 25) ∈ tables_1 := List.mem_of_getElem? (i := 138) rfl
set_option maxRecDepth 100000 in
theorem zInc__5 : Cond.instanceMethod (zY 34) ∈ tables_1 := List.mem_of_getElem? (i := 256) rfl
set_option maxRecDepth 100000 in
theorem zInc__6 : Cond.instanceMethod (zY 38) ∈ tables_1 := List.mem_of_getElem? (i := 58) rfl
set_option maxRecDepth 100000 in
theorem zInc__7 : Cond.instanceMethod (zY 45) ∈ tables_1 := List.mem_of_getElem? (i := 88) rfl
set_option maxRecDepth 100000 in
theorem zInc__8 : Cond.instanceMethod (zY 55) ∈ tables_1 := List.mem_of_getElem? (i := 321) rfl
set_option maxRecDepth 100000 in
theorem zInc__9 : Cond.instanceMethod (zY 58) ∈ tables_1 := List.mem_of_getElem? (i := 33) rfl
set_option maxRecDepth 100000 in
theorem zInc__10 : Cond.instanceMethod (zY 70) ∈ tables_1 := List.mem_of_getElem? (i := 132) rfl
set_option maxRecDepth 100000 in
theorem zInc__11 : Cond.instanceMethod (zY 81) ∈ tables_1 := List.mem_of_getElem? (i := 25) rfl
set_option maxRecDepth 100000 in
theorem zInc__12 : Cond.instanceMethod (zY 169) ∈ tables_1 := List.mem_of_getElem? (i := 1118) rfl
def zInc__l0 : List (Nat) := [6, 11, 19, 22, 25, 34, 38, 45, 55, 58, 70, 81, 169]
theorem zInc__r0 : ∀ q ∈ zInc__l0, Cond.instanceMethod (zY q) ∈ tables_1 := List.forall_mem_cons.mpr ⟨zInc__0, List.forall_mem_cons.mpr ⟨zInc__1, List.forall_mem_cons.mpr ⟨zInc__2, List.forall_mem_cons.mpr ⟨zInc__3, List.forall_mem_cons.mpr ⟨zInc__4, List.forall_mem_cons.mpr ⟨zInc__5, List.forall_mem_cons.mpr ⟨zInc__6, List.forall_mem_cons.mpr ⟨zInc__7, List.forall_mem_cons.mpr ⟨zInc__8, List.forall_mem_cons.mpr ⟨zInc__9, List.forall_mem_cons.mpr ⟨zInc__10, List.forall_mem_cons.mpr ⟨zInc__11, List.forall_mem_cons.mpr ⟨zInc__12, fun _ h => absurd h List.not_mem_nil⟩⟩⟩⟩⟩⟩⟩⟩⟩⟩⟩⟩⟩
theorem zInc__sp : zIn = zInc__l0 := by decide +kernel
theorem zInc__all : ∀ q ∈ zIn, Cond.instanceMethod (zY q) ∈ tables_1 := by
  rw [zInc__sp]
  exact zInc__r0
theorem zIn_ok2 : ∀ i ∈ zIn, (zY i).name = "<init>" := by decide +kernel
set_option maxRecDepth 100000 in
theorem zVic_0 : Cond.instanceMethod (zY 7) ∈ tables_1 := List.mem_of_getElem? (i := 731) rfl
set_option maxRecDepth 100000 in
theorem zVic_1 : Cond.instanceMethod (zY 8) ∈ tables_1 := List.mem_of_getElem? (i := 737) rfl
set_option maxRecDepth 100000 in
theorem zVic_2 : Cond.instanceMethod (zY 9) ∈ tables_1 := List.mem_of_getElem? (i := 743) rfl
set_option maxRecDepth 100000 in
theorem zVic_3 : Cond.instanceMethod (zY 10) ∈ tables_1 := List.mem_of_getElem? (i := 748) rfl
set_option maxRecDepth 100000 in
theorem zVic_4 : Cond.instanceMethod (zY 12) ∈ tables_1 := List.mem_of_getElem? (i := 612) rfl
set_option maxRecDepth 100000 in
theorem zVic_5 : Cond.instanceMethod (zY 13) ∈ tables_1 := List.mem_of_getElem? (i := 773) rfl
set_option maxRecDepth 100000 in
theorem zVic_6 : Cond.instanceMethod (zY 14) ∈ tables_1 := List.mem_of_getElem? (i := 708) rfl
set_option maxRecDepth 100000 in
theorem zVic_7 : Cond.instanceMethod (zY 15) ∈ tables_1 := List.mem_of_getElem? (i := 704) rfl
set_option maxRecDepth 100000 in
theorem zVic_8 : Cond.instanceMethod (zY 16) ∈ tables_1 := List.mem_of_getElem? (i := 777) rfl
set_option maxRecDepth 100000 in
theorem zVic_9 : Cond.instanceMethod (zY 17) ∈ tables_1 := List.mem_of_getElem? (i := 785) rfl
set_option maxRecDepth 100000 in
theorem zVic_10 : Cond.instanceMethod (zY 18) ∈ tables_1 := List.mem_of_getElem? (i := 781) rfl
set_option maxRecDepth 100000 in
theorem zVic_11 : Cond.instanceMethod (zY 20) ∈ tables_1 := List.mem_of_getElem? (i := 947) rfl
set_option maxRecDepth 100000 in
theorem zVic_12 : Cond.instanceMethod (zY 21) ∈ tables_1 := List.mem_of_getElem? (i := 959) rfl
set_option maxRecDepth 100000 in
theorem zVic_13 : Cond.instanceMethod (zY 23) ∈ tables_1 := List.mem_of_getElem? (i := 603) rfl
set_option maxRecDepth 100000 in
theorem zVic_14 : Cond.instanceMethod (zY 24) ∈ tables_1 := List.mem_of_getElem? (i := 765) rfl
set_option maxRecDepth 100000 in
theorem zVic_15 : Cond.instanceMethod (zY 26) ∈ tables_1 := List.mem_of_getElem? (i := 607) rfl
set_option maxRecDepth 100000 in
theorem zVic_16 : Cond.instanceMethod (zY 27) ∈ tables_1 := List.mem_of_getElem? (i := 622) rfl
set_option maxRecDepth 100000 in
theorem zVic_17 : Cond.instanceMethod (zY 28) ∈ tables_1 := List.mem_of_getElem? (i := 635) rfl
set_option maxRecDepth 100000 in
theorem zVic_18 : Cond.instanceMethod (zY 29) ∈ tables_1 := List.mem_of_getElem? (i := 142) rfl
set_option maxRecDepth 100000 in
theorem zVic_19 : Cond.instanceMethod (zY 30) ∈ tables_1 := List.mem_of_getElem? (i := 852) rfl
set_option maxRecDepth 100000 in
theorem zVic_20 : Cond.instanceMethod (zY 31) ∈ tables_1 := List.mem_of_getElem? (i := 631) rfl
set_option maxRecDepth 100000 in
theorem zVic_21 : Cond.instanceMethod (zY 32) ∈ tables_1 := List.mem_of_getElem? (i := 845) rfl
set_option maxRecDepth 100000 in
theorem zVic_22 : Cond.instanceMethod (zY 33) ∈ tables_1 := List.mem_of_getElem? (i := 697) rfl
set_option maxRecDepth 100000 in
theorem zVic_23 : Cond.instanceMethod (zY 35) ∈ tables_1 := List.mem_of_getElem? (i := 599) rfl
set_option maxRecDepth 100000 in
theorem zVic_24 : Cond.instanceMethod (zY 36) ∈ tables_1 := List.mem_of_getElem? (i := 617) rfl
set_option maxRecDepth 100000 in
theorem zVic_25 : Cond.instanceMethod (zY 37) ∈ tables_1 := List.mem_of_getElem? (i := 761) rfl
set_option maxRecDepth 100000 in
theorem zVic_26 : Cond.instanceMethod (zY 39) ∈ tables_1 := List.mem_of_getElem? (i := 62) rfl
set_option maxRecDepth 100000 in
theorem zVic_27 : Cond.instanceMethod (zY 40) ∈ tables_1 := List.mem_of_getElem? (i := 515) rfl
set_option maxRecDepth 100000 in
theorem zVic_28 : Cond.instanceMethod (zY 41) ∈ tables_1 := List.mem_of_getElem? (i := 463) rfl
set_option maxRecDepth 100000 in
theorem zVic_29 : Cond.instanceMethod (zY 42) ∈ tables_1 := List.mem_of_getElem? (i := 660) rfl
set_option maxRecDepth 100000 in
theorem zVic_30 : Cond.instanceMethod (zY 43) ∈ tables_1 := List.mem_of_getElem? (i := 664) rfl
set_option maxRecDepth 100000 in
theorem zVic_31 : Cond.instanceMethod (zY 46) ∈ tables_1 := List.mem_of_getElem? (i := 472) rfl
set_option maxRecDepth 100000 in
theorem zVic_32 : Cond.instanceMethod (zY 47) ∈ tables_1 := List.mem_of_getElem? (i := 508) rfl
set_option maxRecDepth 100000 in
theorem zVic_33 : Cond.instanceMethod (zY 48) ∈ tables_1 := List.mem_of_getElem? (i := 477) rfl
set_option maxRecDepth 100000 in
theorem zVic_34 : Cond.instanceMethod (zY 49) ∈ tables_1 := List.mem_of_getElem? (i := 481) rfl
set_option maxRecDepth 100000 in
theorem zVic_35 : Cond.instanceMethod (zY 50) ∈ tables_1 := List.mem_of_getElem? (i := 485) rfl
set_option maxRecDepth 100000 in
theorem zVic_36 : Cond.instanceMethod (zY 51) ∈ tables_1 := List.mem_of_getElem? (i := 489) rfl
set_option maxRecDepth 100000 in
theorem zVic_37 : Cond.instanceMethod (zY 52) ∈ tables_1 := List.mem_of_getElem? (i := 494) rfl
set_option maxRecDepth 100000 in
theorem zVic_38 : Cond.instanceMethod (zY 53) ∈ tables_1 := List.mem_of_getElem? (i := 504) rfl
set_option maxRecDepth 100000 in
theorem zVic_39 : Cond.instanceMethod (zY 56) ∈ tables_1 := List.mem_of_getElem? (i := 975) rfl
set_option maxRecDepth 100000 in
theorem zVic_40 : Cond.instanceMethod (zY 57) ∈ tables_1 := List.mem_of_getElem? (i := 991) rfl
set_option maxRecDepth 100000 in
theorem zVic_41 : Cond.instanceMethod (zY 59) ∈ tables_1 := List.mem_of_getElem? (i := 393) rfl
set_option maxRecDepth 100000 in
theorem zVic_42 : Cond.instanceMethod (zY 60) ∈ tables_1 := List.mem_of_getElem? (i := 405) rfl
set_option maxRecDepth 100000 in
theorem zVic_43 : Cond.instanceMethod (zY 61) ∈ tables_1 := List.mem_of_getElem? (i := 416) rfl
set_option maxRecDepth 100000 in
theorem zVic_44 : Cond.instanceMethod (zY 62) ∈ tables_1 := List.mem_of_getElem? (i := 451) rfl
set_option maxRecDepth 100000 in
theorem zVic_45 : Cond.instanceMethod (zY 63) ∈ tables_1 := List.mem_of_getElem? (i := 455) rfl
set_option maxRecDepth 100000 in
theorem zVic_46 : Cond.instanceMethod (zY 64) ∈ tables_1 := List.mem_of_getElem? (i := 432) rfl
set_option maxRecDepth 100000 in
theorem zVic_47 : Cond.instanceMethod (zY 65) ∈ tables_1 := List.mem_of_getElem? (i := 498) rfl
set_option maxRecDepth 100000 in
theorem zVic_48 : Cond.instanceMethod (zY 66) ∈ tables_1 := List.mem_of_getElem? (i := 436) rfl
set_option maxRecDepth 100000 in
theorem zVic_49 : Cond.instanceMethod (zY 67) ∈ tables_1 := List.mem_of_getElem? (i := 424) rfl
set_option maxRecDepth 100000 in
theorem zVic_50 : Cond.instanceMethod (zY 68) ∈ tables_1 := List.mem_of_getElem? (i := 444) rfl
set_option maxRecDepth 100000 in
theorem zVic_51 : Cond.instanceMethod (zY 69) ∈ tables_1 := List.mem_of_getElem? (i := 429) rfl
set_option maxRecDepth 100000 in
theorem zVic_52 : Cond.instanceMethod (zY 71) ∈ tables_1 := List.mem_of_getElem? (i := 644) rfl
set_option maxRecDepth 100000 in
theorem zVic_53 : Cond.instanceMethod (zY 72) ∈ tables_1 := List.mem_of_getElem? (i := 555) rfl
set_option maxRecDepth 100000 in
theorem zVic_54 : Cond.instanceMethod (zY 73) ∈ tables_1 := List.mem_of_getElem? (i := 590) rfl
set_option maxRecDepth 100000 in
theorem zVic_55 : Cond.instanceMethod (zY 74) ∈ tables_1 := List.mem_of_getElem? (i := 567) rfl
set_option maxRecDepth 100000 in
theorem zVic_56 : Cond.instanceMethod (zY 75) ∈ tables_1 := List.mem_of_getElem? (i := 560) rfl
set_option maxRecDepth 100000 in
theorem zVic_57 : Cond.instanceMethod (zY 76) ∈ tables_1 := List.mem_of_getElem? (i := 672) rfl
set_option maxRecDepth 100000 in
theorem zVic_58 : Cond.instanceMethod (zY 77) ∈ tables_1 := List.mem_of_getElem? (i := 688) rfl
set_option maxRecDepth 100000 in
theorem zVic_59 : Cond.instanceMethod (zY 78) ∈ tables_1 := List.mem_of_getElem? (i := 693) rfl
set_option maxRecDepth 100000 in
theorem zVic_60 : Cond.instanceMethod (zY 79) ∈ tables_1 := List.mem_of_getElem? (i := 650) rfl
set_option maxRecDepth 100000 in
theorem zVic_61 : Cond.instanceMethod (zY 80) ∈ tables_1 := List.mem_of_getElem? (i := 656) rfl
set_option maxRecDepth 100000 in
theorem zVic_62 : Cond.instanceMethod (zY 82) ∈ tables_1 := List.mem_of_getElem? (i := 389) rfl
set_option maxRecDepth 100000 in
theorem zVic_63 : Cond.instanceMethod (zY 83) ∈ tables_1 := List.mem_of_getElem? (i := 397) rfl
set_option maxRecDepth 100000 in
theorem zVic_64 : Cond.instanceMethod (zY 84) ∈ tables_1 := List.mem_of_getElem? (i := 401) rfl
set_option maxRecDepth 100000 in
theorem zVic_65 : Cond.instanceMethod (zY 85) ∈ tables_1 := List.mem_of_getElem? (i := 459) rfl
set_option maxRecDepth 100000 in
theorem zVic_66 : Cond.instanceMethod (zY 86) ∈ tables_1 := List.mem_of_getElem? (i := 468) rfl
set_option maxRecDepth 100000 in
theorem zVic_67 : Cond.instanceMethod (zY 87) ∈ tables_1 := List.mem_of_getElem? (i := 1029) rfl
set_option maxRecDepth 100000 in
theorem zVic_68 : Cond.instanceMethod (zY 88) ∈ tables_1 := List.mem_of_getElem? (i := 522) rfl
set_option maxRecDepth 100000 in
theorem zVic_69 : Cond.instanceMethod (zY 89) ∈ tables_1 := List.mem_of_getElem? (i := 536) rfl
set_option maxRecDepth 100000 in
theorem zVic_70 : Cond.instanceMethod (zY 90) ∈ tables_1 := List.mem_of_getElem? (i := 551) rfl
set_option maxRecDepth 100000 in
theorem zVic_71 : Cond.instanceMethod (zY 91) ∈ tables_1 := List.mem_of_getElem? (i := 578) rfl
set_option maxRecDepth 100000 in
theorem zVic_72 : Cond.instanceMethod (zY 92) ∈ tables_1 := List.mem_of_getElem? (i := 627) rfl
set_option maxRecDepth 100000 in
theorem zVic_73 : Cond.instanceMethod (zY 93) ∈ tables_1 := List.mem_of_getElem? (i := 640) rfl
set_option maxRecDepth 100000 in
theorem zVic_74 : Cond.instanceMethod (zY 94) ∈ tables_1 := List.mem_of_getElem? (i := 680) rfl
set_option maxRecDepth 100000 in
theorem zVic_75 : Cond.instanceMethod (zY 95) ∈ tables_1 := List.mem_of_getElem? (i := 723) rfl
set_option maxRecDepth 100000 in
theorem zVic_76 : Cond.instanceMethod (zY 96) ∈ tables_1 := List.mem_of_getElem? (i := 727) rfl
set_option maxRecDepth 100000 in
theorem zVic_77 : Cond.instanceMethod (zY 97) ∈ tables_1 := List.mem_of_getElem? (i := 757) rfl
set_option maxRecDepth 100000 in
theorem zVic_78 : Cond.instanceMethod (zY 98) ∈ tables_1 := List.mem_of_getElem? (i := 1102) rfl
set_option maxRecDepth 100000 in
theorem zVic_79 : Cond.instanceMethod (zY 99) ∈ tables_1 := List.mem_of_getElem? (i := 769) rfl
set_option maxRecDepth 100000 in
theorem zVic_80 : Cond.instanceMethod (zY 100) ∈ tables_1 := List.mem_of_getElem? (i := 789) rfl
set_option maxRecDepth 100000 in
theorem zVic_81 : Cond.instanceMethod (zY 101) ∈ tables_1 := List.mem_of_getElem? (i := 800) rfl
set_option maxRecDepth 100000 in
theorem zVic_82 : Cond.instanceMethod (zY 102) ∈ tables_1 := List.mem_of_getElem? (i := 809) rfl
set_option maxRecDepth 100000 in
theorem zVic_83 : Cond.instanceMethod (zY 103) ∈ tables_1 := List.mem_of_getElem? (i := 817) rfl
set_option maxRecDepth 100000 in
theorem zVic_84 : Cond.instanceMethod (zY 104) ∈ tables_1 := List.mem_of_getElem? (i := 825) rfl
set_option maxRecDepth 100000 in
theorem zVic_85 : Cond.instanceMethod (zY 105) ∈ tables_1 := List.mem_of_getElem? (i := 837) rfl
set_option maxRecDepth 100000 in
theorem zVic_86 : Cond.instanceMethod (zY 106) ∈ tables_1 := List.mem_of_getElem? (i := 856) rfl
set_option maxRecDepth 100000 in
theorem zVic_87 : Cond.instanceMethod (zY 107) ∈ tables_1 := List.mem_of_getElem? (i := 860) rfl
set_option maxRecDepth 100000 in
theorem zVic_88 : Cond.instanceMethod (zY 108) ∈ tables_1 := List.mem_of_getElem? (i := 867) rfl
set_option maxRecDepth 100000 in
theorem zVic_89 : Cond.instanceMethod (zY 109) ∈ tables_1 := List.mem_of_getElem? (i := 871) rfl
set_option maxRecDepth 100000 in
theorem zVic_90 : Cond.instanceMethod (zY 110) ∈ tables_1 := List.mem_of_getElem? (i := 888) rfl
set_option maxRecDepth 100000 in
theorem zVic_91 : Cond.instanceMethod (zY 111) ∈ tables_1 := List.mem_of_getElem? (i := 892) rfl
set_option maxRecDepth 100000 in
theorem zVic_92 : Cond.instanceMethod (zY 112) ∈ tables_1 := List.mem_of_getElem? (i := 904) rfl
set_option maxRecDepth 100000 in
theorem zVic_93 : Cond.instanceMethod (zY 113) ∈ tables_1 := List.mem_of_getElem? (i := 911) rfl
set_option maxRecDepth 100000 in
theorem zVic_94 : Cond.instanceMethod (zY 114) ∈ tables_1 := List.mem_of_getElem? (i := 915) rfl
set_option maxRecDepth 100000 in
theorem zVic_95 : Cond.instanceMethod (zY 115) ∈ tables_1 := List.mem_of_getElem? (i := 919) rfl
set_option maxRecDepth 100000 in
theorem zVic_96 : Cond.instanceMethod (zY 116) ∈ tables_1 := List.mem_of_getElem? (i := 927) rfl
set_option maxRecDepth 100000 in
theorem zVic_97 : Cond.instanceMethod (zY 117) ∈ tables_1 := List.mem_of_getElem? (i := 943) rfl
set_option maxRecDepth 100000 in
theorem zVic_98 : Cond.instanceMethod (zY 118) ∈ tables_1 := List.mem_of_getElem? (i := 951) rfl
set_option maxRecDepth 100000 in
theorem zVic_99 : Cond.instanceMethod (zY 119) ∈ tables_1 := List.mem_of_getElem? (i := 955) rfl
set_option maxRecDepth 100000 in
theorem zVic_100 : Cond.instanceMethod (zY 120) ∈ tables_1 := List.mem_of_getElem? (i := 963) rfl
set_option maxRecDepth 100000 in
theorem zVic_101 : Cond.instanceMethod (zY 121) ∈ tables_1 := List.mem_of_getElem? (i := 971) rfl
set_option maxRecDepth 100000 in
theorem zVic_102 : Cond.instanceMethod (zY 122) ∈ tables_1 := List.mem_of_getElem? (i := 979) rfl
set_option maxRecDepth 100000 in
theorem zVic_103 : Cond.instanceMethod (zY 123) ∈ tables_1 := List.mem_of_getElem? (i := 983) rfl
set_option maxRecDepth 100000 in
theorem zVic_104 : Cond.instanceMethod (zY 124) ∈ tables_1 := List.mem_of_getElem? (i := 998) rfl
set_option maxRecDepth 100000 in
theorem zVic_105 : Cond.instanceMethod (zY 125) ∈ tables_1 := List.mem_of_getElem? (i := 1002) rfl
set_option maxRecDepth 100000 in
theorem zVic_106 : Cond.instanceMethod (zY 126) ∈ tables_1 := List.mem_of_getElem? (i := 1006) rfl
set_option maxRecDepth 100000 in
theorem zVic_107 : Cond.instanceMethod (zY 127) ∈ tables_1 := List.mem_of_getElem? (i := 1011) rfl
set_option maxRecDepth 100000 in
theorem zVic_108 : Cond.instanceMethod (zY 128) ∈ tables_1 := List.mem_of_getElem? (i := 1016) rfl
set_option maxRecDepth 100000 in
theorem zVic_109 : Cond.instanceMethod (zY 129) ∈ tables_1 := List.mem_of_getElem? (i := 1021) rfl
set_option maxRecDepth 100000 in
theorem zVic_110 : Cond.instanceMethod (zY 130) ∈ tables_1 := List.mem_of_getElem? (i := 1111) rfl
set_option maxRecDepth 100000 in
theorem zVic_111 : Cond.instanceMethod (zY 134) ∈ tables_1 := List.mem_of_getElem? (i := 527) rfl
set_option maxRecDepth 100000 in
theorem zVic_112 : Cond.instanceMethod (zY 135) ∈ tables_1 := List.mem_of_getElem? (i := 587) rfl
set_option maxRecDepth 100000 in
theorem zVic_113 : Cond.instanceMethod (zY 136) ∈ tables_1 := List.mem_of_getElem? (i := 583) rfl
set_option maxRecDepth 100000 in
theorem zVic_114 : Cond.instanceMethod (zY 137) ∈ tables_1 := List.mem_of_getElem? (i := 596) rfl
set_option maxRecDepth 100000 in
theorem zVic_115 : Cond.instanceMethod (zY 138) ∈ tables_1 := List.mem_of_getElem? (i := 677) rfl
set_option maxRecDepth 100000 in
theorem zVic_116 : Cond.instanceMethod (zY 139) ∈ tables_1 := List.mem_of_getElem? (i := 720) rfl
set_option maxRecDepth 100000 in
theorem zVic_117 : Cond.instanceMethod (zY 140) ∈ tables_1 := List.mem_of_getElem? (i := 940) rfl
set_option maxRecDepth 100000 in
theorem zVic_118 : Cond.instanceMethod (zY 141) ∈ tables_1 := List.mem_of_getElem? (i := 413) rfl
set_option maxRecDepth 100000 in
theorem zVic_119 : Cond.instanceMethod (zY 142) ∈ tables_1 := List.mem_of_getElem? (i := 421) rfl
set_option maxRecDepth 100000 in
theorem zVic_120 : Cond.instanceMethod (zY 143) ∈ tables_1 := List.mem_of_getElem? (i := 441) rfl
set_option maxRecDepth 100000 in
theorem zVic_121 : Cond.instanceMethod (zY 146) ∈ tables_1 := List.mem_of_getElem? (i := 548) rfl
set_option maxRecDepth 100000 in
theorem zVic_122 : Cond.instanceMethod (zY 147) ∈ tables_1 := List.mem_of_getElem? (i := 716) rfl
set_option maxRecDepth 100000 in
theorem zVic_123 : Cond.instanceMethod (zY 148) ∈ tables_1 := List.mem_of_getElem? (i := 685) rfl
set_option maxRecDepth 100000 in
theorem zVic_124 : Cond.instanceMethod (zY 149) ∈ tables_1 := List.mem_of_getElem? (i := 754) rfl
set_option maxRecDepth 100000 in
theorem zVic_125 : Cond.instanceMethod (zY 150) ∈ tables_1 := List.mem_of_getElem? (i := 794) rfl
set_option maxRecDepth 100000 in
theorem zVic_126 : Cond.instanceMethod (zY 153) ∈ tables_1 := List.mem_of_getElem? (i := 897) rfl
set_option maxRecDepth 100000 in
theorem zVic_127 : Cond.instanceMethod (zY 154) ∈ tables_1 := List.mem_of_getElem? (i := 805) rfl
set_option maxRecDepth 100000 in
theorem zVic_128 : Cond.instanceMethod (zY 155) ∈ tables_1 := List.mem_of_getElem? (i := 814) rfl
set_option maxRecDepth 100000 in
theorem zVic_129 : Cond.instanceMethod (zY 156) ∈ tables_1 := List.mem_of_getElem? (i := 830) rfl
set_option maxRecDepth 100000 in
theorem zVic_130 : Cond.instanceMethod (zY 157) ∈ tables_1 := List.mem_of_getElem? (i := 834) rfl
set_option maxRecDepth 100000 in
theorem zVic_131 : Cond.instanceMethod (zY 158) ∈ tables_1 := List.mem_of_getElem? (i := 822) rfl
set_option maxRecDepth 100000 in
theorem zVic_132 : Cond.instanceMethod (zY 159) ∈ tables_1 := List.mem_of_getElem? (i := 842) rfl
set_option maxRecDepth 100000 in
theorem zVic_133 : Cond.instanceMethod (zY 161) ∈ tables_1 := List.mem_of_getElem? (i := 876) rfl
set_option maxRecDepth 100000 in
theorem zVic_134 : Cond.instanceMethod (zY 162) ∈ tables_1 := List.mem_of_getElem? (i := 880) rfl
set_option maxRecDepth 100000 in
theorem zVic_135 : Cond.instanceMethod (zY 163) ∈ tables_1 := List.mem_of_getElem? (i := 885) rfl
set_option maxRecDepth 100000 in
theorem zVic_136 : Cond.instanceMethod (zY 164) ∈ tables_1 := List.mem_of_getElem? (i := 924) rfl
set_option maxRecDepth 100000 in
theorem zVic_137 : Cond.instanceMethod (zY 165) ∈ tables_1 := List.mem_of_getElem? (i := 936) rfl
set_option maxRecDepth 100000 in
theorem zVic_138 : Cond.instanceMethod (zY 166) ∈ tables_1 := List.mem_of_getElem? (i := 932) rfl
set_option maxRecDepth 100000 in
theorem zVic_139 : Cond.instanceMethod (zY 167) ∈ tables_1 := List.mem_of_getElem? (i := 968) rfl
set_option maxRecDepth 100000 in
theorem zVic_140 : Cond.instanceMethod (zY 168) ∈ tables_1 := List.mem_of_getElem? (i := 988) rfl
set_option maxRecDepth 100000 in
theorem zVic_141 : Cond.instanceMethod (zY 170) ∈ tables_1 := List.mem_of_getElem? (i := 1277) rfl
set_option maxRecDepth 100000 in
theorem zVic_142 : Cond.instanceMethod (zY 173) ∈ tables_1 := List.mem_of_getElem? (i := 1372) rfl
set_option maxRecDepth 100000 in
theorem zVic_143 : Cond.instanceMethod (zY 174) ∈ tables_1 := List.mem_of_getElem? (i := 1440) rfl
set_option maxRecDepth 100000 in
theorem zVic_144 : Cond.instanceMethod (zY 175) ∈ tables_1 := List.mem_of_getElem? (i := 1368) rfl
set_option maxRecDepth 100000 in
theorem zVic_145 : Cond.instanceMethod (zY 176) ∈ tables_1 := List.mem_of_getElem? (i := 1380) rfl
set_option maxRecDepth 100000 in
theorem zVic_146 : Cond.instanceMethod (zY 177) ∈ tables_1 := List.mem_of_getElem? (i := 1376) rfl
set_option maxRecDepth 100000 in
theorem zVic_147 : Cond.instanceMethod (zY 179) ∈ tables_1 := List.mem_of_getElem? (i := 1281) rfl
set_option maxRecDepth 100000 in
theorem zVic_148 : Cond.instanceMethod (zY 180) ∈ tables_1 := List.mem_of_getElem? (i := 1285) rfl
set_option maxRecDepth 100000 in
theorem zVic_149 : Cond.instanceMethod (zY 181) ∈ tables_1 := List.mem_of_getElem? (i := 1297) rfl
set_option maxRecDepth 100000 in
theorem zVic_150 : Cond.instanceMethod (zY 182) ∈ tables_1 := List.mem_of_getElem? (i := 1317) rfl
set_option maxRecDepth 100000 in
theorem zVic_151 : Cond.instanceMethod (zY 183) ∈ tables_1 := List.mem_of_getElem? (i := 1301) rfl
set_option maxRecDepth 100000 in
theorem zVic_152 : Cond.instanceMethod (zY 184) ∈ tables_1 := List.mem_of_getElem? (i := 1305) rfl
set_option maxRecDepth 100000 in
theorem zVic_153 : Cond.instanceMethod (zY 185) ∈ tables_1 := List.mem_of_getElem? (i := 1325) rfl
set_option maxRecDepth 100000 in
theorem zVic_154 : Cond.instanceMethod (zY 186) ∈ tables_1 := List.mem_of_getElem? (i := 1321) rfl
set_option maxRecDepth 100000 in
theorem zVic_155 : Cond.instanceMethod (zY 187) ∈ tables_1 := List.mem_of_getElem? (i := 1313) rfl
set_option maxRecDepth 100000 in
theorem zVic_156 : Cond.instanceMethod (zY 188) ∈ tables_1 := List.mem_of_getElem? (i := 1329) rfl
set_option maxRecDepth 100000 in
theorem zVic_157 : Cond.instanceMethod (zY 189) ∈ tables_1 := List.mem_of_getElem? (i := 1292) rfl
set_option maxRecDepth 100000 in
theorem zVic_158 : Cond.instanceMethod (zY 191) ∈ tables_1 := List.mem_of_getElem? (i := 1309) rfl
set_option maxRecDepth 100000 in
theorem zVic_159 : Cond.instanceMethod (zY 192) ∈ tables_1 := List.mem_of_getElem? (i := 1335) rfl
set_option maxRecDepth 100000 in
theorem zVic_160 : Cond.instanceMethod (zY 193) ∈ tables_1 := List.mem_of_getElem? (i := 1344) rfl
set_option maxRecDepth 100000 in
theorem zVic_161 : Cond.instanceMethod (zY 194) ∈ tables_1 := List.mem_of_getElem? (i := 1348) rfl
set_option maxRecDepth 100000 in
theorem zVic_162 : Cond.instanceMethod (zY 195) ∈ tables_1 := List.mem_of_getElem? (i := 1352) rfl
set_option maxRecDepth 100000 in
theorem zVic_163 : Cond.instanceMethod (zY 196) ∈ tables_1 := List.mem_of_getElem? (i := 1356) rfl
set_option maxRecDepth 100000 in
theorem zVic_164 : Cond.instanceMethod (zY 197) ∈ tables_1 := List.mem_of_getElem? (i := 1360) rfl
set_option maxRecDepth 100000 in
theorem zVic_165 : Cond.instanceMethod (zY 198) ∈ tables_1 := List.mem_of_getElem? (i := 1339) rfl
set_option maxRecDepth 100000 in
theorem zVic_166 : Cond.instanceMethod (zY 199) ∈ tables_1 := List.mem_of_getElem? (i := 1436) rfl
set_option maxRecDepth 100000 in
theorem zVic_167 : Cond.instanceMethod (zY 200) ∈ tables_1 := List.mem_of_getElem? (i := 1363) rfl
set_option maxRecDepth 100000 in
theorem zVic_168 : Cond.instanceMethod (zY 201) ∈ tables_1 := List.mem_of_getElem? (i := 1383) rfl
set_option maxRecDepth 100000 in
theorem zVic_169 : Cond.instanceMethod (zY 202) ∈ tables_1 := List.mem_of_getElem? (i := 1387) rfl
set_option maxRecDepth 100000 in
theorem zVic_170 : Cond.instanceMethod (zY 203) ∈ tables_1 := List.mem_of_getElem? (i := 1398) rfl
set_option maxRecDepth 100000 in
theorem zVic_171 : Cond.instanceMethod (zY 204) ∈ tables_1 := List.mem_of_getElem? (i := 1393) rfl
set_option maxRecDepth 100000 in
theorem zVic_172 : Cond.instanceMethod (zY 205) ∈ tables_1 := List.mem_of_getElem? (i := 1448) rfl
set_option maxRecDepth 100000 in
theorem zVic_173 : Cond.instanceMethod (zY 206) ∈ tables_1 := List.mem_of_getElem? (i := 1452) rfl
set_option maxRecDepth 100000 in
theorem zVic_174 : Cond.instanceMethod (zY 207) ∈ tables_1 := List.mem_of_getElem? (i := 1456) rfl
set_option maxRecDepth 100000 in
theorem zVic_175 : Cond.instanceMethod (zY 209) ∈ tables_1 := List.mem_of_getElem? (i := 1414) rfl
set_option maxRecDepth 100000 in
theorem zVic_176 : Cond.instanceMethod (zY 210) ∈ tables_1 := List.mem_of_getElem? (i := 1410) rfl
set_option maxRecDepth 100000 in
theorem zVic_177 : Cond.instanceMethod (zY 212) ∈ tables_1 := List.mem_of_getElem? (i := 1405) rfl
set_option maxRecDepth 100000 in
theorem zVic_178 : Cond.instanceMethod (zY 213) ∈ tables_1 := List.mem_of_getElem? (i := 1428) rfl
set_option maxRecDepth 100000 in
theorem zVic_179 : Cond.instanceMethod (zY 214) ∈ tables_1 := List.mem_of_getElem? (i := 1423) rfl
set_option maxRecDepth 100000 in
theorem zVic_180 : Cond.instanceMethod (zY 215) ∈ tables_1 := List.mem_of_getElem? (i := 1431) rfl
set_option maxRecDepth 100000 in
theorem zVic_181 : Cond.instanceMethod (zY 216) ∈ tables_1 := List.mem_of_getElem? (i := 1460) rfl
set_option maxRecDepth 100000 in
theorem zVic_182 : Cond.instanceMethod (zY 217) ∈ tables_1 := List.mem_of_getElem? (i := 1443) rfl
set_option maxRecDepth 100000 in
theorem zVic_183 : Cond.instanceMethod (zY 218) ∈ tables_1 := List.mem_of_getElem? (i := 1463) rfl
set_option maxRecDepth 100000 in
theorem zVic_184 : Cond.instanceMethod (zY 219) ∈ tables_1 := List.mem_of_getElem? (i := 1467) rfl
set_option maxRecDepth 100000 in
theorem zVic_185 : Cond.instanceMethod (zY 220) ∈ tables_1 := List.mem_of_getElem? (i := 1472) rfl
set_option maxRecDepth 100000 in
theorem zVic_186 : Cond.instanceMethod (zY 221) ∈ tables_1 := List.mem_of_getElem? (i := 1476) rfl
set_option maxRecDepth 100000 in
theorem zVic_187 : Cond.instanceMethod (zY 222) ∈ tables_1 := List.mem_of_getElem? (i := 1479) rfl
set_option maxRecDepth 100000 in
theorem zVic_188 : Cond.instanceMethod (zY 223) ∈ tables_1 := List.mem_of_getElem? (i := 1488) rfl
set_option maxRecDepth 100000 in
theorem zVic_189 : Cond.instanceMethod (zY 224) ∈ tables_1 := List.mem_of_getElem? (i := 1492) rfl
set_option maxRecDepth 100000 in
theorem zVic_190 : Cond.instanceMethod (zY 225) ∈ tables_1 := List.mem_of_getElem? (i := 1483) rfl
set_option maxRecDepth 100000 in
theorem zVic_191 : Cond.instanceMethod (zY 226) ∈ tables_1 := List.mem_of_getElem? (i := 1495) rfl
set_option maxRecDepth 100000 in
theorem zVic_192 : Cond.instanceMethod (zY 227) ∈ tables_1 := List.mem_of_getElem? (i := 1504) rfl
set_option maxRecDepth 100000 in
theorem zVic_193 : Cond.instanceMethod (zY 228) ∈ tables_1 := List.mem_of_getElem? (i := 1508) rfl
set_option maxRecDepth 100000 in
theorem zVic_194 : Cond.instanceMethod (zY 229) ∈ tables_1 := List.mem_of_getElem? (i := 1499) rfl
set_option maxRecDepth 100000 in
theorem zVic_195 : Cond.instanceMethod (zY 230) ∈ tables_1 := List.mem_of_getElem? (i := 1516) rfl
set_option maxRecDepth 100000 in
theorem zVic_196 : Cond.instanceMethod (zY 231) ∈ tables_1 := List.mem_of_getElem? (i := 1511) rfl
set_option maxRecDepth 100000 in
theorem zVic_197 : Cond.instanceMethod (zY 232) ∈ tables_1 := List.mem_of_getElem? (i := 1519) rfl
set_option maxRecDepth 100000 in
theorem zVic_198 : Cond.instanceMethod (zY 233) ∈ tables_1 := List.mem_of_getElem? (i := 1523) rfl
set_option maxRecDepth 100000 in
theorem zVic_199 : Cond.instanceMethod (zY 234) ∈ tables_1 := List.mem_of_getElem? (i := 1535) rfl
set_option maxRecDepth 100000 in
theorem zVic_200 : Cond.instanceMethod (zY 235) ∈ tables_1 := List.mem_of_getElem? (i := 1527) rfl
set_option maxRecDepth 100000 in
theorem zVic_201 : Cond.instanceMethod (zY 236) ∈ tables_1 := List.mem_of_getElem? (i := 1547) rfl
set_option maxRecDepth 100000 in
theorem zVic_202 : Cond.instanceMethod (zY 237) ∈ tables_1 := List.mem_of_getElem? (i := 1543) rfl
set_option maxRecDepth 100000 in
theorem zVic_203 : Cond.instanceMethod (zY 238) ∈ tables_1 := List.mem_of_getElem? (i := 1538) rfl
set_option maxRecDepth 100000 in
theorem zVic_204 : Cond.instanceMethod (zY 239) ∈ tables_1 := List.mem_of_getElem? (i := 1550) rfl
set_option maxRecDepth 100000 in
theorem zVic_205 : Cond.instanceMethod (zY 240) ∈ tables_1 := List.mem_of_getElem? (i := 1554) rfl
set_option maxRecDepth 100000 in
theorem zVic_206 : Cond.instanceMethod (zY 241) ∈ tables_1 := List.mem_of_getElem? (i := 1563) rfl
set_option maxRecDepth 100000 in
theorem zVic_207 : Cond.instanceMethod (zY 242) ∈ tables_1 := List.mem_of_getElem? (i := 1558) rfl
set_option maxRecDepth 100000 in
theorem zVic_208 : Cond.instanceMethod (zY 243) ∈ tables_1 := List.mem_of_getElem? (i := 1567) rfl
set_option maxRecDepth 100000 in
theorem zVic_209 : Cond.instanceMethod (zY 244) ∈ tables_1 := List.mem_of_getElem? (i := 1572) rfl
set_option maxRecDepth 100000 in
theorem zVic_210 : Cond.instanceMethod (zY 245) ∈ tables_1 := List.mem_of_getElem? (i := 1575) rfl
set_option maxRecDepth 100000 in
theorem zVic_211 : Cond.instanceMethod (zY 247) ∈ tables_1 := List.mem_of_getElem? (i := 1585) rfl
set_option maxRecDepth 100000 in
theorem zVic_212 : Cond.instanceMethod (zY 248) ∈ tables_1 := List.mem_of_getElem? (i := 1579) rfl
set_option maxRecDepth 100000 in
theorem zVic_213 : Cond.instanceMethod (zY 250) ∈ tables_1 := List.mem_of_getElem? (i := 1592) rfl
set_option maxRecDepth 100000 in
theorem zVic_214 : Cond.instanceMethod (zY 251) ∈ tables_1 := List.mem_of_getElem? (i := 1599) rfl
set_option maxRecDepth 100000 in
theorem zVic_215 : Cond.instanceMethod (zY 252) ∈ tables_1 := List.mem_of_getElem? (i := 1603) rfl
set_option maxRecDepth 100000 in
theorem zVic_216 : Cond.instanceMethod (zY 253) ∈ tables_1 := List.mem_of_getElem? (i := 1612) rfl
set_option maxRecDepth 100000 in
theorem zVic_217 : Cond.instanceMethod (zY 254) ∈ tables_1 := List.mem_of_getElem? (i := 1607) rfl
set_option maxRecDepth 100000 in
theorem zVic_218 : Cond.instanceMethod (zY 255) ∈ tables_1 := List.mem_of_getElem? (i := 1620) rfl
set_option maxRecDepth 100000 in
theorem zVic_219 : Cond.instanceMethod (zY 256) ∈ tables_1 := List.mem_of_getElem? (i := 1615) rfl
set_option maxRecDepth 100000 in
theorem zVic_220 : Cond.instanceMethod (zY 257) ∈ tables_1 := List.mem_of_getElem? (i := 1623) rfl
set_option maxRecDepth 100000 in
theorem zVic_221 : Cond.instanceMethod (zY 258) ∈ tables_1 := List.mem_of_getElem? (i := 1627) rfl
set_option maxRecDepth 100000 in
theorem zVic_222 : Cond.instanceMethod (zY 259) ∈ tables_1 := List.mem_of_getElem? (i := 1636) rfl
set_option maxRecDepth 100000 in
theorem zVic_223 : Cond.instanceMethod (zY 260) ∈ tables_1 := List.mem_of_getElem? (i := 1631) rfl
set_option maxRecDepth 100000 in
theorem zVic_224 : Cond.instanceMethod (zY 261) ∈ tables_1 := List.mem_of_getElem? (i := 1639) rfl
set_option maxRecDepth 100000 in
theorem zVic_225 : Cond.instanceMethod (zY 262) ∈ tables_1 := List.mem_of_getElem? (i := 1644) rfl
set_option maxRecDepth 100000 in
theorem zVic_226 : Cond.instanceMethod (zY 263) ∈ tables_1 := List.mem_of_getElem? (i := 1648) rfl
set_option maxRecDepth 100000 in
theorem zVic_227 : Cond.instanceMethod (zY 264) ∈ tables_1 := List.mem_of_getElem? (i := 1661) rfl
set_option maxRecDepth 100000 in
theorem zVic_228 : Cond.instanceMethod (zY 265) ∈ tables_1 := List.mem_of_getElem? (i := 1657) rfl
set_option maxRecDepth 100000 in
theorem zVic_229 : Cond.instanceMethod (zY 266) ∈ tables_1 := List.mem_of_getElem? (i := 1652) rfl
set_option maxRecDepth 100000 in
theorem zVic_230 : Cond.instanceMethod (zY 267) ∈ tables_1 := List.mem_of_getElem? (i := 1664) rfl
set_option maxRecDepth 100000 in
theorem zVic_231 : Cond.instanceMethod (zY 268) ∈ tables_1 := List.mem_of_getElem? (i := 1668) rfl
set_option maxRecDepth 100000 in
theorem zVic_232 : Cond.instanceMethod (zY 269) ∈ tables_1 := List.mem_of_getElem? (i := 1672) rfl
set_option maxRecDepth 100000 in
theorem zVic_233 : Cond.instanceMethod (zY 270) ∈ tables_1 := List.mem_of_getElem? (i := 1677) rfl
set_option maxRecDepth 100000 in
theorem zVic_234 : Cond.instanceMethod (zY 271) ∈ tables_1 := List.mem_of_getElem? (i := 1681) rfl
set_option maxRecDepth 100000 in
theorem zVic_235 : Cond.instanceMethod (zY 272) ∈ tables_1 := List.mem_of_getElem? (i := 1685) rfl
set_option maxRecDepth 100000 in
theorem zVic_236 : Cond.instanceMethod (zY 273) ∈ tables_1 := List.mem_of_getElem? (i := 1689) rfl
def zVic_l0 : List (Nat) := [7, 8, 9, 10, 12, 13, 14, 15, 16, 17, 18, 20, 21, 23, 24, 26]
theorem zVic_r0 : ∀ q ∈ zVic_l0, Cond.instanceMethod (zY q) ∈ tables_1 := List.forall_mem_cons.mpr ⟨zVic_0, List.forall_mem_cons.mpr ⟨zVic_1, List.forall_mem_cons.mpr ⟨zVic_2, List.forall_mem_cons.mpr ⟨zVic_3, List.forall_mem_cons.mpr ⟨zVic_4, List.forall_mem_cons.mpr ⟨zVic_5, List.forall_mem_cons.mpr ⟨zVic_6, List.forall_mem_cons.mpr ⟨zVic_7, List.forall_mem_cons.mpr ⟨zVic_8, List.forall_mem_cons.mpr ⟨zVic_9, List.forall_mem_cons.mpr ⟨zVic_10, List.forall_mem_cons.mpr ⟨zVic_11, List.forall_mem_cons.mpr ⟨zVic_12, List.forall_mem_cons.mpr ⟨zVic_13, List.forall_mem_cons.mpr ⟨zVic_14, List.forall_mem_cons.mpr ⟨zVic_15, fun _ h => absurd h List.not_mem_nil⟩⟩⟩⟩⟩⟩⟩⟩⟩⟩⟩⟩⟩⟩⟩⟩
def zVic_l1 : List (Nat) := [27, 28, 29, 30, 31, 32, 33, 35, 36, 37, 39, 40, 41, 42, 43, 46]
theorem zVic_r1 : ∀ q ∈ zVic_l1, Cond.instanceMethod (zY q) ∈ tables_1 := List.forall_mem_cons.mpr ⟨zVic_16, List.forall_mem_cons.mpr ⟨zVic_17, List.forall_mem_cons.mpr ⟨zVic_18, List.forall_mem_cons.mpr ⟨zVic_19, List.forall_mem_cons.mpr ⟨zVic_20, List.forall_mem_cons.mpr ⟨zVic_21, List.forall_mem_cons.mpr ⟨zVic_22, List.forall_mem_cons.mpr ⟨zVic_23, List.forall_mem_cons.mpr ⟨zVic_24, List.forall_mem_cons.mpr ⟨zVic_25, List.forall_mem_cons.mpr ⟨zVic_26, List.forall_mem_cons.mpr ⟨zVic_27, List.forall_mem_cons.mpr ⟨zVic_28, List.forall_mem_cons.mpr ⟨zVic_29, List.forall_mem_cons.mpr ⟨zVic_30, List.forall_mem_cons.mpr ⟨zVic_31, fun _ h => absurd h List.not_mem_nil⟩⟩⟩⟩⟩⟩⟩⟩⟩⟩⟩⟩⟩⟩⟩⟩
def zVic_l2 : List (Nat) := [47, 48, 49, 50, 51, 52, 53, 56, 57, 59, 60, 61, 62, 63, 64, 65]
theorem zVic_r2 : ∀ q ∈ zVic_l2, Cond.instanceMethod (zY q) ∈ tables_1 := List.forall_mem_cons.mpr ⟨zVic_32, List.forall_mem_cons.mpr ⟨zVic_33, List.forall_mem_cons.mpr ⟨zVic_34, List.forall_mem_cons.mpr ⟨zVic_35, List.forall_mem_cons.mpr ⟨zVic_36, List.forall_mem_cons.mpr ⟨zVic_37, List.forall_mem_cons.mpr ⟨zVic_38, List.forall_mem_cons.mpr ⟨zVic_39, List.forall_mem_cons.mpr ⟨zVic_40, List.forall_mem_cons.mpr ⟨zVic_41, List.forall_mem_cons.mpr ⟨zVic_42, List.forall_mem_cons.mpr ⟨zVic_43, List.forall_mem_cons.mpr ⟨zVic_44, List.forall_mem_cons.mpr ⟨zVic_45, List.forall_mem_cons.mpr ⟨zVic_46, List.forall_mem_cons.mpr ⟨zVic_47, fun _ h => absurd h List.not_mem_nil⟩⟩⟩⟩⟩⟩⟩⟩⟩⟩⟩⟩⟩⟩⟩⟩
def zVic_l3 : List (Nat) := [66, 67, 68, 69, 71, 72, 73, 74, 75, 76, 77, 78, 79, 80, 82, 83]
theorem zVic_r3 : ∀ q ∈ zVic_l3, Cond.instanceMethod (zY q) ∈ tables_1 := List.forall_mem_cons.mpr ⟨zVic_48, List.forall_mem_cons.mpr ⟨zVic_49, List.forall_mem_cons.mpr ⟨zVic_50, List.forall_mem_cons.mpr ⟨zVic_51, List.forall_mem_cons.mpr ⟨zVic_52, List.forall_mem_cons.mpr ⟨zVic_53, List.forall_mem_cons.mpr ⟨zVic_54, List.forall_mem_cons.mpr ⟨zVic_55, List.forall_mem_cons.mpr ⟨zVic_56, List.forall_mem_cons.mpr ⟨zVic_57, List.forall_mem_cons.mpr ⟨zVic_58, List.forall_mem_cons.mpr ⟨zVic_59, List.forall_mem_cons.mpr ⟨zVic_60, List.forall_mem_cons.mpr ⟨zVic_61, List.forall_mem_cons.mpr ⟨zVic_62, List.forall_mem_cons.mpr ⟨zVic_63, fun _ h => absurd h List.not_mem_nil⟩⟩⟩⟩⟩⟩⟩⟩⟩⟩⟩⟩⟩⟩⟩⟩
def zVic_l4 : List (Nat) := [84, 85, 86, 87, 88, 89, 90, 91, 92, 93, 94, 95, 96, 97, 98, 99]
theorem zVic_r4 : ∀ q ∈ zVic_l4, Cond.instanceMethod (zY q) ∈ tables_1 := List.forall_mem_cons.mpr ⟨zVic_64, List.forall_mem_cons.mpr ⟨zVic_65, List.forall_mem_cons.mpr ⟨zVic_66, List.forall_mem_cons.mpr ⟨zVic_67, List.forall_mem_cons.mpr ⟨zVic_68, List.forall_mem_cons.mpr ⟨zVic_69, List.forall_mem_cons.mpr ⟨zVic_70, List.forall_mem_cons.mpr ⟨zVic_71, List.forall_mem_cons.mpr ⟨zVic_72, List.forall_mem_cons.mpr ⟨zVic_73, List.forall_mem_cons.mpr ⟨zVic_74, List.forall_mem_cons.mpr ⟨zVic_75, List.forall_mem_cons.mpr ⟨zVic_76, List.forall_mem_cons.mpr ⟨zVic_77, List.forall_mem_cons.mpr ⟨zVic_78, List.forall_mem_cons.mpr ⟨zVic_79, fun _ h => absurd h List.not_mem_nil⟩⟩⟩⟩⟩⟩⟩⟩⟩⟩⟩⟩⟩⟩⟩⟩
def zVic_l5 : List (Nat) := [100, 101, 102, 103, 104, 105, 106, 107, 108, 109, 110, 111, 112, 113, 114, 115]
theorem zVic_r5 : ∀ q ∈ zVic_l5, Cond.instanceMethod (zY q) ∈ tables_1 := List.forall_mem_cons.mpr ⟨zVic_80, List.forall_mem_cons.mpr ⟨zVic_81, List.forall_mem_cons.mpr ⟨zVic_82, List.forall_mem_cons.mpr ⟨zVic_83, List.forall_mem_cons.mpr ⟨zVic_84, List.forall_mem_cons.mpr ⟨zVic_85, List.forall_mem_cons.mpr ⟨zVic_86, List.forall_mem_cons.mpr ⟨zVic_87, List.forall_mem_cons.mpr ⟨zVic_88, List.forall_mem_cons.mpr ⟨zVic_89, List.forall_mem_cons.mpr ⟨zVic_90, List.forall_mem_cons.mpr ⟨zVic_91, List.forall_mem_cons.mpr ⟨zVic_92, List.forall_mem_cons.mpr ⟨zVic_93, List.forall_mem_cons.mpr ⟨zVic_94, List.forall_mem_cons.mpr ⟨zVic_95, fun _ h => absurd h List.not_mem_nil⟩⟩⟩⟩⟩⟩⟩⟩⟩⟩⟩⟩⟩⟩⟩⟩
def zVic_l6 : List (Nat) := [116, 117, 118, 119, 120, 121, 122, 123, 124, 125, 126, 127, 128, 129, 130, 134]
theorem zVic_r6 : ∀ q ∈ zVic_l6, Cond.instanceMethod (zY q) ∈ tables_1 := List.forall_mem_cons.mpr ⟨zVic_96, List.forall_mem_cons.mpr ⟨zVic_97, List.forall_mem_cons.mpr ⟨zVic_98, List.forall_mem_cons.mpr ⟨zVic_99, List.forall_mem_cons.mpr ⟨zVic_100, List.forall_mem_cons.mpr ⟨zVic_101, List.forall_mem_cons.mpr ⟨zVic_102, List.forall_mem_cons.mpr ⟨zVic_103, List.forall_mem_cons.mpr ⟨zVic_104, List.forall_mem_cons.mpr ⟨zVic_105, List.forall_mem_cons.mpr ⟨zVic_106, List.forall_mem_cons.mpr ⟨zVic_107, List.forall_mem_cons.mpr ⟨zVic_108, List.forall_mem_cons.mpr ⟨zVic_109, List.forall_mem_cons.mpr ⟨zVic_110, List.forall_mem_cons.mpr ⟨zVic_111, fun _ h => absurd h List.not_mem_nil⟩⟩⟩⟩⟩⟩⟩⟩⟩⟩⟩⟩⟩⟩⟩⟩
def zVic_l7 : List (Nat) := [135, 136, 137, 138, 139, 140, 141, 142, 143, 146, 147, 148, 149, 150, 153, 154]
theorem zVic_r7 : ∀ q ∈ zVic_l7, Cond.instanceMethod (zY q) ∈ tables_1 := List.forall_mem_cons.mpr ⟨zVic_112, List.forall_mem_cons.mpr ⟨zVic_113, List.forall_mem_cons.mpr ⟨zVic_114, List.forall_mem_cons.mpr ⟨zVic_115, List.forall_mem_cons.mpr ⟨zVic_116, List.forall_mem_cons.mpr ⟨zVic_117, List.forall_mem_cons.mpr ⟨zVic_118, List.forall_mem_cons.mpr ⟨zVic_119, List.forall_mem_cons.mpr ⟨zVic_120, List.forall_mem_cons.mpr ⟨zVic_121, List.forall_mem_cons.mpr ⟨zVic_122, List.forall_mem_cons.mpr ⟨zVic_123, List.forall_mem_cons.mpr ⟨zVic_124, List.forall_mem_cons.mpr ⟨zVic_125, List.forall_mem_cons.mpr ⟨zVic_126, List.forall_mem_cons.mpr ⟨zVic_127, fun _ h => absurd h List.not_mem_nil⟩⟩⟩⟩⟩⟩⟩⟩⟩⟩⟩⟩⟩⟩⟩⟩
def zVic_l8 : List (Nat) := [155, 156, 157, 158, 159, 161, 162, 163, 164, 165, 166, 167, 168, 170, 173, 174]
theorem zVic_r8 : ∀ q ∈ zVic_l8, Cond.instanceMethod (zY q) ∈ tables_1 := List.forall_mem_cons.mpr ⟨zVic_128, List.forall_mem_cons.mpr ⟨zVic_129, List.forall_mem_cons.mpr ⟨zVic_130, List.forall_mem_cons.mpr ⟨zVic_131, List.forall_mem_cons.mpr ⟨zVic_132, List.forall_mem_cons.mpr ⟨zVic_133, List.forall_mem_cons.mpr ⟨zVic_134, List.forall_mem_cons.mpr ⟨zVic_135, List.forall_mem_cons.mpr ⟨zVic_136, List.forall_mem_cons.mpr ⟨zVic_137, List.forall_mem_cons.mpr ⟨zVic_138, List.forall_mem_cons.mpr ⟨zVic_139, List.forall_mem_cons.mpr ⟨zVic_140, List.forall_mem_cons.mpr ⟨zVic_141, List.forall_mem_cons.mpr ⟨zVic_142, List.forall_mem_cons.mpr ⟨zVic_143, fun _ h => absurd h List.not_mem_nil⟩⟩⟩⟩⟩⟩⟩⟩⟩⟩⟩⟩⟩⟩⟩⟩
def zVic_l9 : List (Nat) := [175, 176, 177, 179, 180, 181, 182, 183, 184, 185, 186, 187, 188, 189, 191, 192]
theorem zVic_r9 : ∀ q ∈ zVic_l9, Cond.instanceMethod (zY q) ∈ tables_1 := List.forall_mem_cons.mpr ⟨zVic_144, List.forall_mem_cons.mpr ⟨zVic_145, List.forall_mem_cons.mpr ⟨zVic_146, List.forall_mem_cons.mpr ⟨zVic_147, List.forall_mem_cons.mpr ⟨zVic_148, List.forall_mem_cons.mpr ⟨zVic_149, List.forall_mem_cons.mpr ⟨zVic_150, List.forall_mem_cons.mpr ⟨zVic_151, List.forall_mem_cons.mpr ⟨zVic_152, List.forall_mem_cons.mpr ⟨zVic_153, List.forall_mem_cons.mpr ⟨zVic_154, List.forall_mem_cons.mpr ⟨zVic_155, List.forall_mem_cons.mpr ⟨zVic_156, List.forall_mem_cons.mpr ⟨zVic_157, List.forall_mem_cons.mpr ⟨zVic_158, List.forall_mem_cons.mpr ⟨zVic_159, fun _ h => absurd h List.not_mem_nil⟩⟩⟩⟩⟩⟩⟩⟩⟩⟩⟩⟩⟩⟩⟩⟩
def zVic_l10 : List (Nat) := [193, 194, 195, 196, 197, 198, 199, 200, 201, 202, 203, 204, 205, 206, 207, 209]
theorem zVic_r10 : ∀ q ∈ zVic_l10, Cond.instanceMethod (zY q) ∈ tables_1 := List.forall_mem_cons.mpr ⟨zVic_160, List.forall_mem_cons.mpr ⟨zVic_161, List.forall_mem_cons.mpr ⟨zVic_162, List.forall_mem_cons.mpr ⟨zVic_163, List.forall_mem_cons.mpr ⟨zVic_164, List.forall_mem_cons.mpr ⟨zVic_165, List.forall_mem_cons.mpr ⟨zVic_166, List.forall_mem_cons.mpr ⟨zVic_167, List.forall_mem_cons.mpr ⟨zVic_168, List.forall_mem_cons.mpr ⟨zVic_169, List.forall_mem_cons.mpr ⟨zVic_170, List.forall_mem_cons.mpr ⟨zVic_171, List.forall_mem_cons.mpr ⟨zVic_172, List.forall_mem_cons.mpr ⟨zVic_173, List.forall_mem_cons.mpr ⟨zVic_174, List.forall_mem_cons.mpr ⟨zVic_175, fun _ h => absurd h List.not_mem_nil⟩⟩⟩⟩⟩⟩⟩⟩⟩⟩⟩⟩⟩⟩⟩⟩
def zVic_l11 : List (Nat) := [210, 212, 213, 214, 215, 216, 217, 218, 219, 220, 221, 222, 223, 224, 225, 226]
theorem zVic_r11 : ∀ q ∈ zVic_l11, Cond.instanceMethod (zY q) ∈ tables_1 := List.forall_mem_cons.mpr ⟨zVic_176, List.forall_mem_cons.mpr ⟨zVic_177, List.forall_mem_cons.mpr ⟨zVic_178, List.forall_mem_cons.mpr ⟨zVic_179, List.forall_mem_cons.mpr ⟨zVic_180, List.forall_mem_cons.mpr ⟨zVic_181, List.forall_mem_cons.mpr ⟨zVic_182, List.forall_mem_cons.mpr ⟨zVic_183, List.forall_mem_cons.mpr ⟨zVic_184, List.forall_mem_cons.mpr ⟨zVic_185, List.forall_mem_cons.mpr ⟨zVic_186, List.forall_mem_cons.mpr ⟨zVic_187, List.forall_mem_cons.mpr ⟨zVic_188, List.forall_mem_cons.mpr ⟨zVic_189, List.forall_mem_cons.mpr ⟨zVic_190, List.forall_mem_cons.mpr ⟨zVic_191, fun _ h => absurd h List.not_mem_nil⟩⟩⟩⟩⟩⟩⟩⟩⟩⟩⟩⟩⟩⟩⟩⟩
def zVic_l12 : List (Nat) := [227, 228, 229, 230, 231, 232, 233, 234, 235, 236, 237, 238, 239, 240, 241, 242]
theorem zVic_r12 : ∀ q ∈ zVic_l12, Cond.instanceMethod (zY q) ∈ tables_1 := List.forall_mem_cons.mpr ⟨zVic_192, List.forall_mem_cons.mpr ⟨zVic_193, List.forall_mem_cons.mpr ⟨zVic_194, List.forall_mem_cons.mpr ⟨zVic_195, List.forall_mem_cons.mpr ⟨zVic_196, List.forall_mem_cons.mpr ⟨zVic_197, List.forall_mem_cons.mpr ⟨zVic_198, List.forall_mem_cons.mpr ⟨zVic_199, List.forall_mem_cons.mpr ⟨zVic_200, List.forall_mem_cons.mpr ⟨zVic_201, List.forall_mem_cons.mpr ⟨zVic_202, List.forall_mem_cons.mpr ⟨zVic_203, List.forall_mem_cons.mpr ⟨zVic_204, List.forall_mem_cons.mpr ⟨zVic_205, List.forall_mem_cons.mpr ⟨zVic_206, List.forall_mem_cons.mpr ⟨zVic_207, fun _ h => absurd h List.not_mem_nil⟩⟩⟩⟩⟩⟩⟩⟩⟩⟩⟩⟩⟩⟩⟩⟩
def zVic_l13 : List (Nat) := [243, 244, 245, 247, 248, 250, 251, 252, 253, 254, 255, 256, 257, 258, 259, 260]
theorem zVic_r13 : ∀ q ∈ zVic_l13, Cond.instanceMethod (zY q) ∈ tables_1 := List.forall_mem_cons.mpr ⟨zVic_208, List.forall_mem_cons.mpr ⟨zVic_209, List.forall_mem_cons.mpr ⟨zVic_210, List.forall_mem_cons.mpr ⟨zVic_211, List.forall_mem_cons.mpr ⟨zVic_212, List.forall_mem_cons.mpr ⟨zVic_213, List.forall_mem_cons.mpr ⟨zVic_214, List.forall_mem_cons.mpr ⟨zVic_215, List.forall_mem_cons.mpr ⟨zVic_216, List.forall_mem_cons.mpr ⟨zVic_217, List.forall_mem_cons.mpr ⟨zVic_218, List.forall_mem_cons.mpr ⟨zVic_219, List.forall_mem_cons.mpr ⟨zVic_220, List.forall_mem_cons.mpr ⟨zVic_221, List.forall_mem_cons.mpr ⟨zVic_222, List.forall_mem_cons.mpr ⟨zVic_223, fun _ h => absurd h List.not_mem_nil⟩⟩⟩⟩⟩⟩⟩⟩⟩⟩⟩⟩⟩⟩⟩⟩
def zVic_l14 : List (Nat) := [261, 262, 263, 264, 265, 266, 267, 268, 269, 270, 271, 272, 273]
theorem zVic_r14 : ∀ q ∈ zVic_l14, Cond.instanceMethod (zY q) ∈ tables_1 := List.forall_mem_cons.mpr ⟨zVic_224, List.forall_mem_cons.mpr ⟨zVic_225, List.forall_mem_cons.mpr ⟨zVic_226, List.forall_mem_cons.mpr ⟨zVic_227, List.forall_mem_cons.mpr ⟨zVic_228, List.forall_mem_cons.mpr ⟨zVic_229, List.forall_mem_cons.mpr ⟨zVic_230, List.forall_mem_cons.mpr ⟨zVic_231, List.forall_mem_cons.mpr ⟨zVic_232, List.forall_mem_cons.mpr ⟨zVic_233, List.forall_mem_cons.mpr ⟨zVic_234, List.forall_mem_cons.mpr ⟨zVic_235, List.forall_mem_cons.mpr ⟨zVic_236, fun _ h => absurd h List.not_mem_nil⟩⟩⟩⟩⟩⟩⟩⟩⟩⟩⟩⟩⟩
theorem zVic_sp : zVi = zVic_l0 ++ (zVic_l1 ++ (zVic_l2 ++ (zVic_l3 ++ (zVic_l4 ++ (zVic_l5 ++ (zVic_l6 ++ (zVic_l7 ++ (zVic_l8 ++ (zVic_l9 ++ (zVic_l10 ++ (zVic_l11 ++ (zVic_l12 ++ (zVic_l13 ++ (zVic_l14)))))))))))))) := by decide +kernel
theorem zVic_all : ∀ q ∈ zVi, Cond.instanceMethod (zY q) ∈ tables_1 := by
  rw [zVic_sp]
  exact List.forall_mem_append.mpr ⟨zVic_r0, List.forall_mem_append.mpr ⟨zVic_r1, List.forall_mem_append.mpr ⟨zVic_r2, List.forall_mem_append.mpr ⟨zVic_r3, List.forall_mem_append.mpr ⟨zVic_r4, List.forall_mem_append.mpr ⟨zVic_r5, List.forall_mem_append.mpr ⟨zVic_r6, List.forall_mem_append.mpr ⟨zVic_r7, List.forall_mem_append.mpr ⟨zVic_r8, List.forall_mem_append.mpr ⟨zVic_r9, List.forall_mem_append.mpr ⟨zVic_r10, List.forall_mem_append.mpr ⟨zVic_r11, List.forall_mem_append.mpr ⟨zVic_r12, List.forall_mem_append.mpr ⟨zVic_r13, zVic_r14⟩⟩⟩⟩⟩⟩⟩⟩⟩⟩⟩⟩⟩⟩
set_option maxRecDepth 100000 in
theorem zVis_0 : Cond.selects (zY 7).cls (zY 7) (zY 7) ∈ lw_tbl := List.mem_of_getElem? (i := 822) rfl
set_option maxRecDepth 100000 in
theorem zVis_1 : Cond.selects (zY 8).cls (zY 8) (zY 8) ∈ lw_tbl := List.mem_of_getElem? (i := 22) rfl
set_option maxRecDepth 100000 in
theorem zVis_2 : Cond.selects (zY 9).cls (zY 9) (zY 9) ∈ lw_tbl := List.mem_of_getElem? (i := 23) rfl
set_option maxRecDepth 100000 in
theorem zVis_3 : Cond.selects (zY 10).cls (zY 10) (zY 10) ∈ lw_tbl := List.mem_of_getElem? (i := 24) rfl
set_option maxRecDepth 100000 in
theorem zVis_4 : Cond.selects (zY 12).cls (zY 12) (zY 12) ∈ lw_tbl := List.mem_of_getElem? (i := 703) rfl
set_option maxRecDepth 100000 in
theorem zVis_5 : Cond.selects (zY 13).cls (zY 13) (zY 13) ∈ lw_tbl := List.mem_of_getElem? (i := 864) rfl
set_option maxRecDepth 100000 in
theorem zVis_6 : Cond.selects (zY 14).cls (zY 14) (zY 14) ∈ lw_tbl := List.mem_of_getElem? (i := 799) rfl
set_option maxRecDepth 100000 in
theorem zVis_7 : Cond.selects (zY 15).cls (zY 15) (zY 15) ∈ lw_tbl := List.mem_of_getElem? (i := 795) rfl
set_option maxRecDepth 100000 in
theorem zVis_8 : Cond.selects (zY 16).cls (zY 16) (zY 16) ∈ lw_tbl := List.mem_of_getElem? (i := 868) rfl
set_option maxRecDepth 100000 in
theorem zVis_9 : Cond.selects (zY 17).cls (zY 17) (zY 17) ∈ lw_tbl := List.mem_of_getElem? (i := 876) rfl
set_option maxRecDepth 100000 in
theorem zVis_10 : Cond.selects (zY 18).cls (zY 18) (zY 18) ∈ lw_tbl := List.mem_of_getElem? (i := 872) rfl
set_option maxRecDepth 100000 in
theorem zVis_11 : Cond.selects (zY 20).cls (zY 20) (zY 20) ∈ lw_tbl := List.mem_of_getElem? (i := 1038) rfl
set_option maxRecDepth 100000 in
theorem zVis_12 : Cond.selects (zY 21).cls (zY 21) (zY 21) ∈ lw_tbl := List.mem_of_getElem? (i := 1050) rfl
set_option maxRecDepth 100000 in
theorem zVis_13 : Cond.selects (zY 23).cls (zY 23) (zY 23) ∈ lw_tbl := List.mem_of_getElem? (i := 694) rfl
set_option maxRecDepth 100000 in
theorem zVis_14 : Cond.selects (zY 24).cls (zY 24) (zY 24) ∈ lw_tbl := List.mem_of_getElem? (i := 856) rfl
set_option maxRecDepth 100000 in
theorem zVis_15 : Cond.selects (zY 26).cls (zY 26) (zY 26) ∈ lw_tbl := List.mem_of_getElem? (i := 698) rfl
set_option maxRecDepth 100000 in
theorem zVis_16 : Cond.selects (zY 27).cls (zY 27) (zY 27) ∈ lw_tbl := List.mem_of_getElem? (i := 713) rfl
set_option maxRecDepth 100000 in
theorem zVis_17 : Cond.selects (zY 28).cls (zY 28) (zY 28) ∈ lw_tbl := List.mem_of_getElem? (i := 726) rfl
set_option maxRecDepth 100000 in
theorem zVis_18 : Cond.selects (zY 29).cls (zY 29) (zY 29) ∈ lw_tbl := List.mem_of_getElem? (i := 233) rfl
set_option maxRecDepth 100000 in
theorem zVis_19 : Cond.selects (zY 30).cls (zY 30) (zY 30) ∈ lw_tbl := List.mem_of_getElem? (i := 943) rfl
set_option maxRecDepth 100000 in
theorem zVis_20 : Cond.selects (zY 31).cls (zY 31) (zY 31) ∈ lw_tbl := List.mem_of_getElem? (i := 722) rfl
set_option maxRecDepth 100000 in
theorem zVis_21 : Cond.selects (zY 32).cls (zY 32) (zY 32) ∈ lw_tbl := List.mem_of_getElem? (i := 936) rfl
set_option maxRecDepth 100000 in
theorem zVis_22 : Cond.selects (zY 33).cls (zY 33) (zY 33) ∈ lw_tbl := List.mem_of_getElem? (i := 788) rfl
set_option maxRecDepth 100000 in
theorem zVis_23 : Cond.selects (zY 35).cls (zY 35) (zY 35) ∈ lw_tbl := List.mem_of_getElem? (i := 690) rfl
set_option maxRecDepth 100000 in
theorem zVis_24 : Cond.selects (zY 36).cls (zY 36) (zY 36) ∈ lw_tbl := List.mem_of_getElem? (i := 708) rfl
set_option maxRecDepth 100000 in
theorem zVis_25 : Cond.selects (zY 37).cls (zY 37) (zY 37) ∈ lw_tbl := List.mem_of_getElem? (i := 852) rfl
set_option maxRecDepth 100000 in
theorem zVis_26 : Cond.selects (zY 39).cls (zY 39) (zY 39) ∈ lw_tbl := List.mem_of_getElem? (i := 153) rfl
set_option maxRecDepth 100000 in
theorem zVis_27 : Cond.selects (zY 40).cls (zY 40) (zY 40) ∈ lw_tbl := List.mem_of_getElem? (i := 606) rfl
set_option maxRecDepth 100000 in
theorem zVis_28 : Cond.selects (zY 41).cls (zY 41) (zY 41) ∈ lw_tbl := List.mem_of_getElem? (i := 554) rfl
set_option maxRecDepth 100000 in
theorem zVis_29 : Cond.selects (zY 42).cls (zY 42) (zY 42) ∈ lw_tbl := List.mem_of_getElem? (i := 751) rfl
set_option maxRecDepth 100000 in
theorem zVis_30 : Cond.selects (zY 43).cls (zY 43) (zY 43) ∈ lw_tbl := List.mem_of_getElem? (i := 755) rfl
set_option maxRecDepth 100000 in
theorem zVis_31 : Cond.selects (zY 46).cls (zY 46) (zY 46) ∈ lw_tbl := List.mem_of_getElem? (i := 563) rfl
set_option maxRecDepth 100000 in
theorem zVis_32 : Cond.selects (zY 47).cls (zY 47) (zY 47) ∈ lw_tbl := List.mem_of_getElem? (i := 10) rfl
set_option maxRecDepth 100000 in
theorem zVis_33 : Cond.selects (zY 48).cls (zY 48) (zY 48) ∈ lw_tbl := List.mem_of_getElem? (i := 4) rfl
set_option maxRecDepth 100000 in
theorem zVis_34 : Cond.selects (zY 49).cls (zY 49) (zY 49) ∈ lw_tbl := List.mem_of_getElem? (i := 5) rfl
set_option maxRecDepth 100000 in
theorem zVis_35 : Cond.selects (zY 50).cls (zY 50) (zY 50) ∈ lw_tbl := List.mem_of_getElem? (i := 6) rfl
set_option maxRecDepth 100000 in
theorem zVis_36 : Cond.selects (zY 51).cls (zY 51) (zY 51) ∈ lw_tbl := List.mem_of_getElem? (i := 7) rfl
set_option maxRecDepth 100000 in
theorem zVis_37 : Cond.selects (zY 52).cls (zY 52) (zY 52) ∈ lw_tbl := List.mem_of_getElem? (i := 8) rfl
set_option maxRecDepth 100000 in
theorem zVis_38 : Cond.selects (zY 53).cls (zY 53) (zY 53) ∈ lw_tbl := List.mem_of_getElem? (i := 9) rfl
set_option maxRecDepth 100000 in
theorem zVis_39 : Cond.selects (zY 56).cls (zY 56) (zY 56) ∈ lw_tbl := List.mem_of_getElem? (i := 1066) rfl
set_option maxRecDepth 100000 in
theorem zVis_40 : Cond.selects (zY 57).cls (zY 57) (zY 57) ∈ lw_tbl := List.mem_of_getElem? (i := 1082) rfl
set_option maxRecDepth 100000 in
theorem zVis_41 : Cond.selects (zY 59).cls (zY 59) (zY 59) ∈ lw_tbl := List.mem_of_getElem? (i := 484) rfl
set_option maxRecDepth 100000 in
theorem zVis_42 : Cond.selects (zY 60).cls (zY 60) (zY 60) ∈ lw_tbl := List.mem_of_getElem? (i := 496) rfl
set_option maxRecDepth 100000 in
theorem zVis_43 : Cond.selects (zY 61).cls (zY 61) (zY 61) ∈ lw_tbl := List.mem_of_getElem? (i := 507) rfl
set_option maxRecDepth 100000 in
theorem zVis_44 : Cond.selects (zY 62).cls (zY 62) (zY 62) ∈ lw_tbl := List.mem_of_getElem? (i := 542) rfl
set_option maxRecDepth 100000 in
theorem zVis_45 : Cond.selects (zY 63).cls (zY 63) (zY 63) ∈ lw_tbl := List.mem_of_getElem? (i := 546) rfl
set_option maxRecDepth 100000 in
theorem zVis_46 : Cond.selects (zY 64).cls (zY 64) (zY 64) ∈ lw_tbl := List.mem_of_getElem? (i := 523) rfl
set_option maxRecDepth 100000 in
theorem zVis_47 : Cond.selects (zY 65).cls (zY 65) (zY 65) ∈ lw_tbl := List.mem_of_getElem? (i := 589) rfl
set_option maxRecDepth 100000 in
theorem zVis_48 : Cond.selects (zY 66).cls (zY 66) (zY 66) ∈ lw_tbl := List.mem_of_getElem? (i := 527) rfl
set_option maxRecDepth 100000 in
theorem zVis_49 : Cond.selects (zY 67).cls (zY 67) (zY 67) ∈ lw_tbl := List.mem_of_getElem? (i := 515) rfl
set_option maxRecDepth 100000 in
theorem zVis_50 : Cond.selects (zY 68).cls (zY 68) (zY 68) ∈ lw_tbl := List.mem_of_getElem? (i := 535) rfl
set_option maxRecDepth 100000 in
theorem zVis_51 : Cond.selects (zY 69).cls (zY 69) (zY 69) ∈ lw_tbl := List.mem_of_getElem? (i := 2) rfl
set_option maxRecDepth 100000 in
theorem zVis_52 : Cond.selects (zY 71).cls (zY 71) (zY 71) ∈ lw_tbl := List.mem_of_getElem? (i := 735) rfl
set_option maxRecDepth 100000 in
theorem zVis_53 : Cond.selects (zY 72).cls (zY 72) (zY 72) ∈ lw_tbl := List.mem_of_getElem? (i := 646) rfl
set_option maxRecDepth 100000 in
theorem zVis_54 : Cond.selects (zY 73).cls (zY 73) (zY 73) ∈ lw_tbl := List.mem_of_getElem? (i := 681) rfl
set_option maxRecDepth 100000 in
theorem zVis_55 : Cond.selects (zY 74).cls (zY 74) (zY 74) ∈ lw_tbl := List.mem_of_getElem? (i := 658) rfl
set_option maxRecDepth 100000 in
theorem zVis_56 : Cond.selects (zY 75).cls (zY 75) (zY 75) ∈ lw_tbl := List.mem_of_getElem? (i := 651) rfl
set_option maxRecDepth 100000 in
theorem zVis_57 : Cond.selects (zY 76).cls (zY 76) (zY 76) ∈ lw_tbl := List.mem_of_getElem? (i := 763) rfl
set_option maxRecDepth 100000 in
theorem zVis_58 : Cond.selects (zY 77).cls (zY 77) (zY 77) ∈ lw_tbl := List.mem_of_getElem? (i := 779) rfl
set_option maxRecDepth 100000 in
theorem zVis_59 : Cond.selects (zY 78).cls (zY 78) (zY 78) ∈ lw_tbl := List.mem_of_getElem? (i := 19) rfl
set_option maxRecDepth 100000 in
theorem zVis_60 : Cond.selects (zY 79).cls (zY 79) (zY 79) ∈ lw_tbl := List.mem_of_getElem? (i := 741) rfl
set_option maxRecDepth 100000 in
theorem zVis_61 : Cond.selects (zY 80).cls (zY 80) (zY 80) ∈ lw_tbl := List.mem_of_getElem? (i := 16) rfl
set_option maxRecDepth 100000 in
theorem zVis_62 : Cond.selects (zY 82).cls (zY 82) (zY 82) ∈ lw_tbl := List.mem_of_getElem? (i := 480) rfl
set_option maxRecDepth 100000 in
theorem zVis_63 : Cond.selects (zY 83).cls (zY 83) (zY 83) ∈ lw_tbl := List.mem_of_getElem? (i := 488) rfl
set_option maxRecDepth 100000 in
theorem zVis_64 : Cond.selects (zY 84).cls (zY 84) (zY 84) ∈ lw_tbl := List.mem_of_getElem? (i := 492) rfl
set_option maxRecDepth 100000 in
theorem zVis_65 : Cond.selects (zY 85).cls (zY 85) (zY 85) ∈ lw_tbl := List.mem_of_getElem? (i := 550) rfl
set_option maxRecDepth 100000 in
theorem zVis_66 : Cond.selects (zY 86).cls (zY 86) (zY 86) ∈ lw_tbl := List.mem_of_getElem? (i := 559) rfl
set_option maxRecDepth 100000 in
theorem zVis_67 : Cond.selects (zY 87).cls (zY 87) (zY 87) ∈ lw_tbl := List.mem_of_getElem? (i := 1120) rfl
set_option maxRecDepth 100000 in
theorem zVis_68 : Cond.selects (zY 88).cls (zY 88) (zY 88) ∈ lw_tbl := List.mem_of_getElem? (i := 613) rfl
set_option maxRecDepth 100000 in
theorem zVis_69 : Cond.selects (zY 89).cls (zY 89) (zY 89) ∈ lw_tbl := List.mem_of_getElem? (i := 627) rfl
set_option maxRecDepth 100000 in
theorem zVis_70 : Cond.selects (zY 90).cls (zY 90) (zY 90) ∈ lw_tbl := List.mem_of_getElem? (i := 642) rfl
set_option maxRecDepth 100000 in
theorem zVis_71 : Cond.selects (zY 91).cls (zY 91) (zY 91) ∈ lw_tbl := List.mem_of_getElem? (i := 669) rfl
set_option maxRecDepth 100000 in
theorem zVis_72 : Cond.selects (zY 92).cls (zY 92) (zY 92) ∈ lw_tbl := List.mem_of_getElem? (i := 718) rfl
set_option maxRecDepth 100000 in
theorem zVis_73 : Cond.selects (zY 93).cls (zY 93) (zY 93) ∈ lw_tbl := List.mem_of_getElem? (i := 731) rfl
set_option maxRecDepth 100000 in
theorem zVis_74 : Cond.selects (zY 94).cls (zY 94) (zY 94) ∈ lw_tbl := List.mem_of_getElem? (i := 771) rfl
set_option maxRecDepth 100000 in
theorem zVis_75 : Cond.selects (zY 95).cls (zY 95) (zY 95) ∈ lw_tbl := List.mem_of_getElem? (i := 814) rfl
set_option maxRecDepth 100000 in
theorem zVis_76 : Cond.selects (zY 96).cls (zY 96) (zY 96) ∈ lw_tbl := List.mem_of_getElem? (i := 818) rfl
set_option maxRecDepth 100000 in
theorem zVis_77 : Cond.selects (zY 97).cls (zY 97) (zY 97) ∈ lw_tbl := List.mem_of_getElem? (i := 848) rfl
set_option maxRecDepth 100000 in
theorem zVis_78 : Cond.selects (zY 98).cls (zY 98) (zY 98) ∈ lw_tbl := List.mem_of_getElem? (i := 1193) rfl
set_option maxRecDepth 100000 in
theorem zVis_79 : Cond.selects (zY 99).cls (zY 99) (zY 99) ∈ lw_tbl := List.mem_of_getElem? (i := 860) rfl
set_option maxRecDepth 100000 in
theorem zVis_80 : Cond.selects (zY 100).cls (zY 100) (zY 100) ∈ lw_tbl := List.mem_of_getElem? (i := 880) rfl
set_option maxRecDepth 100000 in
theorem zVis_81 : Cond.selects (zY 101).cls (zY 101) (zY 101) ∈ lw_tbl := List.mem_of_getElem? (i := 891) rfl
set_option maxRecDepth 100000 in
theorem zVis_82 : Cond.selects (zY 102).cls (zY 102) (zY 102) ∈ lw_tbl := List.mem_of_getElem? (i := 900) rfl
set_option maxRecDepth 100000 in
theorem zVis_83 : Cond.selects (zY 103).cls (zY 103) (zY 103) ∈ lw_tbl := List.mem_of_getElem? (i := 908) rfl
set_option maxRecDepth 100000 in
theorem zVis_84 : Cond.selects (zY 104).cls (zY 104) (zY 104) ∈ lw_tbl := List.mem_of_getElem? (i := 916) rfl
set_option maxRecDepth 100000 in
theorem zVis_85 : Cond.selects (zY 105).cls (zY 105) (zY 105) ∈ lw_tbl := List.mem_of_getElem? (i := 928) rfl
set_option maxRecDepth 100000 in
theorem zVis_86 : Cond.selects (zY 106).cls (zY 106) (zY 106) ∈ lw_tbl := List.mem_of_getElem? (i := 947) rfl
set_option maxRecDepth 100000 in
theorem zVis_87 : Cond.selects (zY 107).cls (zY 107) (zY 107) ∈ lw_tbl := List.mem_of_getElem? (i := 951) rfl
set_option maxRecDepth 100000 in
theorem zVis_88 : Cond.selects (zY 108).cls (zY 108) (zY 108) ∈ lw_tbl := List.mem_of_getElem? (i := 958) rfl
set_option maxRecDepth 100000 in
theorem zVis_89 : Cond.selects (zY 109).cls (zY 109) (zY 109) ∈ lw_tbl := List.mem_of_getElem? (i := 962) rfl
set_option maxRecDepth 100000 in
theorem zVis_90 : Cond.selects (zY 110).cls (zY 110) (zY 110) ∈ lw_tbl := List.mem_of_getElem? (i := 979) rfl
set_option maxRecDepth 100000 in
theorem zVis_91 : Cond.selects (zY 111).cls (zY 111) (zY 111) ∈ lw_tbl := List.mem_of_getElem? (i := 983) rfl
set_option maxRecDepth 100000 in
theorem zVis_92 : Cond.selects (zY 112).cls (zY 112) (zY 112) ∈ lw_tbl := List.mem_of_getElem? (i := 995) rfl
set_option maxRecDepth 100000 in
theorem zVis_93 : Cond.selects (zY 113).cls (zY 113) (zY 113) ∈ lw_tbl := List.mem_of_getElem? (i := 1002) rfl
set_option maxRecDepth 100000 in
theorem zVis_94 : Cond.selects (zY 114).cls (zY 114) (zY 114) ∈ lw_tbl := List.mem_of_getElem? (i := 1006) rfl
set_option maxRecDepth 100000 in
theorem zVis_95 : Cond.selects (zY 115).cls (zY 115) (zY 115) ∈ lw_tbl := List.mem_of_getElem? (i := 1010) rfl
set_option maxRecDepth 100000 in
theorem zVis_96 : Cond.selects (zY 116).cls (zY 116) (zY 116) ∈ lw_tbl := List.mem_of_getElem? (i := 1018) rfl
set_option maxRecDepth 100000 in
theorem zVis_97 : Cond.selects (zY 117).cls (zY 117) (zY 117) ∈ lw_tbl := List.mem_of_getElem? (i := 1034) rfl
set_option maxRecDepth 100000 in
theorem zVis_98 : Cond.selects (zY 118).cls (zY 118) (zY 118) ∈ lw_tbl := List.mem_of_getElem? (i := 1042) rfl
set_option maxRecDepth 100000 in
theorem zVis_99 : Cond.selects (zY 119).cls (zY 119) (zY 119) ∈ lw_tbl := List.mem_of_getElem? (i := 1046) rfl
set_option maxRecDepth 100000 in
theorem zVis_100 : Cond.selects (zY 120).cls (zY 120) (zY 120) ∈ lw_tbl := List.mem_of_getElem? (i := 1054) rfl
set_option maxRecDepth 100000 in
theorem zVis_101 : Cond.selects (zY 121).cls (zY 121) (zY 121) ∈ lw_tbl := List.mem_of_getElem? (i := 1062) rfl
set_option maxRecDepth 100000 in
theorem zVis_102 : Cond.selects (zY 122).cls (zY 122) (zY 122) ∈ lw_tbl := List.mem_of_getElem? (i := 1070) rfl
set_option maxRecDepth 100000 in
theorem zVis_103 : Cond.selects (zY 123).cls (zY 123) (zY 123) ∈ lw_tbl := List.mem_of_getElem? (i := 1074) rfl
set_option maxRecDepth 100000 in
theorem zVis_104 : Cond.selects (zY 124).cls (zY 124) (zY 124) ∈ lw_tbl := List.mem_of_getElem? (i := 1089) rfl
set_option maxRecDepth 100000 in
theorem zVis_105 : Cond.selects (zY 125).cls (zY 125) (zY 125) ∈ lw_tbl := List.mem_of_getElem? (i := 1093) rfl
set_option maxRecDepth 100000 in
theorem zVis_106 : Cond.selects (zY 126).cls (zY 126) (zY 126) ∈ lw_tbl := List.mem_of_getElem? (i := 1097) rfl
set_option maxRecDepth 100000 in
theorem zVis_107 : Cond.selects (zY 127).cls (zY 127) (zY 127) ∈ lw_tbl := List.mem_of_getElem? (i := 1102) rfl
set_option maxRecDepth 100000 in
theorem zVis_108 : Cond.selects (zY 128).cls (zY 128) (zY 128) ∈ lw_tbl := List.mem_of_getElem? (i := 1107) rfl
set_option maxRecDepth 100000 in
theorem zVis_109 : Cond.selects (zY 129).cls (zY 129) (zY 129) ∈ lw_tbl := List.mem_of_getElem? (i := 1112) rfl
set_option maxRecDepth 100000 in
theorem zVis_110 : Cond.selects (zY 130).cls (zY 130) (zY 130) ∈ lw_tbl := List.mem_of_getElem? (i := 1202) rfl
set_option maxRecDepth 100000 in
theorem zVis_111 : Cond.selects (zY 134).cls (zY 134) (zY 134) ∈ lw_tbl := List.mem_of_getElem? (i := 11) rfl
set_option maxRecDepth 100000 in
theorem zVis_112 : Cond.selects (zY 135).cls (zY 135) (zY 135) ∈ lw_tbl := List.mem_of_getElem? (i := 14) rfl
set_option maxRecDepth 100000 in
theorem zVis_113 : Cond.selects (zY 136).cls (zY 136) (zY 136) ∈ lw_tbl := List.mem_of_getElem? (i := 13) rfl
set_option maxRecDepth 100000 in
theorem zVis_114 : Cond.selects (zY 137).cls (zY 137) (zY 137) ∈ lw_tbl := List.mem_of_getElem? (i := 15) rfl
set_option maxRecDepth 100000 in
theorem zVis_115 : Cond.selects (zY 138).cls (zY 138) (zY 138) ∈ lw_tbl := List.mem_of_getElem? (i := 17) rfl
set_option maxRecDepth 100000 in
theorem zVis_116 : Cond.selects (zY 139).cls (zY 139) (zY 139) ∈ lw_tbl := List.mem_of_getElem? (i := 21) rfl
set_option maxRecDepth 100000 in
theorem zVis_117 : Cond.selects (zY 140).cls (zY 140) (zY 140) ∈ lw_tbl := List.mem_of_getElem? (i := 40) rfl
set_option maxRecDepth 100000 in
theorem zVis_118 : Cond.selects (zY 141).cls (zY 141) (zY 141) ∈ lw_tbl := List.mem_of_getElem? (i := 0) rfl
set_option maxRecDepth 100000 in
theorem zVis_119 : Cond.selects (zY 142).cls (zY 142) (zY 142) ∈ lw_tbl := List.mem_of_getElem? (i := 1) rfl
set_option maxRecDepth 100000 in
theorem zVis_120 : Cond.selects (zY 143).cls (zY 143) (zY 143) ∈ lw_tbl := List.mem_of_getElem? (i := 3) rfl
set_option maxRecDepth 100000 in
theorem zVis_121 : Cond.selects (zY 146).cls (zY 146) (zY 146) ∈ lw_tbl := List.mem_of_getElem? (i := 12) rfl
set_option maxRecDepth 100000 in
theorem zVis_122 : Cond.selects (zY 147).cls (zY 147) (zY 147) ∈ lw_tbl := List.mem_of_getElem? (i := 20) rfl
set_option maxRecDepth 100000 in
theorem zVis_123 : Cond.selects (zY 148).cls (zY 148) (zY 148) ∈ lw_tbl := List.mem_of_getElem? (i := 18) rfl
set_option maxRecDepth 100000 in
theorem zVis_124 : Cond.selects (zY 149).cls (zY 149) (zY 149) ∈ lw_tbl := List.mem_of_getElem? (i := 25) rfl
set_option maxRecDepth 100000 in
theorem zVis_125 : Cond.selects (zY 150).cls (zY 150) (zY 150) ∈ lw_tbl := List.mem_of_getElem? (i := 26) rfl
set_option maxRecDepth 100000 in
theorem zVis_126 : Cond.selects (zY 153).cls (zY 153) (zY 153) ∈ lw_tbl := List.mem_of_getElem? (i := 36) rfl
set_option maxRecDepth 100000 in
theorem zVis_127 : Cond.selects (zY 154).cls (zY 154) (zY 154) ∈ lw_tbl := List.mem_of_getElem? (i := 27) rfl
set_option maxRecDepth 100000 in
theorem zVis_128 : Cond.selects (zY 155).cls (zY 155) (zY 155) ∈ lw_tbl := List.mem_of_getElem? (i := 28) rfl
set_option maxRecDepth 100000 in
theorem zVis_129 : Cond.selects (zY 156).cls (zY 156) (zY 156) ∈ lw_tbl := List.mem_of_getElem? (i := 30) rfl
set_option maxRecDepth 100000 in
theorem zVis_130 : Cond.selects (zY 157).cls (zY 157) (zY 157) ∈ lw_tbl := List.mem_of_getElem? (i := 31) rfl
set_option maxRecDepth 100000 in
theorem zVis_131 : Cond.selects (zY 158).cls (zY 158) (zY 158) ∈ lw_tbl := List.mem_of_getElem? (i := 29) rfl
set_option maxRecDepth 100000 in
theorem zVis_132 : Cond.selects (zY 159).cls (zY 159) (zY 159) ∈ lw_tbl := List.mem_of_getElem? (i := 32) rfl
set_option maxRecDepth 100000 in
theorem zVis_133 : Cond.selects (zY 161).cls (zY 161) (zY 161) ∈ lw_tbl := List.mem_of_getElem? (i := 33) rfl
set_option maxRecDepth 100000 in
theorem zVis_134 : Cond.selects (zY 162).cls (zY 162) (zY 162) ∈ lw_tbl := List.mem_of_getElem? (i := 34) rfl
set_option maxRecDepth 100000 in
theorem zVis_135 : Cond.selects (zY 163).cls (zY 163) (zY 163) ∈ lw_tbl := List.mem_of_getElem? (i := 35) rfl
set_option maxRecDepth 100000 in
theorem zVis_136 : Cond.selects (zY 164).cls (zY 164) (zY 164) ∈ lw_tbl := List.mem_of_getElem? (i := 37) rfl
set_option maxRecDepth 100000 in
theorem zVis_137 : Cond.selects (zY 165).cls (zY 165) (zY 165) ∈ lw_tbl := List.mem_of_getElem? (i := 39) rfl
set_option maxRecDepth 100000 in
theorem zVis_138 : Cond.selects (zY 166).cls (zY 166) (zY 166) ∈ lw_tbl := List.mem_of_getElem? (i := 38) rfl
set_option maxRecDepth 100000 in
theorem zVis_139 : Cond.selects (zY 167).cls (zY 167) (zY 167) ∈ lw_tbl := List.mem_of_getElem? (i := 41) rfl
set_option maxRecDepth 100000 in
theorem zVis_140 : Cond.selects (zY 168).cls (zY 168) (zY 168) ∈ lw_tbl := List.mem_of_getElem? (i := 42) rfl
set_option maxRecDepth 100000 in
theorem zVis_141 : Cond.selects (zY 170).cls (zY 170) (zY 170) ∈ lw_tbl := List.mem_of_getElem? (i := 1368) rfl
set_option maxRecDepth 100000 in
theorem zVis_142 : Cond.selects (zY 173).cls (zY 173) (zY 173) ∈ lw_tbl := List.mem_of_getElem? (i := 59) rfl
set_option maxRecDepth 100000 in
theorem zVis_143 : Cond.selects (zY 174).cls (zY 174) (zY 174) ∈ lw_tbl := List.mem_of_getElem? (i := 67) rfl
set_option maxRecDepth 100000 in
theorem zVis_144 : Cond.selects (zY 175).cls (zY 175) (zY 175) ∈ lw_tbl := List.mem_of_getElem? (i := 58) rfl
set_option maxRecDepth 100000 in
theorem zVis_145 : Cond.selects (zY 176).cls (zY 176) (zY 176) ∈ lw_tbl := List.mem_of_getElem? (i := 61) rfl
set_option maxRecDepth 100000 in
theorem zVis_146 : Cond.selects (zY 177).cls (zY 177) (zY 177) ∈ lw_tbl := List.mem_of_getElem? (i := 60) rfl
set_option maxRecDepth 100000 in
theorem zVis_147 : Cond.selects (zY 179).cls (zY 179) (zY 179) ∈ lw_tbl := List.mem_of_getElem? (i := 1372) rfl
set_option maxRecDepth 100000 in
theorem zVis_148 : Cond.selects (zY 180).cls (zY 180) (zY 180) ∈ lw_tbl := List.mem_of_getElem? (i := 1376) rfl
set_option maxRecDepth 100000 in
theorem zVis_149 : Cond.selects (zY 181).cls (zY 181) (zY 181) ∈ lw_tbl := List.mem_of_getElem? (i := 44) rfl
set_option maxRecDepth 100000 in
theorem zVis_150 : Cond.selects (zY 182).cls (zY 182) (zY 182) ∈ lw_tbl := List.mem_of_getElem? (i := 49) rfl
set_option maxRecDepth 100000 in
theorem zVis_151 : Cond.selects (zY 183).cls (zY 183) (zY 183) ∈ lw_tbl := List.mem_of_getElem? (i := 45) rfl
set_option maxRecDepth 100000 in
theorem zVis_152 : Cond.selects (zY 184).cls (zY 184) (zY 184) ∈ lw_tbl := List.mem_of_getElem? (i := 46) rfl
set_option maxRecDepth 100000 in
theorem zVis_153 : Cond.selects (zY 185).cls (zY 185) (zY 185) ∈ lw_tbl := List.mem_of_getElem? (i := 51) rfl
set_option maxRecDepth 100000 in
theorem zVis_154 : Cond.selects (zY 186).cls (zY 186) (zY 186) ∈ lw_tbl := List.mem_of_getElem? (i := 50) rfl
set_option maxRecDepth 100000 in
theorem zVis_155 : Cond.selects (zY 187).cls (zY 187) (zY 187) ∈ lw_tbl := List.mem_of_getElem? (i := 48) rfl
set_option maxRecDepth 100000 in
theorem zVis_156 : Cond.selects (zY 188).cls (zY 188) (zY 188) ∈ lw_tbl := List.mem_of_getElem? (i := 52) rfl
set_option maxRecDepth 100000 in
theorem zVis_157 : Cond.selects (zY 189).cls (zY 189) (zY 189) ∈ lw_tbl := List.mem_of_getElem? (i := 1383) rfl
set_option maxRecDepth 100000 in
theorem zVis_158 : Cond.selects (zY 191).cls (zY 191) (zY 191) ∈ lw_tbl := List.mem_of_getElem? (i := 47) rfl
set_option maxRecDepth 100000 in
theorem zVis_159 : Cond.selects (zY 192).cls (zY 192) (zY 192) ∈ lw_tbl := List.mem_of_getElem? (i := 1426) rfl
set_option maxRecDepth 100000 in
theorem zVis_160 : Cond.selects (zY 193).cls (zY 193) (zY 193) ∈ lw_tbl := List.mem_of_getElem? (i := 53) rfl
set_option maxRecDepth 100000 in
theorem zVis_161 : Cond.selects (zY 194).cls (zY 194) (zY 194) ∈ lw_tbl := List.mem_of_getElem? (i := 54) rfl
set_option maxRecDepth 100000 in
theorem zVis_162 : Cond.selects (zY 195).cls (zY 195) (zY 195) ∈ lw_tbl := List.mem_of_getElem? (i := 55) rfl
set_option maxRecDepth 100000 in
theorem zVis_163 : Cond.selects (zY 196).cls (zY 196) (zY 196) ∈ lw_tbl := List.mem_of_getElem? (i := 56) rfl
set_option maxRecDepth 100000 in
theorem zVis_164 : Cond.selects (zY 197).cls (zY 197) (zY 197) ∈ lw_tbl := List.mem_of_getElem? (i := 57) rfl
set_option maxRecDepth 100000 in
theorem zVis_165 : Cond.selects (zY 198).cls (zY 198) (zY 198) ∈ lw_tbl := List.mem_of_getElem? (i := 1430) rfl
set_option maxRecDepth 100000 in
theorem zVis_166 : Cond.selects (zY 199).cls (zY 199) (zY 199) ∈ lw_tbl := List.mem_of_getElem? (i := 66) rfl
set_option maxRecDepth 100000 in
theorem zVis_167 : Cond.selects (zY 200).cls (zY 200) (zY 200) ∈ lw_tbl := List.mem_of_getElem? (i := 1454) rfl
set_option maxRecDepth 100000 in
theorem zVis_168 : Cond.selects (zY 201).cls (zY 201) (zY 201) ∈ lw_tbl := List.mem_of_getElem? (i := 1474) rfl
set_option maxRecDepth 100000 in
theorem zVis_169 : Cond.selects (zY 202).cls (zY 202) (zY 202) ∈ lw_tbl := List.mem_of_getElem? (i := 1478) rfl
set_option maxRecDepth 100000 in
theorem zVis_170 : Cond.selects (zY 203).cls (zY 203) (zY 203) ∈ lw_tbl := List.mem_of_getElem? (i := 62) rfl
set_option maxRecDepth 100000 in
theorem zVis_171 : Cond.selects (zY 204).cls (zY 204) (zY 204) ∈ lw_tbl := List.mem_of_getElem? (i := 1484) rfl
set_option maxRecDepth 100000 in
theorem zVis_172 : Cond.selects (zY 205).cls (zY 205) (zY 205) ∈ lw_tbl := List.mem_of_getElem? (i := 68) rfl
set_option maxRecDepth 100000 in
theorem zVis_173 : Cond.selects (zY 206).cls (zY 206) (zY 206) ∈ lw_tbl := List.mem_of_getElem? (i := 69) rfl
set_option maxRecDepth 100000 in
theorem zVis_174 : Cond.selects (zY 207).cls (zY 207) (zY 207) ∈ lw_tbl := List.mem_of_getElem? (i := 70) rfl
set_option maxRecDepth 100000 in
theorem zVis_175 : Cond.selects (zY 209).cls (zY 209) (zY 209) ∈ lw_tbl := List.mem_of_getElem? (i := 64) rfl
set_option maxRecDepth 100000 in
theorem zVis_176 : Cond.selects (zY 210).cls (zY 210) (zY 210) ∈ lw_tbl := List.mem_of_getElem? (i := 63) rfl
set_option maxRecDepth 100000 in
theorem zVis_177 : Cond.selects (zY 212).cls (zY 212) (zY 212) ∈ lw_tbl := List.mem_of_getElem? (i := 1496) rfl
set_option maxRecDepth 100000 in
theorem zVis_178 : Cond.selects (zY 213).cls (zY 213) (zY 213) ∈ lw_tbl := List.mem_of_getElem? (i := 65) rfl
set_option maxRecDepth 100000 in
theorem zVis_179 : Cond.selects (zY 214).cls (zY 214) (zY 214) ∈ lw_tbl := List.mem_of_getElem? (i := 1514) rfl
set_option maxRecDepth 100000 in
theorem zVis_180 : Cond.selects (zY 215).cls (zY 215) (zY 215) ∈ lw_tbl := List.mem_of_getElem? (i := 1522) rfl
set_option maxRecDepth 100000 in
theorem zVis_181 : Cond.selects (zY 216).cls (zY 216) (zY 216) ∈ lw_tbl := List.mem_of_getElem? (i := 71) rfl
set_option maxRecDepth 100000 in
theorem zVis_182 : Cond.selects (zY 217).cls (zY 217) (zY 217) ∈ lw_tbl := List.mem_of_getElem? (i := 1534) rfl
set_option maxRecDepth 100000 in
theorem zVis_183 : Cond.selects (zY 218).cls (zY 218) (zY 218) ∈ lw_tbl := List.mem_of_getElem? (i := 1554) rfl
set_option maxRecDepth 100000 in
theorem zVis_184 : Cond.selects (zY 219).cls (zY 219) (zY 219) ∈ lw_tbl := List.mem_of_getElem? (i := 1558) rfl
set_option maxRecDepth 100000 in
theorem zVis_185 : Cond.selects (zY 220).cls (zY 220) (zY 220) ∈ lw_tbl := List.mem_of_getElem? (i := 72) rfl
set_option maxRecDepth 100000 in
theorem zVis_186 : Cond.selects (zY 221).cls (zY 221) (zY 221) ∈ lw_tbl := List.mem_of_getElem? (i := 73) rfl
set_option maxRecDepth 100000 in
theorem zVis_187 : Cond.selects (zY 222).cls (zY 222) (zY 222) ∈ lw_tbl := List.mem_of_getElem? (i := 1570) rfl
set_option maxRecDepth 100000 in
theorem zVis_188 : Cond.selects (zY 223).cls (zY 223) (zY 223) ∈ lw_tbl := List.mem_of_getElem? (i := 74) rfl
set_option maxRecDepth 100000 in
theorem zVis_189 : Cond.selects (zY 224).cls (zY 224) (zY 224) ∈ lw_tbl := List.mem_of_getElem? (i := 75) rfl
set_option maxRecDepth 100000 in
theorem zVis_190 : Cond.selects (zY 225).cls (zY 225) (zY 225) ∈ lw_tbl := List.mem_of_getElem? (i := 1574) rfl
set_option maxRecDepth 100000 in
theorem zVis_191 : Cond.selects (zY 226).cls (zY 226) (zY 226) ∈ lw_tbl := List.mem_of_getElem? (i := 1586) rfl
set_option maxRecDepth 100000 in
theorem zVis_192 : Cond.selects (zY 227).cls (zY 227) (zY 227) ∈ lw_tbl := List.mem_of_getElem? (i := 76) rfl
set_option maxRecDepth 100000 in
theorem zVis_193 : Cond.selects (zY 228).cls (zY 228) (zY 228) ∈ lw_tbl := List.mem_of_getElem? (i := 77) rfl
set_option maxRecDepth 100000 in
theorem zVis_194 : Cond.selects (zY 229).cls (zY 229) (zY 229) ∈ lw_tbl := List.mem_of_getElem? (i := 1590) rfl
set_option maxRecDepth 100000 in
theorem zVis_195 : Cond.selects (zY 230).cls (zY 230) (zY 230) ∈ lw_tbl := List.mem_of_getElem? (i := 78) rfl
set_option maxRecDepth 100000 in
theorem zVis_196 : Cond.selects (zY 231).cls (zY 231) (zY 231) ∈ lw_tbl := List.mem_of_getElem? (i := 1602) rfl
set_option maxRecDepth 100000 in
theorem zVis_197 : Cond.selects (zY 232).cls (zY 232) (zY 232) ∈ lw_tbl := List.mem_of_getElem? (i := 1610) rfl
set_option maxRecDepth 100000 in
theorem zVis_198 : Cond.selects (zY 233).cls (zY 233) (zY 233) ∈ lw_tbl := List.mem_of_getElem? (i := 1614) rfl
set_option maxRecDepth 100000 in
theorem zVis_199 : Cond.selects (zY 234).cls (zY 234) (zY 234) ∈ lw_tbl := List.mem_of_getElem? (i := 79) rfl
set_option maxRecDepth 100000 in
theorem zVis_200 : Cond.selects (zY 235).cls (zY 235) (zY 235) ∈ lw_tbl := List.mem_of_getElem? (i := 1618) rfl
set_option maxRecDepth 100000 in
theorem zVis_201 : Cond.selects (zY 236).cls (zY 236) (zY 236) ∈ lw_tbl := List.mem_of_getElem? (i := 81) rfl
set_option maxRecDepth 100000 in
theorem zVis_202 : Cond.selects (zY 237).cls (zY 237) (zY 237) ∈ lw_tbl := List.mem_of_getElem? (i := 80) rfl
set_option maxRecDepth 100000 in
theorem zVis_203 : Cond.selects (zY 238).cls (zY 238) (zY 238) ∈ lw_tbl := List.mem_of_getElem? (i := 1629) rfl
set_option maxRecDepth 100000 in
theorem zVis_204 : Cond.selects (zY 239).cls (zY 239) (zY 239) ∈ lw_tbl := List.mem_of_getElem? (i := 1641) rfl
set_option maxRecDepth 100000 in
theorem zVis_205 : Cond.selects (zY 240).cls (zY 240) (zY 240) ∈ lw_tbl := List.mem_of_getElem? (i := 1645) rfl
set_option maxRecDepth 100000 in
theorem zVis_206 : Cond.selects (zY 241).cls (zY 241) (zY 241) ∈ lw_tbl := List.mem_of_getElem? (i := 82) rfl
set_option maxRecDepth 100000 in
theorem zVis_207 : Cond.selects (zY 242).cls (zY 242) (zY 242) ∈ lw_tbl := List.mem_of_getElem? (i := 1649) rfl
set_option maxRecDepth 100000 in
theorem zVis_208 : Cond.selects (zY 243).cls (zY 243) (zY 243) ∈ lw_tbl := List.mem_of_getElem? (i := 1658) rfl
set_option maxRecDepth 100000 in
theorem zVis_209 : Cond.selects (zY 244).cls (zY 244) (zY 244) ∈ lw_tbl := List.mem_of_getElem? (i := 83) rfl
set_option maxRecDepth 100000 in
theorem zVis_210 : Cond.selects (zY 245).cls (zY 245) (zY 245) ∈ lw_tbl := List.mem_of_getElem? (i := 1666) rfl
set_option maxRecDepth 100000 in
theorem zVis_211 : Cond.selects (zY 247).cls (zY 247) (zY 247) ∈ lw_tbl := List.mem_of_getElem? (i := 84) rfl
set_option maxRecDepth 100000 in
theorem zVis_212 : Cond.selects (zY 248).cls (zY 248) (zY 248) ∈ lw_tbl := List.mem_of_getElem? (i := 1670) rfl
set_option maxRecDepth 100000 in
theorem zVis_213 : Cond.selects (zY 250).cls (zY 250) (zY 250) ∈ lw_tbl := List.mem_of_getElem? (i := 1683) rfl
set_option maxRecDepth 100000 in
theorem zVis_214 : Cond.selects (zY 251).cls (zY 251) (zY 251) ∈ lw_tbl := List.mem_of_getElem? (i := 1690) rfl
set_option maxRecDepth 100000 in
theorem zVis_215 : Cond.selects (zY 252).cls (zY 252) (zY 252) ∈ lw_tbl := List.mem_of_getElem? (i := 1694) rfl
set_option maxRecDepth 100000 in
theorem zVis_216 : Cond.selects (zY 253).cls (zY 253) (zY 253) ∈ lw_tbl := List.mem_of_getElem? (i := 85) rfl
set_option maxRecDepth 100000 in
theorem zVis_217 : Cond.selects (zY 254).cls (zY 254) (zY 254) ∈ lw_tbl := List.mem_of_getElem? (i := 1698) rfl
set_option maxRecDepth 100000 in
theorem zVis_218 : Cond.selects (zY 255).cls (zY 255) (zY 255) ∈ lw_tbl := List.mem_of_getElem? (i := 86) rfl
set_option maxRecDepth 100000 in
theorem zVis_219 : Cond.selects (zY 256).cls (zY 256) (zY 256) ∈ lw_tbl := List.mem_of_getElem? (i := 1706) rfl
set_option maxRecDepth 100000 in
theorem zVis_220 : Cond.selects (zY 257).cls (zY 257) (zY 257) ∈ lw_tbl := List.mem_of_getElem? (i := 1714) rfl
set_option maxRecDepth 100000 in
theorem zVis_221 : Cond.selects (zY 258).cls (zY 258) (zY 258) ∈ lw_tbl := List.mem_of_getElem? (i := 1718) rfl
set_option maxRecDepth 100000 in
theorem zVis_222 : Cond.selects (zY 259).cls (zY 259) (zY 259) ∈ lw_tbl := List.mem_of_getElem? (i := 87) rfl
set_option maxRecDepth 100000 in
theorem zVis_223 : Cond.selects (zY 260).cls (zY 260) (zY 260) ∈ lw_tbl := List.mem_of_getElem? (i := 1722) rfl
set_option maxRecDepth 100000 in
theorem zVis_224 : Cond.selects (zY 261).cls (zY 261) (zY 261) ∈ lw_tbl := List.mem_of_getElem? (i := 1730) rfl
set_option maxRecDepth 100000 in
theorem zVis_225 : Cond.selects (zY 262).cls (zY 262) (zY 262) ∈ lw_tbl := List.mem_of_getElem? (i := 1735) rfl
set_option maxRecDepth 100000 in
theorem zVis_226 : Cond.selects (zY 263).cls (zY 263) (zY 263) ∈ lw_tbl := List.mem_of_getElem? (i := 1739) rfl
set_option maxRecDepth 100000 in
theorem zVis_227 : Cond.selects (zY 264).cls (zY 264) (zY 264) ∈ lw_tbl := List.mem_of_getElem? (i := 89) rfl
set_option maxRecDepth 100000 in
theorem zVis_228 : Cond.selects (zY 265).cls (zY 265) (zY 265) ∈ lw_tbl := List.mem_of_getElem? (i := 88) rfl
set_option maxRecDepth 100000 in
theorem zVis_229 : Cond.selects (zY 266).cls (zY 266) (zY 266) ∈ lw_tbl := List.mem_of_getElem? (i := 1743) rfl
set_option maxRecDepth 100000 in
theorem zVis_230 : Cond.selects (zY 267).cls (zY 267) (zY 267) ∈ lw_tbl := List.mem_of_getElem? (i := 1755) rfl
set_option maxRecDepth 100000 in
theorem zVis_231 : Cond.selects (zY 268).cls (zY 268) (zY 268) ∈ lw_tbl := List.mem_of_getElem? (i := 1759) rfl
set_option maxRecDepth 100000 in
theorem zVis_232 : Cond.selects (zY 269).cls (zY 269) (zY 269) ∈ lw_tbl := List.mem_of_getElem? (i := 1763) rfl
set_option maxRecDepth 100000 in
theorem zVis_233 : Cond.selects (zY 270).cls (zY 270) (zY 270) ∈ lw_tbl := List.mem_of_getElem? (i := 1768) rfl
set_option maxRecDepth 100000 in
theorem zVis_234 : Cond.selects (zY 271).cls (zY 271) (zY 271) ∈ lw_tbl := List.mem_of_getElem? (i := 1772) rfl
set_option maxRecDepth 100000 in
theorem zVis_235 : Cond.selects (zY 272).cls (zY 272) (zY 272) ∈ lw_tbl := List.mem_of_getElem? (i := 1776) rfl
set_option maxRecDepth 100000 in
theorem zVis_236 : Cond.selects (zY 273).cls (zY 273) (zY 273) ∈ lw_tbl := List.mem_of_getElem? (i := 1780) rfl
def zVis_l0 : List (Nat) := [7, 8, 9, 10, 12, 13, 14, 15, 16, 17, 18, 20, 21, 23, 24, 26]
theorem zVis_r0 : ∀ q ∈ zVis_l0, Cond.selects (zY q).cls (zY q) (zY q) ∈ lw_tbl := List.forall_mem_cons.mpr ⟨zVis_0, List.forall_mem_cons.mpr ⟨zVis_1, List.forall_mem_cons.mpr ⟨zVis_2, List.forall_mem_cons.mpr ⟨zVis_3, List.forall_mem_cons.mpr ⟨zVis_4, List.forall_mem_cons.mpr ⟨zVis_5, List.forall_mem_cons.mpr ⟨zVis_6, List.forall_mem_cons.mpr ⟨zVis_7, List.forall_mem_cons.mpr ⟨zVis_8, List.forall_mem_cons.mpr ⟨zVis_9, List.forall_mem_cons.mpr ⟨zVis_10, List.forall_mem_cons.mpr ⟨zVis_11, List.forall_mem_cons.mpr ⟨zVis_12, List.forall_mem_cons.mpr ⟨zVis_13, List.forall_mem_cons.mpr ⟨zVis_14, List.forall_mem_cons.mpr ⟨zVis_15, fun _ h => absurd h List.not_mem_nil⟩⟩⟩⟩⟩⟩⟩⟩⟩⟩⟩⟩⟩⟩⟩⟩
def zVis_l1 : List (Nat) := [27, 28, 29, 30, 31, 32, 33, 35, 36, 37, 39, 40, 41, 42, 43, 46]
theorem zVis_r1 : ∀ q ∈ zVis_l1, Cond.selects (zY q).cls (zY q) (zY q) ∈ lw_tbl := List.forall_mem_cons.mpr ⟨zVis_16, List.forall_mem_cons.mpr ⟨zVis_17, List.forall_mem_cons.mpr ⟨zVis_18, List.forall_mem_cons.mpr ⟨zVis_19, List.forall_mem_cons.mpr ⟨zVis_20, List.forall_mem_cons.mpr ⟨zVis_21, List.forall_mem_cons.mpr ⟨zVis_22, List.forall_mem_cons.mpr ⟨zVis_23, List.forall_mem_cons.mpr ⟨zVis_24, List.forall_mem_cons.mpr ⟨zVis_25, List.forall_mem_cons.mpr ⟨zVis_26, List.forall_mem_cons.mpr ⟨zVis_27, List.forall_mem_cons.mpr ⟨zVis_28, List.forall_mem_cons.mpr ⟨zVis_29, List.forall_mem_cons.mpr ⟨zVis_30, List.forall_mem_cons.mpr ⟨zVis_31, fun _ h => absurd h List.not_mem_nil⟩⟩⟩⟩⟩⟩⟩⟩⟩⟩⟩⟩⟩⟩⟩⟩
def zVis_l2 : List (Nat) := [47, 48, 49, 50, 51, 52, 53, 56, 57, 59, 60, 61, 62, 63, 64, 65]
theorem zVis_r2 : ∀ q ∈ zVis_l2, Cond.selects (zY q).cls (zY q) (zY q) ∈ lw_tbl := List.forall_mem_cons.mpr ⟨zVis_32, List.forall_mem_cons.mpr ⟨zVis_33, List.forall_mem_cons.mpr ⟨zVis_34, List.forall_mem_cons.mpr ⟨zVis_35, List.forall_mem_cons.mpr ⟨zVis_36, List.forall_mem_cons.mpr ⟨zVis_37, List.forall_mem_cons.mpr ⟨zVis_38, List.forall_mem_cons.mpr ⟨zVis_39, List.forall_mem_cons.mpr ⟨zVis_40, List.forall_mem_cons.mpr ⟨zVis_41, List.forall_mem_cons.mpr ⟨zVis_42, List.forall_mem_cons.mpr ⟨zVis_43, List.forall_mem_cons.mpr ⟨zVis_44, List.forall_mem_cons.mpr ⟨zVis_45, List.forall_mem_cons.mpr ⟨zVis_46, List.forall_mem_cons.mpr ⟨zVis_47, fun _ h => absurd h List.not_mem_nil⟩⟩⟩⟩⟩⟩⟩⟩⟩⟩⟩⟩⟩⟩⟩⟩
def zVis_l3 : List (Nat) := [66, 67, 68, 69, 71, 72, 73, 74, 75, 76, 77, 78, 79, 80, 82, 83]
theorem zVis_r3 : ∀ q ∈ zVis_l3, Cond.selects (zY q).cls (zY q) (zY q) ∈ lw_tbl := List.forall_mem_cons.mpr ⟨zVis_48, List.forall_mem_cons.mpr ⟨zVis_49, List.forall_mem_cons.mpr ⟨zVis_50, List.forall_mem_cons.mpr ⟨zVis_51, List.forall_mem_cons.mpr ⟨zVis_52, List.forall_mem_cons.mpr ⟨zVis_53, List.forall_mem_cons.mpr ⟨zVis_54, List.forall_mem_cons.mpr ⟨zVis_55, List.forall_mem_cons.mpr ⟨zVis_56, List.forall_mem_cons.mpr ⟨zVis_57, List.forall_mem_cons.mpr ⟨zVis_58, List.forall_mem_cons.mpr ⟨zVis_59, List.forall_mem_cons.mpr ⟨zVis_60, List.forall_mem_cons.mpr ⟨zVis_61, List.forall_mem_cons.mpr ⟨zVis_62, List.forall_mem_cons.mpr ⟨zVis_63, fun _ h => absurd h List.not_mem_nil⟩⟩⟩⟩⟩⟩⟩⟩⟩⟩⟩⟩⟩⟩⟩⟩
def zVis_l4 : List (Nat) := [84, 85, 86, 87, 88, 89, 90, 91, 92, 93, 94, 95, 96, 97, 98, 99]
theorem zVis_r4 : ∀ q ∈ zVis_l4, Cond.selects (zY q).cls (zY q) (zY q) ∈ lw_tbl := List.forall_mem_cons.mpr ⟨zVis_64, List.forall_mem_cons.mpr ⟨zVis_65, List.forall_mem_cons.mpr ⟨zVis_66, List.forall_mem_cons.mpr ⟨zVis_67, List.forall_mem_cons.mpr ⟨zVis_68, List.forall_mem_cons.mpr ⟨zVis_69, List.forall_mem_cons.mpr ⟨zVis_70, List.forall_mem_cons.mpr ⟨zVis_71, List.forall_mem_cons.mpr ⟨zVis_72, List.forall_mem_cons.mpr ⟨zVis_73, List.forall_mem_cons.mpr ⟨zVis_74, List.forall_mem_cons.mpr ⟨zVis_75, List.forall_mem_cons.mpr ⟨zVis_76, List.forall_mem_cons.mpr ⟨zVis_77, List.forall_mem_cons.mpr ⟨zVis_78, List.forall_mem_cons.mpr ⟨zVis_79, fun _ h => absurd h List.not_mem_nil⟩⟩⟩⟩⟩⟩⟩⟩⟩⟩⟩⟩⟩⟩⟩⟩
def zVis_l5 : List (Nat) := [100, 101, 102, 103, 104, 105, 106, 107, 108, 109, 110, 111, 112, 113, 114, 115]
theorem zVis_r5 : ∀ q ∈ zVis_l5, Cond.selects (zY q).cls (zY q) (zY q) ∈ lw_tbl := List.forall_mem_cons.mpr ⟨zVis_80, List.forall_mem_cons.mpr ⟨zVis_81, List.forall_mem_cons.mpr ⟨zVis_82, List.forall_mem_cons.mpr ⟨zVis_83, List.forall_mem_cons.mpr ⟨zVis_84, List.forall_mem_cons.mpr ⟨zVis_85, List.forall_mem_cons.mpr ⟨zVis_86, List.forall_mem_cons.mpr ⟨zVis_87, List.forall_mem_cons.mpr ⟨zVis_88, List.forall_mem_cons.mpr ⟨zVis_89, List.forall_mem_cons.mpr ⟨zVis_90, List.forall_mem_cons.mpr ⟨zVis_91, List.forall_mem_cons.mpr ⟨zVis_92, List.forall_mem_cons.mpr ⟨zVis_93, List.forall_mem_cons.mpr ⟨zVis_94, List.forall_mem_cons.mpr ⟨zVis_95, fun _ h => absurd h List.not_mem_nil⟩⟩⟩⟩⟩⟩⟩⟩⟩⟩⟩⟩⟩⟩⟩⟩
def zVis_l6 : List (Nat) := [116, 117, 118, 119, 120, 121, 122, 123, 124, 125, 126, 127, 128, 129, 130, 134]
theorem zVis_r6 : ∀ q ∈ zVis_l6, Cond.selects (zY q).cls (zY q) (zY q) ∈ lw_tbl := List.forall_mem_cons.mpr ⟨zVis_96, List.forall_mem_cons.mpr ⟨zVis_97, List.forall_mem_cons.mpr ⟨zVis_98, List.forall_mem_cons.mpr ⟨zVis_99, List.forall_mem_cons.mpr ⟨zVis_100, List.forall_mem_cons.mpr ⟨zVis_101, List.forall_mem_cons.mpr ⟨zVis_102, List.forall_mem_cons.mpr ⟨zVis_103, List.forall_mem_cons.mpr ⟨zVis_104, List.forall_mem_cons.mpr ⟨zVis_105, List.forall_mem_cons.mpr ⟨zVis_106, List.forall_mem_cons.mpr ⟨zVis_107, List.forall_mem_cons.mpr ⟨zVis_108, List.forall_mem_cons.mpr ⟨zVis_109, List.forall_mem_cons.mpr ⟨zVis_110, List.forall_mem_cons.mpr ⟨zVis_111, fun _ h => absurd h List.not_mem_nil⟩⟩⟩⟩⟩⟩⟩⟩⟩⟩⟩⟩⟩⟩⟩⟩
def zVis_l7 : List (Nat) := [135, 136, 137, 138, 139, 140, 141, 142, 143, 146, 147, 148, 149, 150, 153, 154]
theorem zVis_r7 : ∀ q ∈ zVis_l7, Cond.selects (zY q).cls (zY q) (zY q) ∈ lw_tbl := List.forall_mem_cons.mpr ⟨zVis_112, List.forall_mem_cons.mpr ⟨zVis_113, List.forall_mem_cons.mpr ⟨zVis_114, List.forall_mem_cons.mpr ⟨zVis_115, List.forall_mem_cons.mpr ⟨zVis_116, List.forall_mem_cons.mpr ⟨zVis_117, List.forall_mem_cons.mpr ⟨zVis_118, List.forall_mem_cons.mpr ⟨zVis_119, List.forall_mem_cons.mpr ⟨zVis_120, List.forall_mem_cons.mpr ⟨zVis_121, List.forall_mem_cons.mpr ⟨zVis_122, List.forall_mem_cons.mpr ⟨zVis_123, List.forall_mem_cons.mpr ⟨zVis_124, List.forall_mem_cons.mpr ⟨zVis_125, List.forall_mem_cons.mpr ⟨zVis_126, List.forall_mem_cons.mpr ⟨zVis_127, fun _ h => absurd h List.not_mem_nil⟩⟩⟩⟩⟩⟩⟩⟩⟩⟩⟩⟩⟩⟩⟩⟩
def zVis_l8 : List (Nat) := [155, 156, 157, 158, 159, 161, 162, 163, 164, 165, 166, 167, 168, 170, 173, 174]
theorem zVis_r8 : ∀ q ∈ zVis_l8, Cond.selects (zY q).cls (zY q) (zY q) ∈ lw_tbl := List.forall_mem_cons.mpr ⟨zVis_128, List.forall_mem_cons.mpr ⟨zVis_129, List.forall_mem_cons.mpr ⟨zVis_130, List.forall_mem_cons.mpr ⟨zVis_131, List.forall_mem_cons.mpr ⟨zVis_132, List.forall_mem_cons.mpr ⟨zVis_133, List.forall_mem_cons.mpr ⟨zVis_134, List.forall_mem_cons.mpr ⟨zVis_135, List.forall_mem_cons.mpr ⟨zVis_136, List.forall_mem_cons.mpr ⟨zVis_137, List.forall_mem_cons.mpr ⟨zVis_138, List.forall_mem_cons.mpr ⟨zVis_139, List.forall_mem_cons.mpr ⟨zVis_140, List.forall_mem_cons.mpr ⟨zVis_141, List.forall_mem_cons.mpr ⟨zVis_142, List.forall_mem_cons.mpr ⟨zVis_143, fun _ h => absurd h List.not_mem_nil⟩⟩⟩⟩⟩⟩⟩⟩⟩⟩⟩⟩⟩⟩⟩⟩
def zVis_l9 : List (Nat) := [175, 176, 177, 179, 180, 181, 182, 183, 184, 185, 186, 187, 188, 189, 191, 192]
theorem zVis_r9 : ∀ q ∈ zVis_l9, Cond.selects (zY q).cls (zY q) (zY q) ∈ lw_tbl := List.forall_mem_cons.mpr ⟨zVis_144, List.forall_mem_cons.mpr ⟨zVis_145, List.forall_mem_cons.mpr ⟨zVis_146, List.forall_mem_cons.mpr ⟨zVis_147, List.forall_mem_cons.mpr ⟨zVis_148, List.forall_mem_cons.mpr ⟨zVis_149, List.forall_mem_cons.mpr ⟨zVis_150, List.forall_mem_cons.mpr ⟨zVis_151, List.forall_mem_cons.mpr ⟨zVis_152, List.forall_mem_cons.mpr ⟨zVis_153, List.forall_mem_cons.mpr ⟨zVis_154, List.forall_mem_cons.mpr ⟨zVis_155, List.forall_mem_cons.mpr ⟨zVis_156, List.forall_mem_cons.mpr ⟨zVis_157, List.forall_mem_cons.mpr ⟨zVis_158, List.forall_mem_cons.mpr ⟨zVis_159, fun _ h => absurd h List.not_mem_nil⟩⟩⟩⟩⟩⟩⟩⟩⟩⟩⟩⟩⟩⟩⟩⟩
def zVis_l10 : List (Nat) := [193, 194, 195, 196, 197, 198, 199, 200, 201, 202, 203, 204, 205, 206, 207, 209]
theorem zVis_r10 : ∀ q ∈ zVis_l10, Cond.selects (zY q).cls (zY q) (zY q) ∈ lw_tbl := List.forall_mem_cons.mpr ⟨zVis_160, List.forall_mem_cons.mpr ⟨zVis_161, List.forall_mem_cons.mpr ⟨zVis_162, List.forall_mem_cons.mpr ⟨zVis_163, List.forall_mem_cons.mpr ⟨zVis_164, List.forall_mem_cons.mpr ⟨zVis_165, List.forall_mem_cons.mpr ⟨zVis_166, List.forall_mem_cons.mpr ⟨zVis_167, List.forall_mem_cons.mpr ⟨zVis_168, List.forall_mem_cons.mpr ⟨zVis_169, List.forall_mem_cons.mpr ⟨zVis_170, List.forall_mem_cons.mpr ⟨zVis_171, List.forall_mem_cons.mpr ⟨zVis_172, List.forall_mem_cons.mpr ⟨zVis_173, List.forall_mem_cons.mpr ⟨zVis_174, List.forall_mem_cons.mpr ⟨zVis_175, fun _ h => absurd h List.not_mem_nil⟩⟩⟩⟩⟩⟩⟩⟩⟩⟩⟩⟩⟩⟩⟩⟩
def zVis_l11 : List (Nat) := [210, 212, 213, 214, 215, 216, 217, 218, 219, 220, 221, 222, 223, 224, 225, 226]
theorem zVis_r11 : ∀ q ∈ zVis_l11, Cond.selects (zY q).cls (zY q) (zY q) ∈ lw_tbl := List.forall_mem_cons.mpr ⟨zVis_176, List.forall_mem_cons.mpr ⟨zVis_177, List.forall_mem_cons.mpr ⟨zVis_178, List.forall_mem_cons.mpr ⟨zVis_179, List.forall_mem_cons.mpr ⟨zVis_180, List.forall_mem_cons.mpr ⟨zVis_181, List.forall_mem_cons.mpr ⟨zVis_182, List.forall_mem_cons.mpr ⟨zVis_183, List.forall_mem_cons.mpr ⟨zVis_184, List.forall_mem_cons.mpr ⟨zVis_185, List.forall_mem_cons.mpr ⟨zVis_186, List.forall_mem_cons.mpr ⟨zVis_187, List.forall_mem_cons.mpr ⟨zVis_188, List.forall_mem_cons.mpr ⟨zVis_189, List.forall_mem_cons.mpr ⟨zVis_190, List.forall_mem_cons.mpr ⟨zVis_191, fun _ h => absurd h List.not_mem_nil⟩⟩⟩⟩⟩⟩⟩⟩⟩⟩⟩⟩⟩⟩⟩⟩
def zVis_l12 : List (Nat) := [227, 228, 229, 230, 231, 232, 233, 234, 235, 236, 237, 238, 239, 240, 241, 242]
theorem zVis_r12 : ∀ q ∈ zVis_l12, Cond.selects (zY q).cls (zY q) (zY q) ∈ lw_tbl := List.forall_mem_cons.mpr ⟨zVis_192, List.forall_mem_cons.mpr ⟨zVis_193, List.forall_mem_cons.mpr ⟨zVis_194, List.forall_mem_cons.mpr ⟨zVis_195, List.forall_mem_cons.mpr ⟨zVis_196, List.forall_mem_cons.mpr ⟨zVis_197, List.forall_mem_cons.mpr ⟨zVis_198, List.forall_mem_cons.mpr ⟨zVis_199, List.forall_mem_cons.mpr ⟨zVis_200, List.forall_mem_cons.mpr ⟨zVis_201, List.forall_mem_cons.mpr ⟨zVis_202, List.forall_mem_cons.mpr ⟨zVis_203, List.forall_mem_cons.mpr ⟨zVis_204, List.forall_mem_cons.mpr ⟨zVis_205, List.forall_mem_cons.mpr ⟨zVis_206, List.forall_mem_cons.mpr ⟨zVis_207, fun _ h => absurd h List.not_mem_nil⟩⟩⟩⟩⟩⟩⟩⟩⟩⟩⟩⟩⟩⟩⟩⟩
def zVis_l13 : List (Nat) := [243, 244, 245, 247, 248, 250, 251, 252, 253, 254, 255, 256, 257, 258, 259, 260]
theorem zVis_r13 : ∀ q ∈ zVis_l13, Cond.selects (zY q).cls (zY q) (zY q) ∈ lw_tbl := List.forall_mem_cons.mpr ⟨zVis_208, List.forall_mem_cons.mpr ⟨zVis_209, List.forall_mem_cons.mpr ⟨zVis_210, List.forall_mem_cons.mpr ⟨zVis_211, List.forall_mem_cons.mpr ⟨zVis_212, List.forall_mem_cons.mpr ⟨zVis_213, List.forall_mem_cons.mpr ⟨zVis_214, List.forall_mem_cons.mpr ⟨zVis_215, List.forall_mem_cons.mpr ⟨zVis_216, List.forall_mem_cons.mpr ⟨zVis_217, List.forall_mem_cons.mpr ⟨zVis_218, List.forall_mem_cons.mpr ⟨zVis_219, List.forall_mem_cons.mpr ⟨zVis_220, List.forall_mem_cons.mpr ⟨zVis_221, List.forall_mem_cons.mpr ⟨zVis_222, List.forall_mem_cons.mpr ⟨zVis_223, fun _ h => absurd h List.not_mem_nil⟩⟩⟩⟩⟩⟩⟩⟩⟩⟩⟩⟩⟩⟩⟩⟩
def zVis_l14 : List (Nat) := [261, 262, 263, 264, 265, 266, 267, 268, 269, 270, 271, 272, 273]
theorem zVis_r14 : ∀ q ∈ zVis_l14, Cond.selects (zY q).cls (zY q) (zY q) ∈ lw_tbl := List.forall_mem_cons.mpr ⟨zVis_224, List.forall_mem_cons.mpr ⟨zVis_225, List.forall_mem_cons.mpr ⟨zVis_226, List.forall_mem_cons.mpr ⟨zVis_227, List.forall_mem_cons.mpr ⟨zVis_228, List.forall_mem_cons.mpr ⟨zVis_229, List.forall_mem_cons.mpr ⟨zVis_230, List.forall_mem_cons.mpr ⟨zVis_231, List.forall_mem_cons.mpr ⟨zVis_232, List.forall_mem_cons.mpr ⟨zVis_233, List.forall_mem_cons.mpr ⟨zVis_234, List.forall_mem_cons.mpr ⟨zVis_235, List.forall_mem_cons.mpr ⟨zVis_236, fun _ h => absurd h List.not_mem_nil⟩⟩⟩⟩⟩⟩⟩⟩⟩⟩⟩⟩⟩
theorem zVis_sp : zVi = zVis_l0 ++ (zVis_l1 ++ (zVis_l2 ++ (zVis_l3 ++ (zVis_l4 ++ (zVis_l5 ++ (zVis_l6 ++ (zVis_l7 ++ (zVis_l8 ++ (zVis_l9 ++ (zVis_l10 ++ (zVis_l11 ++ (zVis_l12 ++ (zVis_l13 ++ (zVis_l14)))))))))))))) := by decide +kernel
theorem zVis_all : ∀ q ∈ zVi, Cond.selects (zY q).cls (zY q) (zY q) ∈ lw_tbl := by
  rw [zVis_sp]
  exact List.forall_mem_append.mpr ⟨zVis_r0, List.forall_mem_append.mpr ⟨zVis_r1, List.forall_mem_append.mpr ⟨zVis_r2, List.forall_mem_append.mpr ⟨zVis_r3, List.forall_mem_append.mpr ⟨zVis_r4, List.forall_mem_append.mpr ⟨zVis_r5, List.forall_mem_append.mpr ⟨zVis_r6, List.forall_mem_append.mpr ⟨zVis_r7, List.forall_mem_append.mpr ⟨zVis_r8, List.forall_mem_append.mpr ⟨zVis_r9, List.forall_mem_append.mpr ⟨zVis_r10, List.forall_mem_append.mpr ⟨zVis_r11, List.forall_mem_append.mpr ⟨zVis_r12, List.forall_mem_append.mpr ⟨zVis_r13, zVis_r14⟩⟩⟩⟩⟩⟩⟩⟩⟩⟩⟩⟩⟩⟩
set_option maxRecDepth 100000 in
theorem zMc_0 : Cond.code (zY 0) (zB 0) (zMi 0).2.1 (zMi 0).2.2 ∈ tables_1 := List.mem_of_getElem? (i := 573) rfl
set_option maxRecDepth 100000 in
theorem zMc_1 : Cond.code (zY 1) (zB 1) (zMi 1).2.1 (zMi 1).2.2 ∈ tables_1 := List.mem_of_getElem? (i := 713) rfl
set_option maxRecDepth 100000 in
theorem zMc_2 : Cond.code (zY 2) (zB 2) (zMi 2).2.1 (zMi 2).2.2 ∈ tables_1 := List.mem_of_getElem? (i := 902) rfl
set_option maxRecDepth 100000 in
theorem zMc_3 : Cond.code (zY 3) (zB 3) (zMi 3).2.1 (zMi 3).2.2 ∈ tables_1 := List.mem_of_getElem? (i := 545) rfl
set_option maxRecDepth 100000 in
theorem zMc_4 : Cond.code (zY 4) (zB 4) (zMi 4).2.1 (zMi 4).2.2 ∈ tables_1 := List.mem_of_getElem? (i := 410) rfl
set_option maxRecDepth 100000 in
theorem zMc_5 : Cond.code (zY 5) (zB 5) (zMi 5).2.1 (zMi 5).2.2 ∈ tables_1 := List.mem_of_getElem? (i := 147) rfl
set_option maxRecDepth 100000 in
theorem zMc_6 : Cond.code (zY 6) (zB 6) (zMi 6).2.1 (zMi 6).2.2 ∈ tables_1 := List.mem_of_getElem? (i := 107) rfl
set_option maxRecDepth 100000 in
theorem zMc_7 : Cond.code (zY 7) (zB 7) (zMi 7).2.1 (zMi 7).2.2 ∈ tables_1 := List.mem_of_getElem? (i := 733) rfl
set_option maxRecDepth 100000 in
theorem zMc_8 : Cond.code (zY 8) (zB 8) (zMi 8).2.1 (zMi 8).2.2 ∈ tables_1 := List.mem_of_getElem? (i := 738) rfl
set_option maxRecDepth 100000 in
theorem zMc_9 : Cond.code (zY 9) (zB 9) (zMi 9).2.1 (zMi 9).2.2 ∈ tables_1 := List.mem_of_getElem? (i := 744) rfl
set_option maxRecDepth 100000 in
theorem zMc_10 : Cond.code (zY 10) (zB 10) (zMi 10).2.1 (zMi 10).2.2 ∈ tables_1 := List.mem_of_getElem? (i := 749) rfl
set_option maxRecDepth 100000 in
theorem zMc_11 : Cond.code (zY 11) (zB 11) (zMi 11).2.1 (zMi 11).2.2 ∈ tables_1 := List.mem_of_getElem? (i := 227) rfl
set_option maxRecDepth 100000 in
theorem zMc_12 : Cond.code (zY 12) (zB 12) (zMi 12).2.1 (zMi 12).2.2 ∈ tables_1 := List.mem_of_getElem? (i := 614) rfl
set_option maxRecDepth 100000 in
theorem zMc_13 : Cond.code (zY 13) (zB 13) (zMi 13).2.1 (zMi 13).2.2 ∈ tables_1 := List.mem_of_getElem? (i := 775) rfl
set_option maxRecDepth 100000 in
theorem zMc_14 : Cond.code (zY 14) (zB 14) (zMi 14).2.1 (zMi 14).2.2 ∈ tables_1 := List.mem_of_getElem? (i := 710) rfl
set_option maxRecDepth 100000 in
theorem zMc_15 : Cond.code (zY 15) (zB 15) (zMi 15).2.1 (zMi 15).2.2 ∈ tables_1 := List.mem_of_getElem? (i := 706) rfl
set_option maxRecDepth 100000 in
theorem zMc_16 : Cond.code (zY 16) (zB 16) (zMi 16).2.1 (zMi 16).2.2 ∈ tables_1 := List.mem_of_getElem? (i := 779) rfl
set_option maxRecDepth 100000 in
theorem zMc_17 : Cond.code (zY 17) (zB 17) (zMi 17).2.1 (zMi 17).2.2 ∈ tables_1 := List.mem_of_getElem? (i := 787) rfl
set_option maxRecDepth 100000 in
theorem zMc_18 : Cond.code (zY 18) (zB 18) (zMi 18).2.1 (zMi 18).2.2 ∈ tables_1 := List.mem_of_getElem? (i := 783) rfl
set_option maxRecDepth 100000 in
theorem zMc_19 : Cond.code (zY 19) (zB 19) (zMi 19).2.1 (zMi 19).2.2 ∈ tables_1 := List.mem_of_getElem? (i := 301) rfl
set_option maxRecDepth 100000 in
theorem zMc_20 : Cond.code (zY 20) (zB 20) (zMi 20).2.1 (zMi 20).2.2 ∈ tables_1 := List.mem_of_getElem? (i := 949) rfl
set_option maxRecDepth 100000 in
theorem zMc_21 : Cond.code (zY 21) (zB 21) (zMi 21).2.1 (zMi 21).2.2 ∈ tables_1 := List.mem_of_getElem? (i := 961) rfl
set_option maxRecDepth 100000 in
theorem zMc_22 : Cond.code (zY 22) (zB 22) (zMi 22).2.1 (zMi 22).2.2 ∈ tables_1 := List.mem_of_getElem? (i := 264) rfl
set_option maxRecDepth 100000 in
theorem zMc_23 : Cond.code (zY 23) (zB 23) (zMi 23).2.1 (zMi 23).2.2 ∈ tables_1 := List.mem_of_getElem? (i := 605) rfl
set_option maxRecDepth 100000 in
theorem zMc_24 : Cond.code (zY 24) (zB 24) (zMi 24).2.1 (zMi 24).2.2 ∈ tables_1 := List.mem_of_getElem? (i := 767) rfl
set_option maxRecDepth 100000 in
theorem zMc_25 : Cond.code (zY 25) (zB 25) (zMi 25).2.1 (zMi 25).2.2 ∈ tables_1 := List.mem_of_getElem? (i := 139) rfl
set_option maxRecDepth 100000 in
theorem zMc_26 : Cond.code (zY 26) (zB 26) (zMi 26).2.1 (zMi 26).2.2 ∈ tables_1 := List.mem_of_getElem? (i := 609) rfl
set_option maxRecDepth 100000 in
theorem zMc_27 : Cond.code (zY 27) (zB 27) (zMi 27).2.1 (zMi 27).2.2 ∈ tables_1 := List.mem_of_getElem? (i := 624) rfl
set_option maxRecDepth 100000 in
theorem zMc_28 : Cond.code (zY 28) (zB 28) (zMi 28).2.1 (zMi 28).2.2 ∈ tables_1 := List.mem_of_getElem? (i := 637) rfl
set_option maxRecDepth 100000 in
theorem zMc_29 : Cond.code (zY 29) (zB 29) (zMi 29).2.1 (zMi 29).2.2 ∈ tables_1 := List.mem_of_getElem? (i := 144) rfl
set_option maxRecDepth 100000 in
theorem zMc_30 : Cond.code (zY 30) (zB 30) (zMi 30).2.1 (zMi 30).2.2 ∈ tables_1 := List.mem_of_getElem? (i := 854) rfl
set_option maxRecDepth 100000 in
theorem zMc_31 : Cond.code (zY 31) (zB 31) (zMi 31).2.1 (zMi 31).2.2 ∈ tables_1 := List.mem_of_getElem? (i := 633) rfl
set_option maxRecDepth 100000 in
theorem zMc_32 : Cond.code (zY 32) (zB 32) (zMi 32).2.1 (zMi 32).2.2 ∈ tables_1 := List.mem_of_getElem? (i := 847) rfl
set_option maxRecDepth 100000 in
theorem zMc_33 : Cond.code (zY 33) (zB 33) (zMi 33).2.1 (zMi 33).2.2 ∈ tables_1 := List.mem_of_getElem? (i := 699) rfl
set_option maxRecDepth 100000 in
theorem zMc_34 : Cond.code (zY 34) (zB 34) (zMi 34).2.1 (zMi 34).2.2 ∈ tables_1 := List.mem_of_getElem? (i := 257) rfl
set_option maxRecDepth 100000 in
theorem zMc_35 : Cond.code (zY 35) (zB 35) (zMi 35).2.1 (zMi 35).2.2 ∈ tables_1 := List.mem_of_getElem? (i := 601) rfl
set_option maxRecDepth 100000 in
theorem zMc_36 : Cond.code (zY 36) (zB 36) (zMi 36).2.1 (zMi 36).2.2 ∈ tables_1 := List.mem_of_getElem? (i := 619) rfl
set_option maxRecDepth 100000 in
theorem zMc_37 : Cond.code (zY 37) (zB 37) (zMi 37).2.1 (zMi 37).2.2 ∈ tables_1 := List.mem_of_getElem? (i := 763) rfl
set_option maxRecDepth 100000 in
theorem zMc_38 : Cond.code (zY 38) (zB 38) (zMi 38).2.1 (zMi 38).2.2 ∈ tables_1 := List.mem_of_getElem? (i := 59) rfl
set_option maxRecDepth 100000 in
theorem zMc_39 : Cond.code (zY 39) (zB 39) (zMi 39).2.1 (zMi 39).2.2 ∈ tables_1 := List.mem_of_getElem? (i := 64) rfl
set_option maxRecDepth 100000 in
theorem zMc_40 : Cond.code (zY 40) (zB 40) (zMi 40).2.1 (zMi 40).2.2 ∈ tables_1 := List.mem_of_getElem? (i := 517) rfl
set_option maxRecDepth 100000 in
theorem zMc_41 : Cond.code (zY 41) (zB 41) (zMi 41).2.1 (zMi 41).2.2 ∈ tables_1 := List.mem_of_getElem? (i := 465) rfl
set_option maxRecDepth 100000 in
theorem zMc_42 : Cond.code (zY 42) (zB 42) (zMi 42).2.1 (zMi 42).2.2 ∈ tables_1 := List.mem_of_getElem? (i := 662) rfl
set_option maxRecDepth 100000 in
theorem zMc_43 : Cond.code (zY 43) (zB 43) (zMi 43).2.1 (zMi 43).2.2 ∈ tables_1 := List.mem_of_getElem? (i := 666) rfl
set_option maxRecDepth 100000 in
theorem zMc_44 : Cond.code (zY 44) (zB 44) (zMi 44).2.1 (zMi 44).2.2 ∈ tables_1 := List.mem_of_getElem? (i := 669) rfl
set_option maxRecDepth 100000 in
theorem zMc_45 : Cond.code (zY 45) (zB 45) (zMi 45).2.1 (zMi 45).2.2 ∈ tables_1 := List.mem_of_getElem? (i := 89) rfl
set_option maxRecDepth 100000 in
theorem zMc_46 : Cond.code (zY 46) (zB 46) (zMi 46).2.1 (zMi 46).2.2 ∈ tables_1 := List.mem_of_getElem? (i := 474) rfl
set_option maxRecDepth 100000 in
theorem zMc_47 : Cond.code (zY 47) (zB 47) (zMi 47).2.1 (zMi 47).2.2 ∈ tables_1 := List.mem_of_getElem? (i := 509) rfl
set_option maxRecDepth 100000 in
theorem zMc_48 : Cond.code (zY 48) (zB 48) (zMi 48).2.1 (zMi 48).2.2 ∈ tables_1 := List.mem_of_getElem? (i := 478) rfl
set_option maxRecDepth 100000 in
theorem zMc_49 : Cond.code (zY 49) (zB 49) (zMi 49).2.1 (zMi 49).2.2 ∈ tables_1 := List.mem_of_getElem? (i := 482) rfl
set_option maxRecDepth 100000 in
theorem zMc_50 : Cond.code (zY 50) (zB 50) (zMi 50).2.1 (zMi 50).2.2 ∈ tables_1 := List.mem_of_getElem? (i := 486) rfl
set_option maxRecDepth 100000 in
theorem zMc_51 : Cond.code (zY 51) (zB 51) (zMi 51).2.1 (zMi 51).2.2 ∈ tables_1 := List.mem_of_getElem? (i := 490) rfl
set_option maxRecDepth 100000 in
theorem zMc_52 : Cond.code (zY 52) (zB 52) (zMi 52).2.1 (zMi 52).2.2 ∈ tables_1 := List.mem_of_getElem? (i := 495) rfl
set_option maxRecDepth 100000 in
theorem zMc_53 : Cond.code (zY 53) (zB 53) (zMi 53).2.1 (zMi 53).2.2 ∈ tables_1 := List.mem_of_getElem? (i := 505) rfl
set_option maxRecDepth 100000 in
theorem zMc_54 : Cond.code (zY 54) (zB 54) (zMi 54).2.1 (zMi 54).2.2 ∈ tables_1 := List.mem_of_getElem? (i := 512) rfl
set_option maxRecDepth 100000 in
theorem zMc_55 : Cond.code (zY 55) (zB 55) (zMi 55).2.1 (zMi 55).2.2 ∈ tables_1 := List.mem_of_getElem? (i := 322) rfl
set_option maxRecDepth 100000 in
theorem zMc_56 : Cond.code (zY 56) (zB 56) (zMi 56).2.1 (zMi 56).2.2 ∈ tables_1 := List.mem_of_getElem? (i := 977) rfl
set_option maxRecDepth 100000 in
theorem zMc_57 : Cond.code (zY 57) (zB 57) (zMi 57).2.1 (zMi 57).2.2 ∈ tables_1 := List.mem_of_getElem? (i := 993) rfl
set_option maxRecDepth 100000 in
theorem zMc_58 : Cond.code (zY 58) (zB 58) (zMi 58).2.1 (zMi 58).2.2 ∈ tables_1 := List.mem_of_getElem? (i := 34) rfl
set_option maxRecDepth 100000 in
theorem zMc_59 : Cond.code (zY 59) (zB 59) (zMi 59).2.1 (zMi 59).2.2 ∈ tables_1 := List.mem_of_getElem? (i := 395) rfl
set_option maxRecDepth 100000 in
theorem zMc_60 : Cond.code (zY 60) (zB 60) (zMi 60).2.1 (zMi 60).2.2 ∈ tables_1 := List.mem_of_getElem? (i := 407) rfl
set_option maxRecDepth 100000 in
theorem zMc_61 : Cond.code (zY 61) (zB 61) (zMi 61).2.1 (zMi 61).2.2 ∈ tables_1 := List.mem_of_getElem? (i := 418) rfl
set_option maxRecDepth 100000 in
theorem zMc_62 : Cond.code (zY 62) (zB 62) (zMi 62).2.1 (zMi 62).2.2 ∈ tables_1 := List.mem_of_getElem? (i := 453) rfl
set_option maxRecDepth 100000 in
theorem zMc_63 : Cond.code (zY 63) (zB 63) (zMi 63).2.1 (zMi 63).2.2 ∈ tables_1 := List.mem_of_getElem? (i := 457) rfl
set_option maxRecDepth 100000 in
theorem zMc_64 : Cond.code (zY 64) (zB 64) (zMi 64).2.1 (zMi 64).2.2 ∈ tables_1 := List.mem_of_getElem? (i := 434) rfl
set_option maxRecDepth 100000 in
theorem zMc_65 : Cond.code (zY 65) (zB 65) (zMi 65).2.1 (zMi 65).2.2 ∈ tables_1 := List.mem_of_getElem? (i := 500) rfl
set_option maxRecDepth 100000 in
theorem zMc_66 : Cond.code (zY 66) (zB 66) (zMi 66).2.1 (zMi 66).2.2 ∈ tables_1 := List.mem_of_getElem? (i := 438) rfl
set_option maxRecDepth 100000 in
theorem zMc_67 : Cond.code (zY 67) (zB 67) (zMi 67).2.1 (zMi 67).2.2 ∈ tables_1 := List.mem_of_getElem? (i := 426) rfl
set_option maxRecDepth 100000 in
theorem zMc_68 : Cond.code (zY 68) (zB 68) (zMi 68).2.1 (zMi 68).2.2 ∈ tables_1 := List.mem_of_getElem? (i := 446) rfl
set_option maxRecDepth 100000 in
theorem zMc_69 : Cond.code (zY 69) (zB 69) (zMi 69).2.1 (zMi 69).2.2 ∈ tables_1 := List.mem_of_getElem? (i := 430) rfl
set_option maxRecDepth 100000 in
theorem zMc_70 : Cond.code (zY 70) (zB 70) (zMi 70).2.1 (zMi 70).2.2 ∈ tables_1 := List.mem_of_getElem? (i := 133) rfl
set_option maxRecDepth 100000 in
theorem zMc_71 : Cond.code (zY 71) (zB 71) (zMi 71).2.1 (zMi 71).2.2 ∈ tables_1 := List.mem_of_getElem? (i := 646) rfl
set_option maxRecDepth 100000 in
theorem zMc_72 : Cond.code (zY 72) (zB 72) (zMi 72).2.1 (zMi 72).2.2 ∈ tables_1 := List.mem_of_getElem? (i := 557) rfl
set_option maxRecDepth 100000 in
theorem zMc_73 : Cond.code (zY 73) (zB 73) (zMi 73).2.1 (zMi 73).2.2 ∈ tables_1 := List.mem_of_getElem? (i := 592) rfl
set_option maxRecDepth 100000 in
theorem zMc_74 : Cond.code (zY 74) (zB 74) (zMi 74).2.1 (zMi 74).2.2 ∈ tables_1 := List.mem_of_getElem? (i := 569) rfl
set_option maxRecDepth 100000 in
theorem zMc_75 : Cond.code (zY 75) (zB 75) (zMi 75).2.1 (zMi 75).2.2 ∈ tables_1 := List.mem_of_getElem? (i := 562) rfl
set_option maxRecDepth 100000 in
theorem zMc_76 : Cond.code (zY 76) (zB 76) (zMi 76).2.1 (zMi 76).2.2 ∈ tables_1 := List.mem_of_getElem? (i := 674) rfl
set_option maxRecDepth 100000 in
theorem zMc_77 : Cond.code (zY 77) (zB 77) (zMi 77).2.1 (zMi 77).2.2 ∈ tables_1 := List.mem_of_getElem? (i := 690) rfl
set_option maxRecDepth 100000 in
theorem zMc_78 : Cond.code (zY 78) (zB 78) (zMi 78).2.1 (zMi 78).2.2 ∈ tables_1 := List.mem_of_getElem? (i := 694) rfl
set_option maxRecDepth 100000 in
theorem zMc_79 : Cond.code (zY 79) (zB 79) (zMi 79).2.1 (zMi 79).2.2 ∈ tables_1 := List.mem_of_getElem? (i := 652) rfl
set_option maxRecDepth 100000 in
theorem zMc_80 : Cond.code (zY 80) (zB 80) (zMi 80).2.1 (zMi 80).2.2 ∈ tables_1 := List.mem_of_getElem? (i := 657) rfl
set_option maxRecDepth 100000 in
theorem zMc_81 : Cond.code (zY 81) (zB 81) (zMi 81).2.1 (zMi 81).2.2 ∈ tables_1 := List.mem_of_getElem? (i := 26) rfl
set_option maxRecDepth 100000 in
theorem zMc_82 : Cond.code (zY 82) (zB 82) (zMi 82).2.1 (zMi 82).2.2 ∈ tables_1 := List.mem_of_getElem? (i := 391) rfl
set_option maxRecDepth 100000 in
theorem zMc_83 : Cond.code (zY 83) (zB 83) (zMi 83).2.1 (zMi 83).2.2 ∈ tables_1 := List.mem_of_getElem? (i := 399) rfl
set_option maxRecDepth 100000 in
theorem zMc_84 : Cond.code (zY 84) (zB 84) (zMi 84).2.1 (zMi 84).2.2 ∈ tables_1 := List.mem_of_getElem? (i := 403) rfl
set_option maxRecDepth 100000 in
theorem zMc_85 : Cond.code (zY 85) (zB 85) (zMi 85).2.1 (zMi 85).2.2 ∈ tables_1 := List.mem_of_getElem? (i := 461) rfl
set_option maxRecDepth 100000 in
theorem zMc_86 : Cond.code (zY 86) (zB 86) (zMi 86).2.1 (zMi 86).2.2 ∈ tables_1 := List.mem_of_getElem? (i := 470) rfl
set_option maxRecDepth 100000 in
theorem zMc_87 : Cond.code (zY 87) (zB 87) (zMi 87).2.1 (zMi 87).2.2 ∈ tables_1 := List.mem_of_getElem? (i := 1031) rfl
set_option maxRecDepth 100000 in
theorem zMc_88 : Cond.code (zY 88) (zB 88) (zMi 88).2.1 (zMi 88).2.2 ∈ tables_1 := List.mem_of_getElem? (i := 524) rfl
set_option maxRecDepth 100000 in
theorem zMc_89 : Cond.code (zY 89) (zB 89) (zMi 89).2.1 (zMi 89).2.2 ∈ tables_1 := List.mem_of_getElem? (i := 538) rfl
set_option maxRecDepth 100000 in
theorem zMc_90 : Cond.code (zY 90) (zB 90) (zMi 90).2.1 (zMi 90).2.2 ∈ tables_1 := List.mem_of_getElem? (i := 553) rfl
set_option maxRecDepth 100000 in
theorem zMc_91 : Cond.code (zY 91) (zB 91) (zMi 91).2.1 (zMi 91).2.2 ∈ tables_1 := List.mem_of_getElem? (i := 580) rfl
set_option maxRecDepth 100000 in
theorem zMc_92 : Cond.code (zY 92) (zB 92) (zMi 92).2.1 (zMi 92).2.2 ∈ tables_1 := List.mem_of_getElem? (i := 629) rfl
set_option maxRecDepth 100000 in
theorem zMc_93 : Cond.code (zY 93) (zB 93) (zMi 93).2.1 (zMi 93).2.2 ∈ tables_1 := List.mem_of_getElem? (i := 642) rfl
set_option maxRecDepth 100000 in
theorem zMc_94 : Cond.code (zY 94) (zB 94) (zMi 94).2.1 (zMi 94).2.2 ∈ tables_1 := List.mem_of_getElem? (i := 682) rfl
set_option maxRecDepth 100000 in
theorem zMc_95 : Cond.code (zY 95) (zB 95) (zMi 95).2.1 (zMi 95).2.2 ∈ tables_1 := List.mem_of_getElem? (i := 725) rfl
set_option maxRecDepth 100000 in
theorem zMc_96 : Cond.code (zY 96) (zB 96) (zMi 96).2.1 (zMi 96).2.2 ∈ tables_1 := List.mem_of_getElem? (i := 729) rfl
set_option maxRecDepth 100000 in
theorem zMc_97 : Cond.code (zY 97) (zB 97) (zMi 97).2.1 (zMi 97).2.2 ∈ tables_1 := List.mem_of_getElem? (i := 759) rfl
set_option maxRecDepth 100000 in
theorem zMc_98 : Cond.code (zY 98) (zB 98) (zMi 98).2.1 (zMi 98).2.2 ∈ tables_1 := List.mem_of_getElem? (i := 1104) rfl
set_option maxRecDepth 100000 in
theorem zMc_99 : Cond.code (zY 99) (zB 99) (zMi 99).2.1 (zMi 99).2.2 ∈ tables_1 := List.mem_of_getElem? (i := 771) rfl
set_option maxRecDepth 100000 in
theorem zMc_100 : Cond.code (zY 100) (zB 100) (zMi 100).2.1 (zMi 100).2.2 ∈ tables_1 := List.mem_of_getElem? (i := 791) rfl
set_option maxRecDepth 100000 in
theorem zMc_101 : Cond.code (zY 101) (zB 101) (zMi 101).2.1 (zMi 101).2.2 ∈ tables_1 := List.mem_of_getElem? (i := 802) rfl
set_option maxRecDepth 100000 in
theorem zMc_102 : Cond.code (zY 102) (zB 102) (zMi 102).2.1 (zMi 102).2.2 ∈ tables_1 := List.mem_of_getElem? (i := 811) rfl
set_option maxRecDepth 100000 in
theorem zMc_103 : Cond.code (zY 103) (zB 103) (zMi 103).2.1 (zMi 103).2.2 ∈ tables_1 := List.mem_of_getElem? (i := 819) rfl
set_option maxRecDepth 100000 in
theorem zMc_104 : Cond.code (zY 104) (zB 104) (zMi 104).2.1 (zMi 104).2.2 ∈ tables_1 := List.mem_of_getElem? (i := 827) rfl
set_option maxRecDepth 100000 in
theorem zMc_105 : Cond.code (zY 105) (zB 105) (zMi 105).2.1 (zMi 105).2.2 ∈ tables_1 := List.mem_of_getElem? (i := 839) rfl
set_option maxRecDepth 100000 in
theorem zMc_106 : Cond.code (zY 106) (zB 106) (zMi 106).2.1 (zMi 106).2.2 ∈ tables_1 := List.mem_of_getElem? (i := 858) rfl
set_option maxRecDepth 100000 in
theorem zMc_107 : Cond.code (zY 107) (zB 107) (zMi 107).2.1 (zMi 107).2.2 ∈ tables_1 := List.mem_of_getElem? (i := 862) rfl
set_option maxRecDepth 100000 in
theorem zMc_108 : Cond.code (zY 108) (zB 108) (zMi 108).2.1 (zMi 108).2.2 ∈ tables_1 := List.mem_of_getElem? (i := 869) rfl
set_option maxRecDepth 100000 in
theorem zMc_109 : Cond.code (zY 109) (zB 109) (zMi 109).2.1 (zMi 109).2.2 ∈ tables_1 := List.mem_of_getElem? (i := 873) rfl
set_option maxRecDepth 100000 in
theorem zMc_110 : Cond.code (zY 110) (zB 110) (zMi 110).2.1 (zMi 110).2.2 ∈ tables_1 := List.mem_of_getElem? (i := 890) rfl
set_option maxRecDepth 100000 in
theorem zMc_111 : Cond.code (zY 111) (zB 111) (zMi 111).2.1 (zMi 111).2.2 ∈ tables_1 := List.mem_of_getElem? (i := 894) rfl
set_option maxRecDepth 100000 in
theorem zMc_112 : Cond.code (zY 112) (zB 112) (zMi 112).2.1 (zMi 112).2.2 ∈ tables_1 := List.mem_of_getElem? (i := 906) rfl
set_option maxRecDepth 100000 in
theorem zMc_113 : Cond.code (zY 113) (zB 113) (zMi 113).2.1 (zMi 113).2.2 ∈ tables_1 := List.mem_of_getElem? (i := 913) rfl
set_option maxRecDepth 100000 in
theorem zMc_114 : Cond.code (zY 114) (zB 114) (zMi 114).2.1 (zMi 114).2.2 ∈ tables_1 := List.mem_of_getElem? (i := 917) rfl
set_option maxRecDepth 100000 in
theorem zMc_115 : Cond.code (zY 115) (zB 115) (zMi 115).2.1 (zMi 115).2.2 ∈ tables_1 := List.mem_of_getElem? (i := 921) rfl
set_option maxRecDepth 100000 in
theorem zMc_116 : Cond.code (zY 116) (zB 116) (zMi 116).2.1 (zMi 116).2.2 ∈ tables_1 := List.mem_of_getElem? (i := 929) rfl
set_option maxRecDepth 100000 in
theorem zMc_117 : Cond.code (zY 117) (zB 117) (zMi 117).2.1 (zMi 117).2.2 ∈ tables_1 := List.mem_of_getElem? (i := 945) rfl
set_option maxRecDepth 100000 in
theorem zMc_118 : Cond.code (zY 118) (zB 118) (zMi 118).2.1 (zMi 118).2.2 ∈ tables_1 := List.mem_of_getElem? (i := 953) rfl
set_option maxRecDepth 100000 in
theorem zMc_119 : Cond.code (zY 119) (zB 119) (zMi 119).2.1 (zMi 119).2.2 ∈ tables_1 := List.mem_of_getElem? (i := 957) rfl
set_option maxRecDepth 100000 in
theorem zMc_120 : Cond.code (zY 120) (zB 120) (zMi 120).2.1 (zMi 120).2.2 ∈ tables_1 := List.mem_of_getElem? (i := 965) rfl
set_option maxRecDepth 100000 in
theorem zMc_121 : Cond.code (zY 121) (zB 121) (zMi 121).2.1 (zMi 121).2.2 ∈ tables_1 := List.mem_of_getElem? (i := 973) rfl
set_option maxRecDepth 100000 in
theorem zMc_122 : Cond.code (zY 122) (zB 122) (zMi 122).2.1 (zMi 122).2.2 ∈ tables_1 := List.mem_of_getElem? (i := 981) rfl
set_option maxRecDepth 100000 in
theorem zMc_123 : Cond.code (zY 123) (zB 123) (zMi 123).2.1 (zMi 123).2.2 ∈ tables_1 := List.mem_of_getElem? (i := 985) rfl
set_option maxRecDepth 100000 in
theorem zMc_124 : Cond.code (zY 124) (zB 124) (zMi 124).2.1 (zMi 124).2.2 ∈ tables_1 := List.mem_of_getElem? (i := 1000) rfl
set_option maxRecDepth 100000 in
theorem zMc_125 : Cond.code (zY 125) (zB 125) (zMi 125).2.1 (zMi 125).2.2 ∈ tables_1 := List.mem_of_getElem? (i := 1004) rfl
set_option maxRecDepth 100000 in
theorem zMc_126 : Cond.code (zY 126) (zB 126) (zMi 126).2.1 (zMi 126).2.2 ∈ tables_1 := List.mem_of_getElem? (i := 1008) rfl
set_option maxRecDepth 100000 in
theorem zMc_127 : Cond.code (zY 127) (zB 127) (zMi 127).2.1 (zMi 127).2.2 ∈ tables_1 := List.mem_of_getElem? (i := 1013) rfl
set_option maxRecDepth 100000 in
theorem zMc_128 : Cond.code (zY 128) (zB 128) (zMi 128).2.1 (zMi 128).2.2 ∈ tables_1 := List.mem_of_getElem? (i := 1018) rfl
set_option maxRecDepth 100000 in
theorem zMc_129 : Cond.code (zY 129) (zB 129) (zMi 129).2.1 (zMi 129).2.2 ∈ tables_1 := List.mem_of_getElem? (i := 1023) rfl
set_option maxRecDepth 100000 in
theorem zMc_130 : Cond.code (zY 130) (zB 130) (zMi 130).2.1 (zMi 130).2.2 ∈ tables_1 := List.mem_of_getElem? (i := 1113) rfl
set_option maxRecDepth 100000 in
theorem zMc_131 : Cond.code (zY 131) (zB 131) (zMi 131).2.1 (zMi 131).2.2 ∈ tables_1 := List.mem_of_getElem? (i := 449) rfl
set_option maxRecDepth 100000 in
theorem zMc_132 : Cond.code (zY 132) (zB 132) (zMi 132).2.1 (zMi 132).2.2 ∈ tables_1 := List.mem_of_getElem? (i := 565) rfl
set_option maxRecDepth 100000 in
theorem zMc_133 : Cond.code (zY 133) (zB 133) (zMi 133).2.1 (zMi 133).2.2 ∈ tables_1 := List.mem_of_getElem? (i := 531) rfl
set_option maxRecDepth 100000 in
theorem zMc_134 : Cond.code (zY 134) (zB 134) (zMi 134).2.1 (zMi 134).2.2 ∈ tables_1 := List.mem_of_getElem? (i := 528) rfl
set_option maxRecDepth 100000 in
theorem zMc_135 : Cond.code (zY 135) (zB 135) (zMi 135).2.1 (zMi 135).2.2 ∈ tables_1 := List.mem_of_getElem? (i := 588) rfl
set_option maxRecDepth 100000 in
theorem zMc_136 : Cond.code (zY 136) (zB 136) (zMi 136).2.1 (zMi 136).2.2 ∈ tables_1 := List.mem_of_getElem? (i := 584) rfl
set_option maxRecDepth 100000 in
theorem zMc_137 : Cond.code (zY 137) (zB 137) (zMi 137).2.1 (zMi 137).2.2 ∈ tables_1 := List.mem_of_getElem? (i := 597) rfl
set_option maxRecDepth 100000 in
theorem zMc_138 : Cond.code (zY 138) (zB 138) (zMi 138).2.1 (zMi 138).2.2 ∈ tables_1 := List.mem_of_getElem? (i := 678) rfl
set_option maxRecDepth 100000 in
theorem zMc_139 : Cond.code (zY 139) (zB 139) (zMi 139).2.1 (zMi 139).2.2 ∈ tables_1 := List.mem_of_getElem? (i := 721) rfl
set_option maxRecDepth 100000 in
theorem zMc_140 : Cond.code (zY 140) (zB 140) (zMi 140).2.1 (zMi 140).2.2 ∈ tables_1 := List.mem_of_getElem? (i := 941) rfl
set_option maxRecDepth 100000 in
theorem zMc_141 : Cond.code (zY 141) (zB 141) (zMi 141).2.1 (zMi 141).2.2 ∈ tables_1 := List.mem_of_getElem? (i := 414) rfl
set_option maxRecDepth 100000 in
theorem zMc_142 : Cond.code (zY 142) (zB 142) (zMi 142).2.1 (zMi 142).2.2 ∈ tables_1 := List.mem_of_getElem? (i := 422) rfl
set_option maxRecDepth 100000 in
theorem zMc_143 : Cond.code (zY 143) (zB 143) (zMi 143).2.1 (zMi 143).2.2 ∈ tables_1 := List.mem_of_getElem? (i := 442) rfl
set_option maxRecDepth 100000 in
theorem zMc_144 : Cond.code (zY 144) (zB 144) (zMi 144).2.1 (zMi 144).2.2 ∈ tables_1 := List.mem_of_getElem? (i := 534) rfl
set_option maxRecDepth 100000 in
theorem zMc_145 : Cond.code (zY 145) (zB 145) (zMi 145).2.1 (zMi 145).2.2 ∈ tables_1 := List.mem_of_getElem? (i := 541) rfl
set_option maxRecDepth 100000 in
theorem zMc_146 : Cond.code (zY 146) (zB 146) (zMi 146).2.1 (zMi 146).2.2 ∈ tables_1 := List.mem_of_getElem? (i := 549) rfl
set_option maxRecDepth 100000 in
theorem zMc_147 : Cond.code (zY 147) (zB 147) (zMi 147).2.1 (zMi 147).2.2 ∈ tables_1 := List.mem_of_getElem? (i := 717) rfl
set_option maxRecDepth 100000 in
theorem zMc_148 : Cond.code (zY 148) (zB 148) (zMi 148).2.1 (zMi 148).2.2 ∈ tables_1 := List.mem_of_getElem? (i := 686) rfl
set_option maxRecDepth 100000 in
theorem zMc_149 : Cond.code (zY 149) (zB 149) (zMi 149).2.1 (zMi 149).2.2 ∈ tables_1 := List.mem_of_getElem? (i := 755) rfl
set_option maxRecDepth 100000 in
theorem zMc_150 : Cond.code (zY 150) (zB 150) (zMi 150).2.1 (zMi 150).2.2 ∈ tables_1 := List.mem_of_getElem? (i := 795) rfl
set_option maxRecDepth 100000 in
theorem zMc_151 : Cond.code (zY 151) (zB 151) (zMi 151).2.1 (zMi 151).2.2 ∈ tables_1 := List.mem_of_getElem? (i := 798) rfl
set_option maxRecDepth 100000 in
theorem zMc_152 : Cond.code (zY 152) (zB 152) (zMi 152).2.1 (zMi 152).2.2 ∈ tables_1 := List.mem_of_getElem? (i := 909) rfl
set_option maxRecDepth 100000 in
theorem zMc_153 : Cond.code (zY 153) (zB 153) (zMi 153).2.1 (zMi 153).2.2 ∈ tables_1 := List.mem_of_getElem? (i := 898) rfl
set_option maxRecDepth 100000 in
theorem zMc_154 : Cond.code (zY 154) (zB 154) (zMi 154).2.1 (zMi 154).2.2 ∈ tables_1 := List.mem_of_getElem? (i := 806) rfl
set_option maxRecDepth 100000 in
theorem zMc_155 : Cond.code (zY 155) (zB 155) (zMi 155).2.1 (zMi 155).2.2 ∈ tables_1 := List.mem_of_getElem? (i := 815) rfl
set_option maxRecDepth 100000 in
theorem zMc_156 : Cond.code (zY 156) (zB 156) (zMi 156).2.1 (zMi 156).2.2 ∈ tables_1 := List.mem_of_getElem? (i := 831) rfl
set_option maxRecDepth 100000 in
theorem zMc_157 : Cond.code (zY 157) (zB 157) (zMi 157).2.1 (zMi 157).2.2 ∈ tables_1 := List.mem_of_getElem? (i := 835) rfl
set_option maxRecDepth 100000 in
theorem zMc_158 : Cond.code (zY 158) (zB 158) (zMi 158).2.1 (zMi 158).2.2 ∈ tables_1 := List.mem_of_getElem? (i := 823) rfl
set_option maxRecDepth 100000 in
theorem zMc_159 : Cond.code (zY 159) (zB 159) (zMi 159).2.1 (zMi 159).2.2 ∈ tables_1 := List.mem_of_getElem? (i := 843) rfl
set_option maxRecDepth 100000 in
theorem zMc_160 : Cond.code (zY 160) (zB 160) (zMi 160).2.1 (zMi 160).2.2 ∈ tables_1 := List.mem_of_getElem? (i := 865) rfl
set_option maxRecDepth 100000 in
theorem zMc_161 : Cond.code (zY 161) (zB 161) (zMi 161).2.1 (zMi 161).2.2 ∈ tables_1 := List.mem_of_getElem? (i := 877) rfl
set_option maxRecDepth 100000 in
theorem zMc_162 : Cond.code (zY 162) (zB 162) (zMi 162).2.1 (zMi 162).2.2 ∈ tables_1 := List.mem_of_getElem? (i := 881) rfl
set_option maxRecDepth 100000 in
theorem zMc_163 : Cond.code (zY 163) (zB 163) (zMi 163).2.1 (zMi 163).2.2 ∈ tables_1 := List.mem_of_getElem? (i := 886) rfl
set_option maxRecDepth 100000 in
theorem zMc_164 : Cond.code (zY 164) (zB 164) (zMi 164).2.1 (zMi 164).2.2 ∈ tables_1 := List.mem_of_getElem? (i := 925) rfl
set_option maxRecDepth 100000 in
theorem zMc_165 : Cond.code (zY 165) (zB 165) (zMi 165).2.1 (zMi 165).2.2 ∈ tables_1 := List.mem_of_getElem? (i := 937) rfl
set_option maxRecDepth 100000 in
theorem zMc_166 : Cond.code (zY 166) (zB 166) (zMi 166).2.1 (zMi 166).2.2 ∈ tables_1 := List.mem_of_getElem? (i := 933) rfl
set_option maxRecDepth 100000 in
theorem zMc_167 : Cond.code (zY 167) (zB 167) (zMi 167).2.1 (zMi 167).2.2 ∈ tables_1 := List.mem_of_getElem? (i := 969) rfl
set_option maxRecDepth 100000 in
theorem zMc_168 : Cond.code (zY 168) (zB 168) (zMi 168).2.1 (zMi 168).2.2 ∈ tables_1 := List.mem_of_getElem? (i := 989) rfl
set_option maxRecDepth 100000 in
theorem zMc_169 : Cond.code (zY 169) (zB 169) (zMi 169).2.1 (zMi 169).2.2 ∈ tables_1 := List.mem_of_getElem? (i := 1119) rfl
set_option maxRecDepth 100000 in
theorem zMc_170 : Cond.code (zY 170) (zB 170) (zMi 170).2.1 (zMi 170).2.2 ∈ tables_1 := List.mem_of_getElem? (i := 1279) rfl
set_option maxRecDepth 100000 in
theorem zMc_171 : Cond.code (zY 171) (zB 171) (zMi 171).2.1 (zMi 171).2.2 ∈ tables_1 := List.mem_of_getElem? (i := 1290) rfl
set_option maxRecDepth 100000 in
theorem zMc_172 : Cond.code (zY 172) (zB 172) (zMi 172).2.1 (zMi 172).2.2 ∈ tables_1 := List.mem_of_getElem? (i := 1402) rfl
set_option maxRecDepth 100000 in
theorem zMc_173 : Cond.code (zY 173) (zB 173) (zMi 173).2.1 (zMi 173).2.2 ∈ tables_1 := List.mem_of_getElem? (i := 1373) rfl
set_option maxRecDepth 100000 in
theorem zMc_174 : Cond.code (zY 174) (zB 174) (zMi 174).2.1 (zMi 174).2.2 ∈ tables_1 := List.mem_of_getElem? (i := 1441) rfl
set_option maxRecDepth 100000 in
theorem zMc_175 : Cond.code (zY 175) (zB 175) (zMi 175).2.1 (zMi 175).2.2 ∈ tables_1 := List.mem_of_getElem? (i := 1369) rfl
set_option maxRecDepth 100000 in
theorem zMc_176 : Cond.code (zY 176) (zB 176) (zMi 176).2.1 (zMi 176).2.2 ∈ tables_1 := List.mem_of_getElem? (i := 1381) rfl
set_option maxRecDepth 100000 in
theorem zMc_177 : Cond.code (zY 177) (zB 177) (zMi 177).2.1 (zMi 177).2.2 ∈ tables_1 := List.mem_of_getElem? (i := 1377) rfl
set_option maxRecDepth 100000 in
theorem zMc_178 : Cond.code (zY 178) (zB 178) (zMi 178).2.1 (zMi 178).2.2 ∈ tables_1 := List.mem_of_getElem? (i := 1532) rfl
set_option maxRecDepth 100000 in
theorem zMc_179 : Cond.code (zY 179) (zB 179) (zMi 179).2.1 (zMi 179).2.2 ∈ tables_1 := List.mem_of_getElem? (i := 1283) rfl
set_option maxRecDepth 100000 in
theorem zMc_180 : Cond.code (zY 180) (zB 180) (zMi 180).2.1 (zMi 180).2.2 ∈ tables_1 := List.mem_of_getElem? (i := 1287) rfl
set_option maxRecDepth 100000 in
theorem zMc_181 : Cond.code (zY 181) (zB 181) (zMi 181).2.1 (zMi 181).2.2 ∈ tables_1 := List.mem_of_getElem? (i := 1298) rfl
set_option maxRecDepth 100000 in
theorem zMc_182 : Cond.code (zY 182) (zB 182) (zMi 182).2.1 (zMi 182).2.2 ∈ tables_1 := List.mem_of_getElem? (i := 1318) rfl
set_option maxRecDepth 100000 in
theorem zMc_183 : Cond.code (zY 183) (zB 183) (zMi 183).2.1 (zMi 183).2.2 ∈ tables_1 := List.mem_of_getElem? (i := 1302) rfl
set_option maxRecDepth 100000 in
theorem zMc_184 : Cond.code (zY 184) (zB 184) (zMi 184).2.1 (zMi 184).2.2 ∈ tables_1 := List.mem_of_getElem? (i := 1306) rfl
set_option maxRecDepth 100000 in
theorem zMc_185 : Cond.code (zY 185) (zB 185) (zMi 185).2.1 (zMi 185).2.2 ∈ tables_1 := List.mem_of_getElem? (i := 1326) rfl
set_option maxRecDepth 100000 in
theorem zMc_186 : Cond.code (zY 186) (zB 186) (zMi 186).2.1 (zMi 186).2.2 ∈ tables_1 := List.mem_of_getElem? (i := 1322) rfl
set_option maxRecDepth 100000 in
theorem zMc_187 : Cond.code (zY 187) (zB 187) (zMi 187).2.1 (zMi 187).2.2 ∈ tables_1 := List.mem_of_getElem? (i := 1314) rfl
set_option maxRecDepth 100000 in
theorem zMc_188 : Cond.code (zY 188) (zB 188) (zMi 188).2.1 (zMi 188).2.2 ∈ tables_1 := List.mem_of_getElem? (i := 1330) rfl
set_option maxRecDepth 100000 in
theorem zMc_189 : Cond.code (zY 189) (zB 189) (zMi 189).2.1 (zMi 189).2.2 ∈ tables_1 := List.mem_of_getElem? (i := 1294) rfl
set_option maxRecDepth 100000 in
theorem zMc_190 : Cond.code (zY 190) (zB 190) (zMi 190).2.1 (zMi 190).2.2 ∈ tables_1 := List.mem_of_getElem? (i := 1333) rfl
set_option maxRecDepth 100000 in
theorem zMc_191 : Cond.code (zY 191) (zB 191) (zMi 191).2.1 (zMi 191).2.2 ∈ tables_1 := List.mem_of_getElem? (i := 1310) rfl
set_option maxRecDepth 100000 in
theorem zMc_192 : Cond.code (zY 192) (zB 192) (zMi 192).2.1 (zMi 192).2.2 ∈ tables_1 := List.mem_of_getElem? (i := 1337) rfl
set_option maxRecDepth 100000 in
theorem zMc_193 : Cond.code (zY 193) (zB 193) (zMi 193).2.1 (zMi 193).2.2 ∈ tables_1 := List.mem_of_getElem? (i := 1345) rfl
set_option maxRecDepth 100000 in
theorem zMc_194 : Cond.code (zY 194) (zB 194) (zMi 194).2.1 (zMi 194).2.2 ∈ tables_1 := List.mem_of_getElem? (i := 1349) rfl
set_option maxRecDepth 100000 in
theorem zMc_195 : Cond.code (zY 195) (zB 195) (zMi 195).2.1 (zMi 195).2.2 ∈ tables_1 := List.mem_of_getElem? (i := 1353) rfl
set_option maxRecDepth 100000 in
theorem zMc_196 : Cond.code (zY 196) (zB 196) (zMi 196).2.1 (zMi 196).2.2 ∈ tables_1 := List.mem_of_getElem? (i := 1357) rfl
set_option maxRecDepth 100000 in
theorem zMc_197 : Cond.code (zY 197) (zB 197) (zMi 197).2.1 (zMi 197).2.2 ∈ tables_1 := List.mem_of_getElem? (i := 1361) rfl
set_option maxRecDepth 100000 in
theorem zMc_198 : Cond.code (zY 198) (zB 198) (zMi 198).2.1 (zMi 198).2.2 ∈ tables_1 := List.mem_of_getElem? (i := 1341) rfl
set_option maxRecDepth 100000 in
theorem zMc_199 : Cond.code (zY 199) (zB 199) (zMi 199).2.1 (zMi 199).2.2 ∈ tables_1 := List.mem_of_getElem? (i := 1437) rfl
set_option maxRecDepth 100000 in
theorem zMc_200 : Cond.code (zY 200) (zB 200) (zMi 200).2.1 (zMi 200).2.2 ∈ tables_1 := List.mem_of_getElem? (i := 1365) rfl
set_option maxRecDepth 100000 in
theorem zMc_201 : Cond.code (zY 201) (zB 201) (zMi 201).2.1 (zMi 201).2.2 ∈ tables_1 := List.mem_of_getElem? (i := 1385) rfl
set_option maxRecDepth 100000 in
theorem zMc_202 : Cond.code (zY 202) (zB 202) (zMi 202).2.1 (zMi 202).2.2 ∈ tables_1 := List.mem_of_getElem? (i := 1389) rfl
set_option maxRecDepth 100000 in
theorem zMc_203 : Cond.code (zY 203) (zB 203) (zMi 203).2.1 (zMi 203).2.2 ∈ tables_1 := List.mem_of_getElem? (i := 1399) rfl
set_option maxRecDepth 100000 in
theorem zMc_204 : Cond.code (zY 204) (zB 204) (zMi 204).2.1 (zMi 204).2.2 ∈ tables_1 := List.mem_of_getElem? (i := 1395) rfl
set_option maxRecDepth 100000 in
theorem zMc_205 : Cond.code (zY 205) (zB 205) (zMi 205).2.1 (zMi 205).2.2 ∈ tables_1 := List.mem_of_getElem? (i := 1449) rfl
set_option maxRecDepth 100000 in
theorem zMc_206 : Cond.code (zY 206) (zB 206) (zMi 206).2.1 (zMi 206).2.2 ∈ tables_1 := List.mem_of_getElem? (i := 1453) rfl
set_option maxRecDepth 100000 in
theorem zMc_207 : Cond.code (zY 207) (zB 207) (zMi 207).2.1 (zMi 207).2.2 ∈ tables_1 := List.mem_of_getElem? (i := 1457) rfl
set_option maxRecDepth 100000 in
theorem zMc_208 : Cond.code (zY 208) (zB 208) (zMi 208).2.1 (zMi 208).2.2 ∈ tables_1 := List.mem_of_getElem? (i := 1418) rfl
set_option maxRecDepth 100000 in
theorem zMc_209 : Cond.code (zY 209) (zB 209) (zMi 209).2.1 (zMi 209).2.2 ∈ tables_1 := List.mem_of_getElem? (i := 1415) rfl
set_option maxRecDepth 100000 in
theorem zMc_210 : Cond.code (zY 210) (zB 210) (zMi 210).2.1 (zMi 210).2.2 ∈ tables_1 := List.mem_of_getElem? (i := 1411) rfl
set_option maxRecDepth 100000 in
theorem zMc_211 : Cond.code (zY 211) (zB 211) (zMi 211).2.1 (zMi 211).2.2 ∈ tables_1 := List.mem_of_getElem? (i := 1421) rfl
set_option maxRecDepth 100000 in
theorem zMc_212 : Cond.code (zY 212) (zB 212) (zMi 212).2.1 (zMi 212).2.2 ∈ tables_1 := List.mem_of_getElem? (i := 1407) rfl
set_option maxRecDepth 100000 in
theorem zMc_213 : Cond.code (zY 213) (zB 213) (zMi 213).2.1 (zMi 213).2.2 ∈ tables_1 := List.mem_of_getElem? (i := 1429) rfl
set_option maxRecDepth 100000 in
theorem zMc_214 : Cond.code (zY 214) (zB 214) (zMi 214).2.1 (zMi 214).2.2 ∈ tables_1 := List.mem_of_getElem? (i := 1425) rfl
set_option maxRecDepth 100000 in
theorem zMc_215 : Cond.code (zY 215) (zB 215) (zMi 215).2.1 (zMi 215).2.2 ∈ tables_1 := List.mem_of_getElem? (i := 1433) rfl
set_option maxRecDepth 100000 in
theorem zMc_216 : Cond.code (zY 216) (zB 216) (zMi 216).2.1 (zMi 216).2.2 ∈ tables_1 := List.mem_of_getElem? (i := 1461) rfl
set_option maxRecDepth 100000 in
theorem zMc_217 : Cond.code (zY 217) (zB 217) (zMi 217).2.1 (zMi 217).2.2 ∈ tables_1 := List.mem_of_getElem? (i := 1445) rfl
set_option maxRecDepth 100000 in
theorem zMc_218 : Cond.code (zY 218) (zB 218) (zMi 218).2.1 (zMi 218).2.2 ∈ tables_1 := List.mem_of_getElem? (i := 1465) rfl
set_option maxRecDepth 100000 in
theorem zMc_219 : Cond.code (zY 219) (zB 219) (zMi 219).2.1 (zMi 219).2.2 ∈ tables_1 := List.mem_of_getElem? (i := 1469) rfl
set_option maxRecDepth 100000 in
theorem zMc_220 : Cond.code (zY 220) (zB 220) (zMi 220).2.1 (zMi 220).2.2 ∈ tables_1 := List.mem_of_getElem? (i := 1473) rfl
set_option maxRecDepth 100000 in
theorem zMc_221 : Cond.code (zY 221) (zB 221) (zMi 221).2.1 (zMi 221).2.2 ∈ tables_1 := List.mem_of_getElem? (i := 1477) rfl
set_option maxRecDepth 100000 in
theorem zMc_222 : Cond.code (zY 222) (zB 222) (zMi 222).2.1 (zMi 222).2.2 ∈ tables_1 := List.mem_of_getElem? (i := 1481) rfl
set_option maxRecDepth 100000 in
theorem zMc_223 : Cond.code (zY 223) (zB 223) (zMi 223).2.1 (zMi 223).2.2 ∈ tables_1 := List.mem_of_getElem? (i := 1489) rfl
set_option maxRecDepth 100000 in
theorem zMc_224 : Cond.code (zY 224) (zB 224) (zMi 224).2.1 (zMi 224).2.2 ∈ tables_1 := List.mem_of_getElem? (i := 1493) rfl
set_option maxRecDepth 100000 in
theorem zMc_225 : Cond.code (zY 225) (zB 225) (zMi 225).2.1 (zMi 225).2.2 ∈ tables_1 := List.mem_of_getElem? (i := 1485) rfl
set_option maxRecDepth 100000 in
theorem zMc_226 : Cond.code (zY 226) (zB 226) (zMi 226).2.1 (zMi 226).2.2 ∈ tables_1 := List.mem_of_getElem? (i := 1497) rfl
set_option maxRecDepth 100000 in
theorem zMc_227 : Cond.code (zY 227) (zB 227) (zMi 227).2.1 (zMi 227).2.2 ∈ tables_1 := List.mem_of_getElem? (i := 1505) rfl
set_option maxRecDepth 100000 in
theorem zMc_228 : Cond.code (zY 228) (zB 228) (zMi 228).2.1 (zMi 228).2.2 ∈ tables_1 := List.mem_of_getElem? (i := 1509) rfl
set_option maxRecDepth 100000 in
theorem zMc_229 : Cond.code (zY 229) (zB 229) (zMi 229).2.1 (zMi 229).2.2 ∈ tables_1 := List.mem_of_getElem? (i := 1501) rfl
set_option maxRecDepth 100000 in
theorem zMc_230 : Cond.code (zY 230) (zB 230) (zMi 230).2.1 (zMi 230).2.2 ∈ tables_1 := List.mem_of_getElem? (i := 1517) rfl
set_option maxRecDepth 100000 in
theorem zMc_231 : Cond.code (zY 231) (zB 231) (zMi 231).2.1 (zMi 231).2.2 ∈ tables_1 := List.mem_of_getElem? (i := 1513) rfl
set_option maxRecDepth 100000 in
theorem zMc_232 : Cond.code (zY 232) (zB 232) (zMi 232).2.1 (zMi 232).2.2 ∈ tables_1 := List.mem_of_getElem? (i := 1521) rfl
set_option maxRecDepth 100000 in
theorem zMc_233 : Cond.code (zY 233) (zB 233) (zMi 233).2.1 (zMi 233).2.2 ∈ tables_1 := List.mem_of_getElem? (i := 1525) rfl
set_option maxRecDepth 100000 in
theorem zMc_234 : Cond.code (zY 234) (zB 234) (zMi 234).2.1 (zMi 234).2.2 ∈ tables_1 := List.mem_of_getElem? (i := 1536) rfl
set_option maxRecDepth 100000 in
theorem zMc_235 : Cond.code (zY 235) (zB 235) (zMi 235).2.1 (zMi 235).2.2 ∈ tables_1 := List.mem_of_getElem? (i := 1529) rfl
set_option maxRecDepth 100000 in
theorem zMc_236 : Cond.code (zY 236) (zB 236) (zMi 236).2.1 (zMi 236).2.2 ∈ tables_1 := List.mem_of_getElem? (i := 1548) rfl
set_option maxRecDepth 100000 in
theorem zMc_237 : Cond.code (zY 237) (zB 237) (zMi 237).2.1 (zMi 237).2.2 ∈ tables_1 := List.mem_of_getElem? (i := 1544) rfl
set_option maxRecDepth 100000 in
theorem zMc_238 : Cond.code (zY 238) (zB 238) (zMi 238).2.1 (zMi 238).2.2 ∈ tables_1 := List.mem_of_getElem? (i := 1540) rfl
set_option maxRecDepth 100000 in
theorem zMc_239 : Cond.code (zY 239) (zB 239) (zMi 239).2.1 (zMi 239).2.2 ∈ tables_1 := List.mem_of_getElem? (i := 1552) rfl
set_option maxRecDepth 100000 in
theorem zMc_240 : Cond.code (zY 240) (zB 240) (zMi 240).2.1 (zMi 240).2.2 ∈ tables_1 := List.mem_of_getElem? (i := 1556) rfl
set_option maxRecDepth 100000 in
theorem zMc_241 : Cond.code (zY 241) (zB 241) (zMi 241).2.1 (zMi 241).2.2 ∈ tables_1 := List.mem_of_getElem? (i := 1564) rfl
set_option maxRecDepth 100000 in
theorem zMc_242 : Cond.code (zY 242) (zB 242) (zMi 242).2.1 (zMi 242).2.2 ∈ tables_1 := List.mem_of_getElem? (i := 1560) rfl
set_option maxRecDepth 100000 in
theorem zMc_243 : Cond.code (zY 243) (zB 243) (zMi 243).2.1 (zMi 243).2.2 ∈ tables_1 := List.mem_of_getElem? (i := 1569) rfl
set_option maxRecDepth 100000 in
theorem zMc_244 : Cond.code (zY 244) (zB 244) (zMi 244).2.1 (zMi 244).2.2 ∈ tables_1 := List.mem_of_getElem? (i := 1573) rfl
set_option maxRecDepth 100000 in
theorem zMc_245 : Cond.code (zY 245) (zB 245) (zMi 245).2.1 (zMi 245).2.2 ∈ tables_1 := List.mem_of_getElem? (i := 1577) rfl
set_option maxRecDepth 100000 in
theorem zMc_246 : Cond.code (zY 246) (zB 246) (zMi 246).2.1 (zMi 246).2.2 ∈ tables_1 := List.mem_of_getElem? (i := 1589) rfl
set_option maxRecDepth 100000 in
theorem zMc_247 : Cond.code (zY 247) (zB 247) (zMi 247).2.1 (zMi 247).2.2 ∈ tables_1 := List.mem_of_getElem? (i := 1586) rfl
set_option maxRecDepth 100000 in
theorem zMc_248 : Cond.code (zY 248) (zB 248) (zMi 248).2.1 (zMi 248).2.2 ∈ tables_1 := List.mem_of_getElem? (i := 1581) rfl
set_option maxRecDepth 100000 in
theorem zMc_249 : Cond.code (zY 249) (zB 249) (zMi 249).2.1 (zMi 249).2.2 ∈ tables_1 := List.mem_of_getElem? (i := 1597) rfl
set_option maxRecDepth 100000 in
theorem zMc_250 : Cond.code (zY 250) (zB 250) (zMi 250).2.1 (zMi 250).2.2 ∈ tables_1 := List.mem_of_getElem? (i := 1594) rfl
set_option maxRecDepth 100000 in
theorem zMc_251 : Cond.code (zY 251) (zB 251) (zMi 251).2.1 (zMi 251).2.2 ∈ tables_1 := List.mem_of_getElem? (i := 1601) rfl
set_option maxRecDepth 100000 in
theorem zMc_252 : Cond.code (zY 252) (zB 252) (zMi 252).2.1 (zMi 252).2.2 ∈ tables_1 := List.mem_of_getElem? (i := 1605) rfl
set_option maxRecDepth 100000 in
theorem zMc_253 : Cond.code (zY 253) (zB 253) (zMi 253).2.1 (zMi 253).2.2 ∈ tables_1 := List.mem_of_getElem? (i := 1613) rfl
set_option maxRecDepth 100000 in
theorem zMc_254 : Cond.code (zY 254) (zB 254) (zMi 254).2.1 (zMi 254).2.2 ∈ tables_1 := List.mem_of_getElem? (i := 1609) rfl
set_option maxRecDepth 100000 in
theorem zMc_255 : Cond.code (zY 255) (zB 255) (zMi 255).2.1 (zMi 255).2.2 ∈ tables_1 := List.mem_of_getElem? (i := 1621) rfl
set_option maxRecDepth 100000 in
theorem zMc_256 : Cond.code (zY 256) (zB 256) (zMi 256).2.1 (zMi 256).2.2 ∈ tables_1 := List.mem_of_getElem? (i := 1617) rfl
set_option maxRecDepth 100000 in
theorem zMc_257 : Cond.code (zY 257) (zB 257) (zMi 257).2.1 (zMi 257).2.2 ∈ tables_1 := List.mem_of_getElem? (i := 1625) rfl
set_option maxRecDepth 100000 in
theorem zMc_258 : Cond.code (zY 258) (zB 258) (zMi 258).2.1 (zMi 258).2.2 ∈ tables_1 := List.mem_of_getElem? (i := 1629) rfl
set_option maxRecDepth 100000 in
theorem zMc_259 : Cond.code (zY 259) (zB 259) (zMi 259).2.1 (zMi 259).2.2 ∈ tables_1 := List.mem_of_getElem? (i := 1637) rfl
set_option maxRecDepth 100000 in
theorem zMc_260 : Cond.code (zY 260) (zB 260) (zMi 260).2.1 (zMi 260).2.2 ∈ tables_1 := List.mem_of_getElem? (i := 1633) rfl
set_option maxRecDepth 100000 in
theorem zMc_261 : Cond.code (zY 261) (zB 261) (zMi 261).2.1 (zMi 261).2.2 ∈ tables_1 := List.mem_of_getElem? (i := 1641) rfl
set_option maxRecDepth 100000 in
theorem zMc_262 : Cond.code (zY 262) (zB 262) (zMi 262).2.1 (zMi 262).2.2 ∈ tables_1 := List.mem_of_getElem? (i := 1646) rfl
set_option maxRecDepth 100000 in
theorem zMc_263 : Cond.code (zY 263) (zB 263) (zMi 263).2.1 (zMi 263).2.2 ∈ tables_1 := List.mem_of_getElem? (i := 1650) rfl
set_option maxRecDepth 100000 in
theorem zMc_264 : Cond.code (zY 264) (zB 264) (zMi 264).2.1 (zMi 264).2.2 ∈ tables_1 := List.mem_of_getElem? (i := 1662) rfl
set_option maxRecDepth 100000 in
theorem zMc_265 : Cond.code (zY 265) (zB 265) (zMi 265).2.1 (zMi 265).2.2 ∈ tables_1 := List.mem_of_getElem? (i := 1658) rfl
set_option maxRecDepth 100000 in
theorem zMc_266 : Cond.code (zY 266) (zB 266) (zMi 266).2.1 (zMi 266).2.2 ∈ tables_1 := List.mem_of_getElem? (i := 1654) rfl
set_option maxRecDepth 100000 in
theorem zMc_267 : Cond.code (zY 267) (zB 267) (zMi 267).2.1 (zMi 267).2.2 ∈ tables_1 := List.mem_of_getElem? (i := 1666) rfl
set_option maxRecDepth 100000 in
theorem zMc_268 : Cond.code (zY 268) (zB 268) (zMi 268).2.1 (zMi 268).2.2 ∈ tables_1 := List.mem_of_getElem? (i := 1670) rfl
set_option maxRecDepth 100000 in
theorem zMc_269 : Cond.code (zY 269) (zB 269) (zMi 269).2.1 (zMi 269).2.2 ∈ tables_1 := List.mem_of_getElem? (i := 1674) rfl
set_option maxRecDepth 100000 in
theorem zMc_270 : Cond.code (zY 270) (zB 270) (zMi 270).2.1 (zMi 270).2.2 ∈ tables_1 := List.mem_of_getElem? (i := 1679) rfl
set_option maxRecDepth 100000 in
theorem zMc_271 : Cond.code (zY 271) (zB 271) (zMi 271).2.1 (zMi 271).2.2 ∈ tables_1 := List.mem_of_getElem? (i := 1683) rfl
set_option maxRecDepth 100000 in
theorem zMc_272 : Cond.code (zY 272) (zB 272) (zMi 272).2.1 (zMi 272).2.2 ∈ tables_1 := List.mem_of_getElem? (i := 1687) rfl
set_option maxRecDepth 100000 in
theorem zMc_273 : Cond.code (zY 273) (zB 273) (zMi 273).2.1 (zMi 273).2.2 ∈ tables_1 := List.mem_of_getElem? (i := 1691) rfl
def zMc_l0 : List (Nat) := [0, 1, 2, 3, 4, 5, 6, 7, 8, 9, 10, 11, 12, 13, 14, 15]
theorem zMc_r0 : ∀ q ∈ zMc_l0, Cond.code (zY q) (zB q) (zMi q).2.1 (zMi q).2.2 ∈ tables_1 := List.forall_mem_cons.mpr ⟨zMc_0, List.forall_mem_cons.mpr ⟨zMc_1, List.forall_mem_cons.mpr ⟨zMc_2, List.forall_mem_cons.mpr ⟨zMc_3, List.forall_mem_cons.mpr ⟨zMc_4, List.forall_mem_cons.mpr ⟨zMc_5, List.forall_mem_cons.mpr ⟨zMc_6, List.forall_mem_cons.mpr ⟨zMc_7, List.forall_mem_cons.mpr ⟨zMc_8, List.forall_mem_cons.mpr ⟨zMc_9, List.forall_mem_cons.mpr ⟨zMc_10, List.forall_mem_cons.mpr ⟨zMc_11, List.forall_mem_cons.mpr ⟨zMc_12, List.forall_mem_cons.mpr ⟨zMc_13, List.forall_mem_cons.mpr ⟨zMc_14, List.forall_mem_cons.mpr ⟨zMc_15, fun _ h => absurd h List.not_mem_nil⟩⟩⟩⟩⟩⟩⟩⟩⟩⟩⟩⟩⟩⟩⟩⟩
def zMc_l1 : List (Nat) := [16, 17, 18, 19, 20, 21, 22, 23, 24, 25, 26, 27, 28, 29, 30, 31]
theorem zMc_r1 : ∀ q ∈ zMc_l1, Cond.code (zY q) (zB q) (zMi q).2.1 (zMi q).2.2 ∈ tables_1 := List.forall_mem_cons.mpr ⟨zMc_16, List.forall_mem_cons.mpr ⟨zMc_17, List.forall_mem_cons.mpr ⟨zMc_18, List.forall_mem_cons.mpr ⟨zMc_19, List.forall_mem_cons.mpr ⟨zMc_20, List.forall_mem_cons.mpr ⟨zMc_21, List.forall_mem_cons.mpr ⟨zMc_22, List.forall_mem_cons.mpr ⟨zMc_23, List.forall_mem_cons.mpr ⟨zMc_24, List.forall_mem_cons.mpr ⟨zMc_25, List.forall_mem_cons.mpr ⟨zMc_26, List.forall_mem_cons.mpr ⟨zMc_27, List.forall_mem_cons.mpr ⟨zMc_28, List.forall_mem_cons.mpr ⟨zMc_29, List.forall_mem_cons.mpr ⟨zMc_30, List.forall_mem_cons.mpr ⟨zMc_31, fun _ h => absurd h List.not_mem_nil⟩⟩⟩⟩⟩⟩⟩⟩⟩⟩⟩⟩⟩⟩⟩⟩
def zMc_l2 : List (Nat) := [32, 33, 34, 35, 36, 37, 38, 39, 40, 41, 42, 43, 44, 45, 46, 47]
theorem zMc_r2 : ∀ q ∈ zMc_l2, Cond.code (zY q) (zB q) (zMi q).2.1 (zMi q).2.2 ∈ tables_1 := List.forall_mem_cons.mpr ⟨zMc_32, List.forall_mem_cons.mpr ⟨zMc_33, List.forall_mem_cons.mpr ⟨zMc_34, List.forall_mem_cons.mpr ⟨zMc_35, List.forall_mem_cons.mpr ⟨zMc_36, List.forall_mem_cons.mpr ⟨zMc_37, List.forall_mem_cons.mpr ⟨zMc_38, List.forall_mem_cons.mpr ⟨zMc_39, List.forall_mem_cons.mpr ⟨zMc_40, List.forall_mem_cons.mpr ⟨zMc_41, List.forall_mem_cons.mpr ⟨zMc_42, List.forall_mem_cons.mpr ⟨zMc_43, List.forall_mem_cons.mpr ⟨zMc_44, List.forall_mem_cons.mpr ⟨zMc_45, List.forall_mem_cons.mpr ⟨zMc_46, List.forall_mem_cons.mpr ⟨zMc_47, fun _ h => absurd h List.not_mem_nil⟩⟩⟩⟩⟩⟩⟩⟩⟩⟩⟩⟩⟩⟩⟩⟩
def zMc_l3 : List (Nat) := [48, 49, 50, 51, 52, 53, 54, 55, 56, 57, 58, 59, 60, 61, 62, 63]
theorem zMc_r3 : ∀ q ∈ zMc_l3, Cond.code (zY q) (zB q) (zMi q).2.1 (zMi q).2.2 ∈ tables_1 := List.forall_mem_cons.mpr ⟨zMc_48, List.forall_mem_cons.mpr ⟨zMc_49, List.forall_mem_cons.mpr ⟨zMc_50, List.forall_mem_cons.mpr ⟨zMc_51, List.forall_mem_cons.mpr ⟨zMc_52, List.forall_mem_cons.mpr ⟨zMc_53, List.forall_mem_cons.mpr ⟨zMc_54, List.forall_mem_cons.mpr ⟨zMc_55, List.forall_mem_cons.mpr ⟨zMc_56, List.forall_mem_cons.mpr ⟨zMc_57, List.forall_mem_cons.mpr ⟨zMc_58, List.forall_mem_cons.mpr ⟨zMc_59, List.forall_mem_cons.mpr ⟨zMc_60, List.forall_mem_cons.mpr ⟨zMc_61, List.forall_mem_cons.mpr ⟨zMc_62, List.forall_mem_cons.mpr ⟨zMc_63, fun _ h => absurd h List.not_mem_nil⟩⟩⟩⟩⟩⟩⟩⟩⟩⟩⟩⟩⟩⟩⟩⟩
def zMc_l4 : List (Nat) := [64, 65, 66, 67, 68, 69, 70, 71, 72, 73, 74, 75, 76, 77, 78, 79]
theorem zMc_r4 : ∀ q ∈ zMc_l4, Cond.code (zY q) (zB q) (zMi q).2.1 (zMi q).2.2 ∈ tables_1 := List.forall_mem_cons.mpr ⟨zMc_64, List.forall_mem_cons.mpr ⟨zMc_65, List.forall_mem_cons.mpr ⟨zMc_66, List.forall_mem_cons.mpr ⟨zMc_67, List.forall_mem_cons.mpr ⟨zMc_68, List.forall_mem_cons.mpr ⟨zMc_69, List.forall_mem_cons.mpr ⟨zMc_70, List.forall_mem_cons.mpr ⟨zMc_71, List.forall_mem_cons.mpr ⟨zMc_72, List.forall_mem_cons.mpr ⟨zMc_73, List.forall_mem_cons.mpr ⟨zMc_74, List.forall_mem_cons.mpr ⟨zMc_75, List.forall_mem_cons.mpr ⟨zMc_76, List.forall_mem_cons.mpr ⟨zMc_77, List.forall_mem_cons.mpr ⟨zMc_78, List.forall_mem_cons.mpr ⟨zMc_79, fun _ h => absurd h List.not_mem_nil⟩⟩⟩⟩⟩⟩⟩⟩⟩⟩⟩⟩⟩⟩⟩⟩
def zMc_l5 : List (Nat) := [80, 81, 82, 83, 84, 85, 86, 87, 88, 89, 90, 91, 92, 93, 94, 95]
theorem zMc_r5 : ∀ q ∈ zMc_l5, Cond.code (zY q) (zB q) (zMi q).2.1 (zMi q).2.2 ∈ tables_1 := List.forall_mem_cons.mpr ⟨zMc_80, List.forall_mem_cons.mpr ⟨zMc_81, List.forall_mem_cons.mpr ⟨zMc_82, List.forall_mem_cons.mpr ⟨zMc_83, List.forall_mem_cons.mpr ⟨zMc_84, List.forall_mem_cons.mpr ⟨zMc_85, List.forall_mem_cons.mpr ⟨zMc_86, List.forall_mem_cons.mpr ⟨zMc_87, List.forall_mem_cons.mpr ⟨zMc_88, List.forall_mem_cons.mpr ⟨zMc_89, List.forall_mem_cons.mpr ⟨zMc_90, List.forall_mem_cons.mpr ⟨zMc_91, List.forall_mem_cons.mpr ⟨zMc_92, List.forall_mem_cons.mpr ⟨zMc_93, List.forall_mem_cons.mpr ⟨zMc_94, List.forall_mem_cons.mpr ⟨zMc_95, fun _ h => absurd h List.not_mem_nil⟩⟩⟩⟩⟩⟩⟩⟩⟩⟩⟩⟩⟩⟩⟩⟩
def zMc_l6 : List (Nat) := [96, 97, 98, 99, 100, 101, 102, 103, 104, 105, 106, 107, 108, 109, 110, 111]
theorem zMc_r6 : ∀ q ∈ zMc_l6, Cond.code (zY q) (zB q) (zMi q).2.1 (zMi q).2.2 ∈ tables_1 := List.forall_mem_cons.mpr ⟨zMc_96, List.forall_mem_cons.mpr ⟨zMc_97, List.forall_mem_cons.mpr ⟨zMc_98, List.forall_mem_cons.mpr ⟨zMc_99, List.forall_mem_cons.mpr ⟨zMc_100, List.forall_mem_cons.mpr ⟨zMc_101, List.forall_mem_cons.mpr ⟨zMc_102, List.forall_mem_cons.mpr ⟨zMc_103, List.forall_mem_cons.mpr ⟨zMc_104, List.forall_mem_cons.mpr ⟨zMc_105, List.forall_mem_cons.mpr ⟨zMc_106, List.forall_mem_cons.mpr ⟨zMc_107, List.forall_mem_cons.mpr ⟨zMc_108, List.forall_mem_cons.mpr ⟨zMc_109, List.forall_mem_cons.mpr ⟨zMc_110, List.forall_mem_cons.mpr ⟨zMc_111, fun _ h => absurd h List.not_mem_nil⟩⟩⟩⟩⟩⟩⟩⟩⟩⟩⟩⟩⟩⟩⟩⟩
def zMc_l7 : List (Nat) := [112, 113, 114, 115, 116, 117, 118, 119, 120, 121, 122, 123, 124, 125, 126, 127]
theorem zMc_r7 : ∀ q ∈ zMc_l7, Cond.code (zY q) (zB q) (zMi q).2.1 (zMi q).2.2 ∈ tables_1 := List.forall_mem_cons.mpr ⟨zMc_112, List.forall_mem_cons.mpr ⟨zMc_113, List.forall_mem_cons.mpr ⟨zMc_114, List.forall_mem_cons.mpr ⟨zMc_115, List.forall_mem_cons.mpr ⟨zMc_116, List.forall_mem_cons.mpr ⟨zMc_117, List.forall_mem_cons.mpr ⟨zMc_118, List.forall_mem_cons.mpr ⟨zMc_119, List.forall_mem_cons.mpr ⟨zMc_120, List.forall_mem_cons.mpr ⟨zMc_121, List.forall_mem_cons.mpr ⟨zMc_122, List.forall_mem_cons.mpr ⟨zMc_123, List.forall_mem_cons.mpr ⟨zMc_124, List.forall_mem_cons.mpr ⟨zMc_125, List.forall_mem_cons.mpr ⟨zMc_126, List.forall_mem_cons.mpr ⟨zMc_127, fun _ h => absurd h List.not_mem_nil⟩⟩⟩⟩⟩⟩⟩⟩⟩⟩⟩⟩⟩⟩⟩⟩
def zMc_l8 : List (Nat) := [128, 129, 130, 131, 132, 133, 134, 135, 136, 137, 138, 139, 140, 141, 142, 143]
theorem zMc_r8 : ∀ q ∈ zMc_l8, Cond.code (zY q) (zB q) (zMi q).2.1 (zMi q).2.2 ∈ tables_1 := List.forall_mem_cons.mpr ⟨zMc_128, List.forall_mem_cons.mpr ⟨zMc_129, List.forall_mem_cons.mpr ⟨zMc_130, List.forall_mem_cons.mpr ⟨zMc_131, List.forall_mem_cons.mpr ⟨zMc_132, List.forall_mem_cons.mpr ⟨zMc_133, List.forall_mem_cons.mpr ⟨zMc_134, List.forall_mem_cons.mpr ⟨zMc_135, List.forall_mem_cons.mpr ⟨zMc_136, List.forall_mem_cons.mpr ⟨zMc_137, List.forall_mem_cons.mpr ⟨zMc_138, List.forall_mem_cons.mpr ⟨zMc_139, List.forall_mem_cons.mpr ⟨zMc_140, List.forall_mem_cons.mpr ⟨zMc_141, List.forall_mem_cons.mpr ⟨zMc_142, List.forall_mem_cons.mpr ⟨zMc_143, fun _ h => absurd h List.not_mem_nil⟩⟩⟩⟩⟩⟩⟩⟩⟩⟩⟩⟩⟩⟩⟩⟩
def zMc_l9 : List (Nat) := [144, 145, 146, 147, 148, 149, 150, 151, 152, 153, 154, 155, 156, 157, 158, 159]
theorem zMc_r9 : ∀ q ∈ zMc_l9, Cond.code (zY q) (zB q) (zMi q).2.1 (zMi q).2.2 ∈ tables_1 := List.forall_mem_cons.mpr ⟨zMc_144, List.forall_mem_cons.mpr ⟨zMc_145, List.forall_mem_cons.mpr ⟨zMc_146, List.forall_mem_cons.mpr ⟨zMc_147, List.forall_mem_cons.mpr ⟨zMc_148, List.forall_mem_cons.mpr ⟨zMc_149, List.forall_mem_cons.mpr ⟨zMc_150, List.forall_mem_cons.mpr ⟨zMc_151, List.forall_mem_cons.mpr ⟨zMc_152, List.forall_mem_cons.mpr ⟨zMc_153, List.forall_mem_cons.mpr ⟨zMc_154, List.forall_mem_cons.mpr ⟨zMc_155, List.forall_mem_cons.mpr ⟨zMc_156, List.forall_mem_cons.mpr ⟨zMc_157, List.forall_mem_cons.mpr ⟨zMc_158, List.forall_mem_cons.mpr ⟨zMc_159, fun _ h => absurd h List.not_mem_nil⟩⟩⟩⟩⟩⟩⟩⟩⟩⟩⟩⟩⟩⟩⟩⟩
def zMc_l10 : List (Nat) := [160, 161, 162, 163, 164, 165, 166, 167, 168, 169, 170, 171, 172, 173, 174, 175]
theorem zMc_r10 : ∀ q ∈ zMc_l10, Cond.code (zY q) (zB q) (zMi q).2.1 (zMi q).2.2 ∈ tables_1 := List.forall_mem_cons.mpr ⟨zMc_160, List.forall_mem_cons.mpr ⟨zMc_161, List.forall_mem_cons.mpr ⟨zMc_162, List.forall_mem_cons.mpr ⟨zMc_163, List.forall_mem_cons.mpr ⟨zMc_164, List.forall_mem_cons.mpr ⟨zMc_165, List.forall_mem_cons.mpr ⟨zMc_166, List.forall_mem_cons.mpr ⟨zMc_167, List.forall_mem_cons.mpr ⟨zMc_168, List.forall_mem_cons.mpr ⟨zMc_169, List.forall_mem_cons.mpr ⟨zMc_170, List.forall_mem_cons.mpr ⟨zMc_171, List.forall_mem_cons.mpr ⟨zMc_172, List.forall_mem_cons.mpr ⟨zMc_173, List.forall_mem_cons.mpr ⟨zMc_174, List.forall_mem_cons.mpr ⟨zMc_175, fun _ h => absurd h List.not_mem_nil⟩⟩⟩⟩⟩⟩⟩⟩⟩⟩⟩⟩⟩⟩⟩⟩
def zMc_l11 : List (Nat) := [176, 177, 178, 179, 180, 181, 182, 183, 184, 185, 186, 187, 188, 189, 190, 191]
theorem zMc_r11 : ∀ q ∈ zMc_l11, Cond.code (zY q) (zB q) (zMi q).2.1 (zMi q).2.2 ∈ tables_1 := List.forall_mem_cons.mpr ⟨zMc_176, List.forall_mem_cons.mpr ⟨zMc_177, List.forall_mem_cons.mpr ⟨zMc_178, List.forall_mem_cons.mpr ⟨zMc_179, List.forall_mem_cons.mpr ⟨zMc_180, List.forall_mem_cons.mpr ⟨zMc_181, List.forall_mem_cons.mpr ⟨zMc_182, List.forall_mem_cons.mpr ⟨zMc_183, List.forall_mem_cons.mpr ⟨zMc_184, List.forall_mem_cons.mpr ⟨zMc_185, List.forall_mem_cons.mpr ⟨zMc_186, List.forall_mem_cons.mpr ⟨zMc_187, List.forall_mem_cons.mpr ⟨zMc_188, List.forall_mem_cons.mpr ⟨zMc_189, List.forall_mem_cons.mpr ⟨zMc_190, List.forall_mem_cons.mpr ⟨zMc_191, fun _ h => absurd h List.not_mem_nil⟩⟩⟩⟩⟩⟩⟩⟩⟩⟩⟩⟩⟩⟩⟩⟩
def zMc_l12 : List (Nat) := [192, 193, 194, 195, 196, 197, 198, 199, 200, 201, 202, 203, 204, 205, 206, 207]
theorem zMc_r12 : ∀ q ∈ zMc_l12, Cond.code (zY q) (zB q) (zMi q).2.1 (zMi q).2.2 ∈ tables_1 := List.forall_mem_cons.mpr ⟨zMc_192, List.forall_mem_cons.mpr ⟨zMc_193, List.forall_mem_cons.mpr ⟨zMc_194, List.forall_mem_cons.mpr ⟨zMc_195, List.forall_mem_cons.mpr ⟨zMc_196, List.forall_mem_cons.mpr ⟨zMc_197, List.forall_mem_cons.mpr ⟨zMc_198, List.forall_mem_cons.mpr ⟨zMc_199, List.forall_mem_cons.mpr ⟨zMc_200, List.forall_mem_cons.mpr ⟨zMc_201, List.forall_mem_cons.mpr ⟨zMc_202, List.forall_mem_cons.mpr ⟨zMc_203, List.forall_mem_cons.mpr ⟨zMc_204, List.forall_mem_cons.mpr ⟨zMc_205, List.forall_mem_cons.mpr ⟨zMc_206, List.forall_mem_cons.mpr ⟨zMc_207, fun _ h => absurd h List.not_mem_nil⟩⟩⟩⟩⟩⟩⟩⟩⟩⟩⟩⟩⟩⟩⟩⟩
def zMc_l13 : List (Nat) := [208, 209, 210, 211, 212, 213, 214, 215, 216, 217, 218, 219, 220, 221, 222, 223]
theorem zMc_r13 : ∀ q ∈ zMc_l13, Cond.code (zY q) (zB q) (zMi q).2.1 (zMi q).2.2 ∈ tables_1 := List.forall_mem_cons.mpr ⟨zMc_208, List.forall_mem_cons.mpr ⟨zMc_209, List.forall_mem_cons.mpr ⟨zMc_210, List.forall_mem_cons.mpr ⟨zMc_211, List.forall_mem_cons.mpr ⟨zMc_212, List.forall_mem_cons.mpr ⟨zMc_213, List.forall_mem_cons.mpr ⟨zMc_214, List.forall_mem_cons.mpr ⟨zMc_215, List.forall_mem_cons.mpr ⟨zMc_216, List.forall_mem_cons.mpr ⟨zMc_217, List.forall_mem_cons.mpr ⟨zMc_218, List.forall_mem_cons.mpr ⟨zMc_219, List.forall_mem_cons.mpr ⟨zMc_220, List.forall_mem_cons.mpr ⟨zMc_221, List.forall_mem_cons.mpr ⟨zMc_222, List.forall_mem_cons.mpr ⟨zMc_223, fun _ h => absurd h List.not_mem_nil⟩⟩⟩⟩⟩⟩⟩⟩⟩⟩⟩⟩⟩⟩⟩⟩
def zMc_l14 : List (Nat) := [224, 225, 226, 227, 228, 229, 230, 231, 232, 233, 234, 235, 236, 237, 238, 239]
theorem zMc_r14 : ∀ q ∈ zMc_l14, Cond.code (zY q) (zB q) (zMi q).2.1 (zMi q).2.2 ∈ tables_1 := List.forall_mem_cons.mpr ⟨zMc_224, List.forall_mem_cons.mpr ⟨zMc_225, List.forall_mem_cons.mpr ⟨zMc_226, List.forall_mem_cons.mpr ⟨zMc_227, List.forall_mem_cons.mpr ⟨zMc_228, List.forall_mem_cons.mpr ⟨zMc_229, List.forall_mem_cons.mpr ⟨zMc_230, List.forall_mem_cons.mpr ⟨zMc_231, List.forall_mem_cons.mpr ⟨zMc_232, List.forall_mem_cons.mpr ⟨zMc_233, List.forall_mem_cons.mpr ⟨zMc_234, List.forall_mem_cons.mpr ⟨zMc_235, List.forall_mem_cons.mpr ⟨zMc_236, List.forall_mem_cons.mpr ⟨zMc_237, List.forall_mem_cons.mpr ⟨zMc_238, List.forall_mem_cons.mpr ⟨zMc_239, fun _ h => absurd h List.not_mem_nil⟩⟩⟩⟩⟩⟩⟩⟩⟩⟩⟩⟩⟩⟩⟩⟩
def zMc_l15 : List (Nat) := [240, 241, 242, 243, 244, 245, 246, 247, 248, 249, 250, 251, 252, 253, 254, 255]
theorem zMc_r15 : ∀ q ∈ zMc_l15, Cond.code (zY q) (zB q) (zMi q).2.1 (zMi q).2.2 ∈ tables_1 := List.forall_mem_cons.mpr ⟨zMc_240, List.forall_mem_cons.mpr ⟨zMc_241, List.forall_mem_cons.mpr ⟨zMc_242, List.forall_mem_cons.mpr ⟨zMc_243, List.forall_mem_cons.mpr ⟨zMc_244, List.forall_mem_cons.mpr ⟨zMc_245, List.forall_mem_cons.mpr ⟨zMc_246, List.forall_mem_cons.mpr ⟨zMc_247, List.forall_mem_cons.mpr ⟨zMc_248, List.forall_mem_cons.mpr ⟨zMc_249, List.forall_mem_cons.mpr ⟨zMc_250, List.forall_mem_cons.mpr ⟨zMc_251, List.forall_mem_cons.mpr ⟨zMc_252, List.forall_mem_cons.mpr ⟨zMc_253, List.forall_mem_cons.mpr ⟨zMc_254, List.forall_mem_cons.mpr ⟨zMc_255, fun _ h => absurd h List.not_mem_nil⟩⟩⟩⟩⟩⟩⟩⟩⟩⟩⟩⟩⟩⟩⟩⟩
def zMc_l16 : List (Nat) := [256, 257, 258, 259, 260, 261, 262, 263, 264, 265, 266, 267, 268, 269, 270, 271]
theorem zMc_r16 : ∀ q ∈ zMc_l16, Cond.code (zY q) (zB q) (zMi q).2.1 (zMi q).2.2 ∈ tables_1 := List.forall_mem_cons.mpr ⟨zMc_256, List.forall_mem_cons.mpr ⟨zMc_257, List.forall_mem_cons.mpr ⟨zMc_258, List.forall_mem_cons.mpr ⟨zMc_259, List.forall_mem_cons.mpr ⟨zMc_260, List.forall_mem_cons.mpr ⟨zMc_261, List.forall_mem_cons.mpr ⟨zMc_262, List.forall_mem_cons.mpr ⟨zMc_263, List.forall_mem_cons.mpr ⟨zMc_264, List.forall_mem_cons.mpr ⟨zMc_265, List.forall_mem_cons.mpr ⟨zMc_266, List.forall_mem_cons.mpr ⟨zMc_267, List.forall_mem_cons.mpr ⟨zMc_268, List.forall_mem_cons.mpr ⟨zMc_269, List.forall_mem_cons.mpr ⟨zMc_270, List.forall_mem_cons.mpr ⟨zMc_271, fun _ h => absurd h List.not_mem_nil⟩⟩⟩⟩⟩⟩⟩⟩⟩⟩⟩⟩⟩⟩⟩⟩
def zMc_l17 : List (Nat) := [272, 273]
theorem zMc_r17 : ∀ q ∈ zMc_l17, Cond.code (zY q) (zB q) (zMi q).2.1 (zMi q).2.2 ∈ tables_1 := List.forall_mem_cons.mpr ⟨zMc_272, List.forall_mem_cons.mpr ⟨zMc_273, fun _ h => absurd h List.not_mem_nil⟩⟩
theorem zMc_sp : zAll = zMc_l0 ++ (zMc_l1 ++ (zMc_l2 ++ (zMc_l3 ++ (zMc_l4 ++ (zMc_l5 ++ (zMc_l6 ++ (zMc_l7 ++ (zMc_l8 ++ (zMc_l9 ++ (zMc_l10 ++ (zMc_l11 ++ (zMc_l12 ++ (zMc_l13 ++ (zMc_l14 ++ (zMc_l15 ++ (zMc_l16 ++ (zMc_l17))))))))))))))))) := by decide +kernel
theorem zMc_all : ∀ q ∈ zAll, Cond.code (zY q) (zB q) (zMi q).2.1 (zMi q).2.2 ∈ tables_1 := by
  rw [zMc_sp]
  exact List.forall_mem_append.mpr ⟨zMc_r0, List.forall_mem_append.mpr ⟨zMc_r1, List.forall_mem_append.mpr ⟨zMc_r2, List.forall_mem_append.mpr ⟨zMc_r3, List.forall_mem_append.mpr ⟨zMc_r4, List.forall_mem_append.mpr ⟨zMc_r5, List.forall_mem_append.mpr ⟨zMc_r6, List.forall_mem_append.mpr ⟨zMc_r7, List.forall_mem_append.mpr ⟨zMc_r8, List.forall_mem_append.mpr ⟨zMc_r9, List.forall_mem_append.mpr ⟨zMc_r10, List.forall_mem_append.mpr ⟨zMc_r11, List.forall_mem_append.mpr ⟨zMc_r12, List.forall_mem_append.mpr ⟨zMc_r13, List.forall_mem_append.mpr ⟨zMc_r14, List.forall_mem_append.mpr ⟨zMc_r15, List.forall_mem_append.mpr ⟨zMc_r16, zMc_r17⟩⟩⟩⟩⟩⟩⟩⟩⟩⟩⟩⟩⟩⟩⟩⟩⟩
abbrev zMok (i : Nat) : Prop := plainFor (zY i) = true ∧ (zY i).cls = zCs (zMi i).1 ∧ (zY i).cls ≠ "java/lang/invoke/MethodHandle" ∧ (zY i).cls ≠ "java/lang/invoke/VarHandle" ∧ (zMi i).1 < 16
theorem zMok_all : ∀ i ∈ zAll, zMok i := by decide +kernel
theorem zInit_all : ∀ i, i < 16 → Cond.initialized (zCs i) ∈ tables_1 := by decide +kernel
/-- how many an invocation takes: the method's parameters, and the object -/
def zNa (i : Nat) : Nat := ((parseMethodDescriptor (zY i).desc).map (fun d => d.parameters.length)).getD 100
def zSwok (pc : Nat) (lo : Int) : List Int → List (Int32 × Nat) → Bool
  | [], [] => true
  | o :: os, (v, t) :: r => decide (v.toInt = lo) && decide ((pc : Int) + o = t) && zSwok pc (lo + 1) os r
  | _, _ => false
def zLkok (pc : Nat) : List (Int × Int) → List (Int32 × Nat) → Bool
  | [], [] => true
  | (k, o) :: os, (v, t) :: r => decide (v.toInt = k) && decide ((pc : Int) + o = t) && zLkok pc os r
  | _, _ => false
def zeok (own : Nat) (ini : Bool) (e : zE) : Bool := match e with
  | (pc, ins, nx, a, b, d, f, c, sw) => match ins with
    | .iconst k => Int32.ofInt k == c && nx == pc + 1
    | .bipush k => (Int8.ofInt k).toInt32 == c && nx == pc + 2
    | .sipush k => (Int16.ofInt k).toInt32 == c && nx == pc + 3
    | .ldc k => d != 0 || (nx == pc + 2 && decide ((own, k, c) ∈ zKN))
    | .ldc_w k => d != 0 || (nx == pc + 3 && decide ((own, k, c) ∈ zKN))
    | .iload_n k => k.val == a && nx == pc + 1
    | .istore_n k => k.val == a && nx == pc + 1
    | .aload_n k => k.val == a && nx == pc + 1
    | .astore_n k => k.val == a && nx == pc + 1
    | .iload k => k == a && nx == pc + 2
    | .istore k => k == a && nx == pc + 2
    | .aload k => k == a && nx == pc + 2
    | .astore k => k == a && nx == pc + 2
    | .iinc k v => k == a && Int32.ofInt v == c && nx == pc + 3
    | .ifCond _ o => decide ((pc : Int) + o = a) && nx == pc + 3
    | .if_icmp _ o => decide ((pc : Int) + o = a) && nx == pc + 3
    | .goto o => decide ((pc : Int) + o = a) && nx == pc + 3
    | .ifnull o => decide ((pc : Int) + o = a) && nx == pc + 3
    | .ifnonnull o => decide ((pc : Int) + o = a) && nx == pc + 3
    | .getfield k => decide ((own, k, a, b) ∈ zFL) && nx == pc + 3
    | .putfield k => decide ((own, k, a, b) ∈ zFL) && nx == pc + 3 && (((zTf a).2.1 b).2.2.2 == false || (ini && a == own && ((zTf a).2.1 b).1 == zCs own)) && (match d with
      | 0 => ((zTf a).2.1 b).2.2.1 == "I"
      | 1 => ((zTf a).2.1 b).2.2.1 == "Z"
      | _ => match parseFieldDescriptor ((zTf a).2.1 b).2.2.1 with
        | some (.array _) => true
        | some (.object _) => true
        | _ => false)
    | .tableswitch dflt lo hi os => decide ((pc : Int) + dflt = a) && zSwok pc lo os.toList sw && decide (hi = lo + os.size - 1)
    | .lookupswitch dflt ps => decide ((pc : Int) + dflt = a) && zLkok pc ps.toList sw && (ps.toList.zip (ps.toList.drop 1)).all (fun (a, next) => a.1 < next.1)
    | .invokestatic k => nx == pc + 3 && (if d = 5 then decide ((own, k) ∈ zCP) else decide ((own, k, a, d) ∈ zML) && (d == 0 || d == 3) && decide (a ∈ zSt) && zNa a == b && f == 2 * (zMi a).1 + (if (zMi a).2.2 = none then 1 else 0) && Nat.ble b (zMi a).2.1)
    | .invokevirtual k => nx == pc + 3 && decide ((own, k, a, d) ∈ zML) && d == 1 && decide (a ∈ zVi) && zNa a + 1 == b && f == 2 * (zMi a).1 + (if (zMi a).2.2 = none then 1 else 0) && Nat.ble b (zMi a).2.1
    | .invokespecial k => d == 9 || (nx == pc + 3 && (if d = 6 then decide ((own, k) ∈ zOB) else decide ((own, k, a, d) ∈ zML) && (d == 2 || d == 4) && decide (a ∈ zIn) && zNa a + 1 == b && f == 2 * (zMi a).1 + 1 && decide ((zMi a).2.2 = none) && Nat.ble b (zMi a).2.1))
    | .new k => d != 0 || (nx == pc + 3 && decide ((own, k, a) ∈ zNL))
    | .newarray t => nx == pc + 2 && (match t with
      | .int => a == 1
      | .byte => a == 2
      | .boolean => a == 3
      | .long => a == 4
      | _ => false)
    | .anewarray k => nx == pc + 3 && decide ((own, k) ∈ zAL)
    | .ireturn => nx == pc + 1
    | _ => nx == pc + 1
end
section
/-! each entry is as its instruction says -/
theorem ze_0 : (zc_0.all (zeok 13 false)) = true := by decide +kernel
theorem ze_1 : (zc_1.all (zeok 14 false)) = true := by decide +kernel
theorem ze_2 : (zc_2.all (zeok 14 false)) = true := by decide +kernel
theorem ze_3 : (zc_3.all (zeok 14 false)) = true := by decide +kernel
theorem ze_4 : (zc_4.all (zeok 14 false)) = true := by decide +kernel
theorem ze_5 : (zc_5.all (zeok 15 false)) = true := by decide +kernel
theorem ze_6 : (zc_6.all (zeok 0 true)) = true := by decide +kernel
theorem ze_7 : (zc_7.all (zeok 0 false)) = true := by decide +kernel
theorem ze_8 : (zc_8.all (zeok 0 false)) = true := by decide +kernel
theorem ze_9 : (zc_9.all (zeok 0 false)) = true := by decide +kernel
theorem ze_10 : (zc_10.all (zeok 0 false)) = true := by decide +kernel
theorem ze_11 : (zc_11.all (zeok 1 true)) = true := by decide +kernel
theorem ze_12 : (zc_12.all (zeok 1 false)) = true := by decide +kernel
theorem ze_13 : (zc_13.all (zeok 1 false)) = true := by decide +kernel
theorem ze_14 : (zc_14.all (zeok 1 false)) = true := by decide +kernel
theorem ze_15 : (zc_15.all (zeok 1 false)) = true := by decide +kernel
theorem ze_16 : (zc_16.all (zeok 1 false)) = true := by decide +kernel
theorem ze_17 : (zc_17.all (zeok 1 false)) = true := by decide +kernel
theorem ze_18 : (zc_18.all (zeok 1 false)) = true := by decide +kernel
theorem ze_19 : (zc_19.all (zeok 2 true)) = true := by decide +kernel
theorem ze_20 : (zc_20.all (zeok 2 false)) = true := by decide +kernel
theorem ze_21 : (zc_21.all (zeok 2 false)) = true := by decide +kernel
theorem ze_22 : (zc_22.all (zeok 3 true)) = true := by decide +kernel
theorem ze_23 : (zc_23.all (zeok 3 false)) = true := by decide +kernel
theorem ze_24 : (zc_24.all (zeok 3 false)) = true := by decide +kernel
theorem ze_25 : (zc_25.all (zeok 4 true)) = true := by decide +kernel
theorem ze_26 : (zc_26.all (zeok 4 false)) = true := by decide +kernel
theorem ze_27 : (zc_27.all (zeok 4 false)) = true := by decide +kernel
theorem ze_28 : (zc_28.all (zeok 4 false)) = true := by decide +kernel
theorem ze_29 : (zc_29.all (zeok 4 false)) = true := by decide +kernel
theorem ze_30 : (zc_30.all (zeok 4 false)) = true := by decide +kernel
theorem ze_31 : (zc_31.all (zeok 4 false)) = true := by decide +kernel
theorem ze_32 : (zc_32.all (zeok 4 false)) = true := by decide +kernel
theorem ze_33 : (zc_33.all (zeok 4 false)) = true := by decide +kernel
theorem ze_34 : (zc_34.all (zeok 5 true)) = true := by decide +kernel
theorem ze_35 : (zc_35.all (zeok 5 false)) = true := by decide +kernel
theorem ze_36 : (zc_36.all (zeok 5 false)) = true := by decide +kernel
theorem ze_37 : (zc_37.all (zeok 5 false)) = true := by decide +kernel
theorem ze_38 : (zc_38.all (zeok 6 true)) = true := by decide +kernel
theorem ze_39 : (zc_39.all (zeok 6 false)) = true := by decide +kernel
theorem ze_40 : (zc_40.all (zeok 6 false)) = true := by decide +kernel
theorem ze_41 : (zc_41.all (zeok 6 false)) = true := by decide +kernel
theorem ze_42 : (zc_42.all (zeok 6 false)) = true := by decide +kernel
theorem ze_43 : (zc_43.all (zeok 6 false)) = true := by decide +kernel
theorem ze_44 : (zc_44.all (zeok 6 false)) = true := by decide +kernel
theorem ze_45 : (zc_45.all (zeok 7 true)) = true := by decide +kernel
theorem ze_46 : (zc_46.all (zeok 7 false)) = true := by decide +kernel
theorem ze_47 : (zc_47.all (zeok 7 false)) = true := by decide +kernel
theorem ze_48 : (zc_48.all (zeok 7 false)) = true := by decide +kernel
theorem ze_49 : (zc_49.all (zeok 7 false)) = true := by decide +kernel
theorem ze_50 : (zc_50.all (zeok 7 false)) = true := by decide +kernel
theorem ze_51 : (zc_51.all (zeok 7 false)) = true := by decide +kernel
theorem ze_52 : (zc_52.all (zeok 7 false)) = true := by decide +kernel
theorem ze_53 : (zc_53.all (zeok 7 false)) = true := by decide +kernel
theorem ze_54 : (zc_54.all (zeok 7 false)) = true := by decide +kernel
theorem ze_55 : (zc_55.all (zeok 8 true)) = true := by decide +kernel
theorem ze_56 : (zc_56.all (zeok 8 false)) = true := by decide +kernel
theorem ze_57 : (zc_57.all (zeok 8 false)) = true := by decide +kernel
theorem ze_58 : (zc_58.all (zeok 9 true)) = true := by decide +kernel
theorem ze_59 : (zc_59.all (zeok 9 false)) = true := by decide +kernel
theorem ze_60 : (zc_60.all (zeok 9 false)) = true := by decide +kernel
theorem ze_61 : (zc_61.all (zeok 9 false)) = true := by decide +kernel
theorem ze_62 : (zc_62.all (zeok 9 false)) = true := by decide +kernel
theorem ze_63 : (zc_63.all (zeok 9 false)) = true := by decide +kernel
theorem ze_64 : (zc_64.all (zeok 9 false)) = true := by decide +kernel
theorem ze_65 : (zc_65.all (zeok 9 false)) = true := by decide +kernel
theorem ze_66 : (zc_66.all (zeok 9 false)) = true := by decide +kernel
theorem ze_67 : (zc_67.all (zeok 9 false)) = true := by decide +kernel
theorem ze_68 : (zc_68.all (zeok 9 false)) = true := by decide +kernel
theorem ze_69 : (zc_69.all (zeok 9 false)) = true := by decide +kernel
theorem ze_70 : (zc_70.all (zeok 10 true)) = true := by decide +kernel
theorem ze_71 : (zc_71.all (zeok 10 false)) = true := by decide +kernel
theorem ze_72 : (zc_72.all (zeok 10 false)) = true := by decide +kernel
theorem ze_73 : (zc_73.all (zeok 10 false)) = true := by decide +kernel
theorem ze_74 : (zc_74.all (zeok 10 false)) = true := by decide +kernel
theorem ze_75 : (zc_75.all (zeok 10 false)) = true := by decide +kernel
theorem ze_76 : (zc_76.all (zeok 10 false)) = true := by decide +kernel
theorem ze_77 : (zc_77.all (zeok 10 false)) = true := by decide +kernel
theorem ze_78 : (zc_78.all (zeok 10 false)) = true := by decide +kernel
theorem ze_79 : (zc_79.all (zeok 10 false)) = true := by decide +kernel
theorem ze_80 : (zc_80.all (zeok 10 false)) = true := by decide +kernel
theorem ze_81 : (zc_81.all (zeok 11 true)) = true := by decide +kernel
theorem ze_82 : (zc_82.all (zeok 11 false)) = true := by decide +kernel
theorem ze_83 : (zc_83.all (zeok 11 false)) = true := by decide +kernel
theorem ze_84 : (zc_84.all (zeok 11 false)) = true := by decide +kernel
theorem ze_85 : (zc_85.all (zeok 11 false)) = true := by decide +kernel
theorem ze_86 : (zc_86.all (zeok 11 false)) = true := by decide +kernel
theorem ze_87 : (zc_87.all (zeok 11 false)) = true := by decide +kernel
theorem ze_88 : (zc_88.all (zeok 11 false)) = true := by decide +kernel
theorem ze_89 : (zc_89.all (zeok 11 false)) = true := by decide +kernel
theorem ze_90 : (zc_90.all (zeok 11 false)) = true := by decide +kernel
theorem ze_91 : (zc_91.all (zeok 11 false)) = true := by decide +kernel
theorem ze_92 : (zc_92.all (zeok 11 false)) = true := by decide +kernel
theorem ze_93 : (zc_93.all (zeok 11 false)) = true := by decide +kernel
theorem ze_94 : (zc_94.all (zeok 11 false)) = true := by decide +kernel
theorem ze_95 : (zc_95.all (zeok 11 false)) = true := by decide +kernel
theorem ze_96 : (zc_96.all (zeok 11 false)) = true := by decide +kernel
theorem ze_97 : (zc_97.all (zeok 11 false)) = true := by decide +kernel
theorem ze_98 : (zc_98.all (zeok 11 false)) = true := by decide +kernel
theorem ze_99 : (zc_99.all (zeok 11 false)) = true := by decide +kernel
theorem ze_100 : (zc_100.all (zeok 11 false)) = true := by decide +kernel
theorem ze_101 : (zc_101.all (zeok 11 false)) = true := by decide +kernel
theorem ze_102 : (zc_102.all (zeok 11 false)) = true := by decide +kernel
theorem ze_103 : (zc_103.all (zeok 11 false)) = true := by decide +kernel
theorem ze_104 : (zc_104.all (zeok 11 false)) = true := by decide +kernel
theorem ze_105 : (zc_105.all (zeok 11 false)) = true := by decide +kernel
theorem ze_106 : (zc_106.all (zeok 11 false)) = true := by decide +kernel
theorem ze_107 : (zc_107.all (zeok 11 false)) = true := by decide +kernel
theorem ze_108 : (zc_108.all (zeok 11 false)) = true := by decide +kernel
theorem ze_109 : (zc_109.all (zeok 11 false)) = true := by decide +kernel
theorem ze_110 : (zc_110.all (zeok 11 false)) = true := by decide +kernel
theorem ze_111 : (zc_111.all (zeok 11 false)) = true := by decide +kernel
theorem ze_112 : (zc_112.all (zeok 11 false)) = true := by decide +kernel
theorem ze_113 : (zc_113.all (zeok 11 false)) = true := by decide +kernel
theorem ze_114 : (zc_114.all (zeok 11 false)) = true := by decide +kernel
theorem ze_115 : (zc_115.all (zeok 11 false)) = true := by decide +kernel
theorem ze_116 : (zc_116.all (zeok 11 false)) = true := by decide +kernel
theorem ze_117 : (zc_117.all (zeok 11 false)) = true := by decide +kernel
theorem ze_118 : (zc_118.all (zeok 11 false)) = true := by decide +kernel
theorem ze_119 : (zc_119.all (zeok 11 false)) = true := by decide +kernel
theorem ze_120 : (zc_120.all (zeok 11 false)) = true := by decide +kernel
theorem ze_121 : (zc_121.all (zeok 11 false)) = true := by decide +kernel
theorem ze_122 : (zc_122.all (zeok 11 false)) = true := by decide +kernel
theorem ze_123 : (zc_123.all (zeok 11 false)) = true := by decide +kernel
theorem ze_124 : (zc_124.all (zeok 11 false)) = true := by decide +kernel
theorem ze_125 : (zc_125.all (zeok 11 false)) = true := by decide +kernel
theorem ze_126 : (zc_126.all (zeok 11 false)) = true := by decide +kernel
theorem ze_127 : (zc_127.all (zeok 11 false)) = true := by decide +kernel
theorem ze_128 : (zc_128.all (zeok 11 false)) = true := by decide +kernel
theorem ze_129 : (zc_129.all (zeok 11 false)) = true := by decide +kernel
theorem ze_130 : (zc_130.all (zeok 11 false)) = true := by decide +kernel
theorem ze_131 : (zc_131.all (zeok 11 false)) = true := by decide +kernel
theorem ze_132 : (zc_132.all (zeok 11 false)) = true := by decide +kernel
theorem ze_133 : (zc_133.all (zeok 11 false)) = true := by decide +kernel
theorem ze_134 : (zc_134.all (zeok 11 false)) = true := by decide +kernel
theorem ze_135 : (zc_135.all (zeok 11 false)) = true := by decide +kernel
theorem ze_136 : (zc_136.all (zeok 11 false)) = true := by decide +kernel
theorem ze_137 : (zc_137.all (zeok 11 false)) = true := by decide +kernel
theorem ze_138 : (zc_138.all (zeok 11 false)) = true := by decide +kernel
theorem ze_139 : (zc_139.all (zeok 11 false)) = true := by decide +kernel
theorem ze_140 : (zc_140.all (zeok 11 false)) = true := by decide +kernel
theorem ze_141 : (zc_141.all (zeok 11 false)) = true := by decide +kernel
theorem ze_142 : (zc_142.all (zeok 11 false)) = true := by decide +kernel
theorem ze_143 : (zc_143.all (zeok 11 false)) = true := by decide +kernel
theorem ze_144 : (zc_144.all (zeok 11 false)) = true := by decide +kernel
theorem ze_145 : (zc_145.all (zeok 11 false)) = true := by decide +kernel
theorem ze_146 : (zc_146.all (zeok 11 false)) = true := by decide +kernel
theorem ze_147 : (zc_147.all (zeok 11 false)) = true := by decide +kernel
theorem ze_148 : (zc_148.all (zeok 11 false)) = true := by decide +kernel
theorem ze_149 : (zc_149.all (zeok 11 false)) = true := by decide +kernel
theorem ze_150 : (zc_150.all (zeok 11 false)) = true := by decide +kernel
theorem ze_151 : (zc_151.all (zeok 11 false)) = true := by decide +kernel
theorem ze_152 : (zc_152.all (zeok 11 false)) = true := by decide +kernel
theorem ze_153 : (zc_153.all (zeok 11 false)) = true := by decide +kernel
theorem ze_154 : (zc_154.all (zeok 11 false)) = true := by decide +kernel
theorem ze_155 : (zc_155.all (zeok 11 false)) = true := by decide +kernel
theorem ze_156 : (zc_156.all (zeok 11 false)) = true := by decide +kernel
theorem ze_157 : (zc_157.all (zeok 11 false)) = true := by decide +kernel
theorem ze_158 : (zc_158.all (zeok 11 false)) = true := by decide +kernel
theorem ze_159 : (zc_159.all (zeok 11 false)) = true := by decide +kernel
theorem ze_160 : (zc_160.all (zeok 11 false)) = true := by decide +kernel
theorem ze_161 : (zc_161.all (zeok 11 false)) = true := by decide +kernel
theorem ze_162 : (zc_162.all (zeok 11 false)) = true := by decide +kernel
theorem ze_163 : (zc_163.all (zeok 11 false)) = true := by decide +kernel
theorem ze_164 : (zc_164.all (zeok 11 false)) = true := by decide +kernel
theorem ze_165 : (zc_165.all (zeok 11 false)) = true := by decide +kernel
theorem ze_166 : (zc_166.all (zeok 11 false)) = true := by decide +kernel
theorem ze_167 : (zc_167.all (zeok 11 false)) = true := by decide +kernel
theorem ze_168 : (zc_168.all (zeok 11 false)) = true := by decide +kernel
theorem ze_169 : (zc_169.all (zeok 12 true)) = true := by decide +kernel
theorem ze_170 : (zc_170.all (zeok 12 false)) = true := by decide +kernel
theorem ze_171 : (zc_171.all (zeok 12 false)) = true := by decide +kernel
theorem ze_172 : (zc_172.all (zeok 12 false)) = true := by decide +kernel
theorem ze_173 : (zc_173.all (zeok 12 false)) = true := by decide +kernel
theorem ze_174 : (zc_174.all (zeok 12 false)) = true := by decide +kernel
theorem ze_175 : (zc_175.all (zeok 12 false)) = true := by decide +kernel
theorem ze_176 : (zc_176.all (zeok 12 false)) = true := by decide +kernel
theorem ze_177 : (zc_177.all (zeok 12 false)) = true := by decide +kernel
theorem ze_178 : (zc_178.all (zeok 12 false)) = true := by decide +kernel
theorem ze_179 : (zc_179.all (zeok 12 false)) = true := by decide +kernel
theorem ze_180 : (zc_180.all (zeok 12 false)) = true := by decide +kernel
theorem ze_181 : (zc_181.all (zeok 12 false)) = true := by decide +kernel
theorem ze_182 : (zc_182.all (zeok 12 false)) = true := by decide +kernel
theorem ze_183 : (zc_183.all (zeok 12 false)) = true := by decide +kernel
theorem ze_184 : (zc_184.all (zeok 12 false)) = true := by decide +kernel
theorem ze_185 : (zc_185.all (zeok 12 false)) = true := by decide +kernel
theorem ze_186 : (zc_186.all (zeok 12 false)) = true := by decide +kernel
theorem ze_187 : (zc_187.all (zeok 12 false)) = true := by decide +kernel
theorem ze_188 : (zc_188.all (zeok 12 false)) = true := by decide +kernel
theorem ze_189 : (zc_189.all (zeok 12 false)) = true := by decide +kernel
theorem ze_190 : (zc_190.all (zeok 12 false)) = true := by decide +kernel
theorem ze_191 : (zc_191.all (zeok 12 false)) = true := by decide +kernel
theorem ze_192 : (zc_192.all (zeok 12 false)) = true := by decide +kernel
theorem ze_193 : (zc_193.all (zeok 12 false)) = true := by decide +kernel
theorem ze_194 : (zc_194.all (zeok 12 false)) = true := by decide +kernel
theorem ze_195 : (zc_195.all (zeok 12 false)) = true := by decide +kernel
theorem ze_196 : (zc_196.all (zeok 12 false)) = true := by decide +kernel
theorem ze_197 : (zc_197.all (zeok 12 false)) = true := by decide +kernel
theorem ze_198 : (zc_198.all (zeok 12 false)) = true := by decide +kernel
theorem ze_199 : (zc_199.all (zeok 12 false)) = true := by decide +kernel
theorem ze_200 : (zc_200.all (zeok 12 false)) = true := by decide +kernel
theorem ze_201 : (zc_201.all (zeok 12 false)) = true := by decide +kernel
theorem ze_202 : (zc_202.all (zeok 12 false)) = true := by decide +kernel
theorem ze_203 : (zc_203.all (zeok 12 false)) = true := by decide +kernel
theorem ze_204 : (zc_204.all (zeok 12 false)) = true := by decide +kernel
theorem ze_205 : (zc_205.all (zeok 12 false)) = true := by decide +kernel
theorem ze_206 : (zc_206.all (zeok 12 false)) = true := by decide +kernel
theorem ze_207 : (zc_207.all (zeok 12 false)) = true := by decide +kernel
theorem ze_208 : (zc_208.all (zeok 12 false)) = true := by decide +kernel
theorem ze_209 : (zc_209.all (zeok 12 false)) = true := by decide +kernel
theorem ze_210 : (zc_210.all (zeok 12 false)) = true := by decide +kernel
theorem ze_211 : (zc_211.all (zeok 12 false)) = true := by decide +kernel
theorem ze_212 : (zc_212.all (zeok 12 false)) = true := by decide +kernel
theorem ze_213 : (zc_213.all (zeok 12 false)) = true := by decide +kernel
theorem ze_214 : (zc_214.all (zeok 12 false)) = true := by decide +kernel
theorem ze_215 : (zc_215.all (zeok 12 false)) = true := by decide +kernel
theorem ze_216 : (zc_216.all (zeok 12 false)) = true := by decide +kernel
theorem ze_217 : (zc_217.all (zeok 12 false)) = true := by decide +kernel
theorem ze_218 : (zc_218.all (zeok 12 false)) = true := by decide +kernel
theorem ze_219 : (zc_219.all (zeok 12 false)) = true := by decide +kernel
theorem ze_220 : (zc_220.all (zeok 12 false)) = true := by decide +kernel
theorem ze_221 : (zc_221.all (zeok 12 false)) = true := by decide +kernel
theorem ze_222 : (zc_222.all (zeok 12 false)) = true := by decide +kernel
theorem ze_223 : (zc_223.all (zeok 12 false)) = true := by decide +kernel
theorem ze_224 : (zc_224.all (zeok 12 false)) = true := by decide +kernel
theorem ze_225 : (zc_225.all (zeok 12 false)) = true := by decide +kernel
theorem ze_226 : (zc_226.all (zeok 12 false)) = true := by decide +kernel
theorem ze_227 : (zc_227.all (zeok 12 false)) = true := by decide +kernel
theorem ze_228 : (zc_228.all (zeok 12 false)) = true := by decide +kernel
theorem ze_229 : (zc_229.all (zeok 12 false)) = true := by decide +kernel
theorem ze_230 : (zc_230.all (zeok 12 false)) = true := by decide +kernel
theorem ze_231 : (zc_231.all (zeok 12 false)) = true := by decide +kernel
theorem ze_232 : (zc_232.all (zeok 12 false)) = true := by decide +kernel
theorem ze_233 : (zc_233.all (zeok 12 false)) = true := by decide +kernel
theorem ze_234 : (zc_234.all (zeok 12 false)) = true := by decide +kernel
theorem ze_235 : (zc_235.all (zeok 12 false)) = true := by decide +kernel
theorem ze_236 : (zc_236.all (zeok 12 false)) = true := by decide +kernel
theorem ze_237 : (zc_237.all (zeok 12 false)) = true := by decide +kernel
theorem ze_238 : (zc_238.all (zeok 12 false)) = true := by decide +kernel
theorem ze_239 : (zc_239.all (zeok 12 false)) = true := by decide +kernel
theorem ze_240 : (zc_240.all (zeok 12 false)) = true := by decide +kernel
theorem ze_241 : (zc_241.all (zeok 12 false)) = true := by decide +kernel
theorem ze_242 : (zc_242.all (zeok 12 false)) = true := by decide +kernel
theorem ze_243 : (zc_243.all (zeok 12 false)) = true := by decide +kernel
theorem ze_244 : (zc_244.all (zeok 12 false)) = true := by decide +kernel
theorem ze_245 : (zc_245.all (zeok 12 false)) = true := by decide +kernel
theorem ze_246 : (zc_246.all (zeok 12 false)) = true := by decide +kernel
theorem ze_247 : (zc_247.all (zeok 12 false)) = true := by decide +kernel
theorem ze_248 : (zc_248.all (zeok 12 false)) = true := by decide +kernel
theorem ze_249 : (zc_249.all (zeok 12 false)) = true := by decide +kernel
theorem ze_250 : (zc_250.all (zeok 12 false)) = true := by decide +kernel
theorem ze_251 : (zc_251.all (zeok 12 false)) = true := by decide +kernel
theorem ze_252 : (zc_252.all (zeok 12 false)) = true := by decide +kernel
theorem ze_253 : (zc_253.all (zeok 12 false)) = true := by decide +kernel
theorem ze_254 : (zc_254.all (zeok 12 false)) = true := by decide +kernel
theorem ze_255 : (zc_255.all (zeok 12 false)) = true := by decide +kernel
theorem ze_256 : (zc_256.all (zeok 12 false)) = true := by decide +kernel
theorem ze_257 : (zc_257.all (zeok 12 false)) = true := by decide +kernel
theorem ze_258 : (zc_258.all (zeok 12 false)) = true := by decide +kernel
theorem ze_259 : (zc_259.all (zeok 12 false)) = true := by decide +kernel
theorem ze_260 : (zc_260.all (zeok 12 false)) = true := by decide +kernel
theorem ze_261 : (zc_261.all (zeok 12 false)) = true := by decide +kernel
theorem ze_262 : (zc_262.all (zeok 12 false)) = true := by decide +kernel
theorem ze_263 : (zc_263.all (zeok 12 false)) = true := by decide +kernel
theorem ze_264 : (zc_264.all (zeok 12 false)) = true := by decide +kernel
theorem ze_265 : (zc_265.all (zeok 12 false)) = true := by decide +kernel
theorem ze_266 : (zc_266.all (zeok 12 false)) = true := by decide +kernel
theorem ze_267 : (zc_267.all (zeok 12 false)) = true := by decide +kernel
theorem ze_268 : (zc_268.all (zeok 12 false)) = true := by decide +kernel
theorem ze_269 : (zc_269.all (zeok 12 false)) = true := by decide +kernel
theorem ze_270 : (zc_270.all (zeok 12 false)) = true := by decide +kernel
theorem ze_271 : (zc_271.all (zeok 12 false)) = true := by decide +kernel
theorem ze_272 : (zc_272.all (zeok 12 false)) = true := by decide +kernel
theorem ze_273 : (zc_273.all (zeok 12 false)) = true := by decide +kernel
/-- a method's entries: what the bytes decode to, and their kinds -/
abbrev zGd (i : Nat) (l : List zE) : Prop := zdok (zB i) l = true ∧ l.all (zeok (zMi i).1 (decide ((zY i).name = "<init>"))) = true
theorem zGd_all {i : Nat} (h : i < 274) : zGd i (zCode i) := by
  by_cases h_0_274 : i < 137
  · skip
    by_cases h_0_137 : i < 68
    · skip
      by_cases h_0_68 : i < 34
      · skip
        by_cases h_0_34 : i < 17
        · skip
          by_cases h_0_17 : i < 8
          · skip
            by_cases h_0_8 : i < 4
            · skip
              by_cases h_0_4 : i < 2
              · skip
                by_cases h_0_2 : i < 1
                · skip
                  obtain rfl : i = 0 := by omega
                  exact ⟨zd_0, ze_0⟩
                · skip
                  obtain rfl : i = 1 := by omega
                  exact ⟨zd_1, ze_1⟩
              · skip
                by_cases h_2_4 : i < 3
                · skip
                  obtain rfl : i = 2 := by omega
                  exact ⟨zd_2, ze_2⟩
                · skip
                  obtain rfl : i = 3 := by omega
                  exact ⟨zd_3, ze_3⟩
            · skip
              by_cases h_4_8 : i < 6
              · skip
                by_cases h_4_6 : i < 5
                · skip
                  obtain rfl : i = 4 := by omega
                  exact ⟨zd_4, ze_4⟩
                · skip
                  obtain rfl : i = 5 := by omega
                  exact ⟨zd_5, ze_5⟩
              · skip
                by_cases h_6_8 : i < 7
                · skip
                  obtain rfl : i = 6 := by omega
                  exact ⟨zd_6, ze_6⟩
                · skip
                  obtain rfl : i = 7 := by omega
                  exact ⟨zd_7, ze_7⟩
          · skip
            by_cases h_8_17 : i < 12
            · skip
              by_cases h_8_12 : i < 10
              · skip
                by_cases h_8_10 : i < 9
                · skip
                  obtain rfl : i = 8 := by omega
                  exact ⟨zd_8, ze_8⟩
                · skip
                  obtain rfl : i = 9 := by omega
                  exact ⟨zd_9, ze_9⟩
              · skip
                by_cases h_10_12 : i < 11
                · skip
                  obtain rfl : i = 10 := by omega
                  exact ⟨zd_10, ze_10⟩
                · skip
                  obtain rfl : i = 11 := by omega
                  exact ⟨zd_11, ze_11⟩
            · skip
              by_cases h_12_17 : i < 14
              · skip
                by_cases h_12_14 : i < 13
                · skip
                  obtain rfl : i = 12 := by omega
                  exact ⟨zd_12, ze_12⟩
                · skip
                  obtain rfl : i = 13 := by omega
                  exact ⟨zd_13, ze_13⟩
              · skip
                by_cases h_14_17 : i < 15
                · skip
                  obtain rfl : i = 14 := by omega
                  exact ⟨zd_14, ze_14⟩
                · skip
                  by_cases h_15_17 : i < 16
                  · skip
                    obtain rfl : i = 15 := by omega
                    exact ⟨zd_15, ze_15⟩
                  · skip
                    obtain rfl : i = 16 := by omega
                    exact ⟨zd_16, ze_16⟩
        · skip
          by_cases h_17_34 : i < 25
          · skip
            by_cases h_17_25 : i < 21
            · skip
              by_cases h_17_21 : i < 19
              · skip
                by_cases h_17_19 : i < 18
                · skip
                  obtain rfl : i = 17 := by omega
                  exact ⟨zd_17, ze_17⟩
                · skip
                  obtain rfl : i = 18 := by omega
                  exact ⟨zd_18, ze_18⟩
              · skip
                by_cases h_19_21 : i < 20
                · skip
                  obtain rfl : i = 19 := by omega
                  exact ⟨zd_19, ze_19⟩
                · skip
                  obtain rfl : i = 20 := by omega
                  exact ⟨zd_20, ze_20⟩
            · skip
              by_cases h_21_25 : i < 23
              · skip
                by_cases h_21_23 : i < 22
                · skip
                  obtain rfl : i = 21 := by omega
                  exact ⟨zd_21, ze_21⟩
                · skip
                  obtain rfl : i = 22 := by omega
                  exact ⟨zd_22, ze_22⟩
              · skip
                by_cases h_23_25 : i < 24
                · skip
                  obtain rfl : i = 23 := by omega
                  exact ⟨zd_23, ze_23⟩
                · skip
                  obtain rfl : i = 24 := by omega
                  exact ⟨zd_24, ze_24⟩
          · skip
            by_cases h_25_34 : i < 29
            · skip
              by_cases h_25_29 : i < 27
              · skip
                by_cases h_25_27 : i < 26
                · skip
                  obtain rfl : i = 25 := by omega
                  exact ⟨zd_25, ze_25⟩
                · skip
                  obtain rfl : i = 26 := by omega
                  exact ⟨zd_26, ze_26⟩
              · skip
                by_cases h_27_29 : i < 28
                · skip
                  obtain rfl : i = 27 := by omega
                  exact ⟨zd_27, ze_27⟩
                · skip
                  obtain rfl : i = 28 := by omega
                  exact ⟨zd_28, ze_28⟩
            · skip
              by_cases h_29_34 : i < 31
              · skip
                by_cases h_29_31 : i < 30
                · skip
                  obtain rfl : i = 29 := by omega
                  exact ⟨zd_29, ze_29⟩
                · skip
                  obtain rfl : i = 30 := by omega
                  exact ⟨zd_30, ze_30⟩
              · skip
                by_cases h_31_34 : i < 32
                · skip
                  obtain rfl : i = 31 := by omega
                  exact ⟨zd_31, ze_31⟩
                · skip
                  by_cases h_32_34 : i < 33
                  · skip
                    obtain rfl : i = 32 := by omega
                    exact ⟨zd_32, ze_32⟩
                  · skip
                    obtain rfl : i = 33 := by omega
                    exact ⟨zd_33, ze_33⟩
      · skip
        by_cases h_34_68 : i < 51
        · skip
          by_cases h_34_51 : i < 42
          · skip
            by_cases h_34_42 : i < 38
            · skip
              by_cases h_34_38 : i < 36
              · skip
                by_cases h_34_36 : i < 35
                · skip
                  obtain rfl : i = 34 := by omega
                  exact ⟨zd_34, ze_34⟩
                · skip
                  obtain rfl : i = 35 := by omega
                  exact ⟨zd_35, ze_35⟩
              · skip
                by_cases h_36_38 : i < 37
                · skip
                  obtain rfl : i = 36 := by omega
                  exact ⟨zd_36, ze_36⟩
                · skip
                  obtain rfl : i = 37 := by omega
                  exact ⟨zd_37, ze_37⟩
            · skip
              by_cases h_38_42 : i < 40
              · skip
                by_cases h_38_40 : i < 39
                · skip
                  obtain rfl : i = 38 := by omega
                  exact ⟨zd_38, ze_38⟩
                · skip
                  obtain rfl : i = 39 := by omega
                  exact ⟨zd_39, ze_39⟩
              · skip
                by_cases h_40_42 : i < 41
                · skip
                  obtain rfl : i = 40 := by omega
                  exact ⟨zd_40, ze_40⟩
                · skip
                  obtain rfl : i = 41 := by omega
                  exact ⟨zd_41, ze_41⟩
          · skip
            by_cases h_42_51 : i < 46
            · skip
              by_cases h_42_46 : i < 44
              · skip
                by_cases h_42_44 : i < 43
                · skip
                  obtain rfl : i = 42 := by omega
                  exact ⟨zd_42, ze_42⟩
                · skip
                  obtain rfl : i = 43 := by omega
                  exact ⟨zd_43, ze_43⟩
              · skip
                by_cases h_44_46 : i < 45
                · skip
                  obtain rfl : i = 44 := by omega
                  exact ⟨zd_44, ze_44⟩
                · skip
                  obtain rfl : i = 45 := by omega
                  exact ⟨zd_45, ze_45⟩
            · skip
              by_cases h_46_51 : i < 48
              · skip
                by_cases h_46_48 : i < 47
                · skip
                  obtain rfl : i = 46 := by omega
                  exact ⟨zd_46, ze_46⟩
                · skip
                  obtain rfl : i = 47 := by omega
                  exact ⟨zd_47, ze_47⟩
              · skip
                by_cases h_48_51 : i < 49
                · skip
                  obtain rfl : i = 48 := by omega
                  exact ⟨zd_48, ze_48⟩
                · skip
                  by_cases h_49_51 : i < 50
                  · skip
                    obtain rfl : i = 49 := by omega
                    exact ⟨zd_49, ze_49⟩
                  · skip
                    obtain rfl : i = 50 := by omega
                    exact ⟨zd_50, ze_50⟩
        · skip
          by_cases h_51_68 : i < 59
          · skip
            by_cases h_51_59 : i < 55
            · skip
              by_cases h_51_55 : i < 53
              · skip
                by_cases h_51_53 : i < 52
                · skip
                  obtain rfl : i = 51 := by omega
                  exact ⟨zd_51, ze_51⟩
                · skip
                  obtain rfl : i = 52 := by omega
                  exact ⟨zd_52, ze_52⟩
              · skip
                by_cases h_53_55 : i < 54
                · skip
                  obtain rfl : i = 53 := by omega
                  exact ⟨zd_53, ze_53⟩
                · skip
                  obtain rfl : i = 54 := by omega
                  exact ⟨zd_54, ze_54⟩
            · skip
              by_cases h_55_59 : i < 57
              · skip
                by_cases h_55_57 : i < 56
                · skip
                  obtain rfl : i = 55 := by omega
                  exact ⟨zd_55, ze_55⟩
                · skip
                  obtain rfl : i = 56 := by omega
                  exact ⟨zd_56, ze_56⟩
              · skip
                by_cases h_57_59 : i < 58
                · skip
                  obtain rfl : i = 57 := by omega
                  exact ⟨zd_57, ze_57⟩
                · skip
                  obtain rfl : i = 58 := by omega
                  exact ⟨zd_58, ze_58⟩
          · skip
            by_cases h_59_68 : i < 63
            · skip
              by_cases h_59_63 : i < 61
              · skip
                by_cases h_59_61 : i < 60
                · skip
                  obtain rfl : i = 59 := by omega
                  exact ⟨zd_59, ze_59⟩
                · skip
                  obtain rfl : i = 60 := by omega
                  exact ⟨zd_60, ze_60⟩
              · skip
                by_cases h_61_63 : i < 62
                · skip
                  obtain rfl : i = 61 := by omega
                  exact ⟨zd_61, ze_61⟩
                · skip
                  obtain rfl : i = 62 := by omega
                  exact ⟨zd_62, ze_62⟩
            · skip
              by_cases h_63_68 : i < 65
              · skip
                by_cases h_63_65 : i < 64
                · skip
                  obtain rfl : i = 63 := by omega
                  exact ⟨zd_63, ze_63⟩
                · skip
                  obtain rfl : i = 64 := by omega
                  exact ⟨zd_64, ze_64⟩
              · skip
                by_cases h_65_68 : i < 66
                · skip
                  obtain rfl : i = 65 := by omega
                  exact ⟨zd_65, ze_65⟩
                · skip
                  by_cases h_66_68 : i < 67
                  · skip
                    obtain rfl : i = 66 := by omega
                    exact ⟨zd_66, ze_66⟩
                  · skip
                    obtain rfl : i = 67 := by omega
                    exact ⟨zd_67, ze_67⟩
    · skip
      by_cases h_68_137 : i < 102
      · skip
        by_cases h_68_102 : i < 85
        · skip
          by_cases h_68_85 : i < 76
          · skip
            by_cases h_68_76 : i < 72
            · skip
              by_cases h_68_72 : i < 70
              · skip
                by_cases h_68_70 : i < 69
                · skip
                  obtain rfl : i = 68 := by omega
                  exact ⟨zd_68, ze_68⟩
                · skip
                  obtain rfl : i = 69 := by omega
                  exact ⟨zd_69, ze_69⟩
              · skip
                by_cases h_70_72 : i < 71
                · skip
                  obtain rfl : i = 70 := by omega
                  exact ⟨zd_70, ze_70⟩
                · skip
                  obtain rfl : i = 71 := by omega
                  exact ⟨zd_71, ze_71⟩
            · skip
              by_cases h_72_76 : i < 74
              · skip
                by_cases h_72_74 : i < 73
                · skip
                  obtain rfl : i = 72 := by omega
                  exact ⟨zd_72, ze_72⟩
                · skip
                  obtain rfl : i = 73 := by omega
                  exact ⟨zd_73, ze_73⟩
              · skip
                by_cases h_74_76 : i < 75
                · skip
                  obtain rfl : i = 74 := by omega
                  exact ⟨zd_74, ze_74⟩
                · skip
                  obtain rfl : i = 75 := by omega
                  exact ⟨zd_75, ze_75⟩
          · skip
            by_cases h_76_85 : i < 80
            · skip
              by_cases h_76_80 : i < 78
              · skip
                by_cases h_76_78 : i < 77
                · skip
                  obtain rfl : i = 76 := by omega
                  exact ⟨zd_76, ze_76⟩
                · skip
                  obtain rfl : i = 77 := by omega
                  exact ⟨zd_77, ze_77⟩
              · skip
                by_cases h_78_80 : i < 79
                · skip
                  obtain rfl : i = 78 := by omega
                  exact ⟨zd_78, ze_78⟩
                · skip
                  obtain rfl : i = 79 := by omega
                  exact ⟨zd_79, ze_79⟩
            · skip
              by_cases h_80_85 : i < 82
              · skip
                by_cases h_80_82 : i < 81
                · skip
                  obtain rfl : i = 80 := by omega
                  exact ⟨zd_80, ze_80⟩
                · skip
                  obtain rfl : i = 81 := by omega
                  exact ⟨zd_81, ze_81⟩
              · skip
                by_cases h_82_85 : i < 83
                · skip
                  obtain rfl : i = 82 := by omega
                  exact ⟨zd_82, ze_82⟩
                · skip
                  by_cases h_83_85 : i < 84
                  · skip
                    obtain rfl : i = 83 := by omega
                    exact ⟨zd_83, ze_83⟩
                  · skip
                    obtain rfl : i = 84 := by omega
                    exact ⟨zd_84, ze_84⟩
        · skip
          by_cases h_85_102 : i < 93
          · skip
            by_cases h_85_93 : i < 89
            · skip
              by_cases h_85_89 : i < 87
              · skip
                by_cases h_85_87 : i < 86
                · skip
                  obtain rfl : i = 85 := by omega
                  exact ⟨zd_85, ze_85⟩
                · skip
                  obtain rfl : i = 86 := by omega
                  exact ⟨zd_86, ze_86⟩
              · skip
                by_cases h_87_89 : i < 88
                · skip
                  obtain rfl : i = 87 := by omega
                  exact ⟨zd_87, ze_87⟩
                · skip
                  obtain rfl : i = 88 := by omega
                  exact ⟨zd_88, ze_88⟩
            · skip
              by_cases h_89_93 : i < 91
              · skip
                by_cases h_89_91 : i < 90
                · skip
                  obtain rfl : i = 89 := by omega
                  exact ⟨zd_89, ze_89⟩
                · skip
                  obtain rfl : i = 90 := by omega
                  exact ⟨zd_90, ze_90⟩
              · skip
                by_cases h_91_93 : i < 92
                · skip
                  obtain rfl : i = 91 := by omega
                  exact ⟨zd_91, ze_91⟩
                · skip
                  obtain rfl : i = 92 := by omega
                  exact ⟨zd_92, ze_92⟩
          · skip
            by_cases h_93_102 : i < 97
            · skip
              by_cases h_93_97 : i < 95
              · skip
                by_cases h_93_95 : i < 94
                · skip
                  obtain rfl : i = 93 := by omega
                  exact ⟨zd_93, ze_93⟩
                · skip
                  obtain rfl : i = 94 := by omega
                  exact ⟨zd_94, ze_94⟩
              · skip
                by_cases h_95_97 : i < 96
                · skip
                  obtain rfl : i = 95 := by omega
                  exact ⟨zd_95, ze_95⟩
                · skip
                  obtain rfl : i = 96 := by omega
                  exact ⟨zd_96, ze_96⟩
            · skip
              by_cases h_97_102 : i < 99
              · skip
                by_cases h_97_99 : i < 98
                · skip
                  obtain rfl : i = 97 := by omega
                  exact ⟨zd_97, ze_97⟩
                · skip
                  obtain rfl : i = 98 := by omega
                  exact ⟨zd_98, ze_98⟩
              · skip
                by_cases h_99_102 : i < 100
                · skip
                  obtain rfl : i = 99 := by omega
                  exact ⟨zd_99, ze_99⟩
                · skip
                  by_cases h_100_102 : i < 101
                  · skip
                    obtain rfl : i = 100 := by omega
                    exact ⟨zd_100, ze_100⟩
                  · skip
                    obtain rfl : i = 101 := by omega
                    exact ⟨zd_101, ze_101⟩
      · skip
        by_cases h_102_137 : i < 119
        · skip
          by_cases h_102_119 : i < 110
          · skip
            by_cases h_102_110 : i < 106
            · skip
              by_cases h_102_106 : i < 104
              · skip
                by_cases h_102_104 : i < 103
                · skip
                  obtain rfl : i = 102 := by omega
                  exact ⟨zd_102, ze_102⟩
                · skip
                  obtain rfl : i = 103 := by omega
                  exact ⟨zd_103, ze_103⟩
              · skip
                by_cases h_104_106 : i < 105
                · skip
                  obtain rfl : i = 104 := by omega
                  exact ⟨zd_104, ze_104⟩
                · skip
                  obtain rfl : i = 105 := by omega
                  exact ⟨zd_105, ze_105⟩
            · skip
              by_cases h_106_110 : i < 108
              · skip
                by_cases h_106_108 : i < 107
                · skip
                  obtain rfl : i = 106 := by omega
                  exact ⟨zd_106, ze_106⟩
                · skip
                  obtain rfl : i = 107 := by omega
                  exact ⟨zd_107, ze_107⟩
              · skip
                by_cases h_108_110 : i < 109
                · skip
                  obtain rfl : i = 108 := by omega
                  exact ⟨zd_108, ze_108⟩
                · skip
                  obtain rfl : i = 109 := by omega
                  exact ⟨zd_109, ze_109⟩
          · skip
            by_cases h_110_119 : i < 114
            · skip
              by_cases h_110_114 : i < 112
              · skip
                by_cases h_110_112 : i < 111
                · skip
                  obtain rfl : i = 110 := by omega
                  exact ⟨zd_110, ze_110⟩
                · skip
                  obtain rfl : i = 111 := by omega
                  exact ⟨zd_111, ze_111⟩
              · skip
                by_cases h_112_114 : i < 113
                · skip
                  obtain rfl : i = 112 := by omega
                  exact ⟨zd_112, ze_112⟩
                · skip
                  obtain rfl : i = 113 := by omega
                  exact ⟨zd_113, ze_113⟩
            · skip
              by_cases h_114_119 : i < 116
              · skip
                by_cases h_114_116 : i < 115
                · skip
                  obtain rfl : i = 114 := by omega
                  exact ⟨zd_114, ze_114⟩
                · skip
                  obtain rfl : i = 115 := by omega
                  exact ⟨zd_115, ze_115⟩
              · skip
                by_cases h_116_119 : i < 117
                · skip
                  obtain rfl : i = 116 := by omega
                  exact ⟨zd_116, ze_116⟩
                · skip
                  by_cases h_117_119 : i < 118
                  · skip
                    obtain rfl : i = 117 := by omega
                    exact ⟨zd_117, ze_117⟩
                  · skip
                    obtain rfl : i = 118 := by omega
                    exact ⟨zd_118, ze_118⟩
        · skip
          by_cases h_119_137 : i < 128
          · skip
            by_cases h_119_128 : i < 123
            · skip
              by_cases h_119_123 : i < 121
              · skip
                by_cases h_119_121 : i < 120
                · skip
                  obtain rfl : i = 119 := by omega
                  exact ⟨zd_119, ze_119⟩
                · skip
                  obtain rfl : i = 120 := by omega
                  exact ⟨zd_120, ze_120⟩
              · skip
                by_cases h_121_123 : i < 122
                · skip
                  obtain rfl : i = 121 := by omega
                  exact ⟨zd_121, ze_121⟩
                · skip
                  obtain rfl : i = 122 := by omega
                  exact ⟨zd_122, ze_122⟩
            · skip
              by_cases h_123_128 : i < 125
              · skip
                by_cases h_123_125 : i < 124
                · skip
                  obtain rfl : i = 123 := by omega
                  exact ⟨zd_123, ze_123⟩
                · skip
                  obtain rfl : i = 124 := by omega
                  exact ⟨zd_124, ze_124⟩
              · skip
                by_cases h_125_128 : i < 126
                · skip
                  obtain rfl : i = 125 := by omega
                  exact ⟨zd_125, ze_125⟩
                · skip
                  by_cases h_126_128 : i < 127
                  · skip
                    obtain rfl : i = 126 := by omega
                    exact ⟨zd_126, ze_126⟩
                  · skip
                    obtain rfl : i = 127 := by omega
                    exact ⟨zd_127, ze_127⟩
          · skip
            by_cases h_128_137 : i < 132
            · skip
              by_cases h_128_132 : i < 130
              · skip
                by_cases h_128_130 : i < 129
                · skip
                  obtain rfl : i = 128 := by omega
                  exact ⟨zd_128, ze_128⟩
                · skip
                  obtain rfl : i = 129 := by omega
                  exact ⟨zd_129, ze_129⟩
              · skip
                by_cases h_130_132 : i < 131
                · skip
                  obtain rfl : i = 130 := by omega
                  exact ⟨zd_130, ze_130⟩
                · skip
                  obtain rfl : i = 131 := by omega
                  exact ⟨zd_131, ze_131⟩
            · skip
              by_cases h_132_137 : i < 134
              · skip
                by_cases h_132_134 : i < 133
                · skip
                  obtain rfl : i = 132 := by omega
                  exact ⟨zd_132, ze_132⟩
                · skip
                  obtain rfl : i = 133 := by omega
                  exact ⟨zd_133, ze_133⟩
              · skip
                by_cases h_134_137 : i < 135
                · skip
                  obtain rfl : i = 134 := by omega
                  exact ⟨zd_134, ze_134⟩
                · skip
                  by_cases h_135_137 : i < 136
                  · skip
                    obtain rfl : i = 135 := by omega
                    exact ⟨zd_135, ze_135⟩
                  · skip
                    obtain rfl : i = 136 := by omega
                    exact ⟨zd_136, ze_136⟩
  · skip
    by_cases h_137_274 : i < 205
    · skip
      by_cases h_137_205 : i < 171
      · skip
        by_cases h_137_171 : i < 154
        · skip
          by_cases h_137_154 : i < 145
          · skip
            by_cases h_137_145 : i < 141
            · skip
              by_cases h_137_141 : i < 139
              · skip
                by_cases h_137_139 : i < 138
                · skip
                  obtain rfl : i = 137 := by omega
                  exact ⟨zd_137, ze_137⟩
                · skip
                  obtain rfl : i = 138 := by omega
                  exact ⟨zd_138, ze_138⟩
              · skip
                by_cases h_139_141 : i < 140
                · skip
                  obtain rfl : i = 139 := by omega
                  exact ⟨zd_139, ze_139⟩
                · skip
                  obtain rfl : i = 140 := by omega
                  exact ⟨zd_140, ze_140⟩
            · skip
              by_cases h_141_145 : i < 143
              · skip
                by_cases h_141_143 : i < 142
                · skip
                  obtain rfl : i = 141 := by omega
                  exact ⟨zd_141, ze_141⟩
                · skip
                  obtain rfl : i = 142 := by omega
                  exact ⟨zd_142, ze_142⟩
              · skip
                by_cases h_143_145 : i < 144
                · skip
                  obtain rfl : i = 143 := by omega
                  exact ⟨zd_143, ze_143⟩
                · skip
                  obtain rfl : i = 144 := by omega
                  exact ⟨zd_144, ze_144⟩
          · skip
            by_cases h_145_154 : i < 149
            · skip
              by_cases h_145_149 : i < 147
              · skip
                by_cases h_145_147 : i < 146
                · skip
                  obtain rfl : i = 145 := by omega
                  exact ⟨zd_145, ze_145⟩
                · skip
                  obtain rfl : i = 146 := by omega
                  exact ⟨zd_146, ze_146⟩
              · skip
                by_cases h_147_149 : i < 148
                · skip
                  obtain rfl : i = 147 := by omega
                  exact ⟨zd_147, ze_147⟩
                · skip
                  obtain rfl : i = 148 := by omega
                  exact ⟨zd_148, ze_148⟩
            · skip
              by_cases h_149_154 : i < 151
              · skip
                by_cases h_149_151 : i < 150
                · skip
                  obtain rfl : i = 149 := by omega
                  exact ⟨zd_149, ze_149⟩
                · skip
                  obtain rfl : i = 150 := by omega
                  exact ⟨zd_150, ze_150⟩
              · skip
                by_cases h_151_154 : i < 152
                · skip
                  obtain rfl : i = 151 := by omega
                  exact ⟨zd_151, ze_151⟩
                · skip
                  by_cases h_152_154 : i < 153
                  · skip
                    obtain rfl : i = 152 := by omega
                    exact ⟨zd_152, ze_152⟩
                  · skip
                    obtain rfl : i = 153 := by omega
                    exact ⟨zd_153, ze_153⟩
        · skip
          by_cases h_154_171 : i < 162
          · skip
            by_cases h_154_162 : i < 158
            · skip
              by_cases h_154_158 : i < 156
              · skip
                by_cases h_154_156 : i < 155
                · skip
                  obtain rfl : i = 154 := by omega
                  exact ⟨zd_154, ze_154⟩
                · skip
                  obtain rfl : i = 155 := by omega
                  exact ⟨zd_155, ze_155⟩
              · skip
                by_cases h_156_158 : i < 157
                · skip
                  obtain rfl : i = 156 := by omega
                  exact ⟨zd_156, ze_156⟩
                · skip
                  obtain rfl : i = 157 := by omega
                  exact ⟨zd_157, ze_157⟩
            · skip
              by_cases h_158_162 : i < 160
              · skip
                by_cases h_158_160 : i < 159
                · skip
                  obtain rfl : i = 158 := by omega
                  exact ⟨zd_158, ze_158⟩
                · skip
                  obtain rfl : i = 159 := by omega
                  exact ⟨zd_159, ze_159⟩
              · skip
                by_cases h_160_162 : i < 161
                · skip
                  obtain rfl : i = 160 := by omega
                  exact ⟨zd_160, ze_160⟩
                · skip
                  obtain rfl : i = 161 := by omega
                  exact ⟨zd_161, ze_161⟩
          · skip
            by_cases h_162_171 : i < 166
            · skip
              by_cases h_162_166 : i < 164
              · skip
                by_cases h_162_164 : i < 163
                · skip
                  obtain rfl : i = 162 := by omega
                  exact ⟨zd_162, ze_162⟩
                · skip
                  obtain rfl : i = 163 := by omega
                  exact ⟨zd_163, ze_163⟩
              · skip
                by_cases h_164_166 : i < 165
                · skip
                  obtain rfl : i = 164 := by omega
                  exact ⟨zd_164, ze_164⟩
                · skip
                  obtain rfl : i = 165 := by omega
                  exact ⟨zd_165, ze_165⟩
            · skip
              by_cases h_166_171 : i < 168
              · skip
                by_cases h_166_168 : i < 167
                · skip
                  obtain rfl : i = 166 := by omega
                  exact ⟨zd_166, ze_166⟩
                · skip
                  obtain rfl : i = 167 := by omega
                  exact ⟨zd_167, ze_167⟩
              · skip
                by_cases h_168_171 : i < 169
                · skip
                  obtain rfl : i = 168 := by omega
                  exact ⟨zd_168, ze_168⟩
                · skip
                  by_cases h_169_171 : i < 170
                  · skip
                    obtain rfl : i = 169 := by omega
                    exact ⟨zd_169, ze_169⟩
                  · skip
                    obtain rfl : i = 170 := by omega
                    exact ⟨zd_170, ze_170⟩
      · skip
        by_cases h_171_205 : i < 188
        · skip
          by_cases h_171_188 : i < 179
          · skip
            by_cases h_171_179 : i < 175
            · skip
              by_cases h_171_175 : i < 173
              · skip
                by_cases h_171_173 : i < 172
                · skip
                  obtain rfl : i = 171 := by omega
                  exact ⟨zd_171, ze_171⟩
                · skip
                  obtain rfl : i = 172 := by omega
                  exact ⟨zd_172, ze_172⟩
              · skip
                by_cases h_173_175 : i < 174
                · skip
                  obtain rfl : i = 173 := by omega
                  exact ⟨zd_173, ze_173⟩
                · skip
                  obtain rfl : i = 174 := by omega
                  exact ⟨zd_174, ze_174⟩
            · skip
              by_cases h_175_179 : i < 177
              · skip
                by_cases h_175_177 : i < 176
                · skip
                  obtain rfl : i = 175 := by omega
                  exact ⟨zd_175, ze_175⟩
                · skip
                  obtain rfl : i = 176 := by omega
                  exact ⟨zd_176, ze_176⟩
              · skip
                by_cases h_177_179 : i < 178
                · skip
                  obtain rfl : i = 177 := by omega
                  exact ⟨zd_177, ze_177⟩
                · skip
                  obtain rfl : i = 178 := by omega
                  exact ⟨zd_178, ze_178⟩
          · skip
            by_cases h_179_188 : i < 183
            · skip
              by_cases h_179_183 : i < 181
              · skip
                by_cases h_179_181 : i < 180
                · skip
                  obtain rfl : i = 179 := by omega
                  exact ⟨zd_179, ze_179⟩
                · skip
                  obtain rfl : i = 180 := by omega
                  exact ⟨zd_180, ze_180⟩
              · skip
                by_cases h_181_183 : i < 182
                · skip
                  obtain rfl : i = 181 := by omega
                  exact ⟨zd_181, ze_181⟩
                · skip
                  obtain rfl : i = 182 := by omega
                  exact ⟨zd_182, ze_182⟩
            · skip
              by_cases h_183_188 : i < 185
              · skip
                by_cases h_183_185 : i < 184
                · skip
                  obtain rfl : i = 183 := by omega
                  exact ⟨zd_183, ze_183⟩
                · skip
                  obtain rfl : i = 184 := by omega
                  exact ⟨zd_184, ze_184⟩
              · skip
                by_cases h_185_188 : i < 186
                · skip
                  obtain rfl : i = 185 := by omega
                  exact ⟨zd_185, ze_185⟩
                · skip
                  by_cases h_186_188 : i < 187
                  · skip
                    obtain rfl : i = 186 := by omega
                    exact ⟨zd_186, ze_186⟩
                  · skip
                    obtain rfl : i = 187 := by omega
                    exact ⟨zd_187, ze_187⟩
        · skip
          by_cases h_188_205 : i < 196
          · skip
            by_cases h_188_196 : i < 192
            · skip
              by_cases h_188_192 : i < 190
              · skip
                by_cases h_188_190 : i < 189
                · skip
                  obtain rfl : i = 188 := by omega
                  exact ⟨zd_188, ze_188⟩
                · skip
                  obtain rfl : i = 189 := by omega
                  exact ⟨zd_189, ze_189⟩
              · skip
                by_cases h_190_192 : i < 191
                · skip
                  obtain rfl : i = 190 := by omega
                  exact ⟨zd_190, ze_190⟩
                · skip
                  obtain rfl : i = 191 := by omega
                  exact ⟨zd_191, ze_191⟩
            · skip
              by_cases h_192_196 : i < 194
              · skip
                by_cases h_192_194 : i < 193
                · skip
                  obtain rfl : i = 192 := by omega
                  exact ⟨zd_192, ze_192⟩
                · skip
                  obtain rfl : i = 193 := by omega
                  exact ⟨zd_193, ze_193⟩
              · skip
                by_cases h_194_196 : i < 195
                · skip
                  obtain rfl : i = 194 := by omega
                  exact ⟨zd_194, ze_194⟩
                · skip
                  obtain rfl : i = 195 := by omega
                  exact ⟨zd_195, ze_195⟩
          · skip
            by_cases h_196_205 : i < 200
            · skip
              by_cases h_196_200 : i < 198
              · skip
                by_cases h_196_198 : i < 197
                · skip
                  obtain rfl : i = 196 := by omega
                  exact ⟨zd_196, ze_196⟩
                · skip
                  obtain rfl : i = 197 := by omega
                  exact ⟨zd_197, ze_197⟩
              · skip
                by_cases h_198_200 : i < 199
                · skip
                  obtain rfl : i = 198 := by omega
                  exact ⟨zd_198, ze_198⟩
                · skip
                  obtain rfl : i = 199 := by omega
                  exact ⟨zd_199, ze_199⟩
            · skip
              by_cases h_200_205 : i < 202
              · skip
                by_cases h_200_202 : i < 201
                · skip
                  obtain rfl : i = 200 := by omega
                  exact ⟨zd_200, ze_200⟩
                · skip
                  obtain rfl : i = 201 := by omega
                  exact ⟨zd_201, ze_201⟩
              · skip
                by_cases h_202_205 : i < 203
                · skip
                  obtain rfl : i = 202 := by omega
                  exact ⟨zd_202, ze_202⟩
                · skip
                  by_cases h_203_205 : i < 204
                  · skip
                    obtain rfl : i = 203 := by omega
                    exact ⟨zd_203, ze_203⟩
                  · skip
                    obtain rfl : i = 204 := by omega
                    exact ⟨zd_204, ze_204⟩
    · skip
      by_cases h_205_274 : i < 239
      · skip
        by_cases h_205_239 : i < 222
        · skip
          by_cases h_205_222 : i < 213
          · skip
            by_cases h_205_213 : i < 209
            · skip
              by_cases h_205_209 : i < 207
              · skip
                by_cases h_205_207 : i < 206
                · skip
                  obtain rfl : i = 205 := by omega
                  exact ⟨zd_205, ze_205⟩
                · skip
                  obtain rfl : i = 206 := by omega
                  exact ⟨zd_206, ze_206⟩
              · skip
                by_cases h_207_209 : i < 208
                · skip
                  obtain rfl : i = 207 := by omega
                  exact ⟨zd_207, ze_207⟩
                · skip
                  obtain rfl : i = 208 := by omega
                  exact ⟨zd_208, ze_208⟩
            · skip
              by_cases h_209_213 : i < 211
              · skip
                by_cases h_209_211 : i < 210
                · skip
                  obtain rfl : i = 209 := by omega
                  exact ⟨zd_209, ze_209⟩
                · skip
                  obtain rfl : i = 210 := by omega
                  exact ⟨zd_210, ze_210⟩
              · skip
                by_cases h_211_213 : i < 212
                · skip
                  obtain rfl : i = 211 := by omega
                  exact ⟨zd_211, ze_211⟩
                · skip
                  obtain rfl : i = 212 := by omega
                  exact ⟨zd_212, ze_212⟩
          · skip
            by_cases h_213_222 : i < 217
            · skip
              by_cases h_213_217 : i < 215
              · skip
                by_cases h_213_215 : i < 214
                · skip
                  obtain rfl : i = 213 := by omega
                  exact ⟨zd_213, ze_213⟩
                · skip
                  obtain rfl : i = 214 := by omega
                  exact ⟨zd_214, ze_214⟩
              · skip
                by_cases h_215_217 : i < 216
                · skip
                  obtain rfl : i = 215 := by omega
                  exact ⟨zd_215, ze_215⟩
                · skip
                  obtain rfl : i = 216 := by omega
                  exact ⟨zd_216, ze_216⟩
            · skip
              by_cases h_217_222 : i < 219
              · skip
                by_cases h_217_219 : i < 218
                · skip
                  obtain rfl : i = 217 := by omega
                  exact ⟨zd_217, ze_217⟩
                · skip
                  obtain rfl : i = 218 := by omega
                  exact ⟨zd_218, ze_218⟩
              · skip
                by_cases h_219_222 : i < 220
                · skip
                  obtain rfl : i = 219 := by omega
                  exact ⟨zd_219, ze_219⟩
                · skip
                  by_cases h_220_222 : i < 221
                  · skip
                    obtain rfl : i = 220 := by omega
                    exact ⟨zd_220, ze_220⟩
                  · skip
                    obtain rfl : i = 221 := by omega
                    exact ⟨zd_221, ze_221⟩
        · skip
          by_cases h_222_239 : i < 230
          · skip
            by_cases h_222_230 : i < 226
            · skip
              by_cases h_222_226 : i < 224
              · skip
                by_cases h_222_224 : i < 223
                · skip
                  obtain rfl : i = 222 := by omega
                  exact ⟨zd_222, ze_222⟩
                · skip
                  obtain rfl : i = 223 := by omega
                  exact ⟨zd_223, ze_223⟩
              · skip
                by_cases h_224_226 : i < 225
                · skip
                  obtain rfl : i = 224 := by omega
                  exact ⟨zd_224, ze_224⟩
                · skip
                  obtain rfl : i = 225 := by omega
                  exact ⟨zd_225, ze_225⟩
            · skip
              by_cases h_226_230 : i < 228
              · skip
                by_cases h_226_228 : i < 227
                · skip
                  obtain rfl : i = 226 := by omega
                  exact ⟨zd_226, ze_226⟩
                · skip
                  obtain rfl : i = 227 := by omega
                  exact ⟨zd_227, ze_227⟩
              · skip
                by_cases h_228_230 : i < 229
                · skip
                  obtain rfl : i = 228 := by omega
                  exact ⟨zd_228, ze_228⟩
                · skip
                  obtain rfl : i = 229 := by omega
                  exact ⟨zd_229, ze_229⟩
          · skip
            by_cases h_230_239 : i < 234
            · skip
              by_cases h_230_234 : i < 232
              · skip
                by_cases h_230_232 : i < 231
                · skip
                  obtain rfl : i = 230 := by omega
                  exact ⟨zd_230, ze_230⟩
                · skip
                  obtain rfl : i = 231 := by omega
                  exact ⟨zd_231, ze_231⟩
              · skip
                by_cases h_232_234 : i < 233
                · skip
                  obtain rfl : i = 232 := by omega
                  exact ⟨zd_232, ze_232⟩
                · skip
                  obtain rfl : i = 233 := by omega
                  exact ⟨zd_233, ze_233⟩
            · skip
              by_cases h_234_239 : i < 236
              · skip
                by_cases h_234_236 : i < 235
                · skip
                  obtain rfl : i = 234 := by omega
                  exact ⟨zd_234, ze_234⟩
                · skip
                  obtain rfl : i = 235 := by omega
                  exact ⟨zd_235, ze_235⟩
              · skip
                by_cases h_236_239 : i < 237
                · skip
                  obtain rfl : i = 236 := by omega
                  exact ⟨zd_236, ze_236⟩
                · skip
                  by_cases h_237_239 : i < 238
                  · skip
                    obtain rfl : i = 237 := by omega
                    exact ⟨zd_237, ze_237⟩
                  · skip
                    obtain rfl : i = 238 := by omega
                    exact ⟨zd_238, ze_238⟩
      · skip
        by_cases h_239_274 : i < 256
        · skip
          by_cases h_239_256 : i < 247
          · skip
            by_cases h_239_247 : i < 243
            · skip
              by_cases h_239_243 : i < 241
              · skip
                by_cases h_239_241 : i < 240
                · skip
                  obtain rfl : i = 239 := by omega
                  exact ⟨zd_239, ze_239⟩
                · skip
                  obtain rfl : i = 240 := by omega
                  exact ⟨zd_240, ze_240⟩
              · skip
                by_cases h_241_243 : i < 242
                · skip
                  obtain rfl : i = 241 := by omega
                  exact ⟨zd_241, ze_241⟩
                · skip
                  obtain rfl : i = 242 := by omega
                  exact ⟨zd_242, ze_242⟩
            · skip
              by_cases h_243_247 : i < 245
              · skip
                by_cases h_243_245 : i < 244
                · skip
                  obtain rfl : i = 243 := by omega
                  exact ⟨zd_243, ze_243⟩
                · skip
                  obtain rfl : i = 244 := by omega
                  exact ⟨zd_244, ze_244⟩
              · skip
                by_cases h_245_247 : i < 246
                · skip
                  obtain rfl : i = 245 := by omega
                  exact ⟨zd_245, ze_245⟩
                · skip
                  obtain rfl : i = 246 := by omega
                  exact ⟨zd_246, ze_246⟩
          · skip
            by_cases h_247_256 : i < 251
            · skip
              by_cases h_247_251 : i < 249
              · skip
                by_cases h_247_249 : i < 248
                · skip
                  obtain rfl : i = 247 := by omega
                  exact ⟨zd_247, ze_247⟩
                · skip
                  obtain rfl : i = 248 := by omega
                  exact ⟨zd_248, ze_248⟩
              · skip
                by_cases h_249_251 : i < 250
                · skip
                  obtain rfl : i = 249 := by omega
                  exact ⟨zd_249, ze_249⟩
                · skip
                  obtain rfl : i = 250 := by omega
                  exact ⟨zd_250, ze_250⟩
            · skip
              by_cases h_251_256 : i < 253
              · skip
                by_cases h_251_253 : i < 252
                · skip
                  obtain rfl : i = 251 := by omega
                  exact ⟨zd_251, ze_251⟩
                · skip
                  obtain rfl : i = 252 := by omega
                  exact ⟨zd_252, ze_252⟩
              · skip
                by_cases h_253_256 : i < 254
                · skip
                  obtain rfl : i = 253 := by omega
                  exact ⟨zd_253, ze_253⟩
                · skip
                  by_cases h_254_256 : i < 255
                  · skip
                    obtain rfl : i = 254 := by omega
                    exact ⟨zd_254, ze_254⟩
                  · skip
                    obtain rfl : i = 255 := by omega
                    exact ⟨zd_255, ze_255⟩
        · skip
          by_cases h_256_274 : i < 265
          · skip
            by_cases h_256_265 : i < 260
            · skip
              by_cases h_256_260 : i < 258
              · skip
                by_cases h_256_258 : i < 257
                · skip
                  obtain rfl : i = 256 := by omega
                  exact ⟨zd_256, ze_256⟩
                · skip
                  obtain rfl : i = 257 := by omega
                  exact ⟨zd_257, ze_257⟩
              · skip
                by_cases h_258_260 : i < 259
                · skip
                  obtain rfl : i = 258 := by omega
                  exact ⟨zd_258, ze_258⟩
                · skip
                  obtain rfl : i = 259 := by omega
                  exact ⟨zd_259, ze_259⟩
            · skip
              by_cases h_260_265 : i < 262
              · skip
                by_cases h_260_262 : i < 261
                · skip
                  obtain rfl : i = 260 := by omega
                  exact ⟨zd_260, ze_260⟩
                · skip
                  obtain rfl : i = 261 := by omega
                  exact ⟨zd_261, ze_261⟩
              · skip
                by_cases h_262_265 : i < 263
                · skip
                  obtain rfl : i = 262 := by omega
                  exact ⟨zd_262, ze_262⟩
                · skip
                  by_cases h_263_265 : i < 264
                  · skip
                    obtain rfl : i = 263 := by omega
                    exact ⟨zd_263, ze_263⟩
                  · skip
                    obtain rfl : i = 264 := by omega
                    exact ⟨zd_264, ze_264⟩
          · skip
            by_cases h_265_274 : i < 269
            · skip
              by_cases h_265_269 : i < 267
              · skip
                by_cases h_265_267 : i < 266
                · skip
                  obtain rfl : i = 265 := by omega
                  exact ⟨zd_265, ze_265⟩
                · skip
                  obtain rfl : i = 266 := by omega
                  exact ⟨zd_266, ze_266⟩
              · skip
                by_cases h_267_269 : i < 268
                · skip
                  obtain rfl : i = 267 := by omega
                  exact ⟨zd_267, ze_267⟩
                · skip
                  obtain rfl : i = 268 := by omega
                  exact ⟨zd_268, ze_268⟩
            · skip
              by_cases h_269_274 : i < 271
              · skip
                by_cases h_269_271 : i < 270
                · skip
                  obtain rfl : i = 269 := by omega
                  exact ⟨zd_269, ze_269⟩
                · skip
                  obtain rfl : i = 270 := by omega
                  exact ⟨zd_270, ze_270⟩
              · skip
                by_cases h_271_274 : i < 272
                · skip
                  obtain rfl : i = 271 := by omega
                  exact ⟨zd_271, ze_271⟩
                · skip
                  by_cases h_272_274 : i < 273
                  · skip
                    obtain rfl : i = 272 := by omega
                    exact ⟨zd_272, ze_272⟩
                  · skip
                    obtain rfl : i = 273 := by omega
                    exact ⟨zd_273, ze_273⟩
end
section
/-! what a world of objects is in the heap -/
theorem zRt_ok : (List.range 274).all (fun i => (zCode i).all fun e => match e.2.1 with
  | .ireturn => decide (((zMi i).2.2 = some .int ∧ e.2.2.2.2.2.1 = 0) ∨ ((zMi i).2.2 = some .boolean ∧ e.2.2.2.2.2.1 = 1))
  | .return_ => decide ((zMi i).2.2 = none)
  | _ => true) = true := by decide +kernel
abbrev zG : Type := Nat × ClassId × ClassId × ClassId × ClassId × ClassId
def zcv (b : Nat) : Value → Value
  | .ref o => .ref (b + o)
  | v => v
def zro (b : Nat) (v : Int32) : Option Nat := if v = 0 then none else some (b + (v.toNatClampNeg - 1))
def zfs (b : Nat) (σ : zS) (o : Nat) (fl : List Nat) : List Value := fl.mapIdx fun k f => zcv b (zFld o k f σ)
def zcell (g : zG) (zk : zKd) (σ : zS) (o : Nat) : va_E := match zk o with
  | (0, ci, fl) => .inr (ci, zfs g.1 σ o fl)
  | (1, len, _) => .inl (g.2.1, len, .inl (σ o))
  | (2, len, _) => .inl (g.2.2.1, len, .inl (σ o))
  | (3, len, _) => .inl (g.2.2.2.1, len, .inl (σ o))
  | (4, len, _) => .inl (g.2.2.2.2.1, len, .inr (.inl (fun j => (σ o j).toInt64)))
  | (5, len, fl) => .inl (g.2.2.2.2.2, len, .inr (.inr (.inr (.inr (fun j => some (g.1 + fl.getD j 0))))))
  | (_, len, _) => .inl (g.2.2.2.2.2, len, .inr (.inr (.inr (.inr (fun j => zro g.1 (σ o j))))))
def zWl (g : zG) (zk : zKd) (n : Nat) (σ : zS) : va_W := (List.range n).map fun o => (g.1 + o, zcell g zk σ o)
def zTy (g : zG) : List (ClassId × FieldType) := [(g.2.1, .int), (g.2.2.1, .byte), (g.2.2.2.1, .boolean), (g.2.2.2.2.1, .long), (g.2.2.2.2.2, .object "StartedByAYawn$Kept")]
abbrev zA (g : zG) : Nat → Prop := fun q => g.1 ≤ q
def zsz (zk : zKd) : Nat → Nat
  | 0 => 0
  | n + 1 => zsz zk n + (match zk n with
    | (0, _, fl) => fl.length
    | (_, len, _) => len)
theorem zsz_mono (zk : zKd) {a b : Nat} (h : a ≤ b) : zsz zk a ≤ zsz zk b := by
  induction b with
  | zero => rw [show a = 0 by omega]; exact Nat.le_refl _
  | succ b ih =>
    by_cases h1 : a = b + 1
    · rw [h1]; exact Nat.le_refl _
    · exact Nat.le_trans (ih (by omega)) (Nat.le_add_right _ _)
theorem zput_same (σ : zS) (o : Nat) (f : Nat → Int32) : zput σ o f o = f := by simp [zput]
theorem zput_ne (σ : zS) {o o' : Nat} (h : o' ≠ o) (f : Nat → Int32) : zput σ o f o' = σ o' := by simp [zput, h]
theorem zFld_congr {σ τ : zS} {o : Nat} (h : σ o = τ o) (k f : Nat) : zFld o k f σ = zFld o k f τ := by
  unfold zFld
  split <;> simp only [h]
theorem zcell_congr (g : zG) (zk : zKd) {σ τ : zS} {o : Nat} (h : σ o = τ o) : zcell g zk σ o = zcell g zk τ o := by
  unfold zcell
  have h2 : ∀ fl, zfs g.1 σ o fl = zfs g.1 τ o fl := fun fl => by
    unfold zfs
    congr 1
    funext k f
    rw [zFld_congr h]
  split <;> simp only [h, h2]
theorem zWl_get (g : zG) (zk : zKd) (σ : zS) {o n : Nat} (h : o < n) : (zWl g zk n σ)[o]? = some (g.1 + o, zcell g zk σ o) := by
  simp [zWl, List.getElem?_map, List.getElem?_range h]
theorem zWl_len (g : zG) (zk : zKd) (σ : zS) (n : Nat) : (zWl g zk n σ).length = n := by simp [zWl]
theorem zWl_at (g : zG) (zk : zKd) (σ : zS) {i n : Nat} {q : Nat × va_E} (h : (zWl g zk n σ)[i]? = some q) : i < n ∧ q = (g.1 + i, zcell g zk σ i) := by
  have h1 : i < n := by
    have := (List.getElem?_eq_some_iff.mp h).1
    rwa [zWl_len] at this
  refine ⟨h1, ?_⟩
  rw [zWl_get g zk σ h1] at h
  exact (Option.some.inj h).symm
theorem zWl_set (g : zG) (zk : zKd) (σ : zS) {o n : Nat} (h : o < n) (f : Nat → Int32) {x : va_E} (hx : x = zcell g zk (zput σ o f) o) : (zWl g zk n σ).set o (g.1 + o, x) = zWl g zk n (zput σ o f) := by
  subst hx
  apply List.ext_getElem?
  intro i
  by_cases hi : i < n
  · by_cases he : o = i
    · subst he
      rw [List.getElem?_set_self (by rw [zWl_len]; exact hi), zWl_get _ _ _ hi]
    · rw [List.getElem?_set_ne he, zWl_get _ _ _ hi, zWl_get _ _ _ hi, zcell_congr g zk (zput_ne σ (fun h => he h.symm) f)]
  · rw [List.getElem?_eq_none (by rw [List.length_set, zWl_len]; omega), List.getElem?_eq_none (by rw [zWl_len]; omega)]
theorem zWl_D (g : zG) (zk : zKd) (n : Nat) (σ : zS) : va_D (zA g) (zWl g zk n σ) := by
  refine ⟨fun i j p q hp hq h => ?_, fun k q hq => ?_⟩
  · obtain ⟨-, rfl⟩ := zWl_at g zk σ hp
    obtain ⟨-, rfl⟩ := zWl_at g zk σ hq
    exact Nat.add_left_cancel h
  · obtain ⟨-, rfl⟩ := zWl_at g zk σ hq
    exact Nat.le_add_right _ _
theorem zWl_push (g : zG) (zk : zKd) (n : Nat) (σ : zS) : zWl g zk (n + 1) σ = zWl g zk n σ ++ [(g.1 + n, zcell g zk σ n)] := by
  simp [zWl, List.range_succ]
theorem zfs_get (b : Nat) (σ : zS) (o : Nat) {fl : List Nat} {k f : Nat} (h : fl[k]? = some f) : (zfs b σ o fl)[k]? = some (zcv b (zFld o k f σ)) := by
  simp [zfs, List.getElem?_mapIdx, h]
theorem zfs_len (b : Nat) (σ : zS) (o : Nat) (fl : List Nat) : (zfs b σ o fl).length = fl.length := by simp [zfs]
theorem zro_rf (b : Nat) (v : Int32) : va_rf (zro b v) = zcv b (zdec v) := by
  unfold zro zdec
  split <;> rfl
theorem zdec_c1 (v : Int32) : zc1 (zdec v) = true := by
  unfold zdec
  split <;> rfl
theorem zFld_c1 (o k f : Nat) (σ : zS) : zc1 (zFld o k f σ) = true := by
  unfold zFld
  split
  · rfl
  · exact zdec_c1 _
  · rfl
theorem zenc_dec {o : Nat} (h : o < 1000) : zdec (nI (o + 1)) = .ref o := by
  unfold zdec
  rw [if_neg (nI_ne0 (by omega) (by omega)), nI_clamp (by omega)]
  rfl
/-- an object's field set -/
theorem zfs_put (b : Nat) (σ : zS) (o k : Nat) {fl : List Nat} {f : Nat} (h : fl[k]? = some f) (x : Int32) : (zfs b σ o fl).set k (zcv b (zFld o k f (zup σ o k x))) = zfs b (zup σ o k x) o fl := by
  apply List.ext_getElem?
  intro i
  have hk : k < fl.length := (List.getElem?_eq_some_iff.mp h).1
  by_cases hi : i < fl.length
  · by_cases he : k = i
    · subst he
      rw [List.getElem?_set_self (by rw [zfs_len]; exact hi), zfs_get _ _ _ h]
    · rw [List.getElem?_set_ne he]
      have h2 : fl[i]? = some fl[i] := List.getElem?_eq_getElem hi
      rw [zfs_get _ _ _ h2, zfs_get _ _ _ h2]
      have h3 : zup σ o k x o i = σ o i := by
        simp only [zup, zput_same, upd]
        rw [if_neg (fun h => he h.symm)]
      congr 2
      unfold zFld
      split <;> simp only [h3]
  · rw [List.getElem?_eq_none (by rw [List.length_set, zfs_len]; omega), List.getElem?_eq_none (by rw [zfs_len]; omega)]
theorem zin_vp {i : Int32} {n : Nat} (h : zin i n = true) : vp_in i n := by
  simp only [zin, Bool.and_eq_true, Bool.not_eq_true', decide_eq_false_iff_not, decide_eq_true_eq] at h
  intro q
  rcases q with q | q
  · exact h.1 q
  · omega
theorem zin_pos {i : Int32} {n : Nat} (h : zin i n = true) : ¬ i < 0 ∧ i.toNatClampNeg < n := by
  simpa only [zin, Bool.and_eq_true, Bool.not_eq_true', decide_eq_false_iff_not, decide_eq_true_eq] using h
/-! words -/
def zbig : List Cond := lw_tbl.filter goodWord
theorem lw_of_t {w : Cond} (h : w ∈ tables_1) : w ∈ lw_tbl := List.mem_append_right _ h
theorem zbig_l {w : Cond} (h : w ∈ lw_tbl) (hg : goodWord w = true) : w ∈ zbig := List.mem_filter.mpr ⟨h, hg⟩
theorem zbig_t {w : Cond} (h : w ∈ tables_1) (hg : goodWord w = true) : w ∈ zbig := zbig_l (lw_of_t h) hg
theorem zbig_good {w : Cond} (h : w ∈ zbig) : goodWord w = true := (List.mem_filter.mp h).2
def zws (mi : Nat) : List Cond := .code (zY mi) (zB mi) (zMi mi).2.1 (zMi mi).2.2 :: zbig
theorem zu_good (C : String) (T : u_T) (N : Nat) : ∀ w ∈ u_ws C T N, goodWord w = true := by
  intro w hw
  obtain ⟨k, -, rfl⟩ := List.mem_map.mp hw
  unfold u_lay
  split <;> rfl
theorem zcls {a : Nat} (h : a < 13) : ∃ ty : Nat → FieldType, (∀ k, k < (zTf a).2.2 → parseFieldDescriptor ((zTf a).2.1 k).2.2.1 = some (ty k)) ∧ (∀ x, x < (zTf a).2.2 → ∀ y, y < (zTf a).2.2 → x ≠ y → ((zTf a).2.1 x).2.1 ≠ ((zTf a).2.1 y).2.1) ∧ (∀ w ∈ u_ws (zTf a).1 (zTf a).2.1 (zTf a).2.2, w ∈ zbig) ∧ zCl[a]? = some (zTf a) := by
  have h2 : a = 0 ∨ a = 1 ∨ a = 2 ∨ a = 3 ∨ a = 4 ∨ a = 5 ∨ a = 6 ∨ a = 7 ∨ a = 8 ∨ a = 9 ∨ a = 10 ∨ a = 11 ∨ a = 12 := by omega
  rcases h2 with rfl | rfl | rfl | rfl | rfl | rfl | rfl | rfl | rfl | rfl | rfl | rfl | rfl
  · exact ⟨zt0, zt0_ok, zn0, fun w hw => zbig_t (zi0 w hw) (zu_good _ _ _ w hw), rfl⟩
  · exact ⟨zt1, zt1_ok, zn1, fun w hw => zbig_t (zi1 w hw) (zu_good _ _ _ w hw), rfl⟩
  · exact ⟨zt2, zt2_ok, zn2, fun w hw => zbig_t (zi2 w hw) (zu_good _ _ _ w hw), rfl⟩
  · exact ⟨zt3, zt3_ok, zn3, fun w hw => zbig_t (zi3 w hw) (zu_good _ _ _ w hw), rfl⟩
  · exact ⟨zt4, zt4_ok, zn4, fun w hw => zbig_t (zi4 w hw) (zu_good _ _ _ w hw), rfl⟩
  · exact ⟨zt5, zt5_ok, zn5, fun w hw => zbig_t (zi5 w hw) (zu_good _ _ _ w hw), rfl⟩
  · exact ⟨zt6, zt6_ok, zn6, fun w hw => zbig_t (zi6 w hw) (zu_good _ _ _ w hw), rfl⟩
  · exact ⟨zt7, zt7_ok, zn7, fun w hw => zbig_t (zi7 w hw) (zu_good _ _ _ w hw), rfl⟩
  · exact ⟨zt8, zt8_ok, zn8, fun w hw => zbig_t (zi8 w hw) (zu_good _ _ _ w hw), rfl⟩
  · exact ⟨zt9, zt9_ok, zn9, fun w hw => zbig_t (zi9 w hw) (zu_good _ _ _ w hw), rfl⟩
  · exact ⟨zt10, zt10_ok, zn10, fun w hw => zbig_t (zi10 w hw) (zu_good _ _ _ w hw), rfl⟩
  · exact ⟨zt11, zt11_ok, zn11, fun w hw => zbig_t (zi11 w hw) (zu_good _ _ _ w hw), rfl⟩
  · exact ⟨zt12, zt12_ok, zn12, fun w hw => zbig_t (zi12 w hw) (zu_good _ _ _ w hw), rfl⟩
theorem zFd_ok {a b : Nat} (h : a < 13) (hb : b < (zTf a).2.2) : ((zTf a).2.1 b).1 = zCs a := by
  have h2 : ∀ a, a < 13 → ∀ b, b < (zTf a).2.2 → ((zTf a).2.1 b).1 = zCs a := by decide +kernel
  exact h2 a h b hb
/-! locals -/
def zLr (b : Nat) (L : List Value) (ls : Array Slot) : Prop := ∃ lv, lv_has ls L.length lv ∧ ∀ i v, L[i]? = some v → zc1 v = true → (i, zcv b v) ∈ lv
theorem zc1_cat {b : Nat} {v : Value} (h : zc1 v = true) : (zcv b v).category = 1 := by
  cases v <;> first | rfl | cases h
theorem zLr_get {b : Nat} {L : List Value} {ls : Array Slot} (h : zLr b L ls) {i : Nat} {v : Value} (hv : L[i]? = some v) (hc : zc1 v = true) : ls[i]? = some (.val (zcv b v)) := by
  obtain ⟨lv, h1, h2⟩ := h
  exact h1.2.2 _ (h2 i v hv hc)
theorem zLr_set {b : Nat} {L : List Value} {ls' : Array Slot} {i : Nat} {v : Value} {lv : List (Nat × Value)} (hi : i < L.length) (h2 : ∀ i v, L[i]? = some v → zc1 v = true → (i, zcv b v) ∈ lv) (h : lv_has ls' L.length ((i, zcv b v) :: lv.filter (fun q => !(q.1 == i) && !(q.1 + 1 == i && q.2.category == 2)))) : zLr b (L.set i v) ls' := by
  refine ⟨_, by rw [List.length_set]; exact h, fun j w hj hc => ?_⟩
  by_cases he : i = j
  · subst he
    rw [List.getElem?_set_self hi] at hj
    cases hj
    exact List.mem_cons_self
  · rw [List.getElem?_set_ne he] at hj
    refine List.mem_cons_of_mem _ (List.mem_filter.mpr ⟨h2 j w hj hc, ?_⟩)
    have h3 := zc1_cat (b := b) hc
    simp [h3, Ne.symm he]
theorem zLr_entry {b : Nat} {as : List Value} {nL : Nat} (hc : ∀ v ∈ as, zc1 v = true) (hn : as.length ≤ nL) : zLr b (as ++ List.replicate (nL - as.length) (.retAddr 0)) ((lg_sl (as.map (zcv b)) ++ List.replicate (nL - (lg_sl (as.map (zcv b))).length) Slot.unset).toArray) := by
  have h1 : ∀ (vs : List Value), (∀ v ∈ vs, zc1 v = true) → (lg_sl (vs.map (zcv b))).length = vs.length := by
    intro vs h
    induction vs with
    | nil => rfl
    | cons v r ih =>
      have h3 := zc1_cat (b := b) (h v List.mem_cons_self)
      have h4 := ih fun w hw => h w (List.mem_cons_of_mem _ hw)
      simp only [lg_sl, List.map_cons, List.flatMap_cons, h3, List.length_append] at h4 ⊢
      simp [h4]
      omega
  have h2 : ∀ (vs : List Value) (k : Nat), (∀ v ∈ vs, zc1 v = true) → ∀ i v, vs[i]? = some v → (k + i, zcv b v) ∈ lv_args k (vs.map (zcv b)) := by
    intro vs
    induction vs with
    | nil => intro k _ i v h; simp at h
    | cons w r ih =>
      intro k h i v hi
      have h3 := zc1_cat (b := b) (h w List.mem_cons_self)
      simp only [List.map_cons, lv_args, h3]
      cases i with
      | zero =>
        simp only [List.getElem?_cons_zero, Option.some.injEq] at hi
        subst hi
        exact List.mem_cons_self
      | succ i =>
        rw [List.getElem?_cons_succ] at hi
        have h4 := ih (k + 1) (fun w hw => h w (List.mem_cons_of_mem _ hw)) i v hi
        rw [show k + (i + 1) = k + 1 + i by omega]
        exact List.mem_cons_of_mem _ (by simpa using h4)
  refine ⟨lv_args 0 (as.map (zcv b)), ?_, fun i v hv hcv => ?_⟩
  · have h3 := lv_entry (as.map (zcv b)) (n := nL) (by rw [h1 as hc]; exact hn)
    have h4 : (as ++ List.replicate (nL - as.length) (Value.retAddr 0)).length = nL := by simp; omega
    rw [h4]
    exact h3
  · by_cases hi : i < as.length
    · rw [List.getElem?_append_left hi] at hv
      have h3 := h2 as 0 hc i v hv
      rwa [Nat.zero_add] at h3
    · rw [List.getElem?_append_right (by omega)] at hv
      obtain ⟨h0, h3⟩ := List.getElem?_eq_some_iff.mp hv
      rw [List.getElem_replicate] at h3
      subst h3
      cases hcv
end
section
/-! one step of the small machine is one step of the large one -/
def zPre (D : va_G) (g : zG) (zk : zKd) (al : Bool) (n : Nat) (σ : zS) (U : State) : Prop :=
  g.1 ≤ U.heap.size ∧ va_P D zCl (zWl g zk n σ) U.heap ∧ va_K D zCl (zTy g) U ∧ (∀ q ∈ zML, 3 ≤ q.2.2.2 → va_Nw (.methodLinkNest (zCs q.1) q.2.1 (zY q.2.2.1) "StartedByAYawn") U) ∧ va_AO "StartedByAYawn$Kept" U ∧ (al = true → U.heap.size = g.1 + n ∧ ∀ o, n ≤ o → ∀ i, σ o i = 0)
def zEnd (D : va_G) (g : zG) (zk : zKd) (al : Bool) (n : Nat) (σ : zS) (t : State) : Prop :=
  va_P D zCl (zWl g zk n σ) t.heap ∧ (al = true → t.heap.size = g.1 + n ∧ ∀ o, n ≤ o → ∀ i, σ o i = 0)
def zPost (D : va_G) (g : zG) (zk : zKd) (al : Bool) (mi : Nat) (v : Int32) (n : Nat) (σ : zS) : Array Value → State → Outcome → State → Prop := match (zMi mi).2.2 with
  | none => va_Qv (S := Unit) (fun _ => True) (fun _ t => zEnd D g zk al n σ t) (zA g)
  | some _ => va_Qi (S := Unit) (fun r _ => r = v) (fun _ t => zEnd D g zk al n σ t) (zA g)
def zrm (zk : zKd) (d n n' : Nat) : Room := { frames := d + 1, cells := n' - n, slots := zsz zk n' - zsz zk n, locals := 40 * (d + 1) }
def ZMet (l : Launch) (D : va_G) (g : zG) (zk : zKd) (al : Bool) (d mi : Nat) (as : List Value) (n : Nat) (σ : zS) (v : Int32) (n' : Nat) (σ' : zS) : Prop :=
  Met l (zY mi) (zws mi) (zrm zk d n n') (va_Pc (as.map (zcv g.1)) (zPre D g zk al n σ)) (zPost D g zk al mi v n' σ') (n' - n) (zsz zk n' - zsz zk n) (zA g)
/-- the kinds of what is made: a new object's fields are ints and references, and hold their defaults -/
def zKok (zk : zKd) : Prop := ∀ o ci fl, zk o = (0, ci, fl) → ci < 13 ∧ fl.length = (zTf ci).2.2 ∧ (fl.all (fun f => Nat.ble f 1) = true → ∀ j, j < fl.length → ∀ ty, parseFieldDescriptor ((zTf ci).2.1 j).2.2.1 = some ty → defaultValue ty = if fl.getD j 0 = 0 then .int 0 else .null)
section ZROW
variable {p : Program} {l : Launch} {e : Env} {R : Room} {s : State} {m : MethodId} {args : Array Value} {below : List Frame} {meth : Method} {c : Code} {H : Heap} {locs : List Loc} {cells slots : Nat} {Q : State → Prop}
variable {cc : ByteArray} {pc : Nat} {ls : Array Slot} {rest : List Value} {D : va_G} {cl : List vw_C} {A : Nat → Prop} {a : Nat} {tys : List (ClassId × FieldType)} {ws : va_W} {H0 : Heap}
/-! rows that also say that a store makes no cell -/
theorem zput_row (hexec : p.tables.exec = Jvm.exec) (hb : c.code = cc) {own ref C : String} {T : u_T} {N ci index : Nat} {Ts : List Cond} (hts : ∀ w ∈ Ts, w.before args s = true) (hin : ∀ w ∈ u_ws C T N, w ∈ Ts) (ty0 : Nat → FieldType) (hty : ∀ k, k < N → parseFieldDescriptor (T k).2.2.1 = some (ty0 k)) (hnm : ∀ a, a < N → ∀ b, b < N → a ≠ b → (T a).2.1 ≠ (T b).2.1) (hown : s.vm.findClass own = some m.cls) (hK : va_K D cl tys s) (hP : va_P D cl ws H) (hD : va_D A ws) (hS0 : va_S A H0 H locs) (q0 : Nat) {fs : List Value} (he : ws[q0]? = some (a, .inr (ci, fs))) (hc : cl[ci]? = some (C, T, N)) (k : Nat) (hk : k < N) (hlink : (Cond.fieldLink own index ref (T k).2.1 (T k).2.2.1).before args s = true) (hsame : ∀ x, s.fieldFound? (T k).1 (T k).2.1 (T k).2.2.1 = some x → s.fieldFound? ref (T k).2.1 (T k).2.2.1 = some x) (hfin : (T k).2.2.2 = false) {ty : FieldType} {v : Value} (hd : parseFieldDescriptor (T k).2.2.1 = some ty) (hn : narrow ty v = v) (hfit : fits ty v = true) (hl : k < fs.length)
    (hdg : decode cc pc = .ok (.putfield index, 3)) (kk : ∀ (H1 : Heap) (locs1 : List Loc), va_P D cl (ws.set q0 (a, .inr (ci, fs.set k v))) H1 → va_D A (ws.set q0 (a, .inr (ci, fs.set k v))) → va_S A H0 H1 locs1 → H1.size = H.size → W p l e R s m args below meth c H1 locs1 cells slots Q (F0 m (pc + 3) ls rest)) : W p l e R s m args below meth c H locs cells slots Q (F0 m pc ls (v :: .ref a :: rest)) := by
  have hap := va_apart (own := own) hts hin ty0 hty hnm hK hc
  obtain ⟨r, h1, cell, q1, q2, q3, q4⟩ := hP q0 _ he
  have hr : r = (C, T, N) := Option.some.inj (h1.symm.trans hc)
  subst hr
  obtain ⟨hS, hfc, kC, hkC, hkind⟩ := hK.1 ci _ hc
  obtain ⟨cf, kf, fi, f, hi, hsl⟩ := hS k hk
  have hlay := hts _ (hin _ (u_in_lay hk))
  unfold u_lay at hlay
  rw [if_neg (by rw [hfin]; decide)] at hlay
  have hst := (u_facts hfc hkC (u_lays hts hin hk) hi).1
  have h6 := u_store hfc hkC hkind hlay hi hd hn hfit
  refine W.putK hexec hb (f := f) ⟨hown, hlink, ⟨_, _, _, hsame _ hi⟩, hst⟩ (by rw [q2]; exact h6) q1 q3 (by rw [hsl]; exact k2_hasslot (q4 k hk)) rfl rfl hdg fun H' e1 e2 e3 => ?_
  rw [hsl] at e1 ⊢
  exact kk H' _ (hP.set hD he ⟨_, hc, t_OB.to (V := updV (vp_V fs) k v) ⟨_, e1, q2, q3, t_set q4 hap hk v⟩ (fun j _ => vp_updV_set hl v j)⟩ e3) (hD.set he) (hS0.put e2 e3 (hD.2 q0 _ he)) e2
theorem zputF_row (hexec : p.tables.exec = Jvm.exec) (hb : c.code = cc) {own ref C : String} {T : u_T} {N ci index : Nat} {Ts : List Cond} (hts : ∀ w ∈ Ts, w.before args s = true) (hin : ∀ w ∈ u_ws C T N, w ∈ Ts) (ty0 : Nat → FieldType) (hty : ∀ k, k < N → parseFieldDescriptor (T k).2.2.1 = some (ty0 k)) (hnm : ∀ a, a < N → ∀ b, b < N → a ≠ b → (T a).2.1 ≠ (T b).2.1) (hown : s.vm.findClass own = some m.cls) (hK : va_K D cl tys s) (hP : va_P D cl ws H) (hD : va_D A ws) (hS0 : va_S A H0 H locs) (q0 : Nat) {fs : List Value} (he : ws[q0]? = some (a, .inr (ci, fs))) (hc : cl[ci]? = some (C, T, N)) (k : Nat) (hk : k < N) (hlink : (Cond.fieldLink own index ref (T k).2.1 (T k).2.2.1).before args s = true) (hsame : ∀ x, s.fieldFound? (T k).1 (T k).2.1 (T k).2.2.1 = some x → s.fieldFound? ref (T k).2.1 (T k).2.2.1 = some x) (hfin : (T k).2.2.2 = true) (hin2 : meth.name = "<init>") (hdecl : (T k).1 = own) {ty : FieldType} {v : Value} (hd : parseFieldDescriptor (T k).2.2.1 = some ty) (hn : narrow ty v = v) (hfit : fits ty v = true) (hl : k < fs.length)
    (hdg : decode cc pc = .ok (.putfield index, 3)) (kk : ∀ (H1 : Heap) (locs1 : List Loc), va_P D cl (ws.set q0 (a, .inr (ci, fs.set k v))) H1 → va_D A (ws.set q0 (a, .inr (ci, fs.set k v))) → va_S A H0 H1 locs1 → H1.size = H.size → W p l e R s m args below meth c H1 locs1 cells slots Q (F0 m (pc + 3) ls rest)) : W p l e R s m args below meth c H locs cells slots Q (F0 m pc ls (v :: .ref a :: rest)) := by
  have hap := va_apart (own := own) hts hin ty0 hty hnm hK hc
  obtain ⟨r, h1, cell, q1, q2, q3, q4⟩ := hP q0 _ he
  have hr : r = (C, T, N) := Option.some.inj (h1.symm.trans hc)
  subst hr
  obtain ⟨hS, hfc, kC, hkC, hkind⟩ := hK.1 ci _ hc
  obtain ⟨cf, kf, fi, f, hi, hsl⟩ := hS k hk
  have hlay := hts _ (hin _ (u_in_lay hk))
  unfold u_lay at hlay
  rw [if_pos hfin] at hlay
  have hst := (u_facts hfc hkC (u_lays hts hin hk) hi).1
  have hcf : m.cls = cf := by
    obtain ⟨_, _, c', _, _, _, -, -, hf', -, -, -, hown2, -⟩ := Cond.laysFinal_spec hlay
    have e1 : c' = cf := by have := hi.symm.trans hf'; simp at this; exact this.1.symm
    rw [hdecl] at hown2
    rw [← e1]; exact Option.some.inj (hown.symm.trans hown2)
  have h6 := u_fits hfc hkC hkind (Or.inr hlay) hi hd hn hfit
  refine W.putFinK hexec hb hown hlink (hsame _ hi) hst hcf hin2 (by rw [q2]; exact h6) q1 q3 (by rw [hsl]; exact k2_hasslot (q4 k hk)) rfl rfl hdg fun H' e1 e2 e3 => ?_
  rw [hsl] at e1 ⊢
  exact kk H' _ (hP.set hD he ⟨_, hc, t_OB.to (V := updV (vp_V fs) k v) ⟨_, e1, q2, q3, t_set q4 hap hk v⟩ (fun j _ => vp_updV_set hl v j)⟩ e3) (hD.set he) (hS0.put e2 e3 (hD.2 q0 _ he)) e2
theorem zast_row (hexec : p.tables.exec = Jvm.exec) (hb : c.code = cc) (hK : va_K D cl tys s) (hP : va_P D cl ws H) (hD : va_D A ws) (hS : va_S A H0 H locs) (q0 t0 : Nat) {cA : ClassId} {n : Nat} {f : Nat → Int32} (ha : ws[q0]? = some (a, .inl (cA, n, .inl f))) (ht : tys[t0]? = some (cA, .int)) {i : Int32} {x : Int32} (hin : vp_in i n) (hdg : decode cc pc = .ok (.iastore, 1))
    (kk : ∀ (H1 : Heap) (locs1 : List Loc), va_P D cl (ws.set q0 (a, .inl (cA, n, .inl (upd f i.toNatClampNeg x)))) H1 → va_S A H0 H1 locs1 → H1.size = H.size → W p l e R s m args below meth c H1 locs1 cells slots Q (F0 m (pc + 1) ls rest)) : W p l e R s m args below meth c H locs cells slots Q (F0 m pc ls (.int x :: .int i :: .ref a :: rest)) := by
  refine W.iast hexec hb (hP q0 _ ha) ((hK.2 t0 _ ht).1 n (fun j => .int (f j))) (fun q => by cases q) (by show ¬ (i < 0 ∨ (arrV _ _ _).slots.size ≤ _); rw [arrV_size]; exact hin) rfl rfl hdg fun H1 e z oq => ?_
  refine kk H1 _ (hP.set hD ha ?_ oq) (hS.put z oq (hD.2 q0 _ ha)) z
  show H1[a]? = some (vp_cell _ _)
  rw [e]
  rw [vp_cell_i, vp_cell_i, arrV_store]
  congr 2
  funext q
  by_cases hq : q = i.toNatClampNeg
  · subst hq
    simp [updV, upd]
  · simp [updV, upd, hq]
theorem zastq_row (hexec : p.tables.exec = Jvm.exec) (hb : c.code = cc) (hK : va_K D cl tys s) (hP : va_P D cl ws H) (hD : va_D A ws) (hS : va_S A H0 H locs) (q0 t0 qk ci : Nat) {cA : ClassId} {r : vw_C} {n v : Nat} {vs : List Value} {f : Nat → Option Nat} (ha : ws[q0]? = some (a, .inl (cA, n, .inr (.inr (.inr (.inr f)))))) (ht : tys[t0]? = some (cA, .object r.1)) (hv : ws[qk]? = some (v, .inr (ci, vs))) (hc : cl[ci]? = some r) {i : Int32} (hin : vp_in i n) (hdg : decode cc pc = .ok (.aastore, 1))
    (kk : ∀ (H1 : Heap) (locs1 : List Loc), va_P D cl (ws.set q0 (a, .inl (cA, n, .inr (.inr (.inr (.inr (va_up f i.toNatClampNeg (some v)))))))) H1 → va_S A H0 H1 locs1 → H1.size = H.size → W p l e R s m args below meth c H1 locs1 cells slots Q (F0 m (pc + 1) ls rest)) : W p l e R s m args below meth c H locs cells slots Q (F0 m pc ls (.ref v :: .int i :: .ref a :: rest)) := by
  have hlt : i.toNatClampNeg < n := Nat.not_le.mp fun q => hin (Or.inr q)
  have h0 : ¬ i < 0 := fun q => hin (Or.inl q)
  obtain ⟨r', hr', cellV, g1, g2, g3, -⟩ := hP qk _ hv
  have hcls := (hK.1 ci r hc).2
  obtain ⟨kA, comp, k1, k2, k3, -⟩ := (hK.2 t0 _ ht).2
  have hcomp : comp = D.1 ci := Option.some.inj (k3.symm.trans hcls.1)
  subst hcomp
  obtain ⟨kC, hkC, -⟩ := hcls.2
  refine W.aast hexec hb (hP q0 _ ha) (fun q h => by cases h) (fun h => by cases h) k1 k2 rfl hkC ⟨h0, by show _ < (arrV _ _ _).slots.size; rw [arrV_size]; exact hlt⟩ g1 (fun q h => by rw [g3] at h; cases h) (by rw [g2]; exact hkC) (by rw [g2]; exact va_assign hcls) rfl rfl hdg fun H1 e z oq => ?_
  refine kk H1 _ (hP.set hD ha ?_ oq) (hS.put z oq (hD.2 q0 _ ha)) z
  show H1[a]? = some (vp_cell _ _)
  rw [e]
  rw [vp_cell_q, vp_cell_q, arrV_store]
  congr 2
  funext q
  by_cases hq : q = i.toNatClampNeg
  · subst hq
    simp [updV, va_up, va_rf]
  · simp [updV, va_up, hq]
end ZROW
section ZSOUND
variable {p : Program} {l : Launch} {e : Env} {R : Room} {s : State} {m : MethodId} {args : Array Value} {below : List Frame} {meth : Method} {c : Code}
variable {D : va_G} {g : zG} {zk : zKd} {al : Bool} {mi d n0 nE nL : Nat} {Q : State → Prop}
def zRl (D : va_G) (g : zG) (zk : zKd) (al : Bool) (s : State) (nL : Nat) (L st : List Value) (ls : Array Slot) (n : Nat) (σ : zS) (H : Heap) (locs : List Loc) : Prop :=
  va_P D zCl (zWl g zk n σ) H ∧ va_S (zA g) s.heap H locs ∧ zLr g.1 L ls ∧ L.length = nL ∧ (∀ v ∈ st, zc1 v = true) ∧ (al = true → H.size = g.1 + n ∧ ∀ o, n ≤ o → ∀ i, σ o i = 0)
/-- what a continuation owes -/
def zKg (p : Program) (l : Launch) (e : Env) (R : Room) (s : State) (m : MethodId) (args : Array Value) (below : List Frame) (meth : Method) (c : Code) (D : va_G) (g : zG) (zk : zKd) (al : Bool) (n0 nE nL : Nat) (Q : State → Prop) (pc : Nat) (L st : List Value) (n : Nat) (σ : zS) : Prop :=
  n0 ≤ n → n ≤ nE ∧ ∀ H locs ls, zRl D g zk al s nL L st ls n σ H locs → W p l e R s m args below meth c H locs (n - n0) (zsz zk n - zsz zk n0) Q (F0 m pc ls (st.map (zcv g.1)))
/-- what holds in a method's body -/
def zCx (p : Program) (R : Room) (s : State) (m : MethodId) (args : Array Value) (meth : Method) (c : Code) (D : va_G) (g : zG) (zk : zKd) (mi d n0 nE nL : Nat) : Prop :=
  p.tables.exec = Jvm.exec ∧ c.code = zB mi ∧ c.maxLocals = nL ∧ s.vm.findClass (zCs (zMi mi).1) = some m.cls ∧ (∀ w ∈ zbig, w.before args s = true) ∧ meth.name = (zY mi).name ∧ va_K D zCl (zTy g) s ∧ (∀ q ∈ zML, 3 ≤ q.2.2.2 → va_Nw (.methodLinkNest (zCs q.1) q.2.1 (zY q.2.2.1) "StartedByAYawn") s) ∧ va_AO "StartedByAYawn$Kept" s ∧ R = zrm zk d n0 nE ∧ zKok zk ∧ g.1 ≤ s.heap.size ∧ mi < 274
/-- a field read -/
theorem zs_get (cx : zCx p R s m args meth c D g zk mi d n0 nE nL) {k a b nx pc n : Nat} {L st : List Value} {σ : zS} {H : Heap} {locs : List Loc} {ls : Array Slot} (hd : decode (zB mi) pc = .ok (.getfield k, 3)) (hnx : nx = pc + 3) (hl : ((zMi mi).1, k, a, b) ∈ zFL) (hr : zRl D g zk al s nL L st ls n σ H locs) (hn : n0 ≤ n) (h : zGet False (zKg p l e R s m args below meth c D g zk al n0 nE nL Q) zk a b nx L st n σ) : W p l e R s m args below meth c H locs (n - n0) (zsz zk n - zsz zk n0) Q (F0 m pc ls (st.map (zcv g.1))) := by
  obtain ⟨hx, hb, hml, hown, hts, hnm, hK, hnst, hao, hR, hkk, hg0, hmi⟩ := cx
  obtain ⟨hP, hS, hL, hLl, hst, hal⟩ := hr
  subst hnx
  unfold zGet at h
  split at h
  · rename_i o r
    split at h
    rename_i t ci fl hzk
    split at h
    · rename_i f hf
      split at h
      · rename_i hc
        simp only [Bool.and_eq_true, Nat.blt_eq, beq_iff_eq] at hc
        obtain ⟨⟨ho, rfl⟩, rfl⟩ := hc
        obtain ⟨hw, -⟩ := And.intro (zFLc_all _ hl) trivial
        obtain ⟨hcn, hbN, hci⟩ := zFL_ok2 _ hl
        dsimp only at hcn hbN hci
        obtain ⟨ty, hty, hnn, hin, hcl⟩ := zcls hci
        have he : (zWl g zk n σ)[o]? = some (g.1 + o, .inr (ci, zfs g.1 σ o fl)) := by
          rw [zWl_get g zk σ ho]
          simp only [zcell, hzk]
        refine va_get (C := (zTf ci).1) (T := (zTf ci).2.1) (N := (zTf ci).2.2) (ref := zCs ci) hx hb hts hin hown hK hP o he hcl b hbN (hts _ (zbig_t hw rfl)) (fun x hx => ?_) (zfs_get _ _ _ hf) hd ?_
        · have hd2 : ((zTf ci).2.1 b).1 = zCs ci := zFd_ok hci hbN
          rw [hd2] at hx
          exact hx
        · exact (h hn).2 H locs ls ⟨hP, hS, hL, hLl, fun v hv => (List.mem_cons.mp hv).elim (fun q => by rw [q]; exact zFld_c1 _ _ _ _) (fun q => hst v (List.mem_cons_of_mem _ q)), hal⟩
      · exact h.elim
    · exact h.elim
  · exact h.elim
/-- an int or a flag is put into a field -/
theorem zs_putc {k nx pc b n o : Nat} {L r : List Value} {σ : zS} {H : Heap} {locs : List Loc} {ls : Array Slot} {ci : Nat} {fl : List Nat} {f : Nat} {v : Value} {x : Int32} {ty : FieldType} (cx : zCx p R s m args meth c D g zk mi d n0 nE nL) (hd : decode (zB mi) pc = .ok (.putfield k, 3)) (hnx : nx = pc + 3) (hl : ((zMi mi).1, k, ci, b) ∈ zFL)
    (hfin : ((zTf ci).2.1 b).2.2.2 = false ∨ ((zY mi).name = "<init>" ∧ ci = (zMi mi).1 ∧ ((zTf ci).2.1 b).1 = zCs (zMi mi).1)) (hpt : parseFieldDescriptor ((zTf ci).2.1 b).2.2.1 = some ty) (hnr : narrow ty (zcv g.1 v) = zcv g.1 v) (hft : fits ty (zcv g.1 v) = true) (hzk : zk o = (0, ci, fl)) (hf : fl[b]? = some f) (ho : o < n) (hv : zcv g.1 v = zcv g.1 (zFld o b f (zup σ o b x)))
    (hr : zRl D g zk al s nL L (v :: .ref o :: r) ls n σ H locs) (hn : n0 ≤ n) (h : zKg p l e R s m args below meth c D g zk al n0 nE nL Q nx L r n (zup σ o b x)) : W p l e R s m args below meth c H locs (n - n0) (zsz zk n - zsz zk n0) Q (F0 m pc ls ((v :: .ref o :: r).map (zcv g.1))) := by
  obtain ⟨hx, hb, hml, hown, hts, hnm, hK, hnst, hao, hR, hkk, hg0, hmi⟩ := cx
  obtain ⟨hP, hS, hL, hLl, hst, hal⟩ := hr
  subst hnx
  have hw := zFLc_all _ hl
  obtain ⟨hcn, hbN, hci⟩ := zFL_ok2 _ hl
  dsimp only at hcn hbN hci
  obtain ⟨ty0, hty, hnn, hin, hcl⟩ := zcls hci
  have hd2 : ((zTf ci).2.1 b).1 = zCs ci := zFd_ok hci hbN
  have he : (zWl g zk n σ)[o]? = some (g.1 + o, .inr (ci, zfs g.1 σ o fl)) := by
    rw [zWl_get g zk σ ho]
    simp only [zcell, hzk]
  have hlen : b < (zfs g.1 σ o fl).length := by
    rw [zfs_len]; exact (List.getElem?_eq_some_iff.mp hf).1
  have hset : (zWl g zk n σ).set o (g.1 + o, .inr (ci, (zfs g.1 σ o fl).set b (zcv g.1 v))) = zWl g zk n (zup σ o b x) := by
    refine zWl_set g zk σ ho _ ?_
    show _ = zcell g zk (zup σ o b x) o
    simp only [zcell, hzk]
    rw [hv, zfs_put _ _ _ _ hf]
  have kk : ∀ (H1 : Heap) (locs1 : List Loc), va_P D zCl ((zWl g zk n σ).set o (g.1 + o, .inr (ci, (zfs g.1 σ o fl).set b (zcv g.1 v)))) H1 → va_D (zA g) ((zWl g zk n σ).set o (g.1 + o, .inr (ci, (zfs g.1 σ o fl).set b (zcv g.1 v)))) → va_S (zA g) s.heap H1 locs1 → H1.size = H.size → W p l e R s m args below meth c H1 locs1 (n - n0) (zsz zk n - zsz zk n0) Q (F0 m (pc + 3) ls (r.map (zcv g.1))) := by
    intro H1 locs1 hP1 _ hS1 hz
    rw [hset] at hP1
    refine (h hn).2 H1 locs1 ls ⟨hP1, hS1, hL, hLl, fun w hw => hst w (List.mem_cons_of_mem _ (List.mem_cons_of_mem _ hw)), fun ha => ?_⟩
    obtain ⟨h1, h2⟩ := hal ha
    refine ⟨by rw [hz]; exact h1, fun q hq i => ?_⟩
    rw [zup, zput_ne _ (by omega)]
    exact h2 q hq i
  have hsame : ∀ x, s.fieldFound? ((zTf ci).2.1 b).1 ((zTf ci).2.1 b).2.1 ((zTf ci).2.1 b).2.2.1 = some x → s.fieldFound? (zCs ci) ((zTf ci).2.1 b).2.1 ((zTf ci).2.1 b).2.2.1 = some x := fun x hx => by
    rw [hd2] at hx
    exact hx
  by_cases hff : ((zTf ci).2.1 b).2.2.2 = false
  · refine zput_row (C := (zTf ci).1) (T := (zTf ci).2.1) (N := (zTf ci).2.2) (ref := zCs ci) hx hb hts hin ty0 hty hnn hown hK hP (zWl_D g zk n σ) hS o he hcl b hbN (hts _ (zbig_t hw rfl)) hsame hff hpt hnr hft hlen hd kk
  · obtain hq | ⟨q1, q2, q3⟩ := hfin
    · exact absurd hq hff
    · refine zputF_row (C := (zTf ci).1) (T := (zTf ci).2.1) (N := (zTf ci).2.2) (ref := zCs ci) hx hb hts hin ty0 hty hnn hown hK hP (zWl_D g zk n σ) hS o he hcl b hbN (hts _ (zbig_t hw rfl)) hsame (by cases hq : ((zTf ci).2.1 b).2.2.2 with
        | true => rfl
        | false => exact absurd hq hff) (by rw [hnm]; exact q1) q3 hpt hnr hft hlen hd kk
end ZSOUND
end
section
/-! arrays -/
section ZSOUND2
variable {p : Program} {l : Launch} {e : Env} {R : Room} {s : State} {m : MethodId} {args : Array Value} {below : List Frame} {meth : Method} {c : Code}
variable {D : va_G} {g : zG} {zk : zKd} {al : Bool} {mi d n0 nE nL : Nat} {Q : State → Prop}
variable {a nx pc b n : Nat} {L st r : List Value} {σ : zS} {H : Heap} {locs : List Loc} {ls : Array Slot}
theorem zs_c1_tail {v : Value} {r : List Value} (h : ∀ w ∈ v :: r, zc1 w = true) : ∀ w ∈ r, zc1 w = true := fun w hw => h w (List.mem_cons_of_mem _ hw)
theorem zs_c1_cons {v : Value} {r : List Value} (hv : zc1 v = true) (h : ∀ w ∈ r, zc1 w = true) : ∀ w ∈ v :: r, zc1 w = true := fun w hw => (List.mem_cons.mp hw).elim (fun q => by rw [q]; exact hv) (h w)
theorem zs_iald (cx : zCx p R s m args meth c D g zk mi d n0 nE nL) (hd : decode (zB mi) pc = .ok (.iaload, 1)) (hnx : nx = pc + 1) (hr : zRl D g zk al s nL L st ls n σ H locs) (hn : n0 ≤ n) (h : zAld1 False (zKg p l e R s m args below meth c D g zk al n0 nE nL Q) zk 1 1 nx L st n σ) : W p l e R s m args below meth c H locs (n - n0) (zsz zk n - zsz zk n0) Q (F0 m pc ls (st.map (zcv g.1))) := by
  obtain ⟨hx, hb, hml, hown, hts, hnm, hK, hnst, hao, hR, hkk, hg0, hmi⟩ := cx
  obtain ⟨hP, hS, hL, hLl, hst, hal⟩ := hr
  subst hnx
  unfold zAld1 at h
  split at h
  · rename_i i o r
    split at h
    rename_i t len fl hzk
    split at h
    · rename_i hc
      simp only [Bool.and_eq_true, Nat.blt_eq, beq_iff_eq, Bool.or_self] at hc
      obtain ⟨ho, rfl⟩ := hc
      split at h
      · rename_i hz
        have he : (zWl g zk n σ)[o]? = some (g.1 + o, .inl (g.2.1, len, .inl (σ o))) := by
          rw [zWl_get g zk σ ho]
          simp only [zcell, hzk]
        exact va_iald hx hb hK hP o 0 he rfl (zin_vp hz) hd ((h hn).2 H locs ls ⟨hP, hS, hL, hLl, zs_c1_cons rfl (zs_c1_tail (zs_c1_tail hst)), hal⟩)
      · exact h.elim
    · exact h.elim
  · exact h.elim
theorem zs_bald (cx : zCx p R s m args meth c D g zk mi d n0 nE nL) (hd : decode (zB mi) pc = .ok (.baload, 1)) (hnx : nx = pc + 1) (hr : zRl D g zk al s nL L st ls n σ H locs) (hn : n0 ≤ n) (h : zAld1 False (zKg p l e R s m args below meth c D g zk al n0 nE nL Q) zk 2 3 nx L st n σ) : W p l e R s m args below meth c H locs (n - n0) (zsz zk n - zsz zk n0) Q (F0 m pc ls (st.map (zcv g.1))) := by
  obtain ⟨hx, hb, hml, hown, hts, hnm, hK, hnst, hao, hR, hkk, hg0, hmi⟩ := cx
  obtain ⟨hP, hS, hL, hLl, hst, hal⟩ := hr
  subst hnx
  unfold zAld1 at h
  split at h
  · rename_i i o r
    split at h
    rename_i t len fl hzk
    split at h
    · rename_i hc
      simp only [Bool.and_eq_true, Nat.blt_eq, beq_iff_eq, Bool.or_eq_true] at hc
      obtain ⟨ho, hc⟩ := hc
      split at h
      · rename_i hz
        have hk := (h hn).2 H locs ls ⟨hP, hS, hL, hLl, zs_c1_cons rfl (zs_c1_tail (zs_c1_tail hst)), hal⟩
        rcases hc with rfl | rfl
        · have he : (zWl g zk n σ)[o]? = some (g.1 + o, .inl (g.2.2.1, len, .inl (σ o))) := by
            rw [zWl_get g zk σ ho]
            simp only [zcell, hzk]
          exact va_bald hx hb hK hP o 1 he rfl (zin_vp hz) hd hk
        · have he : (zWl g zk n σ)[o]? = some (g.1 + o, .inl (g.2.2.2.1, len, .inl (σ o))) := by
            rw [zWl_get g zk σ ho]
            simp only [zcell, hzk]
          exact va_zald hx hb hK hP o 2 he rfl (zin_vp hz) hd hk
      · exact h.elim
    · exact h.elim
  · exact h.elim
theorem zs_iast (cx : zCx p R s m args meth c D g zk mi d n0 nE nL) (hd : decode (zB mi) pc = .ok (.iastore, 1)) (hnx : nx = pc + 1) (hr : zRl D g zk al s nL L st ls n σ H locs) (hn : n0 ≤ n) (h : zAst1 False (zKg p l e R s m args below meth c D g zk al n0 nE nL Q) zk nx L st n σ) : W p l e R s m args below meth c H locs (n - n0) (zsz zk n - zsz zk n0) Q (F0 m pc ls (st.map (zcv g.1))) := by
  obtain ⟨hx, hb, hml, hown, hts, hnm, hK, hnst, hao, hR, hkk, hg0, hmi⟩ := cx
  obtain ⟨hP, hS, hL, hLl, hst, hal⟩ := hr
  subst hnx
  unfold zAst1 at h
  split at h
  · rename_i x i o r
    split at h
    rename_i t len fl hzk
    split at h
    · rename_i hc
      simp only [Bool.and_eq_true, Nat.blt_eq, beq_iff_eq] at hc
      obtain ⟨ho, rfl⟩ := hc
      split at h
      · rename_i hz
        have he : (zWl g zk n σ)[o]? = some (g.1 + o, .inl (g.2.1, len, .inl (σ o))) := by
          rw [zWl_get g zk σ ho]
          simp only [zcell, hzk]
        refine zast_row hx hb hK hP (zWl_D g zk n σ) hS o 0 he rfl (zin_vp hz) hd fun H1 locs1 hP1 hS1 hz1 => ?_
        rw [zWl_set g zk σ ho (upd (σ o) i.toNatClampNeg x) (by simp only [zcell, hzk, zput_same])] at hP1
        refine (h hn).2 H1 locs1 ls ⟨hP1, hS1, hL, hLl, zs_c1_tail (zs_c1_tail (zs_c1_tail hst)), fun ha => ⟨by rw [hz1]; exact (hal ha).1, fun q hq j => ?_⟩⟩
        rw [zup, zput_ne _ (by omega)]
        exact (hal ha).2 q hq j
      · exact h.elim
    · exact h.elim
  · exact h.elim
theorem zs_bast (cx : zCx p R s m args meth c D g zk mi d n0 nE nL) (hd : decode (zB mi) pc = .ok (.bastore, 1)) (hnx : nx = pc + 1) (hr : zRl D g zk al s nL L st ls n σ H locs) (hn : n0 ≤ n) (h : zAst2 False (zKg p l e R s m args below meth c D g zk al n0 nE nL Q) zk al nx L st n σ) : W p l e R s m args below meth c H locs (n - n0) (zsz zk n - zsz zk n0) Q (F0 m pc ls (st.map (zcv g.1))) := by
  obtain ⟨hx, hb, hml, hown, hts, hnm, hK, hnst, hao, hR, hkk, hg0, hmi⟩ := cx
  obtain ⟨hP, hS, hL, hLl, hst, hal⟩ := hr
  subst hnx
  unfold zAst2 at h
  split at h
  · rename_i x i o r
    split at h
    rename_i t len fl hzk
    split at h
    · rename_i hc
      simp only [Bool.and_eq_true, Nat.blt_eq, Bool.not_eq_true'] at hc
      obtain ⟨ho, rfl⟩ := hc
      split at h
      · rename_i hz
        split at h
        · have he : (zWl g zk n σ)[o]? = some (g.1 + o, .inl (g.2.2.1, len, .inl (σ o))) := by
            rw [zWl_get g zk σ ho]
            simp only [zcell, hzk]
          refine va_bast hx hb hK hP (zWl_D g zk n σ) hS o 1 he rfl (zin_vp hz) hd fun H1 locs1 hP1 _ hS1 => ?_
          rw [zWl_set g zk σ ho (upd (σ o) i.toNatClampNeg (vp_nar .byte x)) (by simp only [zcell, hzk, zput_same])] at hP1
          exact (h hn).2 H1 locs1 ls ⟨hP1, hS1, hL, hLl, zs_c1_tail (zs_c1_tail (zs_c1_tail hst)), fun ha => by cases ha⟩
        · have he : (zWl g zk n σ)[o]? = some (g.1 + o, .inl (g.2.2.2.1, len, .inl (σ o))) := by
            rw [zWl_get g zk σ ho]
            simp only [zcell, hzk]
          refine va_zast hx hb hK hP (zWl_D g zk n σ) hS o 2 he rfl (zin_vp hz) hd fun H1 locs1 hP1 _ hS1 => ?_
          rw [zWl_set g zk σ ho (upd (σ o) i.toNatClampNeg (vp_nar .boolean x)) (by simp only [zcell, hzk, zput_same])] at hP1
          exact (h hn).2 H1 locs1 ls ⟨hP1, hS1, hL, hLl, zs_c1_tail (zs_c1_tail (zs_c1_tail hst)), fun ha => by cases ha⟩
        · exact h.elim
      · exact h.elim
    · exact h.elim
  · exact h.elim
theorem zs_aldq (cx : zCx p R s m args meth c D g zk mi d n0 nE nL) (hd : decode (zB mi) pc = .ok (.aaload, 1)) (hnx : nx = pc + 1) (hr : zRl D g zk al s nL L st ls n σ H locs) (hn : n0 ≤ n) (h : zAldq False (zKg p l e R s m args below meth c D g zk al n0 nE nL Q) zk nx L st n σ) : W p l e R s m args below meth c H locs (n - n0) (zsz zk n - zsz zk n0) Q (F0 m pc ls (st.map (zcv g.1))) := by
  obtain ⟨hx, hb, hml, hown, hts, hnm, hK, hnst, hao, hR, hkk, hg0, hmi⟩ := cx
  obtain ⟨hP, hS, hL, hLl, hst, hal⟩ := hr
  subst hnx
  unfold zAldq at h
  split at h
  · rename_i i o r
    split at h
    rename_i t len fl hzk
    split at h
    · rename_i ho
      simp only [Nat.blt_eq] at ho
      split at h
      · rename_i hz
        split at h
        · have he : (zWl g zk n σ)[o]? = some (g.1 + o, .inl (g.2.2.2.2.2, len, .inr (.inr (.inr (.inr (fun j => some (g.1 + fl.getD j 0))))))) := by
            rw [zWl_get g zk σ ho]
            simp only [zcell, hzk]
          exact va_aldq hx hb hK hP o 4 he rfl (zin_vp hz) hd ((h hn).2 H locs ls ⟨hP, hS, hL, hLl, zs_c1_cons rfl (zs_c1_tail (zs_c1_tail hst)), hal⟩)
        · have he : (zWl g zk n σ)[o]? = some (g.1 + o, .inl (g.2.2.2.2.2, len, .inr (.inr (.inr (.inr (fun j => zro g.1 (σ o j))))))) := by
            rw [zWl_get g zk σ ho]
            simp only [zcell, hzk]
          refine va_aldq hx hb hK hP o 4 he rfl (zin_vp hz) hd ?_
          rw [zro_rf]
          exact ((h hn).2 H locs ls ⟨hP, hS, hL, hLl, zs_c1_cons (zdec_c1 _) (zs_c1_tail (zs_c1_tail hst)), hal⟩)
        · exact h.elim
      · exact h.elim
    · exact h.elim
  · exact h.elim
theorem zs_astq (cx : zCx p R s m args meth c D g zk mi d n0 nE nL) (hd : decode (zB mi) pc = .ok (.aastore, 1)) (hnx : nx = pc + 1) (hr : zRl D g zk al s nL L st ls n σ H locs) (hn : n0 ≤ n) (h : zAstq False (zKg p l e R s m args below meth c D g zk al n0 nE nL Q) zk nx L st n σ) : W p l e R s m args below meth c H locs (n - n0) (zsz zk n - zsz zk n0) Q (F0 m pc ls (st.map (zcv g.1))) := by
  obtain ⟨hx, hb, hml, hown, hts, hnm, hK, hnst, hao, hR, hkk, hg0, hmi⟩ := cx
  obtain ⟨hP, hS, hL, hLl, hst, hal⟩ := hr
  subst hnx
  unfold zAstq at h
  split at h
  · rename_i v i o r
    split at h
    rename_i t len fl t2 ci fl2 hzk hzk2
    split at h
    · rename_i hc
      simp only [Bool.and_eq_true, Nat.blt_eq, beq_iff_eq] at hc
      obtain ⟨⟨⟨⟨⟨⟨ho, hv⟩, rfl⟩, rfl⟩, rfl⟩, hv9⟩, hz⟩ := hc
      have he : (zWl g zk n σ)[o]? = some (g.1 + o, .inl (g.2.2.2.2.2, len, .inr (.inr (.inr (.inr (fun j => zro g.1 (σ o j))))))) := by
        rw [zWl_get g zk σ ho]
        simp only [zcell, hzk]
      have hev : (zWl g zk n σ)[v]? = some (g.1 + v, .inr (3, zfs g.1 σ v fl2)) := by
        rw [zWl_get g zk σ hv]
        simp only [zcell, hzk2]
      obtain ⟨-, -, -, -, hcl⟩ := zcls (a := 3) (by decide)
      refine zastq_row hx hb hK hP (zWl_D g zk n σ) hS o 4 v 3 he rfl hev hcl (zin_vp hz) hd fun H1 locs1 hP1 hS1 hz1 => ?_
      have hset : (va_up (fun j => zro g.1 (σ o j)) i.toNatClampNeg (some (g.1 + v))) = fun j => zro g.1 (zup σ o i.toNatClampNeg (nI (v + 1)) o j) := by
        funext j
        simp only [va_up, zup, zput_same, upd]
        by_cases hj : j = i.toNatClampNeg
        · rw [if_pos hj, if_pos hj]
          simp only [zro]
          rw [if_neg (nI_ne0 (by omega) (by omega)), nI_clamp (by omega)]
          rfl
        · rw [if_neg hj, if_neg hj]
      rw [zWl_set g zk σ ho (upd (σ o) i.toNatClampNeg (nI (v + 1))) (by rw [hset]; simp only [zcell, hzk, zup])] at hP1
      refine (h hn).2 H1 locs1 ls ⟨hP1, hS1, hL, hLl, zs_c1_tail (zs_c1_tail (zs_c1_tail hst)), fun ha => ⟨by rw [hz1]; exact (hal ha).1, fun q hq j => ?_⟩⟩
      rw [zup, zput_ne _ (by omega)]
      exact (hal ha).2 q hq j
    · exact h.elim
  · exact h.elim
theorem zs_len (cx : zCx p R s m args meth c D g zk mi d n0 nE nL) (hd : decode (zB mi) pc = .ok (.arraylength, 1)) (hnx : nx = pc + 1) (hr : zRl D g zk al s nL L st ls n σ H locs) (hn : n0 ≤ n) (h : zLen False (zKg p l e R s m args below meth c D g zk al n0 nE nL Q) zk nx L st n σ) : W p l e R s m args below meth c H locs (n - n0) (zsz zk n - zsz zk n0) Q (F0 m pc ls (st.map (zcv g.1))) := by
  obtain ⟨hx, hb, hml, hown, hts, hnm, hK, hnst, hao, hR, hkk, hg0, hmi⟩ := cx
  obtain ⟨hP, hS, hL, hLl, hst, hal⟩ := hr
  subst hnx
  unfold zLen at h
  split at h
  · rename_i o r
    split at h
    rename_i t len fl hzk
    split at h
    · rename_i hc
      simp only [Bool.and_eq_true, Nat.blt_eq] at hc
      obtain ⟨⟨ho, h1⟩, h2⟩ := hc
      have hk := (h hn).2 H locs ls ⟨hP, hS, hL, hLl, zs_c1_cons rfl (zs_c1_tail hst), hal⟩
      have he := zWl_get g zk σ ho
      have ht : t = 1 ∨ t = 2 ∨ t = 3 ∨ t = 4 ∨ t = 5 ∨ t = 6 := by omega
      rcases ht with rfl | rfl | rfl | rfl | rfl | rfl <;> simp only [zcell, hzk] at he
      · exact va_alen hx hb hK hP o 0 he rfl rfl hd hk
      · exact va_alen hx hb hK hP o 1 he rfl rfl hd hk
      · exact va_alen hx hb hK hP o 2 he rfl rfl hd hk
      · exact va_alen hx hb hK hP o 3 he rfl rfl hd hk
      · exact va_alen hx hb hK hP o 4 he rfl rfl hd hk
      · exact va_alen hx hb hK hP o 4 he rfl rfl hd hk
    · exact h.elim
  · exact h.elim
theorem zs_copy {k : Nat} (cx : zCx p R s m args meth c D g zk mi d n0 nE nL) (hd : decode (zB mi) pc = .ok (.invokestatic k, 3)) (hnx : nx = pc + 3) (hl : ((zMi mi).1, k) ∈ zCP) (hr : zRl D g zk al s nL L st ls n σ H locs) (hn : n0 ≤ n) (h : zCopy False (zKg p l e R s m args below meth c D g zk al n0 nE nL Q) zk al nx L st n σ) : W p l e R s m args below meth c H locs (n - n0) (zsz zk n - zsz zk n0) Q (F0 m pc ls (st.map (zcv g.1))) := by
  obtain ⟨hx, hb, hml, hown, hts, hnm, hK, hnst, hao, hR, hkk, hg0, hmi⟩ := cx
  obtain ⟨hP, hS, hL, hLl, hst, hal⟩ := hr
  subst hnx
  unfold zCopy at h
  split at h
  · rename_i mm dp o sp o0 r
    split at h
    rename_i t len fl t0 len0 fl0 hzk hzk0
    split at h
    · rename_i hc
      simp only [Bool.and_eq_true, Nat.blt_eq, beq_iff_eq, Bool.not_eq_true', Nat.ble_eq] at hc
      obtain ⟨⟨⟨⟨⟨⟨⟨⟨⟨⟨rfl, ho⟩, ho0⟩, rfl⟩, rfl⟩, hm⟩, hdp⟩, hsp⟩, h1⟩, h2⟩, h8⟩ := hc
      have he : (zWl g zk n σ)[o]? = some (g.1 + o, .inl (g.2.1, len, .inl (σ o))) := by
        rw [zWl_get g zk σ ho]
        simp only [zcell, hzk]
      have he0 : (zWl g zk n σ)[o0]? = some (g.1 + o0, .inl (g.2.1, len0, .inl (σ o0))) := by
        rw [zWl_get g zk σ ho0]
        simp only [zcell, hzk0]
      have hcat : ((r.map (zcv g.1)).map fun v => v.category).sum ≤ 8 := by
        have h9 : ∀ (r : List Value), (∀ w ∈ r, zc1 w = true) → ((r.map (zcv g.1)).map fun v => v.category).sum = r.length := by
          intro r hr
          induction r with
          | nil => rfl
          | cons v r ih =>
            have h3 := zc1_cat (b := g.1) (hr v List.mem_cons_self)
            simp only [List.map_cons, List.sum_cons, List.length_cons, h3, ih (zs_c1_tail hr)]
            omega
        rw [h9 r (zs_c1_tail (zs_c1_tail (zs_c1_tail (zs_c1_tail (zs_c1_tail hst)))))]
        exact h8
      have hls : c.maxLocals = ls.size := by
        obtain ⟨lv, q, -⟩ := hL
        rw [q.1, hLl, hml]
      refine va_copyi hx hb hls hown (hts _ (zbig_t (zCP_ok _ hl) rfl)) (hts _ (zbig_t (w := .native arraycopyName) (by decide +kernel) rfl)) (hts _ (zbig_t (w := .static arraycopyName) (by decide +kernel) rfl)) (hts _ (zbig_t (w := .initialized "java/lang/System") (by decide +kernel) rfl)) hK hP (zWl_D g zk n σ) hS o0 o 0 0 he0 he rfl rfl rfl (zin_pos hsp).1 (zin_pos hdp).1 (zin_pos hm).1 h2 h1 (fun _ _ => rfl) (by rw [hR]; exact Nat.le_add_left _ _) (by
          rw [hR]
          show _ ≤ 40 * (d + 1)
          have h10 : nativeFrameWords "java/lang/System" "arraycopy" 5 = 7 := by decide +kernel
          rw [h10]
          omega) hd fun H1 locs1 hP1 _ hS1 => ?_
      rw [zWl_set g zk σ ho (va_cpy (σ o0) (σ o) sp.toNatClampNeg dp.toNatClampNeg mm.toNatClampNeg) (by simp only [zcell, hzk, zput_same])] at hP1
      exact (h hn).2 H1 locs1 ls ⟨hP1, hS1, hL, hLl, zs_c1_tail (zs_c1_tail (zs_c1_tail (zs_c1_tail (zs_c1_tail hst)))), fun ha => by cases ha⟩
    · exact h.elim
  · exact h.elim
end ZSOUND2
end
section
/-! what is made, and calls -/
theorem zMl_ok : ∀ i ∈ zAll, (zMi i).2.1 ≤ 21 := by decide +kernel
theorem zTn_ok : ∀ ci, ci < 13 → (zTf ci).1 = zCs ci := by decide +kernel
def zKok2 (zk : zKd) : Prop := ∀ o, (zk o).2.1 ≤ 60000
section ZSOUND3
variable {p : Program} {l : Launch} {e : Env} {R : Room} {s : State} {m : MethodId} {args : Array Value} {below : List Frame} {meth : Method} {c : Code}
variable {D : va_G} {g : zG} {zk : zKd} {al : Bool} {mi d n0 nE nL : Nat} {Q : State → Prop}
variable {a nx pc b n : Nat} {L st r : List Value} {σ : zS} {H : Heap} {locs : List Loc} {ls : Array Slot}
theorem zs_new {k : Nat} (cx : zCx p R s m args meth c D g zk mi d n0 nE nL) (hd : decode (zB mi) pc = .ok (.new k, 3)) (hnx : nx = pc + 3) (hl : ((zMi mi).1, k, a) ∈ zNL) (hr : zRl D g zk al s nL L st ls n σ H locs) (hn : n0 ≤ n) (h : zNew False (zKg p l e R s m args below meth c D g zk al n0 nE nL Q) zk al a nx L st n σ) : W p l e R s m args below meth c H locs (n - n0) (zsz zk n - zsz zk n0) Q (F0 m pc ls (st.map (zcv g.1))) := by
  obtain ⟨hx, hb, hml, hown, hts, hnm, hK, hnst, hao, hR, hkk, hg0, hmi⟩ := cx
  obtain ⟨hP, hS, hL, hLl, hst, hal⟩ := hr
  subst hnx
  unfold zNew at h
  split at h
  rename_i t ci fl hzk
  split at h
  · rename_i hc
    simp only [Bool.and_eq_true, beq_iff_eq] at hc
    obtain ⟨⟨⟨rfl, rfl⟩, rfl⟩, hall⟩ := hc
    obtain ⟨w1, w2, w3, hci, hcn⟩ := zNL_ok _ hl
    dsimp only at w1 w2 w3 hci hcn
    obtain ⟨ty, hty, hnn, hin, hcl⟩ := zcls hci
    obtain ⟨-, hfl, hdef⟩ := hkk n ci fl hzk
    have hKn := hK.1 ci _ hcl
    obtain ⟨hz, hfr⟩ := hal rfl
    have hsz : zsz zk (n + 1) = zsz zk n + fl.length := by simp only [zsz, hzk]
    have hm1 := zsz_mono zk hn
    have hnE := (h (by omega)).1
    have hm2 := zsz_mono zk hnE
    have hown2 : s.vm.findClass (zTf ci).1 = some (D.1 ci) := hKn.2.1
    refine W.newcK (own := zCs (zMi mi).1) (C := (zTf ci).1) (n := (zTf ci).2.2) hx hb hown (by rw [hcn]; exact hts _ (zbig_t w1 rfl)) (by rw [hcn]; exact hts _ (zbig_t w2 rfl)) (by rw [hcn]; exact hts _ (zbig_t w3 rfl)) rfl hd (by rw [hR]; show _ ≤ nE - n0; omega) (by rw [hR]; show _ ≤ zsz zk nE - zsz zk n0; omega) hown2 hz fun H1 kC hkC e1 z1 o1 => ?_
    have e2 : n - n0 + 1 = n + 1 - n0 := by omega
    have e3 : zsz zk n - zsz zk n0 + (zTf ci).2.2 = zsz zk (n + 1) - zsz zk n0 := by omega
    rw [e2, e3]
    refine (h (by omega)).2 H1 locs ls ⟨?_, ⟨Nat.le_trans hS.1 (by omega), fun x h1 h2 => (o1 x (by have := hS.1; omega)).trans (hS.2.1 x h1 h2), hS.2.2⟩, hL, hLl, zs_c1_cons rfl hst, fun _ => ⟨by omega, fun o ho => hfr o (by omega)⟩⟩
    rw [zWl_push]
    refine (hP.kept (fun k x hx => o1 x.1 (by have := (hP k x hx).lt; omega))).app (fun k x hx => ?_)
    have hz0 : k < 1 := (List.getElem?_eq_some_iff.mp hx).1
    rw [show k = 0 by omega] at hx
    cases hx
    have hcell : zcell g zk σ n = .inr (ci, zfs g.1 σ n fl) := by simp only [zcell, hzk]
    rw [hcell]
    refine ⟨_, hcl, (u_born ty hts hin hKn hkC e1 hty).to (fun j hj => ?_)⟩
    have hj2 : j < fl.length := by rw [hfl]; exact hj
    rw [hdef hall j hj2 (ty j) (hty j hj)]
    have h2 : fl[j]? = some fl[j] := List.getElem?_eq_getElem hj2
    have h3 : fl[j] ≤ 1 := by
      have := List.all_eq_true.mp hall fl[j] (List.getElem_mem hj2)
      simpa using this
    simp only [vp_V, List.getD_eq_getElem?_getD, zfs_get _ _ _ h2, h2, Option.getD_some]
    have h4 : fl[j] = 0 ∨ fl[j] = 1 := by omega
    rcases h4 with h4 | h4 <;> rw [h4] <;> simp [zFld, zcv, hfr n (Nat.le_refl n), zdec]
  · exact h.elim
theorem zs_newa {ty : ArrayType} (cx : zCx p R s m args meth c D g zk mi d n0 nE nL) (hk2 : zKok2 zk) (hd : decode (zB mi) pc = .ok (.newarray ty, 2)) (hnx : nx = pc + 2) (ha : (ty = .int ∧ a = 1) ∨ (ty = .byte ∧ a = 2) ∨ (ty = .boolean ∧ a = 3) ∨ (ty = .long ∧ a = 4)) (hr : zRl D g zk al s nL L st ls n σ H locs) (hn : n0 ≤ n) (h : zNewa False (zKg p l e R s m args below meth c D g zk al n0 nE nL Q) zk al a nx L st n σ) : W p l e R s m args below meth c H locs (n - n0) (zsz zk n - zsz zk n0) Q (F0 m pc ls (st.map (zcv g.1))) := by
  obtain ⟨hx, hb, hml, hown, hts, hnm, hK, hnst, hao, hR, hkk, hg0, hmi⟩ := cx
  obtain ⟨hP, hS, hL, hLl, hst, hal⟩ := hr
  subst hnx
  unfold zNewa at h
  split at h
  · rename_i mm r
    split at h
    rename_i t len fl hzk
    split at h
    · rename_i hc
      simp only [Bool.and_eq_true, beq_iff_eq] at hc
      obtain ⟨⟨⟨rfl, rfl⟩, hz⟩, rfl⟩ := hc
      obtain ⟨hsz0, hfr⟩ := hal rfl
      have hl6 := hk2 n
      rw [hzk] at hl6
      dsimp only at hl6
      have hsz : zsz zk (n + 1) = zsz zk n + mm.toNatClampNeg := by
        rcases ha with ⟨-, rfl⟩ | ⟨-, rfl⟩ | ⟨-, rfl⟩ | ⟨-, rfl⟩ <;> simp only [zsz, hzk]
      have hm1 := zsz_mono zk hn
      have hnE := (h (by omega)).1
      have hm2 := zsz_mono zk hnE
      have e2 : n - n0 + 1 = n + 1 - n0 := by omega
      have e3 : zsz zk n - zsz zk n0 + mm.toNatClampNeg = zsz zk (n + 1) - zsz zk n0 := by omega
      have hcb : ∀ t, mm.toNatClampNeg * componentBytes t ≤ 536870912 := fun t => by
        have : componentBytes t ≤ 8 := by cases t <;> simp [componentBytes]
        exact Nat.le_trans (Nat.mul_le_mul hl6 this) (by decide)
      have hh : ∀ (H1 : Heap) (cA : ClassId), H1[g.1 + n]? = some (arrV cA mm.toNatClampNeg (fun _ => defaultValue (newarray.typeOf ty))) → H1.size = g.1 + n + 1 → (∀ q, q < g.1 + n → H1[q]? = H[q]?) → s.vm.findClass ("[" ++ (newarray.typeOf ty).toString) = some cA → W p l e R s m args below meth c H1 locs (n - n0 + 1) (zsz zk n - zsz zk n0 + mm.toNatClampNeg) Q (F0 m (pc + 2) ls (.ref (g.1 + n) :: r.map (zcv g.1))) := by
        intro H1 cA e1 z1 o1 hNm
        rw [e2, e3]
        refine (h (by omega)).2 H1 locs ls ⟨?_, ⟨Nat.le_trans hS.1 (by omega), fun x h1 h2 => (o1 x (by have := hS.1; omega)).trans (hS.2.1 x h1 h2), hS.2.2⟩, hL, hLl, zs_c1_cons rfl (zs_c1_tail hst), fun _ => ⟨by omega, fun o ho => hfr o (by omega)⟩⟩
        rw [zWl_push]
        refine (hP.kept (fun k x hx => o1 x.1 (by have := (hP k x hx).lt; omega))).app (fun k x hx => ?_)
        have hz0 : k < 1 := (List.getElem?_eq_some_iff.mp hx).1
        rw [show k = 0 by omega] at hx
        cases hx
        have hf0 : ∀ j, σ n j = 0 := hfr n (Nat.le_refl n)
        rcases ha with ⟨rfl, rfl⟩ | ⟨rfl, rfl⟩ | ⟨rfl, rfl⟩ | ⟨rfl, rfl⟩
        · have hcell : zcell g zk σ n = .inl (g.2.1, mm.toNatClampNeg, .inl (σ n)) := by simp only [zcell, hzk]
          have hcA : cA = g.2.1 := Option.some.inj (hNm.symm.trans (hK.2 0 _ rfl).2)
          rw [hcell]
          show H1[g.1 + n]? = some (vp_cell _ _)
          rw [e1, hcA, vp_cell_i]
          congr 2
          funext j
          rw [hf0 j]; rfl
        · have hcell : zcell g zk σ n = .inl (g.2.2.1, mm.toNatClampNeg, .inl (σ n)) := by simp only [zcell, hzk]
          have hcA : cA = g.2.2.1 := Option.some.inj (hNm.symm.trans (hK.2 1 _ rfl).2)
          rw [hcell]
          show H1[g.1 + n]? = some (vp_cell _ _)
          rw [e1, hcA, vp_cell_i]
          congr 2
          funext j
          rw [hf0 j]; rfl
        · have hcell : zcell g zk σ n = .inl (g.2.2.2.1, mm.toNatClampNeg, .inl (σ n)) := by simp only [zcell, hzk]
          have hcA : cA = g.2.2.2.1 := Option.some.inj (hNm.symm.trans (hK.2 2 _ rfl).2)
          rw [hcell]
          show H1[g.1 + n]? = some (vp_cell _ _)
          rw [e1, hcA, vp_cell_i]
          congr 2
          funext j
          rw [hf0 j]; rfl
        · have hcell : zcell g zk σ n = .inl (g.2.2.2.2.1, mm.toNatClampNeg, .inr (.inl (fun j => (σ n j).toInt64))) := by simp only [zcell, hzk]
          have hcA : cA = g.2.2.2.2.1 := Option.some.inj (hNm.symm.trans (hK.2 3 _ rfl).2)
          rw [hcell]
          show H1[g.1 + n]? = some (vp_cell _ _)
          rw [e1, hcA, vp_cell_l]
          congr 2
          funext j
          rw [hf0 j]; rfl
      refine va_newaK hx hb ?_ rfl hd rfl (zin_pos hz).1 rfl (hcb _) (by rw [hR]; show _ ≤ nE - n0; omega) (by rw [hR]; show _ ≤ zsz zk nE - zsz zk n0; omega) hsz0 fun H1 cA e1 z1 o1 _ hNm => hh H1 cA e1 z1 o1 hNm
      rcases ha with ⟨rfl, -⟩ | ⟨rfl, -⟩ | ⟨rfl, -⟩ | ⟨rfl, -⟩
      · exact hts _ (zbig_t (w := .arrayClass .int) (by decide +kernel) rfl)
      · exact hts _ (zbig_t (w := .arrayClass .byte) (by decide +kernel) rfl)
      · exact hts _ (zbig_t (w := .arrayClass .boolean) (by decide +kernel) rfl)
      · exact hts _ (zbig_t (w := .arrayClass .long) (by decide +kernel) rfl)
    · exact h.elim
  · exact h.elim
theorem zs_newq {k : Nat} (cx : zCx p R s m args meth c D g zk mi d n0 nE nL) (hk2 : zKok2 zk) (hd : decode (zB mi) pc = .ok (.anewarray k, 3)) (hnx : nx = pc + 3) (hl : ((zMi mi).1, k) ∈ zAL) (hr : zRl D g zk al s nL L st ls n σ H locs) (hn : n0 ≤ n) (h : zNewa False (zKg p l e R s m args below meth c D g zk al n0 nE nL Q) zk al 6 nx L st n σ) : W p l e R s m args below meth c H locs (n - n0) (zsz zk n - zsz zk n0) Q (F0 m pc ls (st.map (zcv g.1))) := by
  obtain ⟨hx, hb, hml, hown, hts, hnm, hK, hnst, hao, hR, hkk, hg0, hmi⟩ := cx
  obtain ⟨hP, hS, hL, hLl, hst, hal⟩ := hr
  subst hnx
  unfold zNewa at h
  split at h
  · rename_i mm r
    split at h
    rename_i t len fl hzk
    split at h
    · rename_i hc
      simp only [Bool.and_eq_true, beq_iff_eq] at hc
      obtain ⟨⟨⟨rfl, rfl⟩, hz⟩, rfl⟩ := hc
      obtain ⟨hsz0, hfr⟩ := hal rfl
      have hl6 := hk2 n
      rw [hzk] at hl6
      dsimp only at hl6
      have hsz : zsz zk (n + 1) = zsz zk n + mm.toNatClampNeg := by simp only [zsz, hzk]
      have hm1 := zsz_mono zk hn
      have hnE := (h (by omega)).1
      have hm2 := zsz_mono zk hnE
      have e2 : n - n0 + 1 = n + 1 - n0 := by omega
      have e3 : zsz zk n - zsz zk n0 + mm.toNatClampNeg = zsz zk (n + 1) - zsz zk n0 := by omega
      refine W.anew hx hb hown (hts _ (zbig_t (zAL_ok _ hl) rfl)) (va_AO.use hao) rfl hd rfl (zin_pos hz).1 (by omega) (by rw [hR]; show _ ≤ nE - n0; omega) (by rw [hR]; show _ ≤ zsz zk nE - zsz zk n0; omega) fun cA kA comp f1 f2 f3 f4 => ?_
      rw [e2, e3, hsz0]
      have o1 : ∀ q : Nat, q < H.size → (H.push ({ cls := cA, slots := Array.replicate mm.toNatClampNeg .null, vm := .none } : Cell))[q]? = H[q]? := fun q hq => by rw [Array.getElem?_push, if_neg (Nat.ne_of_lt hq)]
      have z1 : (H.push ({ cls := cA, slots := Array.replicate mm.toNatClampNeg .null, vm := .none } : Cell)).size = g.1 + n + 1 := by rw [Array.size_push, hsz0]
      have e1 : (H.push ({ cls := cA, slots := Array.replicate mm.toNatClampNeg .null, vm := .none } : Cell))[g.1 + n]? = some (arrV cA mm.toNatClampNeg (fun _ => .null)) := by rw [← hsz0, Array.getElem?_push_size, ← arrV_new]
      generalize H.push ({ cls := cA, slots := Array.replicate mm.toNatClampNeg .null, vm := .none } : Cell) = H1 at o1 z1 e1 ⊢
      refine (h (by omega)).2 H1 locs ls ⟨?_, ⟨Nat.le_trans hS.1 (by omega), fun x h1 h2 => (o1 x (by have := hS.1; omega)).trans (hS.2.1 x h1 h2), hS.2.2⟩, hL, hLl, zs_c1_cons rfl (zs_c1_tail hst), fun _ => ⟨by omega, fun o ho => hfr o (by omega)⟩⟩
      rw [zWl_push]
      refine (hP.kept (fun k x hx => o1 x.1 (by have := (hP k x hx).lt; omega))).app (fun k x hx => ?_)
      have hz0 : k < 1 := (List.getElem?_eq_some_iff.mp hx).1
      rw [show k = 0 by omega] at hx
      cases hx
      have hcell : zcell g zk σ n = .inl (g.2.2.2.2.2, mm.toNatClampNeg, .inr (.inr (.inr (.inr (fun j => zro g.1 (σ n j)))))) := by simp only [zcell, hzk]
      have hcA : cA = g.2.2.2.2.2 := by
        obtain ⟨-, kA', comp', -, -, -, hq⟩ := hK.2 4 _ rfl
        exact Option.some.inj (f1.symm.trans hq)
      rw [hcell]
      show H1[g.1 + n]? = some (vp_cell _ _)
      rw [e1, hcA, vp_cell_q]
      congr 2
      funext j
      rw [hfr n (Nat.le_refl n) j]
      rfl
    · exact h.elim
  · exact h.elim
end ZSOUND3
end
section
/-! calls: by the callee's contract, which is the run's own -/
section ZSOUND4
variable {p : Program} {l : Launch} {e : Env} {R : Room} {s : State} {m : MethodId} {args : Array Value} {below : List Frame} {meth : Method} {c : Code}
variable {D : va_G} {g : zG} {zk : zKd} {al : Bool} {mi d n0 nE nL : Nat} {Q : State → Prop}
variable {a nx pc b f n : Nat} {L st r : List Value} {σ : zS} {H : Heap} {locs : List Loc} {ls : Array Slot}
def zCg (l : Launch) (D : va_G) (g : zG) (zk : zKd) (al : Bool) (d : Nat) (mi : Nat) (as : List Value) (n : Nat) (σ : zS) (kk : Int32 → Nat → zS → Prop) : Prop :=
  0 < d ∧ ∃ v n' σ', n ≤ n' ∧ ((∀ w ∈ as, zc1 w = true) → as.length ≤ (zMi mi).2.1 → mi < 274 → ZMet l D g zk al (d - 1) mi as n σ v n' σ') ∧ kk v n' σ'
theorem zs_blind {as : List Value} : FrameBlind (va_Pc as (zPre D g zk al n σ)) := fun a U gf mk q => by
  obtain ⟨q0, q1, q2, q3, q4, q5, q6⟩ := q
  exact ⟨q0, q1, q2, va_K.moved (u := U) (U := U.calling gf mk a) (Vm.Alike.refl U.vm) q3, fun x hx h3 => va_Nw.same rfl rfl (q4 x hx h3), va_AO.moved (u := U) (U := U.calling gf mk a) (Vm.Alike.refl U.vm) q5, q6⟩
theorem zs_sum (b : Nat) : ∀ (r : List Value), (∀ w ∈ r, zc1 w = true) → ((r.map (zcv b)).map fun v => v.category).sum = r.length := by
  intro r hr
  induction r with
  | nil => rfl
  | cons v r ih =>
    have h3 := zc1_cat (b := b) (hr v List.mem_cons_self)
    simp only [List.map_cons, List.sum_cons, List.length_cons, h3, ih (zs_c1_tail hr)]
    omega
/-- behind the call -/
theorem zs_after {v : Int32} {n' : Nat} {σ' : zS} {mi2 : Nat} {stk : List Value} {ar : Array Value} (hS : va_S (zA g) s.heap H locs) (hL : zLr g.1 L ls) (hLl : L.length = nL) (hst : ∀ w ∈ st, zc1 w = true) (hf : f = 2 * (zMi mi2).1 + (if (zMi mi2).2.2 = none then 1 else 0)) (hn : n0 ≤ n) (hnn : n ≤ n')
    (hrun : va_Run p l e R s m args below meth c H locs (n - n0) (zsz zk n - zsz zk n0) (n' - n) (zsz zk n' - zsz zk n) (F0 m pc ls stk) ((st.drop b).map (zcv g.1)) (zPost D g zk al mi2 v n' σ' ar) (zA g))
    (h : zKg p l e R s m args below meth c D g zk al n0 nE nL Q (pc + 3) L (if f % 2 = 1 then st.drop b else .int v :: st.drop b) n' σ') : W p l e R s m args below meth c H locs (n - n0) (zsz zk n - zsz zk n0) Q (F0 m pc ls stk) := by
  have hm1 := zsz_mono zk hn
  have hm2 := zsz_mono zk hnn
  have e2 : n - n0 + (n' - n) = n' - n0 := by omega
  have e3 : zsz zk n - zsz zk n0 + (zsz zk n' - zsz zk n) = zsz zk n' - zsz zk n0 := by omega
  have hdr : ∀ w ∈ st.drop b, zc1 w = true := fun w hw => hst w (List.mem_of_mem_drop hw)
  unfold zPost at hrun
  cases hret : (zMi mi2).2.2 with
  | none =>
    rw [hret] at hrun hf
    have hf1 : f % 2 = 1 := by rw [hf, if_pos rfl]; omega
    rw [if_pos hf1] at h
    refine va_callv hrun hS (fun q _ h => h) (fun q h => h) fun u t H1 locs1 ht _ _ hB _ _ hS1 => ?_
    rw [e2, e3]
    obtain ⟨hP1, ha1⟩ := hB
    rw [ht] at hP1 ha1
    exact (h (by omega)).2 H1 locs1 ls ⟨hP1, hS1, hL, hLl, hdr, ha1⟩
  | some ty =>
    rw [hret] at hrun hf
    have hf1 : ¬ f % 2 = 1 := by rw [hf]; simp
    rw [if_neg hf1] at h
    refine va_calli hrun hS (fun q _ h => h) (fun q h => h) fun r u t H1 locs1 ht _ hv hB _ _ hS1 => ?_
    rw [e2, e3]
    obtain ⟨hP1, ha1⟩ := hB
    rw [ht] at hP1 ha1
    have hv : r = v := hv
    subst hv
    exact (h (by omega)).2 H1 locs1 ls ⟨hP1, hS1, hL, hLl, zs_c1_cons rfl hdr, ha1⟩
theorem zs_good (mi2 : Nat) (h : mi2 < 274) : ∀ w ∈ zws mi2, w ∈ zbig ∧ ((w.onTables && w.keeps) = true ∨ ∃ ty, w = .arrayClass ty) := by
  intro w hw
  have h1 : w ∈ zbig := by
    rcases List.mem_cons.mp hw with q | q
    · rw [q]; exact zbig_t (zMc_all mi2 (List.mem_range.mpr h)) rfl
    · exact q
  exact ⟨h1, good_of_word (zbig_good h1)⟩
theorem zs_init (hts : ∀ w ∈ zbig, w.before args s = true) {mi2 : Nat} (h : mi2 < 274) : (Cond.initialized (zY mi2).cls).before args s = true := by
  obtain ⟨-, h2, -, -, h3⟩ := zMok_all mi2 (List.mem_range.mpr h)
  rw [h2]
  exact hts _ (zbig_t (zInit_all _ h3) rfl)
theorem zs_params {mi2 k : Nat} (h : zNa mi2 = k) : ∀ sig, parseMethodDescriptor (zY mi2).desc = some sig → k = sig.parameters.length := by
  intro sig hs
  rw [← h]
  unfold zNa
  rw [hs]
  rfl
theorem zs_pre (hP : va_P D zCl (zWl g zk n σ) H) (hK : va_K D zCl (zTy g) s) (hnst : ∀ q ∈ zML, 3 ≤ q.2.2.2 → va_Nw (.methodLinkNest (zCs q.1) q.2.1 (zY q.2.2.1) "StartedByAYawn") s) (hao : va_AO "StartedByAYawn$Kept" s) (hal : al = true → H.size = g.1 + n ∧ ∀ o, n ≤ o → ∀ i, σ o i = 0) (hg : g.1 ≤ H.size) : ∀ U : State, U.heap = H → s.WarmedH U.vm → zPre D g zk al n σ U := by
  intro U hU hW
  refine ⟨by rw [hU]; exact hg, by rw [hU]; exact hP, va_K.moved hW.alike hK, fun q hq h3 => va_Nw.warmM hW (hnst q hq h3), va_AO.moved hW.alike hao, by rw [hU]; exact hal⟩
theorem zs_static {k : Nat} (cx : zCx p R s m args meth c D g zk mi d n0 nE nL) (hd : decode (zB mi) pc = .ok (.invokestatic k, 3)) (hnx : nx = pc + 3) {kd : Nat} (hl : ((zMi mi).1, k, a, kd) ∈ zML) (hkd : kd = 0 ∨ kd = 3) (hst9 : a ∈ zSt) (hb9 : zNa a = b) (hf : f = 2 * (zMi a).1 + (if (zMi a).2.2 = none then 1 else 0)) (hbm : b ≤ (zMi a).2.1) (hr : zRl D g zk al s nL L st ls n σ H locs) (hn : n0 ≤ n) (h : zGo False (zKg p l e R s m args below meth c D g zk al n0 nE nL Q) (zCg l D g zk al d) a b f nx L st n σ) : W p l e R s m args below meth c H locs (n - n0) (zsz zk n - zsz zk n0) Q (F0 m pc ls (st.map (zcv g.1))) := by
  obtain ⟨hx, hb, hml, hown, hts, hnm, hK, hnst, hao, hR, hkk, hg0, hmi⟩ := cx
  obtain ⟨hP, hS, hL, hLl, hst, hal⟩ := hr
  subst hnx
  unfold zGo at h
  split at h
  · rename_i hc
    simp only [Bool.and_eq_true, Nat.ble_eq] at hc
    obtain ⟨hc1, hc2⟩ := hc
    obtain ⟨hd0, v, n', σ', hnn, hM, h⟩ := h
    have ha := zML_ok2 _ hl
    dsimp only at ha
    have hlen : (st.take b).reverse.length = b := by simp; omega
    have hM := hM (fun w hw => hst w (List.mem_of_mem_take (List.mem_reverse.mp hw))) (by omega) ha
    have hnE := (h (by omega)).1
    have hm1 := zsz_mono zk hn
    have hm2 := zsz_mono zk hnn
    have hm3 := zsz_mono zk hnE
    obtain ⟨-, -, hy1, hy2, -⟩ := zMok_all a (List.mem_range.mpr ha)
    have hmx := zMl_ok a (List.mem_range.mpr ha)
    have hRf : (zrm zk (d - 1) n n').frames + 1 ≤ R.frames := by rw [hR]; show d - 1 + 1 + 1 ≤ d + 1; omega
    have hRl : 8 + ((zMi a).2.1 + 11) + (zrm zk (d - 1) n n').locals ≤ R.locals := by rw [hR]; show 8 + ((zMi a).2.1 + 11) + 40 * (d - 1 + 1) ≤ 40 * (d + 1); omega
    have hws := pay_in hts (zs_good a ha)
    have hcode : (Cond.code (zY a) (zB a) (zMi a).2.1 (zMi a).2.2).before args s = true := hts _ (zbig_t (zMc_all a (List.mem_range.mpr ha)) rfl)
    have hwl := zMLc_all _ hl
    have hstat : (Cond.static (zY a)).before args s = true := hts _ (zbig_t (zStc_all a hst9) rfl)
    have hsize : ls.size = nL := by obtain ⟨lv, q, -⟩ := hL; rw [q.1, hLl]
    have hstack : st.map (zcv g.1) = ((st.take b).reverse.map (zcv g.1)).reverse ++ (st.drop b).map (zcv g.1) := by
      rw [List.map_reverse, List.reverse_reverse, ← List.map_append, List.take_append_drop]
    have hroom : 2 * (F0 m pc ls (st.map (zcv g.1))).monitorRoom + (((st.drop b).map (zcv g.1)).map fun v => v.category).sum ≤ 8 := by
      refine lv_room ?_
      rw [zs_sum g.1 _ (fun w hw => hst w (List.mem_of_mem_drop hw)), List.length_drop]
      omega
    have hp : PreS s H (va_Pc ((st.take b).reverse.map (zcv g.1)) (zPre D g zk al n σ)) ((st.take b).reverse.map (zcv g.1)) := ⟨zs_blind, fun U hU hW => ⟨rfl, zs_pre hP hK hnst hao hal (Nat.le_trans hg0 hS.1) U hU hW⟩⟩
    refine zs_after (ar := ((st.take b).reverse.map (zcv g.1)).toArray) (mi2 := a) (v := v) (n' := n') (σ' := σ') hS hL hLl hst hf hn hnn ?_ h
    rcases hkd with rfl | rfl
    · exact va_runS ⟨hx, hb, hml, hown, hts⟩ hM ⟨⟨rfl, rfl, hRf, hRl, hws, List.mem_cons_self, hcode, zs_init hts ha, ⟨hy1, hy2⟩, zs_params hb9, hts _ (zbig_t hwl rfl)⟩, hstat⟩ hp rfl (by rw [List.length_map]; exact hlen) hsize hstack hroom hd ⟨by rw [hR]; show n - n0 + (n' - n) ≤ nE - n0; omega, by rw [hR]; show _ ≤ zsz zk nE - zsz zk n0; omega⟩
    · have hnl : (Cond.methodLinkNest (zCs (zMi mi).1) k (zY a) "StartedByAYawn").before args s = true := va_Nw.use (w := .methodLinkNest (zCs (zMi mi).1) k (zY a) "StartedByAYawn") rfl (hnst ((zMi mi).1, k, a, 3) hl (Nat.le_refl 3))
      exact va_runSN (host := "StartedByAYawn") ⟨hx, hb, hml, hown, hts⟩ hM ⟨⟨⟨rfl, rfl, hRf, hRl, hws, List.mem_cons_self⟩, hcode, zs_init hts ha, ⟨hy1, hy2⟩, zs_params hb9, hnl⟩, hstat, trivial⟩ hp rfl (by rw [List.length_map]; exact hlen) hsize hstack hroom hd ⟨by rw [hR]; show n - n0 + (n' - n) ≤ nE - n0; omega, by rw [hR]; show _ ≤ zsz zk nE - zsz zk n0; omega⟩
  · exact h.elim
theorem zs_head {st : List Value} {b : Nat} {v : Value} (hb : 1 ≤ b) (h : st[b - 1]? = some v) : (st.take b).reverse = v :: (st.take (b - 1)).reverse := by
  have h1 : st.take b = st.take (b - 1) ++ [v] := by
    have h2 : b = b - 1 + 1 := by omega
    rw [h2, List.take_add_one, show b - 1 + 1 - 1 = b - 1 by omega, h]
    rfl
  rw [h1, List.reverse_append]
  rfl
theorem zs_virt {k : Nat} (cx : zCx p R s m args meth c D g zk mi d n0 nE nL) (hd : decode (zB mi) pc = .ok (.invokevirtual k, 3)) (hnx : nx = pc + 3) (hl : ((zMi mi).1, k, a, 1) ∈ zML) (hvi : a ∈ zVi) (hb9 : zNa a + 1 = b) (hf : f = 2 * (zMi a).1 + (if (zMi a).2.2 = none then 1 else 0)) (hbm : b ≤ (zMi a).2.1) (hr : zRl D g zk al s nL L st ls n σ H locs) (hn : n0 ≤ n) (h : zVirt False (zKg p l e R s m args below meth c D g zk al n0 nE nL Q) (zCg l D g zk al d) zk a b f nx L st n σ) : W p l e R s m args below meth c H locs (n - n0) (zsz zk n - zsz zk n0) Q (F0 m pc ls (st.map (zcv g.1))) := by
  obtain ⟨hx, hb, hml, hown, hts, hnm, hK, hnst, hao, hR, hkk, hg0, hmi⟩ := cx
  obtain ⟨hP, hS, hL, hLl, hst, hal⟩ := hr
  subst hnx
  unfold zVirt at h
  split at h
  · rename_i o hso
    split at h
    rename_i t ci fl hzk
    split at h
    · rename_i hc0
      simp only [Bool.and_eq_true, Nat.blt_eq, beq_iff_eq] at hc0
      obtain ⟨⟨ho, rfl⟩, hci⟩ := hc0
      have hcf : ci = (zMi a).1 := by rw [hci, hf]; split <;> omega
      unfold zGo at h
      split at h
      · rename_i hc
        simp only [Bool.and_eq_true, Nat.ble_eq] at hc
        obtain ⟨hc1, hc2⟩ := hc
        obtain ⟨hd0, v, n', σ', hnn, hM, h⟩ := h
        have ha := zML_ok2 _ hl
        dsimp only at ha
        have hlen : (st.take b).reverse.length = b := by simp; omega
        have hM := hM (fun w hw => hst w (List.mem_of_mem_take (List.mem_reverse.mp hw))) (by omega) ha
        have hnE := (h (by omega)).1
        have hm1 := zsz_mono zk hn
        have hm2 := zsz_mono zk hnn
        have hm3 := zsz_mono zk hnE
        obtain ⟨-, hyc, hy1, hy2, -⟩ := zMok_all a (List.mem_range.mpr ha)
        have hmx := zMl_ok a (List.mem_range.mpr ha)
        have hRf : (zrm zk (d - 1) n n').frames + 1 ≤ R.frames := by rw [hR]; show d - 1 + 1 + 1 ≤ d + 1; omega
        have hRl : 8 + ((zMi a).2.1 + 11) + (zrm zk (d - 1) n n').locals ≤ R.locals := by rw [hR]; show 8 + ((zMi a).2.1 + 11) + 40 * (d - 1 + 1) ≤ 40 * (d + 1); omega
        have hws := pay_in hts (zs_good a ha)
        have hcode : (Cond.code (zY a) (zB a) (zMi a).2.1 (zMi a).2.2).before args s = true := hts _ (zbig_t (zMc_all a (List.mem_range.mpr ha)) rfl)
        have hwl := zMLc_all _ hl
        have hsize : ls.size = nL := by obtain ⟨lv, q, -⟩ := hL; rw [q.1, hLl]
        have hhead := zs_head (by omega) hso
        have hstack : st.map (zcv g.1) = ((st.take (b - 1)).reverse.map (zcv g.1)).reverse ++ .ref (g.1 + o) :: (st.drop b).map (zcv g.1) := by
          have h1 : st = st.take b ++ st.drop b := (List.take_append_drop b st).symm
          have h2 : st.take b = st.take (b - 1) ++ [.ref o] := by
            have h3 := congrArg List.reverse hhead
            rw [List.reverse_reverse, List.reverse_cons, List.reverse_reverse] at h3
            exact h3
          conv => lhs; rw [h1, h2]
          rw [List.map_reverse, List.reverse_reverse, List.map_append, List.map_append, List.append_assoc]
          rfl
        have hroom : 2 * (F0 m pc ls (st.map (zcv g.1))).monitorRoom + (((st.drop b).map (zcv g.1)).map fun v => v.category).sum ≤ 8 := by
          refine lv_room ?_
          rw [zs_sum g.1 _ (fun w hw => hst w (List.mem_of_mem_drop hw)), List.length_drop]
          omega
        have hcl13 : ci < 13 := (hkk o ci fl hzk).1
        obtain ⟨-, -, -, -, hcl⟩ := zcls hcl13
        have he : (zWl g zk n σ)[o]? = some (g.1 + o, .inr (ci, zfs g.1 σ o fl)) := by
          rw [zWl_get g zk σ ho]
          simp only [zcell, hzk]
        have hrecv := va_recv hK hP hcl he
        have hCn : (zTf ci).1 = (zY a).cls := by rw [zTn_ok ci hcl13, hyc, hcf]
        rw [hCn] at hrecv
        rw [hhead] at hM
        have hp : PreV s H (zY a).cls (g.1 + o) (va_Pc ((Value.ref o :: (st.take (b - 1)).reverse).map (zcv g.1)) (zPre D g zk al n σ)) ((st.take (b - 1)).reverse.map (zcv g.1)) := ⟨zs_blind, hrecv, fun U hU hW => ⟨rfl, zs_pre hP hK hnst hao hal (Nat.le_trans hg0 hS.1) U hU hW⟩⟩
        refine zs_after (ar := (Value.ref (g.1 + o) :: (st.take (b - 1)).reverse.map (zcv g.1)).toArray) (mi2 := a) (v := v) (n' := n') (σ' := σ') hS hL hLl hst hf hn hnn ?_ h
        exact va_runV ⟨hx, hb, hml, hown, hts⟩ hM ⟨⟨rfl, rfl, hRf, hRl, hws, List.mem_cons_self, hcode, zs_init hts ha, ⟨hy1, hy2⟩, zs_params (k := b - 1) (by omega), hts _ (zbig_t hwl rfl)⟩, hts _ (zbig_t (zVic_all a hvi) rfl), hts _ (zbig_l (zVis_all a hvi) rfl)⟩ hp rfl (by rw [List.length_map, List.length_reverse, List.length_take]; omega) hsize hstack hroom hd ⟨by rw [hR]; show n - n0 + (n' - n) ≤ nE - n0; omega, by rw [hR]; show _ ≤ zsz zk nE - zsz zk n0; omega⟩
      · exact h.elim
    · exact h.elim
  · exact h.elim
theorem zs_spec {k : Nat} (cx : zCx p R s m args meth c D g zk mi d n0 nE nL) (hd : decode (zB mi) pc = .ok (.invokespecial k, 3)) (hnx : nx = pc + 3) {kd : Nat} (hl : ((zMi mi).1, k, a, kd) ∈ zML) (hkd : kd = 2 ∨ kd = 4) (hin9 : a ∈ zIn) (hb9 : zNa a + 1 = b) (hf : f = 2 * (zMi a).1 + 1) (hrt : (zMi a).2.2 = none) (hbm : b ≤ (zMi a).2.1) (hr : zRl D g zk al s nL L st ls n σ H locs) (hn : n0 ≤ n) (h : zSpec False (zKg p l e R s m args below meth c D g zk al n0 nE nL Q) (zCg l D g zk al d) a b f nx L st n σ) : W p l e R s m args below meth c H locs (n - n0) (zsz zk n - zsz zk n0) Q (F0 m pc ls (st.map (zcv g.1))) := by
  obtain ⟨hx, hb, hml, hown, hts, hnm, hK, hnst, hao, hR, hkk, hg0, hmi⟩ := cx
  obtain ⟨hP, hS, hL, hLl, hst, hal⟩ := hr
  subst hnx
  unfold zSpec at h
  split at h
  · rename_i o hso
    split at h
    · unfold zGo at h
      split at h
      · rename_i hc
        simp only [Bool.and_eq_true, Nat.ble_eq] at hc
        obtain ⟨hc1, hc2⟩ := hc
        obtain ⟨hd0, v, n', σ', hnn, hM, h⟩ := h
        have ha := zML_ok2 _ hl
        dsimp only at ha
        have hlen : (st.take b).reverse.length = b := by simp; omega
        have hM := hM (fun w hw => hst w (List.mem_of_mem_take (List.mem_reverse.mp hw))) (by omega) ha
        have hnE := (h (by omega)).1
        have hm1 := zsz_mono zk hn
        have hm2 := zsz_mono zk hnn
        have hm3 := zsz_mono zk hnE
        obtain ⟨-, hyc, hy1, hy2, -⟩ := zMok_all a (List.mem_range.mpr ha)
        have hmx := zMl_ok a (List.mem_range.mpr ha)
        have hRf : (zrm zk (d - 1) n n').frames + 1 ≤ R.frames := by rw [hR]; show d - 1 + 1 + 1 ≤ d + 1; omega
        have hRl : 8 + ((zMi a).2.1 + 11) + (zrm zk (d - 1) n n').locals ≤ R.locals := by rw [hR]; show 8 + ((zMi a).2.1 + 11) + 40 * (d - 1 + 1) ≤ 40 * (d + 1); omega
        have hws := pay_in hts (zs_good a ha)
        have hcode : (Cond.code (zY a) (zB a) (zMi a).2.1 none).before args s = true := by rw [← hrt]; exact hts _ (zbig_t (zMc_all a (List.mem_range.mpr ha)) rfl)
        have hwl := zMLc_all _ hl
        have hsize : ls.size = nL := by obtain ⟨lv, q, -⟩ := hL; rw [q.1, hLl]
        have hhead := zs_head (by omega) hso
        have hstack : st.map (zcv g.1) = ((st.take (b - 1)).reverse.map (zcv g.1)).reverse ++ .ref (g.1 + o) :: (st.drop b).map (zcv g.1) := by
          have h1 : st = st.take b ++ st.drop b := (List.take_append_drop b st).symm
          have h2 : st.take b = st.take (b - 1) ++ [.ref o] := by
            have h3 := congrArg List.reverse hhead
            rw [List.reverse_reverse, List.reverse_cons, List.reverse_reverse] at h3
            exact h3
          conv => lhs; rw [h1, h2]
          rw [List.map_reverse, List.reverse_reverse, List.map_append, List.map_append, List.append_assoc]
          rfl
        have hroom : 2 * (F0 m pc ls (st.map (zcv g.1))).monitorRoom + (((st.drop b).map (zcv g.1)).map fun v => v.category).sum ≤ 8 := by
          refine lv_room ?_
          rw [zs_sum g.1 _ (fun w hw => hst w (List.mem_of_mem_drop hw)), List.length_drop]
          omega
        rw [hhead] at hM
        have hp : PreS s H (va_Pc ((Value.ref o :: (st.take (b - 1)).reverse).map (zcv g.1)) (zPre D g zk al n σ)) (.ref (g.1 + o) :: (st.take (b - 1)).reverse.map (zcv g.1)) := ⟨zs_blind, fun U hU hW => ⟨rfl, zs_pre hP hK hnst hao hal (Nat.le_trans hg0 hS.1) U hU hW⟩⟩
        have hcw : Cond.code (zY a) (zB a) (zMi a).2.1 none ∈ zws a := by rw [← hrt]; exact List.mem_cons_self
        refine zs_after (ar := (Value.ref (g.1 + o) :: (st.take (b - 1)).reverse.map (zcv g.1)).toArray) (mi2 := a) (v := v) (n' := n') (σ' := σ') hS hL hLl hst (by rw [hf, hrt]; rfl) hn hnn ?_ h
        rcases hkd with rfl | rfl
        · exact va_runI ⟨hx, hb, hml, hown, hts⟩ hM ⟨⟨rfl, rfl, hRf, hRl, hws, hcw, hcode, zs_init hts ha, ⟨hy1, hy2⟩, zs_params (k := b - 1) (by omega), hts _ (zbig_t hwl rfl)⟩, zIn_ok2 a hin9, hts _ (zbig_t (zInc__all a hin9) rfl)⟩ hp rfl (by rw [List.length_map, List.length_reverse, List.length_take]; omega) hsize hstack hroom hd ⟨by rw [hR]; show n - n0 + (n' - n) ≤ nE - n0; omega, by rw [hR]; show _ ≤ zsz zk nE - zsz zk n0; omega⟩
        · have hnl : (Cond.methodLinkNest (zCs (zMi mi).1) k (zY a) "StartedByAYawn").before args s = true := va_Nw.use (w := .methodLinkNest (zCs (zMi mi).1) k (zY a) "StartedByAYawn") rfl (hnst ((zMi mi).1, k, a, 4) hl (Nat.le_succ 3))
          exact va_runIN (host := "StartedByAYawn") ⟨hx, hb, hml, hown, hts⟩ hM ⟨⟨⟨rfl, rfl, hRf, hRl, hws, hcw⟩, hcode, zs_init hts ha, ⟨hy1, hy2⟩, zs_params (k := b - 1) (by omega), hnl⟩, zIn_ok2 a hin9, hts _ (zbig_t (zInc__all a hin9) rfl)⟩ hp rfl (by rw [List.length_map, List.length_reverse, List.length_take]; omega) hsize hstack hroom hd ⟨by rw [hR]; show n - n0 + (n' - n) ≤ nE - n0; omega, by rw [hR]; show _ ≤ zsz zk nE - zsz zk n0; omega⟩
      · exact h.elim
    · exact h.elim
  · exact h.elim
end ZSOUND4
end
section
/-! every step, and every run -/
theorem zSwok_run {K : Nat → List Value → List Value → Nat → zS → Prop} {a pc n : Nat} {L st : List Value} {σ : zS} {x : Int32} : ∀ (os : List Int) (sw : List (Int32 × Nat)) (lo : Int), zSwok pc lo os sw = true → zSwc K a L st n σ x sw → (∃ (i : Nat) (o : Int) (t : Nat), os[i]? = some o ∧ x.toInt = lo + i ∧ (pc : Int) + o = t ∧ K t L st n σ) ∨ ((x.toInt < lo ∨ lo + os.length ≤ x.toInt) ∧ K a L st n σ) := by
  intro os
  induction os with
  | nil =>
    intro sw lo h1 h2
    cases sw with
    | nil => exact Or.inr ⟨by simp; omega, h2⟩
    | cons q r => cases h1
  | cons o os ih =>
    intro sw lo h1 h2
    cases sw with
    | nil => cases h1
    | cons q r =>
      obtain ⟨v, t⟩ := q
      simp only [zSwok, Bool.and_eq_true, decide_eq_true_eq] at h1
      obtain ⟨⟨h3, h4⟩, h5⟩ := h1
      unfold zSwc at h2
      split at h2
      · rename_i hx
        subst hx
        exact Or.inl ⟨0, o, t, rfl, by rw [h3]; simp, h4, h2⟩
      · rename_i hx
        have hne : x.toInt ≠ lo := fun q => hx (Int32.toInt_inj.mp (by rw [q, h3]))
        rcases ih r (lo + 1) h5 h2 with ⟨i, o', t', e1, e2, e3, e4⟩ | ⟨e1, e2⟩
        · exact Or.inl ⟨i + 1, o', t', by rw [List.getElem?_cons_succ]; exact e1, by rw [e2]; push_cast; omega, e3, e4⟩
        · refine Or.inr ⟨?_, e2⟩
          rw [List.length_cons]
          push_cast
          omega
theorem zLkok_run {K : Nat → List Value → List Value → Nat → zS → Prop} {a pc n : Nat} {L st : List Value} {σ : zS} {x : Int32} {dflt : Int} (hd : (pc : Int) + dflt = a) : ∀ (os : List (Int × Int)) (sw : List (Int32 × Nat)), zLkok pc os sw = true → zSwc K a L st n σ x sw → ∃ t : Nat, (pc : Int) + Op.lookupswitch.offset os dflt x.toInt = t ∧ K t L st n σ := by
  intro os
  induction os with
  | nil =>
    intro sw h1 h2
    cases sw with
    | nil => exact ⟨a, hd, h2⟩
    | cons q r => cases h1
  | cons o os ih =>
    intro sw h1 h2
    cases sw with
    | nil => obtain ⟨k, o⟩ := o; cases h1
    | cons q r =>
      obtain ⟨v, t⟩ := q
      obtain ⟨k, o⟩ := o
      simp only [zLkok, Bool.and_eq_true, decide_eq_true_eq] at h1
      obtain ⟨⟨h3, h4⟩, h5⟩ := h1
      rw [Op.lookupswitch.offset_cons]
      unfold zSwc at h2
      split at h2
      · rename_i hx
        subst hx
        rw [if_pos h3.symm]
        exact ⟨t, h4, h2⟩
      · rename_i hx
        rw [if_neg (fun q => hx (Int32.toInt_inj.mp (by rw [← q, h3])))]
        exact ih r h5 h2
theorem zbit1 {x : Int32} (h : x &&& 1 = x) : x = 0 ∨ x = 1 := by
  have h1 := pk_and x (m := 1) 1 (by decide)
  rw [h] at h1
  have h2 : x.toBitVec.toNat % 2 ^ 1 = 0 ∨ x.toBitVec.toNat % 2 ^ 1 = 1 := by omega
  rcases h2 with h2 | h2 <;> rw [h2] at h1
  · exact Or.inl (h1.trans (by decide))
  · exact Or.inr (h1.trans (by decide))
section ZSOUND5
variable {p : Program} {l : Launch} {e : Env} {R : Room} {s : State} {m : MethodId} {args : Array Value} {below : List Frame} {meth : Method} {c : Code}
variable {D : va_G} {g : zG} {zk : zKd} {al : Bool} {mi d n0 nE nL : Nat} {Q : State → Prop}
variable {a nx pc b f n : Nat} {L st r : List Value} {σ : zS} {H : Heap} {locs : List Loc} {ls : Array Slot}
theorem zs_k {st' : List Value} {pc' : Nat} (hr : zRl D g zk al s nL L st ls n σ H locs) (hn : n0 ≤ n) (hst' : ∀ v ∈ st', zc1 v = true) (h : zKg p l e R s m args below meth c D g zk al n0 nE nL Q pc' L st' n σ) : W p l e R s m args below meth c H locs (n - n0) (zsz zk n - zsz zk n0) Q (F0 m pc' ls (st'.map (zcv g.1))) := by
  obtain ⟨hP, hS, hL, hLl, hst, hal⟩ := hr
  exact (h hn).2 H locs ls ⟨hP, hS, hL, hLl, hst', hal⟩
theorem zs_kl {L' st' : List Value} {pc' : Nat} {ls' : Array Slot} (hr : zRl D g zk al s nL L st ls n σ H locs) (hn : n0 ≤ n) (hst' : ∀ v ∈ st', zc1 v = true) (hl : zLr g.1 L' ls') (hl2 : L'.length = L.length) (h : zKg p l e R s m args below meth c D g zk al n0 nE nL Q pc' L' st' n σ) : W p l e R s m args below meth c H locs (n - n0) (zsz zk n - zsz zk n0) Q (F0 m pc' ls' (st'.map (zcv g.1))) := by
  obtain ⟨hP, hS, hL, hLl, hst, hal⟩ := hr
  exact (h hn).2 H locs ls' ⟨hP, hS, hl, hl2.trans hLl, hst', hal⟩
theorem zs_if {cd : ClassFile.Cond} {o : Int} (hx : p.tables.exec = Jvm.exec) (hb : c.code = zB mi) (hd : decode (zB mi) pc = .ok (.ifCond cd o, 3)) (hnx : nx = pc + 3) (ho : (pc : Int) + o = a) (hr : zRl D g zk al s nL L st ls n σ H locs) (hn : n0 ≤ n) (h : zIf False (zKg p l e R s m args below meth c D g zk al n0 nE nL Q) cd a nx L st n σ) : W p l e R s m args below meth c H locs (n - n0) (zsz zk n - zsz zk n0) Q (F0 m pc ls (st.map (zcv g.1))) := by
  subst hnx
  unfold zIf at h
  split at h
  · rename_i x r
    have hst : ∀ w ∈ r, zc1 w = true := zs_c1_tail hr.2.2.2.2.1
    cases cd <;> simp only [zCnd] at h
    · exact lv_if_eq hx hb hd ho (fun hc => zs_k hr hn hst (by rw [if_pos hc] at h; exact h)) (fun hc => zs_k hr hn hst (by rw [if_neg hc] at h; exact h))
    · exact lv_if_ne hx hb hd ho (fun hc => zs_k hr hn hst (by rw [if_neg hc] at h; exact h)) (fun hc => zs_k hr hn hst (by rw [if_pos hc] at h; exact h))
    · exact lv_if_lt hx hb hd ho (fun hc => zs_k hr hn hst (by rw [if_pos hc] at h; exact h)) (fun hc => zs_k hr hn hst (by rw [if_neg hc] at h; exact h))
    · exact lv_if_ge hx hb hd ho (fun hc => zs_k hr hn hst (by rw [if_neg (Int32.not_lt.mpr hc)] at h; exact h)) (fun hc => zs_k hr hn hst (by rw [if_pos (Int32.not_le.mp hc)] at h; exact h))
    · exact lv_if_gt hx hb hd ho (fun hc => zs_k hr hn hst (by rw [if_pos hc] at h; exact h)) (fun hc => zs_k hr hn hst (by rw [if_neg hc] at h; exact h))
    · exact lv_if_le hx hb hd ho (fun hc => zs_k hr hn hst (by rw [if_neg (Int32.not_lt.mpr hc)] at h; exact h)) (fun hc => zs_k hr hn hst (by rw [if_pos (Int32.not_le.mp hc)] at h; exact h))
  · exact h.elim
theorem zs_if2 {cd : ClassFile.Cond} {o : Int} (hx : p.tables.exec = Jvm.exec) (hb : c.code = zB mi) (hd : decode (zB mi) pc = .ok (.if_icmp cd o, 3)) (hnx : nx = pc + 3) (ho : (pc : Int) + o = a) (hr : zRl D g zk al s nL L st ls n σ H locs) (hn : n0 ≤ n) (h : zIf2 False (zKg p l e R s m args below meth c D g zk al n0 nE nL Q) cd a nx L st n σ) : W p l e R s m args below meth c H locs (n - n0) (zsz zk n - zsz zk n0) Q (F0 m pc ls (st.map (zcv g.1))) := by
  subst hnx
  unfold zIf2 at h
  split at h
  · rename_i y x r
    have hst : ∀ w ∈ r, zc1 w = true := zs_c1_tail (zs_c1_tail hr.2.2.2.2.1)
    cases cd <;> simp only [zCnd] at h
    · exact lv_icmp_eq hx hb hd ho (fun hc => zs_k hr hn hst (by rw [if_pos hc] at h; exact h)) (fun hc => zs_k hr hn hst (by rw [if_neg hc] at h; exact h))
    · exact lv_icmp_ne hx hb hd ho (fun hc => zs_k hr hn hst (by rw [if_neg hc] at h; exact h)) (fun hc => zs_k hr hn hst (by rw [if_pos hc] at h; exact h))
    · exact lv_icmp_lt hx hb hd ho (fun hc => zs_k hr hn hst (by rw [if_pos hc] at h; exact h)) (fun hc => zs_k hr hn hst (by rw [if_neg hc] at h; exact h))
    · exact lv_icmp_ge hx hb hd ho (fun hc => zs_k hr hn hst (by rw [if_neg (Int32.not_lt.mpr hc)] at h; exact h)) (fun hc => zs_k hr hn hst (by rw [if_pos (Int32.not_le.mp hc)] at h; exact h))
    · exact lv_icmp_gt hx hb hd ho (fun hc => zs_k hr hn hst (by rw [if_pos hc] at h; exact h)) (fun hc => zs_k hr hn hst (by rw [if_neg hc] at h; exact h))
    · exact lv_icmp_le hx hb hd ho (fun hc => zs_k hr hn hst (by rw [if_neg (Int32.not_lt.mpr hc)] at h; exact h)) (fun hc => zs_k hr hn hst (by rw [if_pos (Int32.not_le.mp hc)] at h; exact h))
  · exact h.elim
theorem zs_put {k d2 f2 : Nat} {ini : Bool} {c2 : Int32} {sw : List (Int32 × Nat)} (cx : zCx p R s m args meth c D g zk mi d n0 nE nL) (hini : ini = true → (zY mi).name = "<init>") (hd : decode (zB mi) pc = .ok (.putfield k, nx - pc)) (hz : zeok (zMi mi).1 ini (pc, .putfield k, nx, a, b, d2, f2, c2, sw) = true) (hr : zRl D g zk al s nL L st ls n σ H locs) (hn : n0 ≤ n) (h : zPut False (zKg p l e R s m args below meth c D g zk al n0 nE nL Q) zk a b d2 nx L st n σ) : W p l e R s m args below meth c H locs (n - n0) (zsz zk n - zsz zk n0) Q (F0 m pc ls (st.map (zcv g.1))) := by
  simp only [zeok, Bool.and_eq_true, beq_iff_eq, decide_eq_true_eq, Bool.or_eq_true] at hz
  obtain ⟨⟨⟨hl, hnx⟩, hfin⟩, hty⟩ := hz
  rw [hnx, Nat.add_sub_cancel_left] at hd
  have hfin2 : ((zTf a).2.1 b).2.2.2 = false ∨ ((zY mi).name = "<init>" ∧ a = (zMi mi).1 ∧ ((zTf a).2.1 b).1 = zCs (zMi mi).1) := hfin.imp id fun q => ⟨hini q.1.1, q.1.2, q.2⟩
  unfold zPut at h
  split at h
  · rename_i x o r
    unfold zPutI at h
    split at h
    rename_i t ci fl hzk
    split at h
    · rename_i hc
      simp only [Bool.and_eq_true, Nat.blt_eq, beq_iff_eq] at hc
      obtain ⟨⟨⟨ho, rfl⟩, rfl⟩, hf⟩ := hc
      split at h
      · have hp : parseFieldDescriptor ((zTf ci).2.1 b).2.2.1 = some .int := by
          have hty2 : ((zTf ci).2.1 b).2.2.1 = "I" := by simpa using hty
          rw [hty2]; decide +kernel
        exact zs_putc (v := .int x) (x := x) (fl := fl) (f := 0) cx hd hnx hl hfin2 hp rfl rfl hzk hf ho (by simp [zFld, zcv, zup, zput, upd]) hr hn h
      · split at h
        · rename_i hx1
          have hp : parseFieldDescriptor ((zTf ci).2.1 b).2.2.1 = some .boolean := by
            have hty2 : ((zTf ci).2.1 b).2.2.1 = "Z" := by simpa using hty
            rw [hty2]; decide +kernel
          have hx2 : x = 0 ∨ x = 1 := zbit1 hx1
          exact zs_putc (v := .int x) (x := x) (fl := fl) (f := 0) cx hd hnx hl hfin2 hp (by show Value.int (x &&& 1) = _; rw [hx1]; rfl) (by rcases hx2 with rfl | rfl <;> rfl) hzk hf ho (by simp [zFld, zcv, zup, zput, upd]) hr hn h
        · exact h.elim
      · exact h.elim
    · exact h.elim
  · rename_i v o r hnint
    split at h
    rename_i t ci fl hzk
    split at h
    · rename_i hc
      simp only [Bool.and_eq_true, Nat.blt_eq, beq_iff_eq] at hc
      obtain ⟨⟨⟨⟨⟨ho, rfl⟩, rfl⟩, hf⟩, rfl⟩, hv⟩ := hc
      have hfit : ∃ ty, parseFieldDescriptor ((zTf ci).2.1 b).2.2.1 = some ty ∧ narrow ty (zcv g.1 v) = zcv g.1 v ∧ fits ty (zcv g.1 v) = true := by
        have hty2 : (match parseFieldDescriptor ((zTf ci).2.1 b).2.2.1 with
          | some (.array _) => true
          | some (.object _) => true
          | _ => false) = true := hty
        split at hty2
        · rename_i t hq
          refine ⟨_, hq, ?_⟩
          cases v <;> first | exact ⟨rfl, rfl⟩ | cases hv
        · rename_i t hq
          refine ⟨_, hq, ?_⟩
          cases v <;> first | exact ⟨rfl, rfl⟩ | cases hv
        · cases hty2
      obtain ⟨ty, hp, h1, h2⟩ := hfit
      have hzv : zdec (zenc v) = v := by
        cases v with
        | ref o1 => exact zenc_dec (by simpa [zrefs] using hv)
        | null => rfl
        | _ => cases hv
      exact zs_putc (v := v) (x := zenc v) (fl := fl) (f := 1) cx hd hnx hl hfin2 hp h1 h2 hzk hf ho (by
        have : zup σ o b (zenc v) o b = zenc v := by simp [zup, zput, upd]
        simp only [zFld, this, hzv]) hr hn h
    · exact h.elim
  · exact h.elim
theorem zs_step {ini : Bool} {ins : Instr} {d2 f2 : Nat} {c2 : Int32} {sw : List (Int32 × Nat)} {vE : Int32} {σE : zS} (cx : zCx p R s m args meth c D g zk mi d n0 nE nL) (hk2 : zKok2 zk) (hini : ini = true → (zY mi).name = "<init>") (hd : decode (zB mi) pc = .ok (ins, nx - pc)) (hz : zeok (zMi mi).1 ini (pc, ins, nx, a, b, d2, f2, c2, sw) = true)
    (hrt : ins = .ireturn → ((zMi mi).2.2 = some .int ∧ d2 = 0) ∨ ((zMi mi).2.2 = some .boolean ∧ d2 = 1)) (hrv : ins = .return_ → (zMi mi).2.2 = none) (hret : meth.sig.returnType = (zMi mi).2.2) (hlocks : meth.locks = false) (hr : zRl D g zk al s nL L st ls n σ H locs) (hn : n0 ≤ n)
    (h : zStep False (zKg p l e R s m args below meth c D g zk al n0 nE nL (MQ below (zPost D g zk al mi vE nE σE) args s (nE - n0) (zsz zk nE - zsz zk n0) (zA g))) (fun v n σ => v = vE ∧ n = nE ∧ σ = σE) (zCg l D g zk al d) zk al (pc, ins, nx, a, b, d2, f2, c2, sw) L st n σ) :
    W p l e R s m args below meth c H locs (n - n0) (zsz zk n - zsz zk n0) (MQ below (zPost D g zk al mi vE nE σE) args s (nE - n0) (zsz zk nE - zsz zk n0) (zA g)) (F0 m pc ls (st.map (zcv g.1))) := by
  have hst := hr.2.2.2.2.1
  have hL := hr.2.2.1
  have hx := cx.1
  have hb := cx.2.1
  have hown := cx.2.2.2.1
  have hts := cx.2.2.2.2.1
  have hR : R = zrm zk d n0 nE := cx.2.2.2.2.2.2.2.2.2.1
  have hz0 := hz
  cases ins
  all_goals try (exact h.elim)
  all_goals (simp only [zStep] at h; try simp only [zeok, Bool.and_eq_true, beq_iff_eq, decide_eq_true_eq] at hz)
  case aaload => subst hz; rw [Nat.add_sub_cancel_left] at hd; exact zs_aldq cx hd rfl hr hn h
  case aastore => subst hz; rw [Nat.add_sub_cancel_left] at hd; exact zs_astq cx hd rfl hr hn h
  case aconst_null => subst hz; rw [Nat.add_sub_cancel_left] at hd; exact lv_null hx hb hd (zs_k hr hn (zs_c1_cons rfl hst) h)
  case aload k =>
    obtain ⟨rfl, rfl⟩ := hz
    rw [Nat.add_sub_cancel_left] at hd
    unfold zAld at h
    split at h
    · rename_i o ho
      exact lv_aload hx hb hd (zLr_get hL ho rfl) (zs_k hr hn (zs_c1_cons rfl hst) h)
    · rename_i ho
      exact lv_aloadN hx hb hd (zLr_get hL ho rfl) (zs_k hr hn (zs_c1_cons rfl hst) h)
    · exact h.elim
  case aload_n k =>
    obtain ⟨hk, rfl⟩ := hz
    rw [Nat.add_sub_cancel_left] at hd
    unfold zAld at h
    split at h
    · rename_i o ho
      exact lv_aload_n hx hb hd hk (zLr_get hL ho rfl) (zs_k hr hn (zs_c1_cons rfl hst) h)
    · rename_i ho
      exact lv_aload_nN hx hb hd hk (zLr_get hL ho rfl) (zs_k hr hn (zs_c1_cons rfl hst) h)
    · exact h.elim
  case anewarray k =>
    obtain ⟨rfl, hl⟩ := hz
    rw [Nat.add_sub_cancel_left] at hd
    exact zs_newq cx hk2 hd rfl hl hr hn h
  case arraylength => subst hz; rw [Nat.add_sub_cancel_left] at hd; exact zs_len cx hd rfl hr hn h
  case astore k =>
    obtain ⟨rfl, rfl⟩ := hz
    rw [Nat.add_sub_cancel_left] at hd
    unfold zAst at h
    obtain ⟨lv, h1, h2⟩ := id hL
    split at h
    · split at h
      · rename_i ha
        exact lv_astore hx hb hd h1 ha rfl (fun ls' hl' => zs_kl hr hn (zs_c1_tail hst) (zLr_set (v := .ref _) ha h2 hl') (by rw [List.length_set]) h)
      · exact h.elim
    · split at h
      · rename_i ha
        exact lv_astoreN hx hb hd h1 ha rfl (fun ls' hl' => zs_kl hr hn (zs_c1_tail hst) (zLr_set (v := .null) ha h2 hl') (by rw [List.length_set]) h)
      · exact h.elim
    · exact h.elim
  case astore_n k =>
    obtain ⟨hk, rfl⟩ := hz
    rw [Nat.add_sub_cancel_left] at hd
    unfold zAst at h
    obtain ⟨lv, h1, h2⟩ := id hL
    split at h
    · split at h
      · rename_i ha
        exact lv_astore_n hx hb hd hk h1 ha rfl (fun ls' hl' => zs_kl hr hn (zs_c1_tail hst) (zLr_set (v := .ref _) ha h2 hl') (by rw [List.length_set]) h)
      · exact h.elim
    · split at h
      · rename_i ha
        exact lv_astore_nN hx hb hd hk h1 ha rfl (fun ls' hl' => zs_kl hr hn (zs_c1_tail hst) (zLr_set (v := .null) ha h2 hl') (by rw [List.length_set]) h)
      · exact h.elim
    · exact h.elim
  case baload => subst hz; rw [Nat.add_sub_cancel_left] at hd; exact zs_bald cx hd rfl hr hn h
  case bastore => subst hz; rw [Nat.add_sub_cancel_left] at hd; exact zs_bast cx hd rfl hr hn h
  case bipush k =>
    obtain ⟨hk, rfl⟩ := hz
    rw [Nat.add_sub_cancel_left] at hd
    exact lv_bipush hx hb hd hk (zs_k hr hn (zs_c1_cons rfl hst) h)
  case dup =>
    subst hz; rw [Nat.add_sub_cancel_left] at hd
    unfold zDup at h
    split at h
    · split at h
      · rename_i v r hv
        exact lv_dup hx hb hd (zc1_cat hv) (zs_k hr hn (zs_c1_cons hv hst) h)
      · exact h.elim
    · exact h.elim
  case dup_x1 =>
    subst hz; rw [Nat.add_sub_cancel_left] at hd
    unfold zDupX at h
    split at h
    · split at h
      · rename_i v w r hv
        simp only [Bool.and_eq_true] at hv
        exact lv_dup_x1 hx hb hd (zc1_cat hv.1) (zc1_cat hv.2) (zs_k hr hn (zs_c1_cons hv.1 (zs_c1_cons hv.2 (zs_c1_cons hv.1 (zs_c1_tail (zs_c1_tail hst))))) h)
      · exact h.elim
    · exact h.elim
  case dup2 =>
    subst hz; rw [Nat.add_sub_cancel_left] at hd
    unfold zDup2 at h
    split at h
    · split at h
      · rename_i v w r hv
        simp only [Bool.and_eq_true] at hv
        exact lv_dup2_11 hx hb hd (zc1_cat hv.1) (zc1_cat hv.2) (zs_k hr hn (zs_c1_cons hv.1 (zs_c1_cons hv.2 hst)) h)
      · exact h.elim
    · exact h.elim
  case getfield k =>
    obtain ⟨hl, rfl⟩ := hz
    rw [Nat.add_sub_cancel_left] at hd
    exact zs_get cx hd rfl hl hr hn h
  case goto o =>
    obtain ⟨ho, rfl⟩ := hz
    rw [Nat.add_sub_cancel_left] at hd
    exact lv_goto hx hb hd ho (zs_k hr hn hst h)
  case i2b =>
    subst hz; rw [Nat.add_sub_cancel_left] at hd
    unfold zUn at h
    split at h
    · exact lv_i2b hx hb hd rfl (zs_k hr hn (zs_c1_cons rfl (zs_c1_tail hst)) h)
    · exact h.elim
  case i2s =>
    subst hz; rw [Nat.add_sub_cancel_left] at hd
    unfold zUn at h
    split at h
    · exact lv_i2s hx hb hd rfl (zs_k hr hn (zs_c1_cons rfl (zs_c1_tail hst)) h)
    · exact h.elim
  case ineg =>
    subst hz; rw [Nat.add_sub_cancel_left] at hd
    unfold zUn at h
    split at h
    · exact lv_ineg hx hb hd (zs_k hr hn (zs_c1_cons rfl (zs_c1_tail hst)) h)
    · exact h.elim
  case iadd =>
    subst hz; rw [Nat.add_sub_cancel_left] at hd
    unfold zBin at h
    split at h
    · exact lv_iadd hx hb hd (zs_k hr hn (zs_c1_cons rfl (zs_c1_tail (zs_c1_tail hst))) h)
    · exact h.elim
  case isub =>
    subst hz; rw [Nat.add_sub_cancel_left] at hd
    unfold zBin at h
    split at h
    · exact lv_isub hx hb hd (zs_k hr hn (zs_c1_cons rfl (zs_c1_tail (zs_c1_tail hst))) h)
    · exact h.elim
  case imul =>
    subst hz; rw [Nat.add_sub_cancel_left] at hd
    unfold zBin at h
    split at h
    · exact lv_imul hx hb hd (zs_k hr hn (zs_c1_cons rfl (zs_c1_tail (zs_c1_tail hst))) h)
    · exact h.elim
  case iand =>
    subst hz; rw [Nat.add_sub_cancel_left] at hd
    unfold zBin at h
    split at h
    · exact lv_iand hx hb hd (zs_k hr hn (zs_c1_cons rfl (zs_c1_tail (zs_c1_tail hst))) h)
    · exact h.elim
  case ior =>
    subst hz; rw [Nat.add_sub_cancel_left] at hd
    unfold zBin at h
    split at h
    · exact lv_ior hx hb hd (zs_k hr hn (zs_c1_cons rfl (zs_c1_tail (zs_c1_tail hst))) h)
    · exact h.elim
  case ixor =>
    subst hz; rw [Nat.add_sub_cancel_left] at hd
    unfold zBin at h
    split at h
    · exact lv_ixor hx hb hd (zs_k hr hn (zs_c1_cons rfl (zs_c1_tail (zs_c1_tail hst))) h)
    · exact h.elim
  case ishl =>
    subst hz; rw [Nat.add_sub_cancel_left] at hd
    unfold zBin at h
    split at h
    · exact lv_ishl hx hb hd (zs_k hr hn (zs_c1_cons rfl (zs_c1_tail (zs_c1_tail hst))) h)
    · exact h.elim
  case ishr =>
    subst hz; rw [Nat.add_sub_cancel_left] at hd
    unfold zBin at h
    split at h
    · exact lv_ishr hx hb hd (zs_k hr hn (zs_c1_cons rfl (zs_c1_tail (zs_c1_tail hst))) h)
    · exact h.elim
  case idiv =>
    subst hz; rw [Nat.add_sub_cancel_left] at hd
    unfold zDiv at h
    split at h
    · split at h
      · exact h.elim
      · rename_i hy
        exact lv_idiv hx hb hd hy (zs_k hr hn (zs_c1_cons rfl (zs_c1_tail (zs_c1_tail hst))) h)
    · exact h.elim
  case irem =>
    subst hz; rw [Nat.add_sub_cancel_left] at hd
    unfold zDiv at h
    split at h
    · split at h
      · exact h.elim
      · rename_i hy
        exact lv_irem hx hb hd hy (zs_k hr hn (zs_c1_cons rfl (zs_c1_tail (zs_c1_tail hst))) h)
    · exact h.elim
  case iushr =>
    subst hz; rw [Nat.add_sub_cancel_left] at hd
    unfold zBin at h
    split at h
    · exact lv_iushr hx hb hd rfl (zs_k hr hn (zs_c1_cons rfl (zs_c1_tail (zs_c1_tail hst))) h)
    · exact h.elim
  case iaload => subst hz; rw [Nat.add_sub_cancel_left] at hd; exact zs_iald cx hd rfl hr hn h
  case iastore => subst hz; rw [Nat.add_sub_cancel_left] at hd; exact zs_iast cx hd rfl hr hn h
  case iconst k =>
    obtain ⟨hk, rfl⟩ := hz
    rw [Nat.add_sub_cancel_left] at hd
    exact lv_iconst hx hb hd hk (zs_k hr hn (zs_c1_cons rfl hst) h)
  case if_icmp cd o =>
    obtain ⟨ho, rfl⟩ := hz
    rw [Nat.add_sub_cancel_left] at hd
    exact zs_if2 hx hb hd rfl ho hr hn h
  case ifCond cd o =>
    obtain ⟨ho, rfl⟩ := hz
    rw [Nat.add_sub_cancel_left] at hd
    exact zs_if hx hb hd rfl ho hr hn h
  case ifnonnull o =>
    obtain ⟨ho, rfl⟩ := hz
    rw [Nat.add_sub_cancel_left] at hd
    unfold zNul at h
    split at h
    · exact lv_ifnonnullN hx hb hd (zs_k hr hn (zs_c1_tail hst) h)
    · exact lv_ifnonnull hx hb hd ho (zs_k hr hn (zs_c1_tail hst) h)
    · exact h.elim
  case ifnull o =>
    obtain ⟨ho, rfl⟩ := hz
    rw [Nat.add_sub_cancel_left] at hd
    unfold zNul at h
    split at h
    · exact lv_ifnullN hx hb hd ho (zs_k hr hn (zs_c1_tail hst) h)
    · exact lv_ifnull hx hb hd (zs_k hr hn (zs_c1_tail hst) h)
    · exact h.elim
  case iinc k v =>
    obtain ⟨⟨rfl, hv⟩, rfl⟩ := hz
    rw [Nat.add_sub_cancel_left] at hd
    unfold zInc at h
    split at h
    · rename_i x hxx
      obtain ⟨lv, h1, h2⟩ := id hL
      obtain ⟨k2, hk3⟩ := List.getElem?_of_mem (h2 _ _ hxx rfl)
      have ha : k < L.length := (List.getElem?_eq_some_iff.mp hxx).1
      exact lv_iinc hx hb hd h1 hk3 (by rw [hv]) ha rfl (fun ls' hl' => zs_kl hr hn hst (zLr_set (v := .int _) ha h2 hl') (by rw [List.length_set]) h)
    · exact h.elim
  case iload k =>
    obtain ⟨rfl, rfl⟩ := hz
    rw [Nat.add_sub_cancel_left] at hd
    unfold zIld at h
    split at h
    · rename_i x hxx
      exact lv_iload hx hb hd (zLr_get hL hxx rfl) (zs_k hr hn (zs_c1_cons rfl hst) h)
    · exact h.elim
  case iload_n k =>
    obtain ⟨hk, rfl⟩ := hz
    rw [Nat.add_sub_cancel_left] at hd
    unfold zIld at h
    split at h
    · rename_i x hxx
      exact lv_iload_n hx hb hd hk (zLr_get hL hxx rfl) (zs_k hr hn (zs_c1_cons rfl hst) h)
    · exact h.elim
  case istore k =>
    obtain ⟨rfl, rfl⟩ := hz
    rw [Nat.add_sub_cancel_left] at hd
    unfold zIst at h
    obtain ⟨lv, h1, h2⟩ := id hL
    split at h
    · split at h
      · rename_i ha
        exact lv_istore hx hb hd h1 ha rfl (fun ls' hl' => zs_kl hr hn (zs_c1_tail hst) (zLr_set (v := .int _) ha h2 hl') (by rw [List.length_set]) h)
      · exact h.elim
    · exact h.elim
  case istore_n k =>
    obtain ⟨hk, rfl⟩ := hz
    rw [Nat.add_sub_cancel_left] at hd
    unfold zIst at h
    obtain ⟨lv, h1, h2⟩ := id hL
    split at h
    · split at h
      · rename_i ha
        exact lv_istore_n hx hb hd hk h1 ha rfl (fun ls' hl' => zs_kl hr hn (zs_c1_tail hst) (zLr_set (v := .int _) ha h2 hl') (by rw [List.length_set]) h)
      · exact h.elim
    · exact h.elim
  case invokespecial k =>
    split at h
    · rename_i hd6
      subst hd6
      simp at hz
      obtain ⟨rfl, hl⟩ := hz
      rw [Nat.add_sub_cancel_left] at hd
      unfold zObj at h
      split at h
      · rename_i o r
        split at h
        · rename_i hc
          simp only [Bool.and_eq_true, Nat.blt_eq, Nat.ble_eq] at hc
          have hsize : ls.size = c.maxLocals := by obtain ⟨lv, q, -⟩ := hL; rw [q.1, hr.2.2.2.1, cx.2.2.1]
          refine W.objInit hx hb hown (hts _ (zbig_t (zOB_ok _ hl) rfl)) (hts _ (zbig_t (w := .instanceMethod Lib.objectInit) (by decide +kernel) rfl)) (hts _ (zbig_t (w := .code Lib.objectInit ⟨#[0xb1]⟩ 1 none) (by decide +kernel) rfl)) rfl hsize rfl hd (by rw [hR]; exact Nat.le_add_left _ _) (by
            rw [hR, Nat.add_assoc]
            have := lv_room (m := m) (pc := pc) (ls := ls) (rest := (Value.ref o :: r).map (zcv g.1)) (st := r.map (zcv g.1)) (by rw [zs_sum g.1 r (zs_c1_tail hst)]; exact hc.2)
            show _ ≤ 40 * (d + 1)
            omega) (zs_k hr hn (zs_c1_tail hst) h)
        · exact h.elim
      · exact h.elim
    · rename_i hd6
      split at h
      · exact h.elim
      rename_i hd9
      simp [hd9, hd6] at hz
      obtain ⟨rfl, ⟨⟨⟨⟨⟨hl, hkd⟩, hin9⟩, hb9⟩, hf9⟩, hrn⟩, hbm⟩ := hz
      rw [Nat.add_sub_cancel_left] at hd
      exact zs_spec cx hd rfl hl hkd hin9 hb9 hf9 hrn hbm hr hn h
  case invokestatic k =>
    split at h
    · rename_i hd5
      subst hd5
      simp at hz
      obtain ⟨rfl, hl⟩ := hz
      rw [Nat.add_sub_cancel_left] at hd
      exact zs_copy cx hd rfl hl hr hn h
    · rename_i hd5
      simp [hd5] at hz
      obtain ⟨rfl, ⟨⟨⟨⟨hl, hkd⟩, hst9⟩, hb9⟩, hf9⟩, hbm⟩ := hz
      rw [Nat.add_sub_cancel_left] at hd
      exact zs_static cx hd rfl hl hkd hst9 hb9 hf9 hbm hr hn h
  case invokevirtual k =>
    simp at hz
    obtain ⟨⟨⟨⟨⟨⟨rfl, hl⟩, rfl⟩, hvi⟩, hb9⟩, hf9⟩, hbm⟩ := hz
    rw [Nat.add_sub_cancel_left] at hd
    exact zs_virt cx hd rfl hl hvi hb9 hf9 hbm hr hn h
  case ireturn =>
    subst hz; rw [Nat.add_sub_cancel_left] at hd
    unfold zRet at h
    split at h
    · rename_i v
      have hfin : (v = vE ∧ n = nE ∧ σ = σE) ∧ ∃ ty, (zMi mi).2.2 = some ty ∧ narrow ty (.int v) = .int v := by
        rcases hrt rfl with ⟨q1, q2⟩ | ⟨q1, q2⟩
        · rw [if_pos q2] at h
          exact ⟨h, _, q1, rfl⟩
        · subst q2
          rw [if_neg (by decide)] at h
          split at h
          · rename_i hv
            exact ⟨h, _, q1, by show Value.int (v &&& 1) = _; rw [hv]⟩
          · exact h.elim
      obtain ⟨⟨rfl, rfl, rfl⟩, ty, hty, hnr⟩ := hfin
      obtain ⟨hP, hS, -, -, -, hal⟩ := hr
      refine W.zret hx hb (hret.trans hty) hnr (fun t ht hw => ?_) hS.2.2 hd hlocks
      unfold zPost
      rw [hty]
      exact ⟨⟨v, (), rfl, rfl, by rw [← ht] at hP; exact hP, by rw [ht]; exact hal⟩, hS.F ht⟩
    · exact h.elim
  case return_ =>
    subst hz; rw [Nat.add_sub_cancel_left] at hd
    unfold zRetv at h
    split at h
    · obtain ⟨rfl, rfl, rfl⟩ := h
      obtain ⟨hP, hS, -, -, -, hal⟩ := hr
      refine W.vret hx hb (hret.trans (hrv rfl)) (fun t ht hw => ?_) hS.2.2 hd hlocks
      unfold zPost
      rw [hrv rfl]
      exact ⟨⟨(), rfl, trivial, by rw [← ht] at hP; exact hP, by rw [ht]; exact hal⟩, hS.F ht⟩
    · exact h.elim
  case ldc k =>
    split at h
    · rename_i hd0
      subst hd0
      simp at hz
      obtain ⟨rfl, hl⟩ := hz
      rw [Nat.add_sub_cancel_left] at hd
      exact lv_ldc hx hb hown (hts _ (zbig_t (zKN_ok _ hl) rfl)) hd (zs_k hr hn (zs_c1_cons rfl hst) h)
    · exact h.elim
  case ldc_w k =>
    split at h
    · rename_i hd0
      subst hd0
      simp at hz
      obtain ⟨rfl, hl⟩ := hz
      rw [Nat.add_sub_cancel_left] at hd
      exact lv_ldcw hx hb hown (hts _ (zbig_t (zKN_ok _ hl) rfl)) hd (zs_k hr hn (zs_c1_cons rfl hst) h)
    · exact h.elim
  case lookupswitch df ps =>
    obtain ⟨⟨ha, hk⟩, hs⟩ := hz
    unfold zSw at h
    split at h
    · rename_i x r
      obtain ⟨t, e1, e2⟩ := zLkok_run ha _ _ hk h
      exact lv_lookup hx hb hd hs rfl e1 (zs_k hr hn (zs_c1_tail hst) e2)
    · exact h.elim
  case tableswitch df lo hi os =>
    obtain ⟨⟨ha, hk⟩, hs⟩ := hz
    unfold zSw at h
    split at h
    · rename_i x r
      rcases zSwok_run _ _ _ hk h with ⟨i, o, t, e1, e2, e3, e4⟩ | ⟨e1, e2⟩
      · have hi2 : i < os.size := by
          have := (List.getElem?_eq_some_iff.mp e1).1
          simpa using this
        refine lv_tableIn hx hb hd (by omega) (by omega) (off := o) (tgt := t) ?_ e3 (zs_k hr hn (zs_c1_tail hst) e4)
        rw [show (x.toInt - lo).toNat = i by omega]
        rw [← Array.getElem?_toList]
        exact e1
      · refine lv_tableOut hx hb hd ?_ ha (zs_k hr hn (zs_c1_tail hst) e2)
        simp at e1
        omega
    · exact h.elim
  case new k =>
    split at h
    · rename_i hd0
      subst hd0
      simp at hz
      obtain ⟨rfl, hl⟩ := hz
      rw [Nat.add_sub_cancel_left] at hd
      exact zs_new cx hd rfl hl hr hn h
    · exact h.elim
  case newarray t =>
    obtain ⟨rfl, ht⟩ := hz
    rw [Nat.add_sub_cancel_left] at hd
    refine zs_newa cx hk2 hd rfl ?_ hr hn h
    cases t <;> simp at ht <;> simp [ht]
  case pop =>
    subst hz; rw [Nat.add_sub_cancel_left] at hd
    unfold zPop at h
    split at h
    · split at h
      · rename_i v r hv
        exact lv_pop hx hb hd (zc1_cat hv) (zs_k hr hn (zs_c1_tail hst) h)
      · exact h.elim
    · exact h.elim
  case putfield k =>
    exact zs_put cx hini hd hz0 hr hn h
  case sipush k =>
    obtain ⟨hk, rfl⟩ := hz
    rw [Nat.add_sub_cancel_left] at hd
    exact lv_sipush hx hb hd hk (zs_k hr hn (zs_c1_cons rfl hst) h)
end ZSOUND5
end
section
/-! a run of the small machine is a contract of the large one -/
theorem zSwc_n {n nE : Nat} {a : Nat} {ls st : List Value} {σ : zS} {x : Int32} : ∀ sw, zSwc (fun _ _ _ n' _ => n' ≤ nE) a ls st n σ x sw → n ≤ nE := by
  intro sw
  induction sw with
  | nil => exact fun h => h
  | cons q r ih =>
    obtain ⟨v, t⟩ := q
    intro h
    unfold zSwc at h
    split at h
    · exact h
    · exact ih h
theorem zStep_n {n nE : Nat} {zk : zKd} {al : Bool} {e : zE} {ls st : List Value} {σ : zS} (h : zStep False (fun _ _ _ n' _ => n' ≤ nE) (fun _ n' _ => n' ≤ nE) (fun _ _ n' _ kk => ∃ v n'' σ'', n' ≤ n'' ∧ kk v n'' σ'') zk al e ls st n σ) : n ≤ nE := by
  obtain ⟨pc, ins, nx, a, b, d, f, c, sw⟩ := e
  have hgo : zGo False (fun _ _ _ n' _ => n' ≤ nE) (fun _ _ n' _ kk => ∃ v n'' σ'', n' ≤ n'' ∧ kk v n'' σ'') a b f nx ls st n σ → n ≤ nE := by
    intro h
    unfold zGo at h
    split at h
    · obtain ⟨v, n'', σ'', h1, h2⟩ := h
      exact Nat.le_trans h1 h2
    · exact h.elim
  have hcd : ∀ c x y, zCnd c x y (n ≤ nE) (n ≤ nE) → n ≤ nE := by
    intro c x y h
    unfold zCnd at h
    split at h <;> split at h <;> exact h
  cases ins
  all_goals try (exact h.elim)
  all_goals try (exact h)
  all_goals simp only [zStep] at h
  all_goals first
    | (simp only [zBin, zDiv, zUn, zIld, zAld, zIst, zAst, zInc, zNul, zDup, zPop, zDup2, zDupX, zGet, zAld1, zAst1, zAst2, zAldq, zAstq, zLen, zRet, zRetv] at h
       repeat' split at h
       all_goals first | exact h.elim | exact h)
    | (simp only [zNewa] at h
       repeat' split at h
       all_goals first | exact h.elim | omega)
    | (simp only [zIf, zIf2] at h
       repeat' split at h
       all_goals first | exact h.elim | exact hcd _ _ _ h)
    | (simp only [zSw] at h
       split at h
       · exact zSwc_n _ h
       · exact h.elim)
    | (simp only [zVirt] at h
       repeat' split at h
       all_goals first | exact h.elim | exact hgo h)
    | (simp only [zPut, zPutI] at h
       repeat' split at h
       all_goals first | exact h.elim | exact h)
    | (simp only [zCopy] at h
       repeat' split at h
       all_goals first | exact h.elim | exact h | exact hgo h)
    | (simp only [zObj, zSpec] at h
       repeat' split at h
       all_goals first | exact h.elim | exact h | exact hgo h)
    | (simp only [zNew] at h
       repeat' split at h
       all_goals first | exact h.elim | omega | exact h)
    | (repeat' split at h
       all_goals first | exact h.elim | exact h)
theorem zAt_mem {pc : Nat} {e : zE} : ∀ (l : List zE), zAt l pc = some e → e ∈ l ∧ e.1 = pc := by
  intro l
  induction l with
  | nil => intro h; cases h
  | cons a r ih =>
    intro h
    unfold zAt at h
    split at h
    · rename_i hq
      cases h
      exact ⟨List.mem_cons_self, Nat.eq_of_beq_eq_true hq⟩
    · exact ⟨List.mem_cons_of_mem _ (ih h).1, (ih h).2⟩
/-- nothing that was made goes -/
theorem zrunI_n {zk : zKd} {al : Bool} {cal : Nat → Nat → List Value → Nat → zS → Option (Int32 × Nat × zS)} {code : List zE} (hc : ∀ k mi as n σ v n' σ', cal k mi as n σ = some (v, n', σ') → n ≤ n') {vE : Int32} {nE : Nat} {σE : zS} : ∀ k pc ls st n σ, zrunI zk al cal code k pc ls st n σ = some (vE, nE, σE) → n ≤ nE := by
  intro k
  induction k with
  | zero => intro pc ls st n σ h; cases h
  | succ k ih =>
    intro pc ls st n σ h
    unfold zrunI at h
    split at h
    · cases h
    · rename_i e he
      refine zStep_n (zStep_rel (fun (x : Option (Int32 × Nat × zS)) (P : Prop) => x = some (vE, nE, σE) → P) ?_ ?_ ?_ ?_ zk al e ls st n σ h)
      · intro q; cases q
      · intro pc ls st n σ q; exact ih _ _ _ _ _ q
      · intro v n σ q; cases q; exact Nat.le_refl _
      · intro mi as n σ k1 k2 hk q
        split at q
        · cases q
        · rename_i v n' σ' hq
          exact ⟨v, n', σ', hc _ _ _ _ _ _ _ _ hq, hk _ _ _ q⟩
def zcal (zk : zKd) (al : Bool) : Nat → Nat → Nat → List Value → Nat → zS → Option (Int32 × Nat × zS)
  | 0 => fun _ _ _ _ _ => none
  | d + 1 => zrun zk al d
theorem zrun_eq (zk : zKd) (al : Bool) (d k mi : Nat) (as : List Value) (n : Nat) (σ : zS) : zrun zk al d k mi as n σ = zrunI zk al (zcal zk al d) (zCode mi) k 0 (zloc mi as) [] n σ := by
  cases d <;> rfl
theorem zcal_n (zk : zKd) (al : Bool) : ∀ d k mi as n σ v n' σ', zcal zk al d k mi as n σ = some (v, n', σ') → n ≤ n' := by
  intro d
  induction d with
  | zero => intro k mi as n σ v n' σ' h; cases h
  | succ d ih =>
    intro k mi as n σ v n' σ' h
    have h2 : zrun zk al d k mi as n σ = some (v, n', σ') := h
    rw [zrun_eq] at h2
    exact zrunI_n ih _ _ _ _ _ _ h2
section ZSOUND6
variable {l : Launch} {D : va_G} {g : zG} {zk : zKd} {al : Bool}
theorem zrunI_sound {d mi : Nat} (hkk : zKok zk) (hk2 : zKok2 zk) (hmi : mi < 274) {cal : Nat → Nat → List Value → Nat → zS → Option (Int32 × Nat × zS)} (hcn : ∀ k mi as n σ v n' σ', cal k mi as n σ = some (v, n', σ') → n ≤ n')
    (hcal : ∀ k mi as n σ v n' σ', cal k mi as n σ = some (v, n', σ') → 0 < d ∧ ((∀ w ∈ as, zc1 w = true) → as.length ≤ (zMi mi).2.1 → mi < 274 → ZMet l D g zk al (d - 1) mi as n σ v n' σ'))
    {k0 : Nat} {as : List Value} {n : Nat} {σ : zS} {vE : Int32} {nE : Nat} {σE : zS} (has : ∀ w ∈ as, zc1 w = true) (hlen : as.length ≤ (zMi mi).2.1) (hrun : zrunI zk al cal (zCode mi) k0 0 (zloc mi as) [] n σ = some (vE, nE, σE)) : ZMet l D g zk al d mi as n σ vE nE σE := by
  obtain ⟨hpf, -, -, -, -⟩ := zMok_all mi (List.mem_range.mpr hmi)
  refine va_MetF (ws := zws mi) (ws' := zbig) (cc := zB mi) (maxL := (zMi mi).2.1) (ret := (zMi mi).2.2) hpf rfl ?_
  intro p e s m args below meth c s₁ B hml hv
  obtain ⟨rfl, hg0, hP, hK, hnst, hao, hal⟩ := hv
  have hts0 := atoms_spec (ws := zws mi) B.pre
  have hts : ∀ w ∈ zbig, w.before ((as.map (zcv g.1)).toArray) s = true := fun w hw => hts0 w (List.mem_cons_of_mem _ hw)
  have hown : s.vm.findClass (zCs (zMi mi).1) = some m.cls := by
    have h1 := findClass_of_methodNamed B.named
    obtain ⟨-, h2, -, -, -⟩ := zMok_all mi (List.mem_range.mpr hmi)
    rwa [h2] at h1
  have hnm : meth.name = (zY mi).name := (name_of_methodNamed B.named B.method).1
  have hnE : n ≤ nE := zrunI_n hcn _ _ _ _ _ _ hrun
  have cx : zCx p (zrm zk d n nE) s m ((as.map (zcv g.1)).toArray) meth c D g zk mi d n nE (zMi mi).2.1 := ⟨B.exec, B.bytes, hml, hown, hts, hnm, hK, hnst, hao, rfl, hkk, hg0, hmi⟩
  have hGd := zGd_all hmi
  have hRt : (zCode mi).all (fun e => match e.2.1 with
    | .ireturn => decide (((zMi mi).2.2 = some .int ∧ e.2.2.2.2.2.1 = 0) ∨ ((zMi mi).2.2 = some .boolean ∧ e.2.2.2.2.2.1 = 1))
    | .return_ => decide ((zMi mi).2.2 = none)
    | _ => true) = true := List.all_eq_true.mp zRt_ok mi (List.mem_range.mpr hmi)
  have walk : ∀ k pc L st n1 σ1 H locs ls, zrunI zk al cal (zCode mi) k pc L st n1 σ1 = some (vE, nE, σE) → n ≤ n1 → zRl D g zk al s (zMi mi).2.1 L st ls n1 σ1 H locs → W p l e (zrm zk d n nE) s m ((as.map (zcv g.1)).toArray) below meth c H locs (n1 - n) (zsz zk n1 - zsz zk n) (MQ below (zPost D g zk al mi vE nE σE) ((as.map (zcv g.1)).toArray) s (nE - n) (zsz zk nE - zsz zk n) (zA g)) (F0 m pc ls (st.map (zcv g.1))) := by
    intro k
    induction k with
    | zero => intro pc L st n1 σ1 H locs ls h; cases h
    | succ k ih =>
      intro pc L st n1 σ1 H locs ls h hn hr
      unfold zrunI at h
      split at h
      · cases h
      · rename_i en he
        obtain ⟨hmem, hpc⟩ := zAt_mem _ he
        have hd1 := List.all_eq_true.mp hGd.1 en hmem
        have hz1 := List.all_eq_true.mp hGd.2 en hmem
        have hr1 := List.all_eq_true.mp hRt en hmem
        obtain ⟨pc', ins, nx, a, b, d2, f2, c2, sw⟩ := en
        dsimp only at hpc hd1 hr1
        subst hpc
        simp only [Bool.and_eq_true, decide_eq_true_eq] at hd1
        refine zs_step cx hk2 (fun q => of_decide_eq_true q) hd1.1 hz1 ?_ ?_ B.returns B.notSynchronized hr hn (zStep_rel (fun (x : Option (Int32 × Nat × zS)) (P : Prop) => x = some (vE, nE, σE) → P) ?_ ?_ ?_ ?_ zk al _ L st n1 σ1 h)
        · rintro rfl
          exact of_decide_eq_true hr1
        · rintro rfl
          exact of_decide_eq_true hr1
        · intro q; cases q
        · intro pc L st n2 σ2 q hn2
          exact ⟨zrunI_n hcn _ _ _ _ _ _ q, fun H locs ls hr => ih _ _ _ _ _ _ _ _ q hn2 hr⟩
        · intro v n2 σ2 q; cases q; exact ⟨rfl, rfl, rfl⟩
        · intro mi2 as2 n2 σ2 k1 k2 hk q
          split at q
          · cases q
          · rename_i v n3 σ3 hq
            obtain ⟨q1, q2⟩ := hcal _ _ _ _ _ _ _ _ hq
            exact ⟨q1, v, n3, σ3, hcn _ _ _ _ _ _ _ _ hq, q2, hk _ _ _ q⟩
  rw [lg_entry_eq]
  have hw := walk k0 0 (zloc mi as) [] n σ s.heap [] _ hrun (Nat.le_refl n) ⟨hP, va_S.rf, zLr_entry has hlen, by unfold zloc; simp; omega, fun v hv => (List.not_mem_nil hv).elim, hal⟩
  rw [Nat.sub_self, Nat.sub_self] at hw
  exact hw
theorem zrun_sound (hkk : zKok zk) (hk2 : zKok2 zk) : ∀ d k mi as n σ v n' σ', mi < 274 → (∀ w ∈ as, zc1 w = true) → as.length ≤ (zMi mi).2.1 → zrun zk al d k mi as n σ = some (v, n', σ') → ZMet l D g zk al d mi as n σ v n' σ' := by
  intro d
  induction d with
  | zero =>
    intro k mi as n σ v n' σ' hmi has hlen h
    rw [zrun_eq] at h
    exact zrunI_sound hkk hk2 hmi (zcal_n zk al 0) (fun k mi as n σ v n' σ' q => by cases q) has hlen h
  | succ d ih =>
    intro k mi as n σ v n' σ' hmi has hlen h
    rw [zrun_eq] at h
    exact zrunI_sound hkk hk2 hmi (zcal_n zk al (d + 1)) (fun k mi as n σ v n' σ' q => ⟨Nat.succ_pos d, fun h1 h2 h3 => ih k mi as n σ v n' σ' h3 h1 h2 q⟩) has hlen h
end ZSOUND6
end
