section
-- ===== PART A: goes FIRST, ahead of the names: the tables' words, and 'selects' of the private methods out of them =====
/-- a private method of a class that the tables say can be made, by its rows of tables_1 -/
def lw_okq (q : MethodName × Nat) : Prop := (q.1.cls ≠ "java/lang/invoke/MethodHandle" ∧ q.1.cls ≠ "java/lang/invoke/VarHandle") ∧ Cond.instantiable q.1.cls q.2 ∈ tables_1 ∧ Cond.privateMethod q.1 ∈ tables_1 ∧ Cond.instanceMethod q.1 ∈ tables_1
theorem lw_p0 : lw_okq (⟨"CircleFlips$Points", "gapTo", "(II)I"⟩, 3) := ⟨⟨by decide +kernel, by decide +kernel⟩, List.mem_of_getElem? (i := 60) (by decide +kernel), List.mem_of_getElem? (i := 267) (by decide +kernel), List.mem_of_getElem? (i := 268) (by decide +kernel)⟩
theorem lw_p1 : lw_okq (⟨"CircleFlips", "pastOf", "(I)LCircleFlips$Plane;"⟩, 7) := ⟨⟨by decide +kernel, by decide +kernel⟩, List.mem_of_getElem? (i := 26) (by decide +kernel), List.mem_of_getElem? (i := 301) (by decide +kernel), List.mem_of_getElem? (i := 302) (by decide +kernel)⟩
theorem lw_p2 : lw_okq (⟨"CircleFlips$Hull", "peel", "(LCircleFlips$Points;I)I"⟩, 4) := ⟨⟨by decide +kernel, by decide +kernel⟩, List.mem_of_getElem? (i := 156) (by decide +kernel), List.mem_of_getElem? (i := 336) (by decide +kernel), List.mem_of_getElem? (i := 337) (by decide +kernel)⟩
theorem lw_p3 : lw_okq (⟨"java/lang/Throwable", "fillInStackTrace", "(I)Ljava/lang/Throwable;"⟩, 6) := ⟨⟨by decide +kernel, by decide +kernel⟩, List.mem_of_getElem? (i := 408) (by decide +kernel), List.mem_of_getElem? (i := 406) (by decide +kernel), List.mem_of_getElem? (i := 407) (by decide +kernel)⟩
theorem lw_p4 : lw_okq (⟨"CircleFlips$Plane", "isBad", "(II)Z"⟩, 5) := ⟨⟨by decide +kernel, by decide +kernel⟩, List.mem_of_getElem? (i := 54) (by decide +kernel), List.mem_of_getElem? (i := 439) (by decide +kernel), List.mem_of_getElem? (i := 440) (by decide +kernel)⟩
theorem lw_p5 : lw_okq (⟨"CircleFlips", "needPoint", "(I)V"⟩, 7) := ⟨⟨by decide +kernel, by decide +kernel⟩, List.mem_of_getElem? (i := 26) (by decide +kernel), List.mem_of_getElem? (i := 476) (by decide +kernel), List.mem_of_getElem? (i := 477) (by decide +kernel)⟩
theorem lw_p6 : lw_okq (⟨"CircleFlips", "withTriangles", "(JZ)J"⟩, 7) := ⟨⟨by decide +kernel, by decide +kernel⟩, List.mem_of_getElem? (i := 26) (by decide +kernel), List.mem_of_getElem? (i := 512) (by decide +kernel), List.mem_of_getElem? (i := 513) (by decide +kernel)⟩
theorem lw_p7 : lw_okq (⟨"CircleFlips", "needTriangle", "(LCircleFlips$Mesh;I)V"⟩, 7) := ⟨⟨by decide +kernel, by decide +kernel⟩, List.mem_of_getElem? (i := 26) (by decide +kernel), List.mem_of_getElem? (i := 520) (by decide +kernel), List.mem_of_getElem? (i := 521) (by decide +kernel)⟩
theorem lw_p8 : lw_okq (⟨"CircleFlips$Setup", "begin", "(I)V"⟩, 11) := ⟨⟨by decide +kernel, by decide +kernel⟩, List.mem_of_getElem? (i := 34) (by decide +kernel), List.mem_of_getElem? (i := 550) (by decide +kernel), List.mem_of_getElem? (i := 551) (by decide +kernel)⟩
theorem lw_p9 : lw_okq (⟨"CircleFlips$Setup", "advance", "()V"⟩, 11) := ⟨⟨by decide +kernel, by decide +kernel⟩, List.mem_of_getElem? (i := 34) (by decide +kernel), List.mem_of_getElem? (i := 570) (by decide +kernel), List.mem_of_getElem? (i := 571) (by decide +kernel)⟩
theorem lw_p10 : lw_okq (⟨"CircleFlips$Setup", "readNumber", "()V"⟩, 11) := ⟨⟨by decide +kernel, by decide +kernel⟩, List.mem_of_getElem? (i := 34) (by decide +kernel), List.mem_of_getElem? (i := 578) (by decide +kernel), List.mem_of_getElem? (i := 579) (by decide +kernel)⟩
theorem lw_p11 : lw_okq (⟨"CircleFlips$Setup", "readWord", "()V"⟩, 11) := ⟨⟨by decide +kernel, by decide +kernel⟩, List.mem_of_getElem? (i := 34) (by decide +kernel), List.mem_of_getElem? (i := 586) (by decide +kernel), List.mem_of_getElem? (i := 587) (by decide +kernel)⟩
theorem lw_p12 : lw_okq (⟨"CircleFlips$Setup", "isWord", "(Ljava/lang/String;)Z"⟩, 11) := ⟨⟨by decide +kernel, by decide +kernel⟩, List.mem_of_getElem? (i := 34) (by decide +kernel), List.mem_of_getElem? (i := 591) (by decide +kernel), List.mem_of_getElem? (i := 592) (by decide +kernel)⟩
theorem lw_p13 : lw_okq (⟨"CircleFlips$Setup", "need", "(I)V"⟩, 11) := ⟨⟨by decide +kernel, by decide +kernel⟩, List.mem_of_getElem? (i := 34) (by decide +kernel), List.mem_of_getElem? (i := 645) (by decide +kernel), List.mem_of_getElem? (i := 646) (by decide +kernel)⟩
theorem lw_p14 : lw_okq (⟨"CircleFlips$Setup", "fail", "(I)V"⟩, 11) := ⟨⟨by decide +kernel, by decide +kernel⟩, List.mem_of_getElem? (i := 34) (by decide +kernel), List.mem_of_getElem? (i := 649) (by decide +kernel), List.mem_of_getElem? (i := 650) (by decide +kernel)⟩
theorem lw_p15 : lw_okq (⟨"CircleFlips$Setup", "readPlaces", "()V"⟩, 11) := ⟨⟨by decide +kernel, by decide +kernel⟩, List.mem_of_getElem? (i := 34) (by decide +kernel), List.mem_of_getElem? (i := 653) (by decide +kernel), List.mem_of_getElem? (i := 654) (by decide +kernel)⟩
def lw_privs_1 : List (MethodName × Nat) := [(⟨"CircleFlips$Points", "gapTo", "(II)I"⟩, 3), (⟨"CircleFlips", "pastOf", "(I)LCircleFlips$Plane;"⟩, 7), (⟨"CircleFlips$Hull", "peel", "(LCircleFlips$Points;I)I"⟩, 4), (⟨"java/lang/Throwable", "fillInStackTrace", "(I)Ljava/lang/Throwable;"⟩, 6), (⟨"CircleFlips$Plane", "isBad", "(II)Z"⟩, 5), (⟨"CircleFlips", "needPoint", "(I)V"⟩, 7), (⟨"CircleFlips", "withTriangles", "(JZ)J"⟩, 7), (⟨"CircleFlips", "needTriangle", "(LCircleFlips$Mesh;I)V"⟩, 7), (⟨"CircleFlips$Setup", "begin", "(I)V"⟩, 11), (⟨"CircleFlips$Setup", "advance", "()V"⟩, 11), (⟨"CircleFlips$Setup", "readNumber", "()V"⟩, 11), (⟨"CircleFlips$Setup", "readWord", "()V"⟩, 11), (⟨"CircleFlips$Setup", "isWord", "(Ljava/lang/String;)Z"⟩, 11), (⟨"CircleFlips$Setup", "need", "(I)V"⟩, 11), (⟨"CircleFlips$Setup", "fail", "(I)V"⟩, 11), (⟨"CircleFlips$Setup", "readPlaces", "()V"⟩, 11)]
theorem lw_r1 : ∀ q ∈ lw_privs_1, lw_okq q := List.forall_mem_cons.mpr ⟨lw_p0, List.forall_mem_cons.mpr ⟨lw_p1, List.forall_mem_cons.mpr ⟨lw_p2, List.forall_mem_cons.mpr ⟨lw_p3, List.forall_mem_cons.mpr ⟨lw_p4, List.forall_mem_cons.mpr ⟨lw_p5, List.forall_mem_cons.mpr ⟨lw_p6, List.forall_mem_cons.mpr ⟨lw_p7, List.forall_mem_cons.mpr ⟨lw_p8, List.forall_mem_cons.mpr ⟨lw_p9, List.forall_mem_cons.mpr ⟨lw_p10, List.forall_mem_cons.mpr ⟨lw_p11, List.forall_mem_cons.mpr ⟨lw_p12, List.forall_mem_cons.mpr ⟨lw_p13, List.forall_mem_cons.mpr ⟨lw_p14, List.forall_mem_cons.mpr ⟨lw_p15, fun _ h => absurd h List.not_mem_nil⟩⟩⟩⟩⟩⟩⟩⟩⟩⟩⟩⟩⟩⟩⟩⟩
theorem lw_p16 : lw_okq (⟨"CircleFlips$Setup", "needNumber", "(I)V"⟩, 11) := ⟨⟨by decide +kernel, by decide +kernel⟩, List.mem_of_getElem? (i := 34) (by decide +kernel), List.mem_of_getElem? (i := 657) (by decide +kernel), List.mem_of_getElem? (i := 658) (by decide +kernel)⟩
theorem lw_p17 : lw_okq (⟨"CircleFlips$Setup", "draw", "()V"⟩, 11) := ⟨⟨by decide +kernel, by decide +kernel⟩, List.mem_of_getElem? (i := 34) (by decide +kernel), List.mem_of_getElem? (i := 675) (by decide +kernel), List.mem_of_getElem? (i := 676) (by decide +kernel)⟩
theorem lw_p18 : lw_okq (⟨"CircleFlips$Plane", "isDue", "(III)Z"⟩, 5) := ⟨⟨by decide +kernel, by decide +kernel⟩, List.mem_of_getElem? (i := 54) (by decide +kernel), List.mem_of_getElem? (i := 683) (by decide +kernel), List.mem_of_getElem? (i := 684) (by decide +kernel)⟩
theorem lw_p19 : lw_okq (⟨"CircleFlips$Mesh", "placeOf", "(I)I"⟩, 3) := ⟨⟨by decide +kernel, by decide +kernel⟩, List.mem_of_getElem? (i := 78) (by decide +kernel), List.mem_of_getElem? (i := 696) (by decide +kernel), List.mem_of_getElem? (i := 697) (by decide +kernel)⟩
theorem lw_p20 : lw_okq (⟨"CircleFlips$Mesh", "changeEdge", "(III)V"⟩, 3) := ⟨⟨by decide +kernel, by decide +kernel⟩, List.mem_of_getElem? (i := 78) (by decide +kernel), List.mem_of_getElem? (i := 706) (by decide +kernel), List.mem_of_getElem? (i := 707) (by decide +kernel)⟩
theorem lw_p21 : lw_okq (⟨"CircleFlips$Setup", "readFlip", "()V"⟩, 11) := ⟨⟨by decide +kernel, by decide +kernel⟩, List.mem_of_getElem? (i := 34) (by decide +kernel), List.mem_of_getElem? (i := 711) (by decide +kernel), List.mem_of_getElem? (i := 712) (by decide +kernel)⟩
theorem lw_p22 : lw_okq (⟨"CircleFlips", "remember", "()V"⟩, 7) := ⟨⟨by decide +kernel, by decide +kernel⟩, List.mem_of_getElem? (i := 26) (by decide +kernel), List.mem_of_getElem? (i := 731) (by decide +kernel), List.mem_of_getElem? (i := 732) (by decide +kernel)⟩
theorem lw_p23 : lw_okq (⟨"CircleFlips", "needAsked", "(II)V"⟩, 7) := ⟨⟨by decide +kernel, by decide +kernel⟩, List.mem_of_getElem? (i := 26) (by decide +kernel), List.mem_of_getElem? (i := 800) (by decide +kernel), List.mem_of_getElem? (i := 801) (by decide +kernel)⟩
theorem lw_p24 : lw_okq (⟨"CircleFlips$Points", "turnTo", "(IIII)I"⟩, 3) := ⟨⟨by decide +kernel, by decide +kernel⟩, List.mem_of_getElem? (i := 60) (by decide +kernel), List.mem_of_getElem? (i := 808) (by decide +kernel), List.mem_of_getElem? (i := 809) (by decide +kernel)⟩
theorem lw_p25 : lw_okq (⟨"CircleFlips", "needPlace", "(II)V"⟩, 7) := ⟨⟨by decide +kernel, by decide +kernel⟩, List.mem_of_getElem? (i := 26) (by decide +kernel), List.mem_of_getElem? (i := 859) (by decide +kernel), List.mem_of_getElem? (i := 860) (by decide +kernel)⟩
theorem lw_p26 : lw_okq (⟨"CircleFlips", "pointsChanged", "()V"⟩, 7) := ⟨⟨by decide +kernel, by decide +kernel⟩, List.mem_of_getElem? (i := 26) (by decide +kernel), List.mem_of_getElem? (i := 880) (by decide +kernel), List.mem_of_getElem? (i := 881) (by decide +kernel)⟩
theorem lw_p27 : lw_okq (⟨"CircleFlips$Mesh", "holds", "(I)Z"⟩, 3) := ⟨⟨by decide +kernel, by decide +kernel⟩, List.mem_of_getElem? (i := 78) (by decide +kernel), List.mem_of_getElem? (i := 910) (by decide +kernel), List.mem_of_getElem? (i := 911) (by decide +kernel)⟩
theorem lw_p28 : lw_okq (⟨"CircleFlipsModel", "four", "(I)V"⟩, 19) := ⟨⟨by decide +kernel, by decide +kernel⟩, List.mem_of_getElem? (i := 929) (by decide +kernel), List.mem_of_getElem? (i := 1001) (by decide +kernel), List.mem_of_getElem? (i := 1002) (by decide +kernel)⟩
theorem lw_p29 : lw_okq (⟨"CircleFlipsModel", "right", "(ZI)Z"⟩, 19) := ⟨⟨by decide +kernel, by decide +kernel⟩, List.mem_of_getElem? (i := 929) (by decide +kernel), List.mem_of_getElem? (i := 1016) (by decide +kernel), List.mem_of_getElem? (i := 1017) (by decide +kernel)⟩
theorem lw_p30 : lw_okq (⟨"CircleFlipsModel", "get", "(I)I"⟩, 19) := ⟨⟨by decide +kernel, by decide +kernel⟩, List.mem_of_getElem? (i := 929) (by decide +kernel), List.mem_of_getElem? (i := 1020) (by decide +kernel), List.mem_of_getElem? (i := 1021) (by decide +kernel)⟩
theorem lw_p31 : lw_okq (⟨"CircleFlipsModel", "readsText", "()Z"⟩, 19) := ⟨⟨by decide +kernel, by decide +kernel⟩, List.mem_of_getElem? (i := 929) (by decide +kernel), List.mem_of_getElem? (i := 1024) (by decide +kernel), List.mem_of_getElem? (i := 1025) (by decide +kernel)⟩
def lw_privs_2 : List (MethodName × Nat) := [(⟨"CircleFlips$Setup", "needNumber", "(I)V"⟩, 11), (⟨"CircleFlips$Setup", "draw", "()V"⟩, 11), (⟨"CircleFlips$Plane", "isDue", "(III)Z"⟩, 5), (⟨"CircleFlips$Mesh", "placeOf", "(I)I"⟩, 3), (⟨"CircleFlips$Mesh", "changeEdge", "(III)V"⟩, 3), (⟨"CircleFlips$Setup", "readFlip", "()V"⟩, 11), (⟨"CircleFlips", "remember", "()V"⟩, 7), (⟨"CircleFlips", "needAsked", "(II)V"⟩, 7), (⟨"CircleFlips$Points", "turnTo", "(IIII)I"⟩, 3), (⟨"CircleFlips", "needPlace", "(II)V"⟩, 7), (⟨"CircleFlips", "pointsChanged", "()V"⟩, 7), (⟨"CircleFlips$Mesh", "holds", "(I)Z"⟩, 3), (⟨"CircleFlipsModel", "four", "(I)V"⟩, 19), (⟨"CircleFlipsModel", "right", "(ZI)Z"⟩, 19), (⟨"CircleFlipsModel", "get", "(I)I"⟩, 19), (⟨"CircleFlipsModel", "readsText", "()Z"⟩, 19)]
theorem lw_r2 : ∀ q ∈ lw_privs_2, lw_okq q := List.forall_mem_cons.mpr ⟨lw_p16, List.forall_mem_cons.mpr ⟨lw_p17, List.forall_mem_cons.mpr ⟨lw_p18, List.forall_mem_cons.mpr ⟨lw_p19, List.forall_mem_cons.mpr ⟨lw_p20, List.forall_mem_cons.mpr ⟨lw_p21, List.forall_mem_cons.mpr ⟨lw_p22, List.forall_mem_cons.mpr ⟨lw_p23, List.forall_mem_cons.mpr ⟨lw_p24, List.forall_mem_cons.mpr ⟨lw_p25, List.forall_mem_cons.mpr ⟨lw_p26, List.forall_mem_cons.mpr ⟨lw_p27, List.forall_mem_cons.mpr ⟨lw_p28, List.forall_mem_cons.mpr ⟨lw_p29, List.forall_mem_cons.mpr ⟨lw_p30, List.forall_mem_cons.mpr ⟨lw_p31, fun _ h => absurd h List.not_mem_nil⟩⟩⟩⟩⟩⟩⟩⟩⟩⟩⟩⟩⟩⟩⟩⟩
theorem lw_p32 : lw_okq (⟨"CircleFlipsModel", "takes", "(Ljava/lang/String;)Z"⟩, 19) := ⟨⟨by decide +kernel, by decide +kernel⟩, List.mem_of_getElem? (i := 929) (by decide +kernel), List.mem_of_getElem? (i := 1029) (by decide +kernel), List.mem_of_getElem? (i := 1030) (by decide +kernel)⟩
theorem lw_p33 : lw_okq (⟨"CircleFlipsModel", "here", "()I"⟩, 19) := ⟨⟨by decide +kernel, by decide +kernel⟩, List.mem_of_getElem? (i := 929) (by decide +kernel), List.mem_of_getElem? (i := 1033) (by decide +kernel), List.mem_of_getElem? (i := 1034) (by decide +kernel)⟩
theorem lw_p34 : lw_okq (⟨"CircleFlipsModel", "fails", "(II)Z"⟩, 19) := ⟨⟨by decide +kernel, by decide +kernel⟩, List.mem_of_getElem? (i := 929) (by decide +kernel), List.mem_of_getElem? (i := 1042) (by decide +kernel), List.mem_of_getElem? (i := 1043) (by decide +kernel)⟩
theorem lw_p35 : lw_okq (⟨"CircleFlipsModel", "put0", "(II)V"⟩, 19) := ⟨⟨by decide +kernel, by decide +kernel⟩, List.mem_of_getElem? (i := 929) (by decide +kernel), List.mem_of_getElem? (i := 1046) (by decide +kernel), List.mem_of_getElem? (i := 1047) (by decide +kernel)⟩
theorem lw_p36 : lw_okq (⟨"CircleFlipsModel", "sign", "(I)Z"⟩, 19) := ⟨⟨by decide +kernel, by decide +kernel⟩, List.mem_of_getElem? (i := 929) (by decide +kernel), List.mem_of_getElem? (i := 1050) (by decide +kernel), List.mem_of_getElem? (i := 1051) (by decide +kernel)⟩
theorem lw_p37 : lw_okq (⟨"CircleFlipsModel", "readsPoints", "(I)Z"⟩, 19) := ⟨⟨by decide +kernel, by decide +kernel⟩, List.mem_of_getElem? (i := 929) (by decide +kernel), List.mem_of_getElem? (i := 1055) (by decide +kernel), List.mem_of_getElem? (i := 1056) (by decide +kernel)⟩
theorem lw_p38 : lw_okq (⟨"CircleFlipsModel", "reads", "(II)Z"⟩, 19) := ⟨⟨by decide +kernel, by decide +kernel⟩, List.mem_of_getElem? (i := 929) (by decide +kernel), List.mem_of_getElem? (i := 1059) (by decide +kernel), List.mem_of_getElem? (i := 1060) (by decide +kernel)⟩
theorem lw_p39 : lw_okq (⟨"CircleFlipsModel", "points", "()I"⟩, 19) := ⟨⟨by decide +kernel, by decide +kernel⟩, List.mem_of_getElem? (i := 929) (by decide +kernel), List.mem_of_getElem? (i := 1067) (by decide +kernel), List.mem_of_getElem? (i := 1068) (by decide +kernel)⟩
theorem lw_p40 : lw_okq (⟨"CircleFlipsModel", "pointAt", "(II)I"⟩, 19) := ⟨⟨by decide +kernel, by decide +kernel⟩, List.mem_of_getElem? (i := 929) (by decide +kernel), List.mem_of_getElem? (i := 1071) (by decide +kernel), List.mem_of_getElem? (i := 1072) (by decide +kernel)⟩
theorem lw_p41 : lw_okq (⟨"CircleFlipsModel", "x", "(I)I"⟩, 19) := ⟨⟨by decide +kernel, by decide +kernel⟩, List.mem_of_getElem? (i := 929) (by decide +kernel), List.mem_of_getElem? (i := 1075) (by decide +kernel), List.mem_of_getElem? (i := 1076) (by decide +kernel)⟩
theorem lw_p42 : lw_okq (⟨"CircleFlipsModel", "y", "(I)I"⟩, 19) := ⟨⟨by decide +kernel, by decide +kernel⟩, List.mem_of_getElem? (i := 929) (by decide +kernel), List.mem_of_getElem? (i := 1079) (by decide +kernel), List.mem_of_getElem? (i := 1080) (by decide +kernel)⟩
theorem lw_p43 : lw_okq (⟨"CircleFlipsModel", "readsFlip", "()Z"⟩, 19) := ⟨⟨by decide +kernel, by decide +kernel⟩, List.mem_of_getElem? (i := 929) (by decide +kernel), List.mem_of_getElem? (i := 1084) (by decide +kernel), List.mem_of_getElem? (i := 1085) (by decide +kernel)⟩
theorem lw_p44 : lw_okq (⟨"CircleFlipsModel", "drawsAnew", "()V"⟩, 19) := ⟨⟨by decide +kernel, by decide +kernel⟩, List.mem_of_getElem? (i := 929) (by decide +kernel), List.mem_of_getElem? (i := 1088) (by decide +kernel), List.mem_of_getElem? (i := 1089) (by decide +kernel)⟩
theorem lw_p45 : lw_okq (⟨"CircleFlipsModel", "laysDue", "()V"⟩, 19) := ⟨⟨by decide +kernel, by decide +kernel⟩, List.mem_of_getElem? (i := 929) (by decide +kernel), List.mem_of_getElem? (i := 1092) (by decide +kernel), List.mem_of_getElem? (i := 1093) (by decide +kernel)⟩
theorem lw_p46 : lw_okq (⟨"CircleFlipsModel", "isLaid", "()Z"⟩, 19) := ⟨⟨by decide +kernel, by decide +kernel⟩, List.mem_of_getElem? (i := 929) (by decide +kernel), List.mem_of_getElem? (i := 1096) (by decide +kernel), List.mem_of_getElem? (i := 1097) (by decide +kernel)⟩
theorem lw_p47 : lw_okq (⟨"CircleFlipsModel", "isDue", "(III)Z"⟩, 19) := ⟨⟨by decide +kernel, by decide +kernel⟩, List.mem_of_getElem? (i := 929) (by decide +kernel), List.mem_of_getElem? (i := 1100) (by decide +kernel), List.mem_of_getElem? (i := 1101) (by decide +kernel)⟩
def lw_privs_3 : List (MethodName × Nat) := [(⟨"CircleFlipsModel", "takes", "(Ljava/lang/String;)Z"⟩, 19), (⟨"CircleFlipsModel", "here", "()I"⟩, 19), (⟨"CircleFlipsModel", "fails", "(II)Z"⟩, 19), (⟨"CircleFlipsModel", "put0", "(II)V"⟩, 19), (⟨"CircleFlipsModel", "sign", "(I)Z"⟩, 19), (⟨"CircleFlipsModel", "readsPoints", "(I)Z"⟩, 19), (⟨"CircleFlipsModel", "reads", "(II)Z"⟩, 19), (⟨"CircleFlipsModel", "points", "()I"⟩, 19), (⟨"CircleFlipsModel", "pointAt", "(II)I"⟩, 19), (⟨"CircleFlipsModel", "x", "(I)I"⟩, 19), (⟨"CircleFlipsModel", "y", "(I)I"⟩, 19), (⟨"CircleFlipsModel", "readsFlip", "()Z"⟩, 19), (⟨"CircleFlipsModel", "drawsAnew", "()V"⟩, 19), (⟨"CircleFlipsModel", "laysDue", "()V"⟩, 19), (⟨"CircleFlipsModel", "isLaid", "()Z"⟩, 19), (⟨"CircleFlipsModel", "isDue", "(III)Z"⟩, 19)]
theorem lw_r3 : ∀ q ∈ lw_privs_3, lw_okq q := List.forall_mem_cons.mpr ⟨lw_p32, List.forall_mem_cons.mpr ⟨lw_p33, List.forall_mem_cons.mpr ⟨lw_p34, List.forall_mem_cons.mpr ⟨lw_p35, List.forall_mem_cons.mpr ⟨lw_p36, List.forall_mem_cons.mpr ⟨lw_p37, List.forall_mem_cons.mpr ⟨lw_p38, List.forall_mem_cons.mpr ⟨lw_p39, List.forall_mem_cons.mpr ⟨lw_p40, List.forall_mem_cons.mpr ⟨lw_p41, List.forall_mem_cons.mpr ⟨lw_p42, List.forall_mem_cons.mpr ⟨lw_p43, List.forall_mem_cons.mpr ⟨lw_p44, List.forall_mem_cons.mpr ⟨lw_p45, List.forall_mem_cons.mpr ⟨lw_p46, List.forall_mem_cons.mpr ⟨lw_p47, fun _ h => absurd h List.not_mem_nil⟩⟩⟩⟩⟩⟩⟩⟩⟩⟩⟩⟩⟩⟩⟩⟩
theorem lw_p48 : lw_okq (⟨"CircleFlipsModel", "turn", "(III)J"⟩, 19) := ⟨⟨by decide +kernel, by decide +kernel⟩, List.mem_of_getElem? (i := 929) (by decide +kernel), List.mem_of_getElem? (i := 1104) (by decide +kernel), List.mem_of_getElem? (i := 1105) (by decide +kernel)⟩
theorem lw_p49 : lw_okq (⟨"CircleFlipsModel", "circleBy", "(IIII)I"⟩, 19) := ⟨⟨by decide +kernel, by decide +kernel⟩, List.mem_of_getElem? (i := 929) (by decide +kernel), List.mem_of_getElem? (i := 1111) (by decide +kernel), List.mem_of_getElem? (i := 1112) (by decide +kernel)⟩
theorem lw_p50 : lw_okq (⟨"CircleFlipsModel", "circleOf", "(IIIJJ)I"⟩, 19) := ⟨⟨by decide +kernel, by decide +kernel⟩, List.mem_of_getElem? (i := 929) (by decide +kernel), List.mem_of_getElem? (i := 1115) (by decide +kernel), List.mem_of_getElem? (i := 1116) (by decide +kernel)⟩
theorem lw_p51 : lw_okq (⟨"CircleFlipsModel", "adds", "(III)V"⟩, 19) := ⟨⟨by decide +kernel, by decide +kernel⟩, List.mem_of_getElem? (i := 929) (by decide +kernel), List.mem_of_getElem? (i := 1122) (by decide +kernel), List.mem_of_getElem? (i := 1123) (by decide +kernel)⟩
theorem lw_p52 : lw_okq (⟨"CircleFlipsModel", "whyNot", "(II)I"⟩, 19) := ⟨⟨by decide +kernel, by decide +kernel⟩, List.mem_of_getElem? (i := 929) (by decide +kernel), List.mem_of_getElem? (i := 1126) (by decide +kernel), List.mem_of_getElem? (i := 1127) (by decide +kernel)⟩
theorem lw_p53 : lw_okq (⟨"CircleFlipsModel", "edgeMany", "(ZII)I"⟩, 19) := ⟨⟨by decide +kernel, by decide +kernel⟩, List.mem_of_getElem? (i := 929) (by decide +kernel), List.mem_of_getElem? (i := 1130) (by decide +kernel), List.mem_of_getElem? (i := 1131) (by decide +kernel)⟩
theorem lw_p54 : lw_okq (⟨"CircleFlipsModel", "many", "(Z)I"⟩, 19) := ⟨⟨by decide +kernel, by decide +kernel⟩, List.mem_of_getElem? (i := 929) (by decide +kernel), List.mem_of_getElem? (i := 1134) (by decide +kernel), List.mem_of_getElem? (i := 1135) (by decide +kernel)⟩
theorem lw_p55 : lw_okq (⟨"CircleFlipsModel", "has", "(ZII)Z"⟩, 19) := ⟨⟨by decide +kernel, by decide +kernel⟩, List.mem_of_getElem? (i := 929) (by decide +kernel), List.mem_of_getElem? (i := 1138) (by decide +kernel), List.mem_of_getElem? (i := 1139) (by decide +kernel)⟩
theorem lw_p56 : lw_okq (⟨"CircleFlipsModel", "endOf", "(ZII)I"⟩, 19) := ⟨⟨by decide +kernel, by decide +kernel⟩, List.mem_of_getElem? (i := 929) (by decide +kernel), List.mem_of_getElem? (i := 1142) (by decide +kernel), List.mem_of_getElem? (i := 1143) (by decide +kernel)⟩
theorem lw_p57 : lw_okq (⟨"CircleFlipsModel", "third", "(III)I"⟩, 19) := ⟨⟨by decide +kernel, by decide +kernel⟩, List.mem_of_getElem? (i := 929) (by decide +kernel), List.mem_of_getElem? (i := 1146) (by decide +kernel), List.mem_of_getElem? (i := 1147) (by decide +kernel)⟩
theorem lw_p58 : lw_okq (⟨"CircleFlipsModel", "flips", "(II)I"⟩, 19) := ⟨⟨by decide +kernel, by decide +kernel⟩, List.mem_of_getElem? (i := 929) (by decide +kernel), List.mem_of_getElem? (i := 1150) (by decide +kernel), List.mem_of_getElem? (i := 1151) (by decide +kernel)⟩
theorem lw_p59 : lw_okq (⟨"CircleFlipsModel", "triangleWith", "(III)I"⟩, 19) := ⟨⟨by decide +kernel, by decide +kernel⟩, List.mem_of_getElem? (i := 929) (by decide +kernel), List.mem_of_getElem? (i := 1154) (by decide +kernel), List.mem_of_getElem? (i := 1155) (by decide +kernel)⟩
theorem lw_p60 : lw_okq (⟨"CircleFlipsModel", "becomes", "(IIII)V"⟩, 19) := ⟨⟨by decide +kernel, by decide +kernel⟩, List.mem_of_getElem? (i := 929) (by decide +kernel), List.mem_of_getElem? (i := 1158) (by decide +kernel), List.mem_of_getElem? (i := 1159) (by decide +kernel)⟩
theorem lw_p61 : lw_okq (⟨"CircleFlipsModel", "lays3", "(IIII)V"⟩, 19) := ⟨⟨by decide +kernel, by decide +kernel⟩, List.mem_of_getElem? (i := 929) (by decide +kernel), List.mem_of_getElem? (i := 1164) (by decide +kernel), List.mem_of_getElem? (i := 1165) (by decide +kernel)⟩
theorem lw_p62 : lw_okq (⟨"CircleFlipsModel", "isBefore", "(II)Z"⟩, 19) := ⟨⟨by decide +kernel, by decide +kernel⟩, List.mem_of_getElem? (i := 929) (by decide +kernel), List.mem_of_getElem? (i := 1168) (by decide +kernel), List.mem_of_getElem? (i := 1169) (by decide +kernel)⟩
theorem lw_p63 : lw_okq (⟨"CircleFlipsModel", "codeOf", "(I)I"⟩, 19) := ⟨⟨by decide +kernel, by decide +kernel⟩, List.mem_of_getElem? (i := 929) (by decide +kernel), List.mem_of_getElem? (i := 1172) (by decide +kernel), List.mem_of_getElem? (i := 1173) (by decide +kernel)⟩
def lw_privs_4 : List (MethodName × Nat) := [(⟨"CircleFlipsModel", "turn", "(III)J"⟩, 19), (⟨"CircleFlipsModel", "circleBy", "(IIII)I"⟩, 19), (⟨"CircleFlipsModel", "circleOf", "(IIIJJ)I"⟩, 19), (⟨"CircleFlipsModel", "adds", "(III)V"⟩, 19), (⟨"CircleFlipsModel", "whyNot", "(II)I"⟩, 19), (⟨"CircleFlipsModel", "edgeMany", "(ZII)I"⟩, 19), (⟨"CircleFlipsModel", "many", "(Z)I"⟩, 19), (⟨"CircleFlipsModel", "has", "(ZII)Z"⟩, 19), (⟨"CircleFlipsModel", "endOf", "(ZII)I"⟩, 19), (⟨"CircleFlipsModel", "third", "(III)I"⟩, 19), (⟨"CircleFlipsModel", "flips", "(II)I"⟩, 19), (⟨"CircleFlipsModel", "triangleWith", "(III)I"⟩, 19), (⟨"CircleFlipsModel", "becomes", "(IIII)V"⟩, 19), (⟨"CircleFlipsModel", "lays3", "(IIII)V"⟩, 19), (⟨"CircleFlipsModel", "isBefore", "(II)Z"⟩, 19), (⟨"CircleFlipsModel", "codeOf", "(I)I"⟩, 19)]
theorem lw_r4 : ∀ q ∈ lw_privs_4, lw_okq q := List.forall_mem_cons.mpr ⟨lw_p48, List.forall_mem_cons.mpr ⟨lw_p49, List.forall_mem_cons.mpr ⟨lw_p50, List.forall_mem_cons.mpr ⟨lw_p51, List.forall_mem_cons.mpr ⟨lw_p52, List.forall_mem_cons.mpr ⟨lw_p53, List.forall_mem_cons.mpr ⟨lw_p54, List.forall_mem_cons.mpr ⟨lw_p55, List.forall_mem_cons.mpr ⟨lw_p56, List.forall_mem_cons.mpr ⟨lw_p57, List.forall_mem_cons.mpr ⟨lw_p58, List.forall_mem_cons.mpr ⟨lw_p59, List.forall_mem_cons.mpr ⟨lw_p60, List.forall_mem_cons.mpr ⟨lw_p61, List.forall_mem_cons.mpr ⟨lw_p62, List.forall_mem_cons.mpr ⟨lw_p63, fun _ h => absurd h List.not_mem_nil⟩⟩⟩⟩⟩⟩⟩⟩⟩⟩⟩⟩⟩⟩⟩⟩
theorem lw_p64 : lw_okq (⟨"CircleFlipsModel", "swaps", "(II)V"⟩, 19) := ⟨⟨by decide +kernel, by decide +kernel⟩, List.mem_of_getElem? (i := 929) (by decide +kernel), List.mem_of_getElem? (i := 1176) (by decide +kernel), List.mem_of_getElem? (i := 1177) (by decide +kernel)⟩
theorem lw_p65 : lw_okq (⟨"CircleFlipsModel", "toldOf", "(I)I"⟩, 19) := ⟨⟨by decide +kernel, by decide +kernel⟩, List.mem_of_getElem? (i := 929) (by decide +kernel), List.mem_of_getElem? (i := 1184) (by decide +kernel), List.mem_of_getElem? (i := 1185) (by decide +kernel)⟩
theorem lw_p66 : lw_okq (⟨"CircleFlipsModel", "edges", "(I)I"⟩, 19) := ⟨⟨by decide +kernel, by decide +kernel⟩, List.mem_of_getElem? (i := 929) (by decide +kernel), List.mem_of_getElem? (i := 1188) (by decide +kernel), List.mem_of_getElem? (i := 1189) (by decide +kernel)⟩
theorem lw_p67 : lw_okq (⟨"CircleFlipsModel", "isBad", "(II)Z"⟩, 19) := ⟨⟨by decide +kernel, by decide +kernel⟩, List.mem_of_getElem? (i := 929) (by decide +kernel), List.mem_of_getElem? (i := 1192) (by decide +kernel), List.mem_of_getElem? (i := 1193) (by decide +kernel)⟩
theorem lw_p68 : lw_okq (⟨"CircleFlipsModel", "cornersOf", "(I)I"⟩, 19) := ⟨⟨by decide +kernel, by decide +kernel⟩, List.mem_of_getElem? (i := 929) (by decide +kernel), List.mem_of_getElem? (i := 1196) (by decide +kernel), List.mem_of_getElem? (i := 1197) (by decide +kernel)⟩
theorem lw_p69 : lw_okq (⟨"CircleFlipsModel", "isCorner", "(II)Z"⟩, 19) := ⟨⟨by decide +kernel, by decide +kernel⟩, List.mem_of_getElem? (i := 929) (by decide +kernel), List.mem_of_getElem? (i := 1203) (by decide +kernel), List.mem_of_getElem? (i := 1204) (by decide +kernel)⟩
theorem lw_p70 : lw_okq (⟨"CircleFlipsModel", "isBetween", "(III)Z"⟩, 19) := ⟨⟨by decide +kernel, by decide +kernel⟩, List.mem_of_getElem? (i := 929) (by decide +kernel), List.mem_of_getElem? (i := 1207) (by decide +kernel), List.mem_of_getElem? (i := 1208) (by decide +kernel)⟩
theorem lw_p71 : lw_okq (⟨"CircleFlipsModel", "isWithin", "(IIII)Z"⟩, 19) := ⟨⟨by decide +kernel, by decide +kernel⟩, List.mem_of_getElem? (i := 929) (by decide +kernel), List.mem_of_getElem? (i := 1211) (by decide +kernel), List.mem_of_getElem? (i := 1212) (by decide +kernel)⟩
theorem lw_p72 : lw_okq (⟨"CircleFlipsModel", "layerOf", "(I)I"⟩, 19) := ⟨⟨by decide +kernel, by decide +kernel⟩, List.mem_of_getElem? (i := 929) (by decide +kernel), List.mem_of_getElem? (i := 1218) (by decide +kernel), List.mem_of_getElem? (i := 1219) (by decide +kernel)⟩
theorem lw_p73 : lw_okq (⟨"CircleFlipsModel", "isPoint", "(I)Z"⟩, 19) := ⟨⟨by decide +kernel, by decide +kernel⟩, List.mem_of_getElem? (i := 929) (by decide +kernel), List.mem_of_getElem? (i := 1226) (by decide +kernel), List.mem_of_getElem? (i := 1227) (by decide +kernel)⟩
theorem lw_p74 : lw_okq (⟨"CircleFlipsModel", "toldOfPoint", "(II)I"⟩, 19) := ⟨⟨by decide +kernel, by decide +kernel⟩, List.mem_of_getElem? (i := 929) (by decide +kernel), List.mem_of_getElem? (i := 1230) (by decide +kernel), List.mem_of_getElem? (i := 1231) (by decide +kernel)⟩
theorem lw_p75 : lw_okq (⟨"CircleFlipsModel", "friends", "(ZI)I"⟩, 19) := ⟨⟨by decide +kernel, by decide +kernel⟩, List.mem_of_getElem? (i := 929) (by decide +kernel), List.mem_of_getElem? (i := 1234) (by decide +kernel), List.mem_of_getElem? (i := 1235) (by decide +kernel)⟩
theorem lw_p76 : lw_okq (⟨"CircleFlipsModel", "nearestTo", "(I)I"⟩, 19) := ⟨⟨by decide +kernel, by decide +kernel⟩, List.mem_of_getElem? (i := 929) (by decide +kernel), List.mem_of_getElem? (i := 1238) (by decide +kernel), List.mem_of_getElem? (i := 1239) (by decide +kernel)⟩
theorem lw_p77 : lw_okq (⟨"CircleFlipsModel", "apart", "(II)J"⟩, 19) := ⟨⟨by decide +kernel, by decide +kernel⟩, List.mem_of_getElem? (i := 929) (by decide +kernel), List.mem_of_getElem? (i := 1242) (by decide +kernel), List.mem_of_getElem? (i := 1243) (by decide +kernel)⟩
theorem lw_p78 : lw_okq (⟨"CircleFlipsModel", "isTriangle", "(IZ)Z"⟩, 19) := ⟨⟨by decide +kernel, by decide +kernel⟩, List.mem_of_getElem? (i := 929) (by decide +kernel), List.mem_of_getElem? (i := 1250) (by decide +kernel), List.mem_of_getElem? (i := 1251) (by decide +kernel)⟩
theorem lw_p79 : lw_okq (⟨"CircleFlipsModel", "toldOfTriangle", "(IZI)I"⟩, 19) := ⟨⟨by decide +kernel, by decide +kernel⟩, List.mem_of_getElem? (i := 929) (by decide +kernel), List.mem_of_getElem? (i := 1254) (by decide +kernel), List.mem_of_getElem? (i := 1255) (by decide +kernel)⟩
def lw_privs_5 : List (MethodName × Nat) := [(⟨"CircleFlipsModel", "swaps", "(II)V"⟩, 19), (⟨"CircleFlipsModel", "toldOf", "(I)I"⟩, 19), (⟨"CircleFlipsModel", "edges", "(I)I"⟩, 19), (⟨"CircleFlipsModel", "isBad", "(II)Z"⟩, 19), (⟨"CircleFlipsModel", "cornersOf", "(I)I"⟩, 19), (⟨"CircleFlipsModel", "isCorner", "(II)Z"⟩, 19), (⟨"CircleFlipsModel", "isBetween", "(III)Z"⟩, 19), (⟨"CircleFlipsModel", "isWithin", "(IIII)Z"⟩, 19), (⟨"CircleFlipsModel", "layerOf", "(I)I"⟩, 19), (⟨"CircleFlipsModel", "isPoint", "(I)Z"⟩, 19), (⟨"CircleFlipsModel", "toldOfPoint", "(II)I"⟩, 19), (⟨"CircleFlipsModel", "friends", "(ZI)I"⟩, 19), (⟨"CircleFlipsModel", "nearestTo", "(I)I"⟩, 19), (⟨"CircleFlipsModel", "apart", "(II)J"⟩, 19), (⟨"CircleFlipsModel", "isTriangle", "(IZ)Z"⟩, 19), (⟨"CircleFlipsModel", "toldOfTriangle", "(IZI)I"⟩, 19)]
theorem lw_r5 : ∀ q ∈ lw_privs_5, lw_okq q := List.forall_mem_cons.mpr ⟨lw_p64, List.forall_mem_cons.mpr ⟨lw_p65, List.forall_mem_cons.mpr ⟨lw_p66, List.forall_mem_cons.mpr ⟨lw_p67, List.forall_mem_cons.mpr ⟨lw_p68, List.forall_mem_cons.mpr ⟨lw_p69, List.forall_mem_cons.mpr ⟨lw_p70, List.forall_mem_cons.mpr ⟨lw_p71, List.forall_mem_cons.mpr ⟨lw_p72, List.forall_mem_cons.mpr ⟨lw_p73, List.forall_mem_cons.mpr ⟨lw_p74, List.forall_mem_cons.mpr ⟨lw_p75, List.forall_mem_cons.mpr ⟨lw_p76, List.forall_mem_cons.mpr ⟨lw_p77, List.forall_mem_cons.mpr ⟨lw_p78, List.forall_mem_cons.mpr ⟨lw_p79, fun _ h => absurd h List.not_mem_nil⟩⟩⟩⟩⟩⟩⟩⟩⟩⟩⟩⟩⟩⟩⟩⟩
theorem lw_p80 : lw_okq (⟨"CircleFlipsModel", "onCircle", "(IIII)I"⟩, 19) := ⟨⟨by decide +kernel, by decide +kernel⟩, List.mem_of_getElem? (i := 929) (by decide +kernel), List.mem_of_getElem? (i := 1261) (by decide +kernel), List.mem_of_getElem? (i := 1262) (by decide +kernel)⟩
theorem lw_p81 : lw_okq (⟨"CircleFlipsModel", "besides", "(IZ)I"⟩, 19) := ⟨⟨by decide +kernel, by decide +kernel⟩, List.mem_of_getElem? (i := 929) (by decide +kernel), List.mem_of_getElem? (i := 1265) (by decide +kernel), List.mem_of_getElem? (i := 1266) (by decide +kernel)⟩
theorem lw_p82 : lw_okq (⟨"CircleFlipsModel", "firstBad", "()I"⟩, 19) := ⟨⟨by decide +kernel, by decide +kernel⟩, List.mem_of_getElem? (i := 929) (by decide +kernel), List.mem_of_getElem? (i := 1281) (by decide +kernel), List.mem_of_getElem? (i := 1282) (by decide +kernel)⟩
theorem lw_p83 : lw_okq (⟨"CircleFlipsModel", "holds", "(III)Z"⟩, 19) := ⟨⟨by decide +kernel, by decide +kernel⟩, List.mem_of_getElem? (i := 929) (by decide +kernel), List.mem_of_getElem? (i := 1289) (by decide +kernel), List.mem_of_getElem? (i := 1290) (by decide +kernel)⟩
theorem lw_p84 : lw_okq (⟨"CircleFlipsModel", "behind", "(II)I"⟩, 19) := ⟨⟨by decide +kernel, by decide +kernel⟩, List.mem_of_getElem? (i := 929) (by decide +kernel), List.mem_of_getElem? (i := 1301) (by decide +kernel), List.mem_of_getElem? (i := 1302) (by decide +kernel)⟩
theorem lw_p85 : lw_okq (⟨"CircleFlipsModel", "liftOf", "()J"⟩, 19) := ⟨⟨by decide +kernel, by decide +kernel⟩, List.mem_of_getElem? (i := 929) (by decide +kernel), List.mem_of_getElem? (i := 1309) (by decide +kernel), List.mem_of_getElem? (i := 1310) (by decide +kernel)⟩
theorem lw_p86 : lw_okq (⟨"CircleFlipsModel", "square", "(I)J"⟩, 19) := ⟨⟨by decide +kernel, by decide +kernel⟩, List.mem_of_getElem? (i := 929) (by decide +kernel), List.mem_of_getElem? (i := 1313) (by decide +kernel), List.mem_of_getElem? (i := 1314) (by decide +kernel)⟩
theorem lw_p87 : lw_okq (⟨"CircleFlipsModel", "treeOf", "()J"⟩, 19) := ⟨⟨by decide +kernel, by decide +kernel⟩, List.mem_of_getElem? (i := 929) (by decide +kernel), List.mem_of_getElem? (i := 1321) (by decide +kernel), List.mem_of_getElem? (i := 1322) (by decide +kernel)⟩
theorem lw_p88 : lw_okq (⟨"CircleFlipsModel", "change", "()V"⟩, 19) := ⟨⟨by decide +kernel, by decide +kernel⟩, List.mem_of_getElem? (i := 929) (by decide +kernel), List.mem_of_getElem? (i := 1352) (by decide +kernel), List.mem_of_getElem? (i := 1353) (by decide +kernel)⟩
theorem lw_p89 : lw_okq (⟨"CircleFlipsModel", "unlike", "(I)I"⟩, 19) := ⟨⟨by decide +kernel, by decide +kernel⟩, List.mem_of_getElem? (i := 929) (by decide +kernel), List.mem_of_getElem? (i := 1364) (by decide +kernel), List.mem_of_getElem? (i := 1365) (by decide +kernel)⟩
def lw_privs_6 : List (MethodName × Nat) := [(⟨"CircleFlipsModel", "onCircle", "(IIII)I"⟩, 19), (⟨"CircleFlipsModel", "besides", "(IZ)I"⟩, 19), (⟨"CircleFlipsModel", "firstBad", "()I"⟩, 19), (⟨"CircleFlipsModel", "holds", "(III)Z"⟩, 19), (⟨"CircleFlipsModel", "behind", "(II)I"⟩, 19), (⟨"CircleFlipsModel", "liftOf", "()J"⟩, 19), (⟨"CircleFlipsModel", "square", "(I)J"⟩, 19), (⟨"CircleFlipsModel", "treeOf", "()J"⟩, 19), (⟨"CircleFlipsModel", "change", "()V"⟩, 19), (⟨"CircleFlipsModel", "unlike", "(I)I"⟩, 19)]
theorem lw_r6 : ∀ q ∈ lw_privs_6, lw_okq q := List.forall_mem_cons.mpr ⟨lw_p80, List.forall_mem_cons.mpr ⟨lw_p81, List.forall_mem_cons.mpr ⟨lw_p82, List.forall_mem_cons.mpr ⟨lw_p83, List.forall_mem_cons.mpr ⟨lw_p84, List.forall_mem_cons.mpr ⟨lw_p85, List.forall_mem_cons.mpr ⟨lw_p86, List.forall_mem_cons.mpr ⟨lw_p87, List.forall_mem_cons.mpr ⟨lw_p88, List.forall_mem_cons.mpr ⟨lw_p89, fun _ h => absurd h List.not_mem_nil⟩⟩⟩⟩⟩⟩⟩⟩⟩⟩
def lw_privs : List (MethodName × Nat) := lw_privs_1 ++ (lw_privs_2 ++ (lw_privs_3 ++ (lw_privs_4 ++ (lw_privs_5 ++ (lw_privs_6)))))
def lw_tbl : List Cond := k2_sels lw_privs ++ tables_1
theorem lw_privs_ok : ∀ q ∈ lw_privs, lw_okq q := by
  show ∀ q ∈ lw_privs_1 ++ (lw_privs_2 ++ (lw_privs_3 ++ (lw_privs_4 ++ (lw_privs_5 ++ (lw_privs_6))))), lw_okq q
  exact List.forall_mem_append.mpr ⟨lw_r1, List.forall_mem_append.mpr ⟨lw_r2, List.forall_mem_append.mpr ⟨lw_r3, List.forall_mem_append.mpr ⟨lw_r4, List.forall_mem_append.mpr ⟨lw_r5, lw_r6⟩⟩⟩⟩⟩
/-- the streams that the claim lets the run draw from -/
abbrev lw_cs : List Choice := [Jvm.Choice.named "NaN.bits"]
theorem lw_bits : nanBits ∈ lw_cs := by first | decide | exact List.mem_cons_self | simp [lw_cs, nanBits]
-- ===== end of PART A; then your names; then what follows =====
/-! ===== BEGIN words of one list among another's, by their places ===== -/
theorem goodIn_r {big : List Cond} (ws : List Cond) (ps : List Nat) (hp : ws = ps.filterMap (fun i => big[i]?)) (h : ws.all goodWord = true) : GoodIn big ws := by
  intro w hw
  have h1 := List.all_eq_true.mp h w hw
  rw [hp] at hw
  obtain ⟨i, -, hi⟩ := List.mem_filterMap.mp hw
  have hm : w ∈ big := by first | exact List.mem_of_getElem? hi | exact List.getElem?_mem hi
  exact ⟨hm, good_of_word h1⟩
theorem goodIn_app {big a b : List Cond} (ha : GoodIn big a) (hb : GoodIn big b) : GoodIn big (a ++ b) := fun w h => (List.mem_append.mp h).elim (ha w) (hb w)
theorem goodIn_ca {big a b : List Cond} {c : Cond} (ha : GoodIn big (c :: a)) (hb : GoodIn big b) : GoodIn big (c :: (a ++ b)) := fun w h => (List.mem_cons.mp h).elim (fun e => ha w (List.mem_cons.mpr (Or.inl e))) (fun h => (List.mem_append.mp h).elim (fun h => ha w (List.mem_cons.mpr (Or.inr h))) (hb w))
theorem goodIn_sub {big ws : List Cond} (hm : ∀ w ∈ ws, w ∈ big) (h : ws.all goodWord = true) : GoodIn big ws := fun w hw => ⟨hm w hw, good_of_word (List.all_eq_true.mp h w hw)⟩
/-! ===== END ===== -/

/-! ===== BEGIN exceptions that leave a method, and their catching by the caller (launches without stack traces) ===== -/
section VXA
/-! The laws vx_back, vx_callV, vx_callS, vx_callSW, vx_throw0, vx_throwS follow proofs of the library, with one case more: JvmDerived/Free/Laws.lean (Back.of_free), Shelf42/LK1.lean (callV, callS), Shelf/KitTraced.lean (throwNew0V, throwNewS). -/
/-- where a method has thrown q: the class by its name, the cell, what was written, the world -/
def vx_T (XC : String → State → State → Prop) (st : State) (q : Addr) (t : State) (mc ms : Nat) (free : Addr → Prop) : Prop :=
  ∃ (E : String) (ce : Cell) (L : List Loc), XC E st t ∧ t.heap[q]? = some ce ∧ ce.vm = .none ∧ st.vm.findClass E = some ce.cls ∧ st.WarmedH t.vm ∧ st.sameButNew ({ t with vm := st.vm } : State) L mc ms ∧ ∀ z ∈ L, free z.base
def vx_Q (Qc : Array Value → State → Outcome → State → Prop) (XC : String → State → State → Prop) (mc ms : Nat) (free : Addr → Prop) : Array Value → State → Outcome → State → Prop := fun a st o t =>
  (Qc a st o t ∧ ∃ L, FrameEnd st o t L mc ms ∧ ∀ q ∈ L, free q.base) ∨ ∃ q, o = .threw q ∧ vx_T XC st q t mc ms free
/-- a callee that returns or throws -/
def vx_Met (l : Launch) (y : MethodName) (ws : List Cond) (rm : Room) (Pc : Array Value → State → Prop) (Qc : Array Value → State → Outcome → State → Prop) (XC : String → State → State → Prop) (mc ms : Nat) (free : Addr → Prop) : Prop :=
  MetFree l y (headSpec ws rm) Pc (fun _ _ _ _ _ => True) (vx_Q Qc XC mc ms free)
def vx_Post (XC : String → State → State → Prop) (mc ms : Nat) (free : Addr → Prop) : Pt → Array Value → Addr → Pt → Prop := fun A a q B =>
  ∃ (g : JFrame) (mk : MethodId) (t : State) (L : List Loc) (E : String) (ce : Cell), B.U.heap = t.heap ∧ B.U.vm = t.vm ∧ XC E (A.U.calling g mk a) t ∧ t.heap[q]? = some ce ∧ ce.vm = .none ∧ A.U.vm.findClass E = some ce.cls ∧ B.locs = A.locs ++ L ∧ (∀ z ∈ L, free z.base) ∧ B.cells = A.cells + mc ∧ B.slots = A.slots + ms
def vx_Back (l : Launch) (R : Room) (p : Program) (e : Env) (below : List Frame) (s : State) (sargs : Array Value) (y : MethodName) (len W9 : Nat)
    (Pre : Pt → Array Value → Prop) (Post : Pt → Array Value → Option Value → Pt → Prop) (PostX : Pt → Array Value → Addr → Pt → Prop) : Prop :=
  ∀ (m : MethodId) (meth : Method) (c : Code) (A : Pt) (g : JFrame) (ig : Instr) (mk : MethodId) (a : Array Value),
    Stand p l e R s m sargs below meth c A.U A.locs A.cells A.slots → g.method = m → g.locals.size = c.maxLocals → decode c.code g.pc = .ok (ig, len) →
    2 * g.monitorRoom + (g.stack.map fun v => v.category).sum ≤ W9 → A.U.methodNamed? y = some mk → Pre A a →
    (∃ (v : Option Value) (B : Pt), Stand p l e R s m sargs below meth c B.U B.locs B.cells B.slots ∧ Post A a v B ∧
      Steps p.tables e below (doInvoke e (A.U.setTop g) [] mk a).1 (B.U.setTop { g with pc := g.pc + len, stack := v.toList ++ g.stack })) ∨
    (∃ (q : Addr) (B : Pt), Stand p l e R s m sargs below meth c B.U B.locs B.cells B.slots ∧ PostX A a q B ∧
      Steps p.tables e below (doInvoke e (A.U.setTop g) [] mk a).1 ((B.U.setTop g).pushFrame (.throwing q)))
section Payer
variable {l : Launch} {R : Room} {p : Program} {e : Env} {below : List Frame} {s : State} {sargs : Array Value} {y : MethodName} {len W9 : Nat}
theorem vx_back {ws : List Cond} {rm : Room} {Pc : Array Value → State → Prop} {Qc : Array Value → State → Outcome → State → Prop} {XC : String → State → State → Prop} {mc ms : Nat} {free : Addr → Prop} {bytes : ByteArray} {maxL : Nat} {ret : Option FieldType}
    (hM : vx_Met l y ws rm Pc Qc XC mc ms free) (hblind : FrameBlind Pc) (hrc : rm.cells = mc) (hrs : rm.slots = ms)
    (hframes : rm.frames + 1 ≤ R.frames) (hlocals : W9 + (maxL + 11) + rm.locals ≤ R.locals)
    (hws : ∀ w ∈ ws, ∀ a' U, s.WarmedH U.vm → w.before a' U = true) (hcode : Cond.code y bytes maxL ret ∈ ws) (hinit : ∀ a' U, s.WarmedH U.vm → (Cond.initialized y.cls).before a' U = true) :
    vx_Back l R p e below s sargs y len W9 (PreOf R mc ms Pc) (PostOf Qc mc ms free) (vx_Post XC mc ms free) := by
  intro m meth c A g ig mk a X hg hsize hdg hW hn hp
  have h1 : (headSpec ws rm).pre.before a A.U = true := atoms_intro fun w hw => hws w hw _ _ X.warmed
  have h2 : (Cond.code y bytes maxL ret).before a A.U = true := hws _ hcode _ _ X.warmed
  have h3 : (Cond.initialized y.cls).before a A.U = true := hinit _ _ X.warmed
  have h4 : A.cells + (headSpec ws rm).room.cells ≤ R.cells := by rw [show (headSpec ws rm).room.cells = mc from hrc]; exact hp.1
  have h5 : A.slots + (headSpec ws rm).room.slots ≤ R.slots := by rw [show (headSpec ws rm).room.slots = ms from hrs]; exact hp.2.1
  have hPc : Pc a (A.U.calling g mk a) := hblind _ _ _ _ hp.2.2
  obtain ⟨U, Ls, c0, s0⟩ := A
  dsimp only [Pt.U, Pt.locs, Pt.cells, Pt.slots] at h1 h2 h3 h4 h5 X hn hPc ⊢
  obtain ⟨methY, cY, hmY, hcY, -, hlY, -, -, -, -⟩ := Cond.code_spec hn h2
  obtain ⟨kY, hkY, -⟩ := className_of_methodNamed hn
  have hinitY : kY.init = .initialized := Cond.initialized_spec (findClass_of_methodNamed hn) hkY h3
  have h : At U g.method c below := by rw [hg]; exact X.here
  have hlocals9 : W9 + (maxL + 11) + (headSpec ws rm).room.locals ≤ R.locals := hlocals
  have happ : (headSpec ws rm).appliesLoose y e.platform (U.calling g mk a) = true :=
    Spec.appliesLoose_calling (g := g) h hdg hn hkY hinitY
      (X.room_calling (g := g) (R' := (headSpec ws rm).room) hsize hmY hcY hframes (by rw [hlY]; omega) h4 h5) h1
  obtain ⟨mid, hmid⟩ := h.above
  have hfr : (U.setTop g).frames = (.java g :: mid) ++ below := by rw [State.frames_setTop' g h.top, hmid]; rfl
  obtain ⟨o, s₂, hsteps, -, hend, hq⟩ := Steps.callFree hM p X.admits X.cas X.clock (acts := []) hfr happ hPc trivial
  have hq' : vx_Q Qc XC mc ms free a (U.calling g mk a) o s₂ := hq
  rw [State.frames_setTop' g h.top] at hend
  obtain ⟨g₀, hg0⟩ := Option.isSome_iff_exists.mp h.top
  obtain ⟨r, hr⟩ := State.topJava?_eq_some.mp hg0
  have hr' : (({ U with heap := s₂.heap, slotsUsed := s₂.slotsUsed } : State).setVm s₂.vm).frames = .java g₀ :: r := hr
  rcases hq' with ⟨hqc, L, hfe, hL⟩ | ⟨q, rfl, E, ce, L, hx, hce, hcv, hcl, hW₂, hsm, hL⟩
  · obtain ⟨⟨v, rfl⟩, hW₂, e2, q2, q3, q4, q5, q6⟩ := id hfe
    have e3 : s₂ = ({ (U.calling g mk a).setFrames s₂.frames with heap := s₂.heap, slotsUsed := s₂.slotsUsed } : State).setVm s₂.vm := by
      have : s₂ = ({ s₂ with vm := (U.calling g mk a).vm } : State).setVm s₂.vm := rfl
      rw [e2] at this
      exact this
    obtain ⟨c₂, i₂, len₂, hc₂, hd₂, hf₂⟩ := hend
    have hW' : U.WarmedH s₂.vm := hW₂
    have hcc : c₂ = c := by
      have h1 : s₂.code? g.method = U.code? g.method := by
        rw [State.code?_eq, State.code?_eq, hW'.alike.method?]
      exact Option.some.inj (hc₂.symm.trans (h1.trans h.code))
    subst hcc
    have hlen : len₂ = len := by rw [hdg] at hd₂; cases hd₂; rfl
    subst hlen
    have hs₂ : s₂ = (({ U with heap := s₂.heap, slotsUsed := s₂.slotsUsed } : State).setVm s₂.vm).setTop { g with pc := g.pc + len₂, stack := v.toList ++ g.stack } := by
      refine e3.trans ?_
      rw [hf₂, State.calling_eq h.top, State.setFrames_setFrames, State.setTop_of_frames _ hr', hr]
      rfl
    have hsame : U.sameButNew ({ U with heap := s₂.heap, slotsUsed := s₂.slotsUsed } : State) L mc ms := by
      refine ⟨?_, q2, q3, q4, q5, q6⟩
      obtain ⟨t, ht, -⟩ := State.frames_cons hr
      show ({ U with heap := s₂.heap, slotsUsed := s₂.slotsUsed } : State) = { U.setFrames U.frames with heap := s₂.heap, slotsUsed := s₂.slotsUsed }
      rw [State.setFrames_self ht]
    subst hg
    refine Or.inl ⟨v, ⟨(({ U with heap := s₂.heap, slotsUsed := s₂.slotsUsed } : State).setVm s₂.vm), Ls ++ L, c0 + mc, s0 + ms⟩,
      ⟨X.admits, X.cas, X.clock, X.frames, X.room, X.hears, X.method, X.code, (X.here.setHeapUsed s₂.heap s₂.slotsUsed).setVm hW'.alike, X.tail, State.WarmedH.trans X.warmed hW', X.limits, X.bytes, X.same.trans (hsame.setVm s.vm)⟩,
      ⟨g, mk, s₂, L, rfl, rfl, hqc, rfl, hL, rfl, rfl⟩, ?_⟩
    show Steps p.tables e below _ ((({ U with heap := s₂.heap, slotsUsed := s₂.slotsUsed } : State).setVm s₂.vm).setTop { g with pc := g.pc + len₂, stack := v.toList ++ g.stack })
    rw [← hs₂]
    exact hsteps
  · obtain ⟨e2, q2, q3, q4, q5, q6⟩ := id hsm
    have e3 : s₂ = ({ (U.calling g mk a).setFrames s₂.frames with heap := s₂.heap, slotsUsed := s₂.slotsUsed } : State).setVm s₂.vm := by
      have : s₂ = ({ s₂ with vm := (U.calling g mk a).vm } : State).setVm s₂.vm := rfl
      rw [e2] at this
      exact this
    have hf₂ : s₂.frames = .throwing q :: .java g :: U.frames.tail := hend
    have hW' : U.WarmedH s₂.vm := hW₂
    have hs₂ : s₂ = ((({ U with heap := s₂.heap, slotsUsed := s₂.slotsUsed } : State).setVm s₂.vm).setTop g).pushFrame (.throwing q) := by
      refine e3.trans ?_
      rw [hf₂, State.calling_eq h.top, State.setFrames_setFrames, State.pushFrame, State.frames_setTop _ hr', State.setTop_of_frames _ hr', State.setFrames_setFrames, hr]
      rfl
    have hsame : U.sameButNew ({ U with heap := s₂.heap, slotsUsed := s₂.slotsUsed } : State) L mc ms := by
      refine ⟨?_, q2, q3, q4, q5, q6⟩
      obtain ⟨t, ht, -⟩ := State.frames_cons hr
      show ({ U with heap := s₂.heap, slotsUsed := s₂.slotsUsed } : State) = { U.setFrames U.frames with heap := s₂.heap, slotsUsed := s₂.slotsUsed }
      rw [State.setFrames_self ht]
    subst hg
    refine Or.inr ⟨q, ⟨(({ U with heap := s₂.heap, slotsUsed := s₂.slotsUsed } : State).setVm s₂.vm), Ls ++ L, c0 + mc, s0 + ms⟩,
      ⟨X.admits, X.cas, X.clock, X.frames, X.room, X.hears, X.method, X.code, (X.here.setHeapUsed s₂.heap s₂.slotsUsed).setVm hW'.alike, X.tail, State.WarmedH.trans X.warmed hW', X.limits, X.bytes, X.same.trans (hsame.setVm s.vm)⟩,
      ⟨g, mk, s₂, L, E, ce, rfl, rfl, hx, hce, hcv, hcl, rfl, hL, rfl, rfl⟩, ?_⟩
    show Steps p.tables e below _ (((({ U with heap := s₂.heap, slotsUsed := s₂.slotsUsed } : State).setVm s₂.vm).setTop g).pushFrame (.throwing q))
    rw [← hs₂]
    exact hsteps
end Payer
section Calls
variable {p : Program} {l : Launch} {e : Env} {R : Room} {s : State} {m : MethodId} {args : Array Value} {below : List Frame} {meth : Method} {c : Code} {T : State} {locs : List Loc} {cells slots : Nat}
theorem vx_callV (X : Stand p l e R s m args below meth c T locs cells slots) (hexec : p.tables.exec = Jvm.exec) {own C : String} {index : Nat} {y : MethodName} {bytes : ByteArray} {maxL : Nat} {ret : Option FieldType}
    (hown : s.vm.findClass own = some m.cls) (hlink : (Cond.methodLink own index y).before args s = true) (hinst : (Cond.instanceMethod y).before args s = true) (hsel : (Cond.selects C y y).before args s = true)
    (hcode : (Cond.code y bytes maxL ret).before args s = true) (hy : y.cls ≠ "java/lang/invoke/MethodHandle" ∧ y.cls ≠ "java/lang/invoke/VarHandle")
    {W9 : Nat} {Pre : Pt → Array Value → Prop} {Post : Pt → Array Value → Option Value → Pt → Prop} {PostX : Pt → Array Value → Addr → Pt → Prop} (hK : vx_Back l R p e below s args y 3 W9 Pre Post PostX)
    {b : Addr} {cellB : Cell} (hcell : T.heap[b]? = some cellB) (hobj : cellB.vm.isStatics = false) (hcls : s.vm.findClass C = some cellB.cls)
    {g : JFrame} (hg : g.method = m) (hsize : g.locals.size = c.maxLocals) {argsL rest : List Value} (hlen : ∀ sig, parseMethodDescriptor y.desc = some sig → argsL.length = sig.parameters.length)
    (hstack : g.stack = argsL.reverse ++ .ref b :: rest) (hW : 2 * g.monitorRoom + (rest.map fun v => v.category).sum ≤ W9) (hdg : decode c.code g.pc = .ok (.invokevirtual index, 3))
    (hpre : ∀ vm₁, s.WarmedH vm₁ → Pre ⟨T.setVm vm₁, locs, cells, slots⟩ (Value.ref b :: argsL).toArray) :
    (∃ (v : Option Value) (vm₁ : Vm) (B : Pt), s.WarmedH vm₁ ∧ Stand p l e R s m args below meth c B.U B.locs B.cells B.slots ∧ Post ⟨T.setVm vm₁, locs, cells, slots⟩ (Value.ref b :: argsL).toArray v B ∧
      ∀ target, Steps p.tables e below (B.U.setTop { g with pc := g.pc + 3, stack := v.toList ++ rest }) target → Steps p.tables e below (T.setTop g) target) ∨
    (∃ (q : Addr) (vm₁ : Vm) (B : Pt), s.WarmedH vm₁ ∧ Stand p l e R s m args below meth c B.U B.locs B.cells B.slots ∧ PostX ⟨T.setVm vm₁, locs, cells, slots⟩ (Value.ref b :: argsL).toArray q B ∧
      Steps p.tables e below (T.setTop g) ((B.U.setTop { g with stack := rest }).pushFrame (.throwing q))) := by
  obtain ⟨mk, methM, hnamed, hmethM, hstM, habM⟩ := Cond.instanceMethod_spec hinst
  obtain ⟨methM', cM, hmethM', -, -, -, -, -, -, hsigM⟩ := Cond.code_spec hnamed hcode
  cases hmethM.symm.trans hmethM'
  obtain ⟨c2, r2, m2, q1, q2, q3, q4, kP, hkP, hkPi⟩ := Cond.selects_spec hsel
  cases hcls.symm.trans q1
  cases (State.methodFound?_of_named hnamed hy).symm.trans q2
  cases hnamed.symm.trans q3
  have hselP : selectMethod e.platform s.vm cellB.cls mk = .method mk := by rw [Launch.admits_selectMethod X.admits]; exact q4
  obtain ⟨vm₁, X₁, hstep₁⟩ := X.invokevirtual hexec hown hlink hnamed hmethM hstM hkP hkPi hy (a := b) (cell := cellB) hcell
    (fun z h => by rw [h] at hobj; cases hobj) hselP hmethM habM hkP hkPi (g := g) hg (argsL := argsL) (rest := rest) (hlen _ hsigM) hstack hdg
  rcases hK m meth c ⟨T.setVm vm₁, locs, cells, slots⟩ { g with stack := rest } (.invokevirtual index) mk (Value.ref b :: argsL).toArray X₁ hg hsize hdg hW (X₁.named hnamed) (hpre vm₁ X₁.warmed) with ⟨v, B, X', hpost, hsteps⟩ | ⟨q, B, X', hpost, hsteps⟩
  · exact Or.inl ⟨v, vm₁, B, X₁.warmed, X', hpost, fun target h => hstep₁ _ fun acts => by rw [doInvoke_state]; exact hsteps.trans h⟩
  · exact Or.inr ⟨q, vm₁, B, X₁.warmed, X', hpost, hstep₁ _ fun acts => by rw [doInvoke_state]; exact hsteps⟩
theorem vx_callS (X : Stand p l e R s m args below meth c T locs cells slots) (hexec : p.tables.exec = Jvm.exec) {own : String} {index : Nat} {y : MethodName} {bytes : ByteArray} {maxL : Nat} {ret : Option FieldType}
    (hown : s.vm.findClass own = some m.cls) (hlink : (Cond.methodLink own index y).before args s = true) (hstat : (Cond.static y).before args s = true) (hinit : (Cond.initialized y.cls).before args s = true)
    (hcode : (Cond.code y bytes maxL ret).before args s = true) (hy : y.cls ≠ "java/lang/invoke/MethodHandle" ∧ y.cls ≠ "java/lang/invoke/VarHandle")
    {W9 : Nat} {Pre : Pt → Array Value → Prop} {Post : Pt → Array Value → Option Value → Pt → Prop} {PostX : Pt → Array Value → Addr → Pt → Prop} (hK : vx_Back l R p e below s args y 3 W9 Pre Post PostX)
    {g : JFrame} (hg : g.method = m) (hsize : g.locals.size = c.maxLocals) {argsL rest : List Value} (hlen : ∀ sig, parseMethodDescriptor y.desc = some sig → argsL.length = sig.parameters.length)
    (hstack : g.stack = argsL.reverse ++ rest) (hW : 2 * g.monitorRoom + (rest.map fun v => v.category).sum ≤ W9) (hdg : decode c.code g.pc = .ok (.invokestatic index, 3))
    (hpre : ∀ vm₁, s.WarmedH vm₁ → Pre ⟨T.setVm vm₁, locs, cells, slots⟩ argsL.toArray) :
    (∃ (v : Option Value) (vm₁ : Vm) (B : Pt), s.WarmedH vm₁ ∧ Stand p l e R s m args below meth c B.U B.locs B.cells B.slots ∧ Post ⟨T.setVm vm₁, locs, cells, slots⟩ argsL.toArray v B ∧
      ∀ target, Steps p.tables e below (B.U.setTop { g with pc := g.pc + 3, stack := v.toList ++ rest }) target → Steps p.tables e below (T.setTop g) target) ∨
    (∃ (q : Addr) (vm₁ : Vm) (B : Pt), s.WarmedH vm₁ ∧ Stand p l e R s m args below meth c B.U B.locs B.cells B.slots ∧ PostX ⟨T.setVm vm₁, locs, cells, slots⟩ argsL.toArray q B ∧
      Steps p.tables e below (T.setTop g) ((B.U.setTop { g with stack := rest }).pushFrame (.throwing q))) := by
  obtain ⟨mk, hnamed⟩ := Cond.code_named hcode
  obtain ⟨methM, cM, hmethM, -, -, -, -, -, -, hsigM⟩ := Cond.code_spec hnamed hcode
  have hstatic : methM.isStatic = true := Cond.static_spec hnamed hmethM hstat
  obtain ⟨kP, hkP, -⟩ := className_of_methodNamed hnamed
  have hinitP : kP.init = .initialized := Cond.initialized_spec (findClass_of_methodNamed hnamed) hkP hinit
  obtain ⟨vm₁, X₁, hstep₁⟩ := X.invokestatic hexec hown hlink hnamed hmethM hstatic hkP hinitP hy (g := g) hg (argsL := argsL) (rest := rest) (hlen _ hsigM) hstack hdg
  rcases hK m meth c ⟨T.setVm vm₁, locs, cells, slots⟩ { g with stack := rest } (.invokestatic index) mk argsL.toArray X₁ hg hsize hdg hW (X₁.named hnamed) (hpre vm₁ X₁.warmed) with ⟨v, B, X', hpost, hsteps⟩ | ⟨q, B, X', hpost, hsteps⟩
  · exact Or.inl ⟨v, vm₁, B, X₁.warmed, X', hpost, fun target h => hstep₁ _ fun acts => by rw [doInvoke_state]; exact hsteps.trans h⟩
  · exact Or.inr ⟨q, vm₁, B, X₁.warmed, X', hpost, hstep₁ _ fun acts => by rw [doInvoke_state]; exact hsteps⟩
end Calls
theorem vx_cls {s : State} {T : State} {vm₁ : Vm} {E : String} {k : ClassId} (hW : s.WarmedH vm₁) (h : (T.setVm vm₁).vm.findClass E = some k) : s.vm.findClass E = some k := by
  have h1 : vm₁.findClass E = some k := h
  rw [hW.alike.findClass] at h1
  exact h1
/-- the method's frame g, with q thrown over it -/
def vx_W (p : Program) (l : Launch) (e : Env) (R : Room) (s : State) (m : MethodId) (args : Array Value) (below : List Frame) (meth : Method) (c : Code) (H : Heap) (locs : List Loc) (cells slots : Nat) (Q : State → Prop) (g : JFrame) (q : Addr) : Prop :=
  ∀ T : State, T.heap = H → Stand p l e R s m args below meth c T locs cells slots → ∃ t, Steps p.tables e below ((T.setTop g).pushFrame (.throwing q)) t ∧ Q t
def vx_Run (p : Program) (l : Launch) (e : Env) (R : Room) (s : State) (m : MethodId) (args : Array Value) (below : List Frame) (meth : Method) (c : Code) (H : Heap) (locs : List Loc) (cells slots mc ms : Nat) (g : JFrame) (rest : List Value) (Qa : State → Outcome → State → Prop) (XC : String → State → State → Prop) (free : Addr → Prop) : Prop :=
  ∀ T : State, T.heap = H → Stand p l e R s m args below meth c T locs cells slots →
    (∃ (v : Option Value) (st₀ t T' : State) (L : List Loc), st₀.heap = H ∧ Stand p l e R s m args below meth c T' (locs ++ L) (cells + mc) (slots + ms) ∧ (∀ q ∈ L, free q.base) ∧ T'.heap = t.heap ∧ T'.vm = t.vm ∧ Qa st₀ (.returned v) t ∧
      Goes p e below T g T' { g with pc := g.pc + 3, stack := v.toList ++ rest }) ∨
    (∃ (q : Addr) (st₀ t T' : State) (L : List Loc) (E : String) (ce : Cell), st₀.heap = H ∧ Stand p l e R s m args below meth c T' (locs ++ L) (cells + mc) (slots + ms) ∧ (∀ z ∈ L, free z.base) ∧ T'.heap = t.heap ∧ T'.vm = t.vm ∧ XC E st₀ t ∧ t.heap[q]? = some ce ∧ ce.vm = .none ∧ s.vm.findClass E = some ce.cls ∧
      Steps p.tables e below (T.setTop g) ((T'.setTop { g with stack := rest }).pushFrame (.throwing q)))
def vx_X {S : Type} (px : S → Prop) (B : String → S → State → Prop) (A : Nat → Prop) : String → State → State → Prop := fun E st t => ∃ u : S, px u ∧ B E u t ∧ va_F A st t
section Runs
variable {p : Program} {l : Launch} {e : Env} {R : Room} {s : State} {m : MethodId} {args : Array Value} {below : List Frame} {meth : Method} {c : Code} {H : Heap} {locs : List Loc} {cells slots : Nat}
variable {y : MethodName} {bytes cc : ByteArray} {maxL nL mc ms n index : Nat} {ret : Option FieldType} {ws : List Cond} {rm : Room} {Pc : Array Value → State → Prop} {Qc : Array Value → State → Outcome → State → Prop} {XC : String → State → State → Prop} {free : Addr → Prop} {Ts : List Cond} {own C : String} {b : Addr} {As rest : List Value} {g : JFrame}
theorem vx_callBack (cb : CallB R s args own index y bytes maxL ret ws rm mc ms n) (hM : vx_Met l y ws rm Pc Qc XC mc ms free) (hbl : FrameBlind Pc) : vx_Back l R p e below s args y 3 8 (PreOf R mc ms Pc) (PostOf Qc mc ms free) (vx_Post XC mc ms free) := by
  obtain ⟨hrc, hrs, hfr, hlo, hws, hcw, -, hini, -⟩ := cb
  exact vx_back (bytes := bytes) (maxL := maxL) (ret := ret) hM hbl hrc hrs hfr hlo hws hcw (fun a' U hW => word_at hW (Or.inl (by first | rfl | simp [Cond.onTables, Cond.keeps, Cond.steady])) hini)
theorem vx_runV (S : CallFix p m c cc nL s args Ts own) (hM : vx_Met l y ws rm Pc Qc XC mc ms free) (cw : CallW R s args own C index y bytes maxL ret ws rm mc ms n) (hp : PreV s H C b Pc As)
    (hg : g.method = m) (hn : As.length = n) (hsize : g.locals.size = nL) (hstack : g.stack = As.reverse ++ .ref b :: rest) (hW : 2 * g.monitorRoom + (rest.map fun v => v.category).sum ≤ 8) (hdg : decode cc g.pc = .ok (.invokevirtual index, 3)) (hf : cells + mc ≤ R.cells ∧ slots + ms ≤ R.slots) :
    vx_Run p l e R s m args below meth c H locs cells slots mc ms g rest (Qc (Value.ref b :: As).toArray) XC free := by
  have hK : vx_Back l R p e below s args y 3 8 (PreOf R mc ms Pc) (PostOf Qc mc ms free) (vx_Post XC mc ms free) := vx_callBack cw.1 hM hp.1
  obtain ⟨⟨-, -, -, -, -, -, hcode, -, hy, hlen, hl⟩, hin, hse⟩ := cw
  obtain ⟨hx, hb, hml, ho, -⟩ := S
  obtain ⟨-, ⟨cellB, hcB, hoB, hclB⟩, hPc⟩ := hp
  intro T hT X
  rcases vx_callV X hx (C := C) (bytes := bytes) (maxL := maxL) (ret := ret) ho hl hin hse hcode hy hK (by rw [hT]; exact hcB) hoB hclB hg (hsize.trans hml.symm) (argsL := As) (rest := rest) (fun sig h => hn.trans (hlen sig h)) hstack hW (by rw [hb]; exact hdg)
    (fun vm₁ hW₁ => ⟨hf.1, hf.2, hPc (T.setVm vm₁) hT hW₁⟩) with ⟨v, vm₁, ⟨U', l2, c2, s2⟩, hW₁, X', ⟨g', mk, t, L, e1, e2, hq, h1, hL, h2, h3⟩, st⟩ | ⟨q, vm₁, ⟨U', l2, c2, s2⟩, hW₁, X', ⟨g', mk, t, L, E, ce, e1, e2, hq, hce, hcv, hcl, h1, hL, h2, h3⟩, st⟩
  · dsimp only [Pt.U, Pt.locs, Pt.cells, Pt.slots] at X' e1 e2 h1 h2 h3 st
    subst h1; subst h2; subst h3
    exact Or.inl ⟨v, (T.setVm vm₁).calling g' mk (Value.ref b :: As).toArray, t, U', L, hT, X', hL, e1, e2, hq, st⟩
  · dsimp only [Pt.U, Pt.locs, Pt.cells, Pt.slots] at X' e1 e2 h1 h2 h3 st hcl
    subst h1; subst h2; subst h3
    exact Or.inr ⟨q, (T.setVm vm₁).calling g' mk (Value.ref b :: As).toArray, t, U', L, E, ce, hT, X', hL, e1, e2, hq, hce, hcv, vx_cls hW₁ hcl, st⟩
theorem vx_runS (S : CallFix p m c cc nL s args Ts own) (hM : vx_Met l y ws rm Pc Qc XC mc ms free) (cw : CallB R s args own index y bytes maxL ret ws rm mc ms n ∧ (Cond.static y).before args s = true) (hp : PreS s H Pc As)
    (hg : g.method = m) (hn : As.length = n) (hsize : g.locals.size = nL) (hstack : g.stack = As.reverse ++ rest) (hW : 2 * g.monitorRoom + (rest.map fun v => v.category).sum ≤ 8) (hdg : decode cc g.pc = .ok (.invokestatic index, 3)) (hf : cells + mc ≤ R.cells ∧ slots + ms ≤ R.slots) :
    vx_Run p l e R s m args below meth c H locs cells slots mc ms g rest (Qc As.toArray) XC free := by
  have hK : vx_Back l R p e below s args y 3 8 (PreOf R mc ms Pc) (PostOf Qc mc ms free) (vx_Post XC mc ms free) := vx_callBack cw.1 hM hp.1
  obtain ⟨⟨-, -, -, -, -, -, hcode, hini, hy, hlen, hl⟩, hstt⟩ := cw
  obtain ⟨hx, hb, hml, ho, -⟩ := S
  intro T hT X
  rcases vx_callS X hx (bytes := bytes) (maxL := maxL) (ret := ret) ho hl hstt hini hcode hy hK hg (hsize.trans hml.symm) (argsL := As) (rest := rest) (fun sig h => hn.trans (hlen sig h)) hstack hW (by rw [hb]; exact hdg)
    (fun vm₁ hW₁ => ⟨hf.1, hf.2, hp.2 (T.setVm vm₁) hT hW₁⟩) with ⟨v, vm₁, ⟨U', l2, c2, s2⟩, hW₁, X', ⟨g', mk, t, L, e1, e2, hq, h1, hL, h2, h3⟩, st⟩ | ⟨q, vm₁, ⟨U', l2, c2, s2⟩, hW₁, X', ⟨g', mk, t, L, E, ce, e1, e2, hq, hce, hcv, hcl, h1, hL, h2, h3⟩, st⟩
  · dsimp only [Pt.U, Pt.locs, Pt.cells, Pt.slots] at X' e1 e2 h1 h2 h3 st
    subst h1; subst h2; subst h3
    exact Or.inl ⟨v, (T.setVm vm₁).calling g' mk As.toArray, t, U', L, hT, X', hL, e1, e2, hq, st⟩
  · dsimp only [Pt.U, Pt.locs, Pt.cells, Pt.slots] at X' e1 e2 h1 h2 h3 st hcl
    subst h1; subst h2; subst h3
    exact Or.inr ⟨q, (T.setVm vm₁).calling g' mk As.toArray, t, U', L, E, ce, hT, X', hL, e1, e2, hq, hce, hcv, vx_cls hW₁ hcl, st⟩
end Runs
section Rows
variable {p : Program} {l : Launch} {e : Env} {R : Room} {s : State} {m : MethodId} {args : Array Value} {below : List Frame} {meth : Method} {c : Code} {H : Heap} {locs : List Loc} {cells slots : Nat} {Q : State → Prop}
variable {mc ms : Nat} {free : Addr → Prop} {A0 A1 : Nat → Prop} {H0 : Heap} {a : Array Value} {pc : Nat} {ls : Array Slot} {st0 rest : List Value}
theorem vx_keep {st₀ t T' : State} {L : List Loc} (h0 : st₀.heap = H) (e1 : T'.heap = t.heap) (hS : va_S A0 H0 H locs) (hA : ∀ q, q < H.size → A1 q → A0 q) (hf : ∀ q, free q → A0 q) (hL : ∀ q ∈ L, free q.base) (hF : va_F A1 st₀ t) :
    H.size ≤ T'.heap.size ∧ (∀ q : Nat, q < H.size → ¬ A1 q → T'.heap[q]? = H[q]?) ∧ va_S A0 H0 T'.heap (locs ++ L) := by
  obtain ⟨hz, hk⟩ := hF
  rw [h0] at hz hk
  exact ⟨by rw [e1]; exact hz, fun q h1 h2 => by rw [e1]; exact hk q h1 h2,
    ⟨Nat.le_trans hS.1 (by rw [e1]; exact hz), fun q h1 h2 => by rw [e1, hk q (Nat.lt_of_lt_of_le h1 hS.1) (fun z => h2 (hA q (Nat.lt_of_lt_of_le h1 hS.1) z))]; exact hS.2.1 q h1 h2, fun q hq => by
      rcases List.mem_append.mp hq with h | h
      · exact hS.2.2 q h
      · exact hf _ (hL q h)⟩⟩
theorem vx_calli {S SX : Type} {post : Int32 → S → Prop} {px : SX → Prop} {B : S → State → Prop} {BX : String → SX → State → Prop} {AX : Nat → Prop} (hr : vx_Run p l e R s m args below meth c H locs cells slots mc ms (F0 m pc ls st0) rest (va_Qi post B A1 a) (vx_X px BX AX) free) (hS : va_S A0 H0 H locs) (hA : ∀ q, q < H.size → A1 q → A0 q) (hf : ∀ q, free q → A0 q) (hAX : ∀ q, q < H.size → AX q → A0 q)
    (kx : ∀ (E : String) (ce : Cell) (q9 : Addr) (u : SX) (t : State) (H1 : Heap) (locs1 : List Loc), t.heap = H1 → s.vm.Alike t.vm → px u → BX E u t → H.size ≤ H1.size → (∀ q : Nat, q < H.size → ¬ AX q → H1[q]? = H[q]?) → va_S A0 H0 H1 locs1 → H1[q9]? = some ce → ce.vm = .none → s.vm.findClass E = some ce.cls → vx_W p l e R s m args below meth c H1 locs1 (cells + mc) (slots + ms) Q (F0 m pc ls rest) q9)
    (kk : ∀ (r : Int32) (u : S) (t : State) (H1 : Heap) (locs1 : List Loc), t.heap = H1 → s.vm.Alike t.vm → post r u → B u t → H.size ≤ H1.size → (∀ q : Nat, q < H.size → ¬ A1 q → H1[q]? = H[q]?) → va_S A0 H0 H1 locs1 → W p l e R s m args below meth c H1 locs1 (cells + mc) (slots + ms) Q (F0 m (pc + 3) ls (.int r :: rest))) : W p l e R s m args below meth c H locs cells slots Q (F0 m pc ls st0) := by
  intro T hT X
  rcases hr T hT X with ⟨v, st₀, t, T', L, h0, X', hL, e1, e2, ⟨⟨r, u, hv, hp, hb⟩, hF⟩, st⟩ | ⟨q, st₀, t, T', L, E, ce, h0, X', hL, e1, e2, ⟨u, hp, hb, hF⟩, hce, hcv, hcl, st⟩
  · cases hv
    obtain ⟨k1, k2, k3⟩ := vx_keep h0 e1 hS hA hf hL hF
    obtain ⟨t2, a1, b1⟩ := kk r u t T'.heap (locs ++ L) e1.symm (by rw [← e2]; exact X'.warmed.alike) hp hb k1 k2 k3 T' rfl X'
    exact ⟨t2, st t2 a1, b1⟩
  · obtain ⟨k1, k2, k3⟩ := vx_keep h0 e1 hS hAX hf hL hF
    obtain ⟨t2, a1, b1⟩ := kx E ce q u t T'.heap (locs ++ L) e1.symm (by rw [← e2]; exact X'.warmed.alike) hp hb k1 k2 k3 (by rw [e1]; exact hce) hcv hcl T' rfl X'
    exact ⟨t2, st.trans a1, b1⟩
theorem vx_calll {S SX : Type} {post : Int64 → S → Prop} {px : SX → Prop} {B : S → State → Prop} {BX : String → SX → State → Prop} {AX : Nat → Prop} (hr : vx_Run p l e R s m args below meth c H locs cells slots mc ms (F0 m pc ls st0) rest (va_Ql post B A1 a) (vx_X px BX AX) free) (hS : va_S A0 H0 H locs) (hA : ∀ q, q < H.size → A1 q → A0 q) (hf : ∀ q, free q → A0 q) (hAX : ∀ q, q < H.size → AX q → A0 q)
    (kx : ∀ (E : String) (ce : Cell) (q9 : Addr) (u : SX) (t : State) (H1 : Heap) (locs1 : List Loc), t.heap = H1 → s.vm.Alike t.vm → px u → BX E u t → H.size ≤ H1.size → (∀ q : Nat, q < H.size → ¬ AX q → H1[q]? = H[q]?) → va_S A0 H0 H1 locs1 → H1[q9]? = some ce → ce.vm = .none → s.vm.findClass E = some ce.cls → vx_W p l e R s m args below meth c H1 locs1 (cells + mc) (slots + ms) Q (F0 m pc ls rest) q9)
    (kk : ∀ (r : Int64) (u : S) (t : State) (H1 : Heap) (locs1 : List Loc), t.heap = H1 → s.vm.Alike t.vm → post r u → B u t → H.size ≤ H1.size → (∀ q : Nat, q < H.size → ¬ A1 q → H1[q]? = H[q]?) → va_S A0 H0 H1 locs1 → W p l e R s m args below meth c H1 locs1 (cells + mc) (slots + ms) Q (F0 m (pc + 3) ls (.long r :: rest))) : W p l e R s m args below meth c H locs cells slots Q (F0 m pc ls st0) := by
  intro T hT X
  rcases hr T hT X with ⟨v, st₀, t, T', L, h0, X', hL, e1, e2, ⟨⟨r, u, hv, hp, hb⟩, hF⟩, st⟩ | ⟨q, st₀, t, T', L, E, ce, h0, X', hL, e1, e2, ⟨u, hp, hb, hF⟩, hce, hcv, hcl, st⟩
  · cases hv
    obtain ⟨k1, k2, k3⟩ := vx_keep h0 e1 hS hA hf hL hF
    obtain ⟨t2, a1, b1⟩ := kk r u t T'.heap (locs ++ L) e1.symm (by rw [← e2]; exact X'.warmed.alike) hp hb k1 k2 k3 T' rfl X'
    exact ⟨t2, st t2 a1, b1⟩
  · obtain ⟨k1, k2, k3⟩ := vx_keep h0 e1 hS hAX hf hL hF
    obtain ⟨t2, a1, b1⟩ := kx E ce q u t T'.heap (locs ++ L) e1.symm (by rw [← e2]; exact X'.warmed.alike) hp hb k1 k2 k3 (by rw [e1]; exact hce) hcv hcl T' rfl X'
    exact ⟨t2, st.trans a1, b1⟩
theorem vx_callf {S SX : Type} {post : UInt32 → S → Prop} {px : SX → Prop} {B : S → State → Prop} {BX : String → SX → State → Prop} {AX : Nat → Prop} (hr : vx_Run p l e R s m args below meth c H locs cells slots mc ms (F0 m pc ls st0) rest (va_Qf post B A1 a) (vx_X px BX AX) free) (hS : va_S A0 H0 H locs) (hA : ∀ q, q < H.size → A1 q → A0 q) (hf : ∀ q, free q → A0 q) (hAX : ∀ q, q < H.size → AX q → A0 q)
    (kx : ∀ (E : String) (ce : Cell) (q9 : Addr) (u : SX) (t : State) (H1 : Heap) (locs1 : List Loc), t.heap = H1 → s.vm.Alike t.vm → px u → BX E u t → H.size ≤ H1.size → (∀ q : Nat, q < H.size → ¬ AX q → H1[q]? = H[q]?) → va_S A0 H0 H1 locs1 → H1[q9]? = some ce → ce.vm = .none → s.vm.findClass E = some ce.cls → vx_W p l e R s m args below meth c H1 locs1 (cells + mc) (slots + ms) Q (F0 m pc ls rest) q9)
    (kk : ∀ (r : UInt32) (u : S) (t : State) (H1 : Heap) (locs1 : List Loc), t.heap = H1 → s.vm.Alike t.vm → post r u → B u t → H.size ≤ H1.size → (∀ q : Nat, q < H.size → ¬ A1 q → H1[q]? = H[q]?) → va_S A0 H0 H1 locs1 → W p l e R s m args below meth c H1 locs1 (cells + mc) (slots + ms) Q (F0 m (pc + 3) ls (.float r :: rest))) : W p l e R s m args below meth c H locs cells slots Q (F0 m pc ls st0) := by
  intro T hT X
  rcases hr T hT X with ⟨v, st₀, t, T', L, h0, X', hL, e1, e2, ⟨⟨r, u, hv, hp, hb⟩, hF⟩, st⟩ | ⟨q, st₀, t, T', L, E, ce, h0, X', hL, e1, e2, ⟨u, hp, hb, hF⟩, hce, hcv, hcl, st⟩
  · cases hv
    obtain ⟨k1, k2, k3⟩ := vx_keep h0 e1 hS hA hf hL hF
    obtain ⟨t2, a1, b1⟩ := kk r u t T'.heap (locs ++ L) e1.symm (by rw [← e2]; exact X'.warmed.alike) hp hb k1 k2 k3 T' rfl X'
    exact ⟨t2, st t2 a1, b1⟩
  · obtain ⟨k1, k2, k3⟩ := vx_keep h0 e1 hS hAX hf hL hF
    obtain ⟨t2, a1, b1⟩ := kx E ce q u t T'.heap (locs ++ L) e1.symm (by rw [← e2]; exact X'.warmed.alike) hp hb k1 k2 k3 (by rw [e1]; exact hce) hcv hcl T' rfl X'
    exact ⟨t2, st.trans a1, b1⟩
theorem vx_calld {S SX : Type} {post : UInt64 → S → Prop} {px : SX → Prop} {B : S → State → Prop} {BX : String → SX → State → Prop} {AX : Nat → Prop} (hr : vx_Run p l e R s m args below meth c H locs cells slots mc ms (F0 m pc ls st0) rest (va_Qd post B A1 a) (vx_X px BX AX) free) (hS : va_S A0 H0 H locs) (hA : ∀ q, q < H.size → A1 q → A0 q) (hf : ∀ q, free q → A0 q) (hAX : ∀ q, q < H.size → AX q → A0 q)
    (kx : ∀ (E : String) (ce : Cell) (q9 : Addr) (u : SX) (t : State) (H1 : Heap) (locs1 : List Loc), t.heap = H1 → s.vm.Alike t.vm → px u → BX E u t → H.size ≤ H1.size → (∀ q : Nat, q < H.size → ¬ AX q → H1[q]? = H[q]?) → va_S A0 H0 H1 locs1 → H1[q9]? = some ce → ce.vm = .none → s.vm.findClass E = some ce.cls → vx_W p l e R s m args below meth c H1 locs1 (cells + mc) (slots + ms) Q (F0 m pc ls rest) q9)
    (kk : ∀ (r : UInt64) (u : S) (t : State) (H1 : Heap) (locs1 : List Loc), t.heap = H1 → s.vm.Alike t.vm → post r u → B u t → H.size ≤ H1.size → (∀ q : Nat, q < H.size → ¬ A1 q → H1[q]? = H[q]?) → va_S A0 H0 H1 locs1 → W p l e R s m args below meth c H1 locs1 (cells + mc) (slots + ms) Q (F0 m (pc + 3) ls (.double r :: rest))) : W p l e R s m args below meth c H locs cells slots Q (F0 m pc ls st0) := by
  intro T hT X
  rcases hr T hT X with ⟨v, st₀, t, T', L, h0, X', hL, e1, e2, ⟨⟨r, u, hv, hp, hb⟩, hF⟩, st⟩ | ⟨q, st₀, t, T', L, E, ce, h0, X', hL, e1, e2, ⟨u, hp, hb, hF⟩, hce, hcv, hcl, st⟩
  · cases hv
    obtain ⟨k1, k2, k3⟩ := vx_keep h0 e1 hS hA hf hL hF
    obtain ⟨t2, a1, b1⟩ := kk r u t T'.heap (locs ++ L) e1.symm (by rw [← e2]; exact X'.warmed.alike) hp hb k1 k2 k3 T' rfl X'
    exact ⟨t2, st t2 a1, b1⟩
  · obtain ⟨k1, k2, k3⟩ := vx_keep h0 e1 hS hAX hf hL hF
    obtain ⟨t2, a1, b1⟩ := kx E ce q u t T'.heap (locs ++ L) e1.symm (by rw [← e2]; exact X'.warmed.alike) hp hb k1 k2 k3 (by rw [e1]; exact hce) hcv hcl T' rfl X'
    exact ⟨t2, st.trans a1, b1⟩
theorem vx_callv {S SX : Type} {post : S → Prop} {px : SX → Prop} {B : S → State → Prop} {BX : String → SX → State → Prop} {AX : Nat → Prop} (hr : vx_Run p l e R s m args below meth c H locs cells slots mc ms (F0 m pc ls st0) rest (va_Qv post B A1 a) (vx_X px BX AX) free) (hS : va_S A0 H0 H locs) (hA : ∀ q, q < H.size → A1 q → A0 q) (hf : ∀ q, free q → A0 q) (hAX : ∀ q, q < H.size → AX q → A0 q)
    (kx : ∀ (E : String) (ce : Cell) (q9 : Addr) (u : SX) (t : State) (H1 : Heap) (locs1 : List Loc), t.heap = H1 → s.vm.Alike t.vm → px u → BX E u t → H.size ≤ H1.size → (∀ q : Nat, q < H.size → ¬ AX q → H1[q]? = H[q]?) → va_S A0 H0 H1 locs1 → H1[q9]? = some ce → ce.vm = .none → s.vm.findClass E = some ce.cls → vx_W p l e R s m args below meth c H1 locs1 (cells + mc) (slots + ms) Q (F0 m pc ls rest) q9)
    (kk : ∀ (u : S) (t : State) (H1 : Heap) (locs1 : List Loc), t.heap = H1 → s.vm.Alike t.vm → post u → B u t → H.size ≤ H1.size → (∀ q : Nat, q < H.size → ¬ A1 q → H1[q]? = H[q]?) → va_S A0 H0 H1 locs1 → W p l e R s m args below meth c H1 locs1 (cells + mc) (slots + ms) Q (F0 m (pc + 3) ls (rest))) : W p l e R s m args below meth c H locs cells slots Q (F0 m pc ls st0) := by
  intro T hT X
  rcases hr T hT X with ⟨v, st₀, t, T', L, h0, X', hL, e1, e2, ⟨⟨u, hv, hp, hb⟩, hF⟩, st⟩ | ⟨q, st₀, t, T', L, E, ce, h0, X', hL, e1, e2, ⟨u, hp, hb, hF⟩, hce, hcv, hcl, st⟩
  · cases hv
    obtain ⟨k1, k2, k3⟩ := vx_keep h0 e1 hS hA hf hL hF
    obtain ⟨t2, a1, b1⟩ := kk u t T'.heap (locs ++ L) e1.symm (by rw [← e2]; exact X'.warmed.alike) hp hb k1 k2 k3 T' rfl X'
    exact ⟨t2, st t2 a1, b1⟩
  · obtain ⟨k1, k2, k3⟩ := vx_keep h0 e1 hS hAX hf hL hF
    obtain ⟨t2, a1, b1⟩ := kx E ce q u t T'.heap (locs ++ L) e1.symm (by rw [← e2]; exact X'.warmed.alike) hp hb k1 k2 k3 (by rw [e1]; exact hce) hcv hcl T' rfl X'
    exact ⟨t2, st.trans a1, b1⟩
/-- caught by the row x of this method's table; the rows ahead don't take it -/
theorem vx_catch {own name : String} {E : String} {ce : Cell} {q : Addr} (hown : s.vm.findClass own = some m.cls) (pre : List ExceptionTableEntry) (x : ExceptionTableEntry) (suf : List ExceptionTableEntry) (hsplit : c.exceptionTable.toList = pre ++ x :: suf)
    (hpass : ∀ z ∈ pre, covers z pc = false ∨ (z.catchType ≠ 0 ∧ ∃ nm : String, (Cond.classLink own z.catchType nm).before args s = true ∧ va_Nc E nm s)) (hx : covers x pc = true) (h0 : x.catchType ≠ 0)
    (hlink : (Cond.classLink own x.catchType name).before args s = true) (hcast : (Cond.castable E name).before args s = true) (hcell : H[q]? = some ce) (hv : ce.vm = .none) (hcl : s.vm.findClass E = some ce.cls)
    (kk : W p l e R s m args below meth c H locs cells slots Q (F0 m x.handlerPc ls [.ref q])) : vx_W p l e R s m args below meth c H locs cells slots Q (F0 m pc ls rest) q := by
  intro T hT X
  have hpl : e.platform.magicAccessors = ({} : Platform).magicAccessors := by rw [X.admits.platform]
  obtain ⟨c3, c4, hc3, hc4, hasg⟩ := Cond.castable_spec hcast
  cases Option.some.inj (hc3.symm.trans hcl)
  obtain ⟨c5, hc5, hcl5⟩ := Cond.classLink_spec hown hlink e.platform hpl
  cases Option.some.inj (hc4.symm.trans hc5)
  obtain ⟨vm', X', st⟩ := X.thenCaughtThrough q (g := F0 m pc ls rest) rfl (Steps.refl _) (by rw [hT]; exact hcell) (by rw [hv]; rfl) (by obtain ⟨k9, h9, -⟩ := Vm.findClass_spec hcl; exact ⟨k9, h9⟩) pre x suf hsplit
    (fun z hz => by
      rcases hpass z hz with h | ⟨hz0, nm, hl1, hn1⟩
      · exact Or.inl h
      · obtain ⟨c6, hc6, hcl6⟩ := Cond.classLink_spec hown hl1 e.platform hpl
        obtain ⟨a8, b8, h1, h2, h3⟩ := hn1
        cases Option.some.inj (h1.symm.trans hcl)
        cases Option.some.inj (h2.symm.trans hc6)
        exact Or.inr ⟨hz0, _, hcl6, h3⟩) hx (Or.inr ⟨h0, c4, hcl5, hasg⟩)
  obtain ⟨t, a1, b1⟩ := kk (T.setVm vm') hT X'
  exact ⟨t, st.trans a1, b1⟩
end Rows
section Ends
variable {p : Program} {l : Launch} {e : Env} {R : Room} {s : State} {m : MethodId} {args : Array Value} {below : List Frame} {meth : Method} {c : Code} {H : Heap} {locs : List Loc} {cells slots : Nat} {Q : State → Prop}
variable {mc ms : Nat} {free : Addr → Prop} {A0 A1 : Nat → Prop} {H0 : Heap} {a : Array Value} {ls : Array Slot} {st0 rest : List Value}
variable {Qc : Array Value → State → Outcome → State → Prop} {XC : String → State → State → Prop}
/-- what a body that may throw owes at its end -/
def vx_MQ (below : List Frame) (Qc : Array Value → State → Outcome → State → Prop) (XC : String → State → State → Prop) (a : Array Value) (s : State) (mc ms : Nat) (free : Addr → Prop) : State → Prop := fun t =>
  ∃ o, t.status = .running ∧ Ended t below o ∧ vx_Q Qc XC mc ms free a s o t
theorem vx_ret {g : JFrame} {mc ms : Nat} (k : W p l e R s m args below meth c H locs cells slots (MQ below Qc args s mc ms free) g) : W p l e R s m args below meth c H locs cells slots (vx_MQ below Qc XC args s mc ms free) g := by
  intro T hT X
  obtain ⟨t, a1, o, b1, b2, b3, b4⟩ := k T hT X
  exact ⟨t, a1, o, b1, b2, Or.inl ⟨b3, b4⟩⟩
/-- not caught here: it goes on to the caller -/
theorem vx_widen {g : JFrame} {q : Addr} {k n : Nat} (h1 : cells ≤ k) (h2 : slots ≤ n) (kk : vx_W p l e R s m args below meth c H locs k n Q g q) : vx_W p l e R s m args below meth c H locs cells slots Q g q := fun T hT X => kk T hT (stand_widen X h1 h2)
theorem vx_out {pc : Nat} {E : String} {ce : Cell} {q : Addr} {mc ms : Nat} (hout : ∀ x ∈ c.exceptionTable.toList, covers x pc = false) (hlocks : meth.locks = false) (hcell : H[q]? = some ce) (hv : ce.vm = .none) (hcl : s.vm.findClass E = some ce.cls)
    (hx : ∀ t : State, t.heap = H → s.vm.Alike t.vm → XC E s t) (hf : ∀ z ∈ locs, free z.base) (hc : cells ≤ mc) (hs : slots ≤ ms) :
    vx_W p l e R s m args below meth c H locs cells slots (vx_MQ below Qc XC args s mc ms free) (F0 m pc ls rest) q := by
  intro T hT X
  obtain ⟨st1, hrun, hend, hW, hsm⟩ := X.leaveThrown q (g := F0 m pc ls rest) rfl rfl rfl hout hlocks
  have hcell9 : (T.setFrames (.throwing q :: below)).heap[q]? = some ce := by
    show T.heap[q]? = some ce
    rw [hT]; exact hcell
  exact ⟨_, st1, .threw q, hrun, hend, Or.inr ⟨q, rfl, E, ce, locs, hx _ hT hW.alike, hcell9, hv, hcl, hW, hsm.mono hc hs, hf⟩⟩
theorem vx_frame {U : State} {k n : Nat} (h : s.sameButNew ({ U with vm := s.vm } : State) locs k n) : s.heap.size ≤ U.heap.size ∧ ∀ q : Nat, q < s.heap.size → (∀ z ∈ locs, z.base ≠ q) → U.heap[q]? = s.heap[q]? := by
  obtain ⟨-, h2, -, -, -, h6⟩ := h
  refine ⟨h2, fun q hq hz => ?_⟩
  obtain ⟨c9, e1, e2, e3, e4⟩ := h6 q _ (Array.getElem?_eq_getElem hq)
  have hs : c9.slots = (s.heap[q]).slots := Array.ext_getElem? fun i => e4 i fun hm => hz _ hm rfl
  have h9 : c9 = s.heap[q] := by
    rw [hs] at e2
    exact e2
  have e5 : U.heap[q]? = some c9 := e1
  rw [e5, h9, Array.getElem?_eq_getElem hq]
/-- the words of a throw but the four that speak of the heap -/
def vx_no (w : Cond) : Bool := decide (w ≠ .isRef (.static Bundle.tN "UNASSIGNED_STACK" Bundle.steD)) && decide (w ≠ .isRef (.static Bundle.tN "SUPPRESSED_SENTINEL" Bundle.listD)) && decide (w ≠ .laysStatic Bundle.tN "UNASSIGNED_STACK" Bundle.steD) && decide (w ≠ .laysStatic Bundle.tN "SUPPRESSED_SENTINEL" Bundle.listD)
def vx_at0 (own : String) (ic : Nat) (X : String) (names : List String) : List Cond := (Bundle.ownAtoms0 own ic X names).filter vx_no
def vx_atS (own : String) (ic : Nat) (X : String) (names : List String) : List Cond := (Bundle.ownAtoms own ic X names).filter vx_no
/-- a word that the tables alone decide, or a good one -/
def vx_ot (w : Cond) : Bool := w.onTables || goodWord w
theorem vx_ot_at {args a' : Array Value} {s U : State} {w : Cond} (hW : s.WarmedH U.vm) (hvm : s.vm = U.vm) (hg : vx_ot w = true) (h : w.before args s = true) : w.before a' U = true := by
  simp only [vx_ot, Bool.or_eq_true] at hg
  rcases hg with hg | hg
  · exact va_tabs hg hvm h
  · exact word_at hW (good_of_word hg) h
/-- a list's words: the good ones out of the method's own list, the others by premises of their own -/
theorem vx_hat {args : Array Value} {s : State} {L B : List Cond} (h1 : ∀ w ∈ L.filter goodWord, w.before args s = true) (h2 : ∀ w ∈ L.filter (fun w => !goodWord w), w ∈ B) (h3 : ∀ w ∈ B, w.before args s = true) : ∀ w ∈ L, w.before args s = true := by
  intro w hw
  by_cases g : goodWord w = true
  · exact h1 w (List.mem_filter.mpr ⟨hw, g⟩)
  · refine h3 w (h2 w (List.mem_filter.mpr ⟨hw, ?_⟩))
    show (!goodWord w) = true
    cases hgw : goodWord w
    · rfl
    · exact absurd hgw g
theorem vx_c {args : Array Value} {s : State} {w : Cond} {B : List Cond} (h : w.before args s = true) (t : ∀ w ∈ B, w.before args s = true) : ∀ w' ∈ w :: B, w'.before args s = true := fun w' h' => (List.mem_cons.mp h').elim (fun e => by rw [e]; exact h) (t w')
theorem vx_n {args : Array Value} {s : State} : ∀ w ∈ ([] : List Cond), w.before args s = true := fun _ h => nomatch h
theorem vx_own {args : Array Value} {s : State} {L : List Cond} (h1 : ∀ w ∈ L.filter vx_no, w.before args s = true)
    (hU : (Cond.isRef (.static Bundle.tN "UNASSIGNED_STACK" Bundle.steD)).before args s = true) (hN : (Cond.isRef (.static Bundle.tN "SUPPRESSED_SENTINEL" Bundle.listD)).before args s = true)
    (lU : (Cond.laysStatic Bundle.tN "UNASSIGNED_STACK" Bundle.steD).before args s = true) (lN : (Cond.laysStatic Bundle.tN "SUPPRESSED_SENTINEL" Bundle.listD).before args s = true) : ∀ w ∈ L, w.before args s = true := by
  intro w hw
  by_cases e1 : w = .isRef (.static Bundle.tN "UNASSIGNED_STACK" Bundle.steD)
  · rw [e1]; exact hU
  · by_cases e2 : w = .isRef (.static Bundle.tN "SUPPRESSED_SENTINEL" Bundle.listD)
    · rw [e2]; exact hN
    · by_cases e3 : w = .laysStatic Bundle.tN "UNASSIGNED_STACK" Bundle.steD
      · rw [e3]; exact lU
      · by_cases e4 : w = .laysStatic Bundle.tN "SUPPRESSED_SENTINEL" Bundle.listD
        · rw [e4]; exact lN
        · exact h1 w (List.mem_filter.mpr ⟨hw, by unfold vx_no; rw [decide_eq_true e1, decide_eq_true e2, decide_eq_true e3, decide_eq_true e4]; rfl⟩)
/-- where a static field lies, its class's statics cell in H -/
def vx_L (C n d : String) (A : Nat → Prop) (U : State) (H : Heap) : Prop := ∃ (c : ClassId) (k : Class) (i : Nat) (f : Field) (a : Nat) (cell : Cell), U.vm.findClass C = some c ∧ U.fieldFound? C n d = some (c, k, i, f) ∧ f.isStatic = true ∧ k.statics = some a ∧ H[a]? = some cell ∧ cell.vm.isStatics = true ∧ cell.cls = c ∧ f.slot < cell.slots.size ∧ k.staticTypes[f.slot]? = some f.type ∧ ¬ A a
theorem vx_L.moved {C n d : String} {A : Nat → Prop} {u U : State} {H : Heap} (hvm : u.vm.Alike U.vm) (h : vx_L C n d A u H) : vx_L C n d A U H := by
  obtain ⟨c, k, i, f, a, cell, h1, h2, h3, h4, h5, h6, h7, h8, h9, h10⟩ := h
  obtain ⟨k', hi', he⟩ := State.fieldFound?_setVm hvm h2
  exact ⟨c, k', i, f, a, cell, by rw [hvm.findClass]; exact h1, hi', h3, by rw [he]; exact h4, h5, h6, h7, h8, by rw [he]; exact h9, h10⟩
theorem vx_L.kept {C n d : String} {A : Nat → Prop} {U : State} {H H1 : Heap} (h : vx_L C n d A U H) (hq : ∀ a : Nat, a < H.size → ¬ A a → H1[a]? = H[a]?) : vx_L C n d A U H1 := by
  obtain ⟨c, k, i, f, a, cell, h1, h2, h3, h4, h5, h6, h7, h8, h9, h10⟩ := h
  exact ⟨c, k, i, f, a, cell, h1, h2, h3, h4, by rw [hq a (Array.getElem?_eq_some_iff.mp h5).1 h10]; exact h5, h6, h7, h8, h9, h10⟩
theorem vx_L.narrow {C n d : String} {A B : Nat → Prop} {U : State} {H : Heap} (h : vx_L C n d A U H) (hAB : ∀ q, B q → A q) : vx_L C n d B U H := by
  obtain ⟨c, k, i, f, a, cell, h1, h2, h3, h4, h5, h6, h7, h8, h9, h10⟩ := h
  exact ⟨c, k, i, f, a, cell, h1, h2, h3, h4, h5, h6, h7, h8, h9, fun z => h10 (hAB _ z)⟩
theorem vx_L.word {C n d : String} {A : Nat → Prop} {s : State} {args : Array Value} (h : vx_L C n d A s s.heap) : (Cond.laysStatic C n d).before args s = true := by
  obtain ⟨c, k, i, f, a, cell, h1, h2, h3, h4, h5, h6, h7, h8, h9, -⟩ := h
  show (Cond.laysStatic C n d).holds args s none s [] = true
  exact Cond.laysStatic_of h1 h2 h3 h4 h5 h6 h7 h8 h9
/-- .. and what it holds: null or some reference -/
def vx_Zq (C n d : String) (A : Nat → Prop) (U : State) (H : Heap) : Prop := va_Zq C n d A U H ∧ vx_L C n d A U H
theorem vx_Zq.moved {C n d : String} {A : Nat → Prop} {u U : State} {H : Heap} (hvm : u.vm.Alike U.vm) (h : vx_Zq C n d A u H) : vx_Zq C n d A U H := ⟨va_Zq.moved hvm h.1, vx_L.moved hvm h.2⟩
theorem vx_Zq.kept {C n d : String} {A : Nat → Prop} {U : State} {H H1 : Heap} (h : vx_Zq C n d A U H) (hq : ∀ a : Nat, a < H.size → ¬ A a → H1[a]? = H[a]?) : vx_Zq C n d A U H1 := ⟨va_Zq.kept h.1 hq, vx_L.kept h.2 hq⟩
theorem vx_Zq.narrow {C n d : String} {A B : Nat → Prop} {U : State} {H : Heap} (h : vx_Zq C n d A U H) (hAB : ∀ q, B q → A q) : vx_Zq C n d B U H := ⟨va_Zq.narrow h.1 hAB, vx_L.narrow h.2 hAB⟩
theorem vx_Zqof {args : Array Value} {s : State} {C n d : String} {A : Nat → Prop} (hl : (Cond.laysStatic C n d).before args s = true) (hini : (Cond.initialized C).before args s = true) (h : (Cond.isRef (.static C n d)).before args s = true) (hA : ∀ a : Nat, a < s.heap.size → ¬ A a) : vx_Zq C n d A s s.heap := by
  refine ⟨va_Zqof hl hini h hA, ?_⟩
  obtain ⟨c, k, i, f, a, cell, h1, h2, h3, h4, h5, h6, h7, h8, h9⟩ := Cond.laysStatic_spec hl
  exact ⟨c, k, i, f, a, cell, h1, h2, h3, h4, h5, h6, h7, h8, h9, hA a (Array.getElem?_eq_some_iff.mp h5).1⟩
theorem vx_isRef {C n d : String} {v : Value} {A : Nat → Prop} {s : State} {args : Array Value} (h : va_Z C n d v A s s.heap) (hv : v.isRef = true) : (Cond.isRef (.static C n d)).before args s = true := by
  obtain ⟨cf, kf, fi, f, a, cell, h1, h2, h3, h4, h5, h6, h7, -⟩ := h
  have he : (Term.static C n d).eval args s none [] s = some v := by
    simp [Term.eval, State.fieldNamed?, h1, h2, h4, h5, h6, h7]
  simp only [Cond.before, Cond.holds, Cond.value, he]
  cases v <;> simp_all [Value.isRef]
theorem vx_isRefq {C n d : String} {A : Nat → Prop} {s : State} {args : Array Value} (h : va_Zq C n d A s s.heap) : (Cond.isRef (.static C n d)).before args s = true := by
  rcases h with h | ⟨t, h⟩
  · exact vx_isRef h rfl
  · exact vx_isRef h rfl
/-- the same frame, seen from here: as if the method were called anew in this heap -/
theorem vx_rebase {T : State} (X : Stand p l e R s m args below meth c T locs cells slots) {R' : Room} (hf : R'.frames ≤ R.frames) (hl : R'.locals ≤ R.locals) (hc : cells + R'.cells ≤ R.cells) (hs : slots + R'.slots ≤ R.slots) :
    Stand p l e R' ((T.setVm s.vm).setFrames (.invoking m args :: below)) m args below meth c T [] 0 0 := by
  have htop : (T.setVm s.vm).topJava?.isSome := X.here.top
  have hF : ((T.setVm s.vm).setFrames (.invoking m args :: below)).frames = .invoking m args :: below := State.frames_setFrames _ (State.cur_lt_of_top htop)
  obtain ⟨g₀, hg0⟩ := Option.isSome_iff_exists.mp htop
  obtain ⟨r, hr⟩ := State.topJava?_eq_some.mp hg0
  have hl9 : e.platform.stackLimits (T.setVm s.vm).me = e.platform.stackLimits s.me := X.limits
  have hb9 : (T.setVm s.vm).me.stackBytes = s.me.stackBytes := X.bytes
  refine ⟨X.admits, X.cas, X.clock, hF, ?_, X.hears, X.method, X.code, X.here, X.tail, X.warmed, ?_, ?_, ?_⟩
  · have h := X.room
    have hU : ((T.setVm s.vm).setFrames (.invoking m args :: below)).localsInUse = s.localsInUse := by
      rw [State.localsInUse_invoking hF (meth := meth) (c := c) X.method X.code, State.localsInUse_invoking X.frames X.method X.code]
    simp only [State.hasRoom, Bool.and_eq_true, decide_eq_true_eq] at h ⊢
    obtain ⟨⟨⟨⟨h1, h2, h3, h4, h5, h6⟩, h7⟩, h8⟩, h9⟩ := h
    rw [X.frames, List.length_cons] at h2 h3
    have q1 := X.heapSize
    have q2 := X.used
    simp only [hF, hU, List.length_cons, State.stackLimits_setFrames, State.stackBytes_setFrames, hl9, hb9]
    refine ⟨⟨⟨⟨by omega, by omega, by omega, by omega, by omega, h6⟩, ?_⟩, ?_⟩, X.book⟩
    · show T.heap.size + R'.cells ≤ e.platform.maxCells
      omega
    · show T.slotsUsed + R'.slots ≤ e.platform.maxSlots
      omega
  · rw [State.stackLimits_setFrames]; rfl
  · rw [State.stackBytes_setFrames]; rfl
  · refine ⟨?_, Nat.le_refl _, Nat.le_refl _, ?_, ?_, fun a c9 h9 => ⟨c9, h9, rfl, rfl, fun _ _ => rfl⟩⟩
    · obtain ⟨t, ht, -⟩ := State.frames_cons hr
      show T.setVm s.vm = { ((T.setVm s.vm).setFrames (.invoking m args :: below)).setFrames (T.setVm s.vm).frames with heap := T.heap, slotsUsed := T.slotsUsed }
      rw [State.setFrames_setFrames, State.setFrames_self ht]
      rfl
    · show T.slotsUsed = T.slotsUsed + ((T.heap.toList.drop T.heap.size).map (·.slots.size)).sum
      rw [List.drop_eq_nil_of_le (Nat.le_of_eq Array.length_toList)]
      rfl
    · show ((T.heap.toList.drop T.heap.size).map (·.slots.size)).sum ≤ 0
      rw [List.drop_eq_nil_of_le (Nat.le_of_eq Array.length_toList)]
      exact Nat.le_refl _
/-- 'throw new E()': new; dup; invokespecial; athrow -/
theorem vx_throw0 {cc : ByteArray} {pc : Nat} (hexec : p.tables.exec = Jvm.exec) (hb : c.code = cc) (hl : l.stackTraces = false) {own cls : String} {names : List String} {ik ic mc ms : Nat} {A : Nat → Prop}
    (hown : s.vm.findClass own = some m.cls) (hcls : Bundle.fit cls = true) (hnames : ∀ n ∈ names, Bundle.fit n = true)
    (hk : (Cond.classLink own ik cls).before args s = true) (hini : (Cond.initialized cls).before args s = true) (hat : ∀ w ∈ vx_at0 own ic cls names, w.before args s = true)
    (hgood : ∀ w ∈ Cond.classLink own ik cls :: Cond.initialized cls :: vx_at0 own ic cls names, vx_ot w = true)
    (hU : vx_Zq Bundle.tN "UNASSIGNED_STACK" Bundle.steD A s s.heap) (hN : vx_Zq Bundle.tN "SUPPRESSED_SENTINEL" Bundle.listD A s s.heap) (hS : va_S A s.heap H locs) (hsize : ls.size = c.maxLocals)
    (d0 : decode cc pc = .ok (.new ik, 3)) (d3 : decode cc (pc + 3) = .ok (.dup, 1)) (d4 : decode cc (pc + 4) = .ok (.invokespecial ic, 3)) (d7 : decode cc (pc + 7) = .ok (.athrow, 1))
    (hout : ∀ x ∈ c.exceptionTable.toList, covers x (pc + 7) = false)
    (hRframes : names.length + 3 < R.frames) (hRlocals : (rest.map fun v => v.category).sum + (13 * (names.length + 1) + 42) ≤ R.locals) (hRcells : cells + 1 ≤ R.cells) (hRslots : slots + 6 ≤ R.slots) (hlocks : meth.locks = false)
    (hx : ∀ t : State, s.vm.Alike t.vm → H.size ≤ t.heap.size → (∀ q : Nat, q < H.size → t.heap[q]? = H[q]?) → XC cls s t)
    (hf : ∀ z ∈ locs, free z.base) (hc : cells + 1 ≤ mc) (hs : slots + 6 ≤ ms) :
    W p l e R s m args below meth c H locs cells slots (vx_MQ below Qc XC args s mc ms free) (F0 m pc ls rest) := by
  intro T hT X
  have htr : e.platform.stackTraces = false := (show e.platform.stackTraces = l.stackTraces by rw [X.admits.platform]).trans hl
  have Y := vx_rebase X (R' := { frames := R.frames, locals := R.locals, cells := 1, slots := 6 }) (Nat.le_refl _) (Nat.le_refl _) hRcells hRslots
  obtain ⟨s', hA⟩ : ∃ z, z = (T.setVm s.vm).setFrames (.invoking m args :: below) := ⟨_, rfl⟩
  rw [← hA] at Y
  have hvm : s'.vm = s.vm := by rw [hA]; rfl
  have hhp : s'.heap = H := by rw [hA]; exact hT
  have hW0 : s.WarmedH s'.vm := by rw [hvm]; exact State.WarmedH.refl s
  have hat' : ∀ w ∈ vx_at0 own ic cls names, w.before args s' = true := fun w hw => vx_ot_at hW0 hvm.symm (hgood w (List.mem_cons_of_mem _ (List.mem_cons_of_mem _ hw))) (hat w hw)
  have hk' : (Cond.classLink own ik cls).before args s' = true := vx_ot_at hW0 hvm.symm (hgood _ List.mem_cons_self) hk
  have hini' : (Cond.initialized cls).before args s' = true := vx_ot_at hW0 hvm.symm (hgood _ (List.mem_cons_of_mem _ List.mem_cons_self)) hini
  have hU' : vx_Zq Bundle.tN "UNASSIGNED_STACK" Bundle.steD A s' s'.heap := by rw [hhp]; exact vx_Zq.moved hW0.alike (hU.kept hS.2.1)
  have hN' : vx_Zq Bundle.tN "SUPPRESSED_SENTINEL" Bundle.listD A s' s'.heap := by rw [hhp]; exact vx_Zq.moved hW0.alike (hN.kept hS.2.1)
  have h : ∀ w ∈ Bundle.ownAtoms0 own ic cls names, w.before args s' = true := vx_own hat' (vx_isRefq hU'.1) (vx_isRefq hN'.1) hU'.2.word hN'.2.word
  have hown' : s'.vm.findClass own = some m.cls := by rw [hvm]; exact hown
  have hins : (Cond.instantiable cls 6).before args s' = true := h _ (by simp [Bundle.ownAtoms0])
  obtain ⟨vm₁, cX, kX, hfX, hkX, -, -, X₁, st1⟩ := Y.newCold hexec (own := own) (C := cls) (index := ik) (n := 6) hown' hk' hins hini'
    (g := F0 m pc ls rest) rfl (by rw [hb]; exact d0) (Nat.le_refl _) (Nat.le_refl _)
  generalize hT1 : (T.setVm vm₁).pushCell { cls := cX, slots := kX.instanceTypes.map defaultValue, vm := .none } = T1 at X₁ st1
  have hcat : (Value.ref T.heap.size).category = 1 := rfl
  have hcellA : T1.heap[T.heap.size]? = some (freshCell cX kX) := by rw [← hT1]; exact State.heap_pushCell_size _ _
  have d3' : decode c.code (pc + 3) = .ok (.dup, 1) := by rw [hb]; exact d3
  obtain ⟨U, hsteps, hrun, hend, hW, hsame, ce, hce, hO⟩ := X₁.ctorThrow0 hexec htr (own := own) (cls := cls) (names := names) (ic := ic) hown' hcls hnames h (fun x hx => nomatch hx) hfX hkX hcellA (by rw [hhp, hT]; exact Nat.le_refl _)
    (g := { method := m, pc := pc + 4, locals := ls, stack := .ref T.heap.size :: .ref T.heap.size :: rest, locked := none }) rfl hsize rfl rfl (rest := rest) rfl
    (by rw [hb]; exact d4) (by rw [hb]; exact d7) hout hRframes (by simp only [List.map_cons, List.sum_cons, hcat]; omega) hlocks
  obtain ⟨f1, f2⟩ := vx_frame hsame
  rw [hhp] at f1 f2
  have hWs : s.WarmedH U.vm := State.WarmedH.trans hW0 hW
  have hcl : s.vm.findClass cls = some ce.cls := by
    have h9 := hO.cls
    rw [hvm] at h9
    exact h9
  have hall : s.sameButNew ({ U with vm := s.vm } : State) locs mc ms := by
    subst hA
    obtain ⟨e1, e2⟩ := hsame
    rw [State.setFrames_setFrames] at e1
    have h2 : (T.setVm s.vm).sameButNew ({ U with vm := s.vm } : State) [] (0 + 1) (0 + 6) := ⟨e1, e2⟩
    have h3 := X.same.trans h2
    rw [List.append_nil] at h3
    exact h3.mono hc hs
  refine ⟨U, ?_, .threw T.heap.size, hrun, hend, Or.inr ⟨T.heap.size, rfl, cls, ce, locs, hx U hWs.alike f1 (fun q hq => f2 q hq (fun z hz => nomatch hz)), hce, hO.vm, hcl, hWs, hall, hf⟩⟩
  refine st1 _ ?_
  show Steps p.tables e below (T1.setTop { method := m, pc := pc + 3, locals := ls, stack := .ref T.heap.size :: rest, locked := none }) _
  jvm_step X₁.here [X₁.here.top, hexec, d3', Value.category]
  exact hsteps
/-- 'throw new E("text")': new; dup; ldc; invokespecial; athrow -/
theorem vx_throwS {cc : ByteArray} {pc : Nat} (hexec : p.tables.exec = Jvm.exec) (hb : c.code = cc) (hl : l.stackTraces = false) {own cls text : String} {names : List String} {ik is ic mc ms sa : Nat} {A : Nat → Prop}
    (hown : s.vm.findClass own = some m.cls) (hcls : Bundle.fit cls = true) (hnames : ∀ n ∈ names, Bundle.fit n = true)
    (hk : (Cond.classLink own ik cls).before args s = true) (hini : (Cond.initialized cls).before args s = true) (hstr : vk_R own is text sa s) (hat : ∀ w ∈ vx_atS own ic cls names, w.before args s = true)
    (hgood : ∀ w ∈ Cond.classLink own ik cls :: Cond.initialized cls :: vx_atS own ic cls names, vx_ot w = true)
    (hU : vx_Zq Bundle.tN "UNASSIGNED_STACK" Bundle.steD A s s.heap) (hN : vx_Zq Bundle.tN "SUPPRESSED_SENTINEL" Bundle.listD A s s.heap) (hS : va_S A s.heap H locs) (hsize : ls.size = c.maxLocals)
    (d0 : decode cc pc = .ok (.new ik, 3)) (d3 : decode cc (pc + 3) = .ok (.dup, 1)) (d4 : decode cc (pc + 4) = .ok (.ldc is, 2)) (d6 : decode cc (pc + 6) = .ok (.invokespecial ic, 3)) (d9 : decode cc (pc + 9) = .ok (.athrow, 1))
    (hout : ∀ x ∈ c.exceptionTable.toList, covers x (pc + 9) = false)
    (hRframes : names.length + 3 < R.frames) (hRlocals : (rest.map fun v => v.category).sum + (13 * (names.length + 1) + 43) ≤ R.locals) (hRcells : cells + 1 ≤ R.cells) (hRslots : slots + 6 ≤ R.slots) (hlocks : meth.locks = false)
    (hx : ∀ t : State, s.vm.Alike t.vm → H.size ≤ t.heap.size → (∀ q : Nat, q < H.size → t.heap[q]? = H[q]?) → XC cls s t)
    (hf : ∀ z ∈ locs, free z.base) (hc : cells + 1 ≤ mc) (hs : slots + 6 ≤ ms) :
    W p l e R s m args below meth c H locs cells slots (vx_MQ below Qc XC args s mc ms free) (F0 m pc ls rest) := by
  intro T hT X
  have htr : e.platform.stackTraces = false := (show e.platform.stackTraces = l.stackTraces by rw [X.admits.platform]).trans hl
  have Y := vx_rebase X (R' := { frames := R.frames, locals := R.locals, cells := 1, slots := 6 }) (Nat.le_refl _) (Nat.le_refl _) hRcells hRslots
  obtain ⟨s', hA⟩ : ∃ z, z = (T.setVm s.vm).setFrames (.invoking m args :: below) := ⟨_, rfl⟩
  rw [← hA] at Y
  have hvm : s'.vm = s.vm := by rw [hA]; rfl
  have hhp : s'.heap = H := by rw [hA]; exact hT
  have hW0 : s.WarmedH s'.vm := by rw [hvm]; exact State.WarmedH.refl s
  have hat' : ∀ w ∈ vx_atS own ic cls names, w.before args s' = true := fun w hw => vx_ot_at hW0 hvm.symm (hgood w (List.mem_cons_of_mem _ (List.mem_cons_of_mem _ hw))) (hat w hw)
  have hk' : (Cond.classLink own ik cls).before args s' = true := vx_ot_at hW0 hvm.symm (hgood _ List.mem_cons_self) hk
  have hini' : (Cond.initialized cls).before args s' = true := vx_ot_at hW0 hvm.symm (hgood _ (List.mem_cons_of_mem _ List.mem_cons_self)) hini
  have hU' : vx_Zq Bundle.tN "UNASSIGNED_STACK" Bundle.steD A s' s'.heap := by rw [hhp]; exact vx_Zq.moved hW0.alike (hU.kept hS.2.1)
  have hN' : vx_Zq Bundle.tN "SUPPRESSED_SENTINEL" Bundle.listD A s' s'.heap := by rw [hhp]; exact vx_Zq.moved hW0.alike (hN.kept hS.2.1)
  have h : ∀ w ∈ Bundle.ownAtoms own ic cls names, w.before args s' = true := vx_own hat' (vx_isRefq hU'.1) (vx_isRefq hN'.1) hU'.2.word hN'.2.word
  have hown' : s'.vm.findClass own = some m.cls := by rw [hvm]; exact hown
  have hins : (Cond.instantiable cls 6).before args s' = true := h _ (by simp [Bundle.ownAtoms])
  obtain ⟨vm₁, cX, kX, hfX, hkX, -, -, X₁, st1⟩ := Y.newCold hexec (own := own) (C := cls) (index := ik) (n := 6) hown' hk' hins hini'
    (g := F0 m pc ls rest) rfl (by rw [hb]; exact d0) (Nat.le_refl _) (Nat.le_refl _)
  generalize hT1 : (T.setVm vm₁).pushCell { cls := cX, slots := kX.instanceTypes.map defaultValue, vm := .none } = T1 at X₁ st1
  have hcat : (Value.ref T.heap.size).category = 1 := rfl
  have hcellA : T1.heap[T.heap.size]? = some (freshCell cX kX) := by rw [← hT1]; exact State.heap_pushCell_size _ _
  have d3' : decode c.code (pc + 3) = .ok (.dup, 1) := by rw [hb]; exact d3
  have d4' : decode c.code (pc + 4) = .ok (.ldc is, 2) := by rw [hb]; exact d4
  have hstr' : vk_R own is text sa s' := vk_R.warm hW0 hstr
  obtain ⟨U, hsteps, hrun, hend, hW, hsame, ce, hce, hO⟩ := X₁.ctorThrowS hexec htr (own := own) (cls := cls) (names := names) (ic := ic) hown' hcls hnames h (fun x hx => nomatch hx) hfX hkX hcellA (by rw [hhp, hT]; exact Nat.le_refl _) (msg := .ref sa) rfl
    (g := { method := m, pc := pc + 6, locals := ls, stack := .ref sa :: .ref T.heap.size :: .ref T.heap.size :: rest, locked := none }) rfl hsize rfl rfl (rest := rest) rfl
    (by rw [hb]; exact d6) (by rw [hb]; exact d9) hout hRframes (by simp only [List.map_cons, List.sum_cons, hcat]; omega) hlocks
  obtain ⟨f1, f2⟩ := vx_frame hsame
  rw [hhp] at f1 f2
  have hWs : s.WarmedH U.vm := State.WarmedH.trans hW0 hW
  have hcl : s.vm.findClass cls = some ce.cls := by
    have h9 := hO.cls
    rw [hvm] at h9
    exact h9
  have hall : s.sameButNew ({ U with vm := s.vm } : State) locs mc ms := by
    subst hA
    obtain ⟨e1, e2⟩ := hsame
    rw [State.setFrames_setFrames] at e1
    have h2 : (T.setVm s.vm).sameButNew ({ U with vm := s.vm } : State) [] (0 + 1) (0 + 6) := ⟨e1, e2⟩
    have h3 := X.same.trans h2
    rw [List.append_nil] at h3
    exact h3.mono hc hs
  refine ⟨U, ?_, .threw T.heap.size, hrun, hend, Or.inr ⟨T.heap.size, rfl, cls, ce, locs, hx U hWs.alike f1 (fun q hq => f2 q hq (fun z hz => nomatch hz)), hce, hO.vm, hcl, hWs, hall, hf⟩⟩
  refine st1 _ ?_
  show Steps p.tables e below (T1.setTop { method := m, pc := pc + 3, locals := ls, stack := .ref T.heap.size :: rest, locked := none }) _
  jvm_step X₁.here [X₁.here.top, hexec, d3', Value.category]
  exact X₁.ldcString hexec (own := own) (text := text) (index := is) (a := sa) hown' hstr'.1 hstr'.2
    (g := { method := m, pc := pc + 4, locals := ls, stack := .ref T.heap.size :: .ref T.heap.size :: rest, locked := none }) rfl d4' _ hsteps
/-- 'throw new E("text")', the text by a wide index -/
theorem vx_throwSW {cc : ByteArray} {pc : Nat} (hexec : p.tables.exec = Jvm.exec) (hb : c.code = cc) (hl : l.stackTraces = false) {own cls text : String} {names : List String} {ik is ic mc ms sa : Nat} {A : Nat → Prop}
    (hown : s.vm.findClass own = some m.cls) (hcls : Bundle.fit cls = true) (hnames : ∀ n ∈ names, Bundle.fit n = true)
    (hk : (Cond.classLink own ik cls).before args s = true) (hini : (Cond.initialized cls).before args s = true) (hstr : vk_R own is text sa s) (hat : ∀ w ∈ vx_atS own ic cls names, w.before args s = true)
    (hgood : ∀ w ∈ Cond.classLink own ik cls :: Cond.initialized cls :: vx_atS own ic cls names, vx_ot w = true)
    (hU : vx_Zq Bundle.tN "UNASSIGNED_STACK" Bundle.steD A s s.heap) (hN : vx_Zq Bundle.tN "SUPPRESSED_SENTINEL" Bundle.listD A s s.heap) (hS : va_S A s.heap H locs) (hsize : ls.size = c.maxLocals)
    (d0 : decode cc pc = .ok (.new ik, 3)) (d3 : decode cc (pc + 3) = .ok (.dup, 1)) (d4 : decode cc (pc + 4) = .ok (.ldc_w is, 3)) (d7 : decode cc (pc + 7) = .ok (.invokespecial ic, 3)) (d10 : decode cc (pc + 10) = .ok (.athrow, 1))
    (hout : ∀ x ∈ c.exceptionTable.toList, covers x (pc + 10) = false)
    (hRframes : names.length + 3 < R.frames) (hRlocals : (rest.map fun v => v.category).sum + (13 * (names.length + 1) + 43) ≤ R.locals) (hRcells : cells + 1 ≤ R.cells) (hRslots : slots + 6 ≤ R.slots) (hlocks : meth.locks = false)
    (hx : ∀ t : State, s.vm.Alike t.vm → H.size ≤ t.heap.size → (∀ q : Nat, q < H.size → t.heap[q]? = H[q]?) → XC cls s t)
    (hf : ∀ z ∈ locs, free z.base) (hc : cells + 1 ≤ mc) (hs : slots + 6 ≤ ms) :
    W p l e R s m args below meth c H locs cells slots (vx_MQ below Qc XC args s mc ms free) (F0 m pc ls rest) := by
  intro T hT X
  have htr : e.platform.stackTraces = false := (show e.platform.stackTraces = l.stackTraces by rw [X.admits.platform]).trans hl
  have Y := vx_rebase X (R' := { frames := R.frames, locals := R.locals, cells := 1, slots := 6 }) (Nat.le_refl _) (Nat.le_refl _) hRcells hRslots
  obtain ⟨s', hA⟩ : ∃ z, z = (T.setVm s.vm).setFrames (.invoking m args :: below) := ⟨_, rfl⟩
  rw [← hA] at Y
  have hvm : s'.vm = s.vm := by rw [hA]; rfl
  have hhp : s'.heap = H := by rw [hA]; exact hT
  have hW0 : s.WarmedH s'.vm := by rw [hvm]; exact State.WarmedH.refl s
  have hat' : ∀ w ∈ vx_atS own ic cls names, w.before args s' = true := fun w hw => vx_ot_at hW0 hvm.symm (hgood w (List.mem_cons_of_mem _ (List.mem_cons_of_mem _ hw))) (hat w hw)
  have hk' : (Cond.classLink own ik cls).before args s' = true := vx_ot_at hW0 hvm.symm (hgood _ List.mem_cons_self) hk
  have hini' : (Cond.initialized cls).before args s' = true := vx_ot_at hW0 hvm.symm (hgood _ (List.mem_cons_of_mem _ List.mem_cons_self)) hini
  have hU' : vx_Zq Bundle.tN "UNASSIGNED_STACK" Bundle.steD A s' s'.heap := by rw [hhp]; exact vx_Zq.moved hW0.alike (hU.kept hS.2.1)
  have hN' : vx_Zq Bundle.tN "SUPPRESSED_SENTINEL" Bundle.listD A s' s'.heap := by rw [hhp]; exact vx_Zq.moved hW0.alike (hN.kept hS.2.1)
  have h : ∀ w ∈ Bundle.ownAtoms own ic cls names, w.before args s' = true := vx_own hat' (vx_isRefq hU'.1) (vx_isRefq hN'.1) hU'.2.word hN'.2.word
  have hown' : s'.vm.findClass own = some m.cls := by rw [hvm]; exact hown
  have hins : (Cond.instantiable cls 6).before args s' = true := h _ (by simp [Bundle.ownAtoms])
  obtain ⟨vm₁, cX, kX, hfX, hkX, -, -, X₁, st1⟩ := Y.newCold hexec (own := own) (C := cls) (index := ik) (n := 6) hown' hk' hins hini'
    (g := F0 m pc ls rest) rfl (by rw [hb]; exact d0) (Nat.le_refl _) (Nat.le_refl _)
  generalize hT1 : (T.setVm vm₁).pushCell { cls := cX, slots := kX.instanceTypes.map defaultValue, vm := .none } = T1 at X₁ st1
  have hcat : (Value.ref T.heap.size).category = 1 := rfl
  have hcellA : T1.heap[T.heap.size]? = some (freshCell cX kX) := by rw [← hT1]; exact State.heap_pushCell_size _ _
  have d3' : decode c.code (pc + 3) = .ok (.dup, 1) := by rw [hb]; exact d3
  have d4' : decode c.code (pc + 4) = .ok (.ldc_w is, 3) := by rw [hb]; exact d4
  have hstr' : vk_R own is text sa s' := vk_R.warm hW0 hstr
  obtain ⟨U, hsteps, hrun, hend, hW, hsame, ce, hce, hO⟩ := X₁.ctorThrowS hexec htr (own := own) (cls := cls) (names := names) (ic := ic) hown' hcls hnames h (fun x hx => nomatch hx) hfX hkX hcellA (by rw [hhp, hT]; exact Nat.le_refl _) (msg := .ref sa) rfl
    (g := { method := m, pc := pc + 7, locals := ls, stack := .ref sa :: .ref T.heap.size :: .ref T.heap.size :: rest, locked := none }) rfl hsize rfl rfl (rest := rest) rfl
    (by rw [hb]; exact d7) (by rw [hb]; exact d10) hout hRframes (by simp only [List.map_cons, List.sum_cons, hcat]; omega) hlocks
  obtain ⟨f1, f2⟩ := vx_frame hsame
  rw [hhp] at f1 f2
  have hWs : s.WarmedH U.vm := State.WarmedH.trans hW0 hW
  have hcl : s.vm.findClass cls = some ce.cls := by
    have h9 := hO.cls
    rw [hvm] at h9
    exact h9
  have hall : s.sameButNew ({ U with vm := s.vm } : State) locs mc ms := by
    subst hA
    obtain ⟨e1, e2⟩ := hsame
    rw [State.setFrames_setFrames] at e1
    have h2 : (T.setVm s.vm).sameButNew ({ U with vm := s.vm } : State) [] (0 + 1) (0 + 6) := ⟨e1, e2⟩
    have h3 := X.same.trans h2
    rw [List.append_nil] at h3
    exact h3.mono hc hs
  refine ⟨U, ?_, .threw T.heap.size, hrun, hend, Or.inr ⟨T.heap.size, rfl, cls, ce, locs, hx U hWs.alike f1 (fun q hq => f2 q hq (fun z hz => nomatch hz)), hce, hO.vm, hcl, hWs, hall, hf⟩⟩
  refine st1 _ ?_
  show Steps p.tables e below (T1.setTop { method := m, pc := pc + 3, locals := ls, stack := .ref T.heap.size :: rest, locked := none }) _
  jvm_step X₁.here [X₁.here.top, hexec, d3', Value.category]
  exact X₁.ldcStringW hexec (own := own) (text := text) (index := is) (a := sa) hown' hstr'.1 hstr'.2
    (g := { method := m, pc := pc + 4, locals := ls, stack := .ref T.heap.size :: .ref T.heap.size :: rest, locked := none }) rfl d4' _ hsteps
end Ends
section Bodies
variable {l : Launch}
theorem vx_ofW {y : MethodName} {ws ws' : List Cond} {rm : Room} {Pc : Array Value → State → Prop} {Qc : Array Value → State → Outcome → State → Prop} {XC : String → State → State → Prop} {mc ms : Nat} {free : Addr → Prop} {cc : ByteArray} {maxL : Nat} {ret : Option FieldType}
    (hy : plainName y.cls = true) (hw : ws = Cond.code y cc maxL ret :: ws')
    (body : ∀ p e s m args below meth c s₁, BodyLoose p l y (headSpec ws rm) cc maxL ret e s m args below meth c s₁ → c.maxLocals = maxL → (∀ x ∈ c.exceptionTable.toList, False) → Pc args s →
      W p l e (headSpec ws rm).room s m args below meth c s.heap [] 0 0 (vx_MQ below Qc XC args s mc ms free) (entryFrame m args maxL)) : vx_Met l y ws rm Pc Qc XC mc ms free := by
  refine MetFree.of_bodyS (code := cc) (maxLocals := maxL) (ret := ret) hy ?_ ?_
  · intro args s m h hn
    obtain ⟨meth, c, h1, h2, h3, h4, h5, h6, -, -⟩ := Cond.code_spec hn (atoms_spec (ws := ws) h _ (by rw [hw]; exact List.mem_cons_self))
    exact ⟨meth, c, h1, h2, h3, h4, h5, h6⟩
  · intro p e s m args below meth c s₁ B hml hP _
    have hh0 : s₁.heap = s.heap := by rw [B.state]; rfl
    have ht : ∀ x ∈ c.exceptionTable.toList, False := by
      obtain ⟨meth9, c9, h1, h2, -, -, -, -, h7, -⟩ := Cond.code_spec B.named (atoms_spec (ws := ws) B.pre _ (by rw [hw]; exact List.mem_cons_self))
      cases Option.some.inj (h1.symm.trans B.method)
      cases Option.some.inj (h2.symm.trans (Stand.of_body B).code)
      intro x hx
      rw [Array.isEmpty_iff.mp h7] at hx
      cases hx
    obtain ⟨t, a1, o, b1, b2, b3⟩ := body p e s m args below meth c s₁ B hml ht hP s₁ hh0 (Stand.of_body B)
    exact ⟨t, o, a1, b1, b2, b3⟩
/-- the table of a body with handlers -/
theorem vx_table {p : Program} {x y : MethodName} {S : Spec} {cc bytes : ByteArray} {maxL maxL' : Nat} {ret ret' : Option FieldType} {e : Env} {s s₁ : State} {m : MethodId} {args : Array Value} {below : List Frame} {meth : Method} {c : Code} {hh : List (Nat × Nat × Nat × Nat)}
    (B : BodyLoose p l y S cc maxL ret e s m args below meth c s₁) (h : (Cond.codeWith y bytes maxL' ret' hh).before args s = true) : c.exceptionTable.toList = tableOf hh := by
  obtain ⟨m9, meth9, c9, hn9, h1, h2, -, -, h6, -⟩ := Cond.codeWith_spec h
  cases Option.some.inj (hn9.symm.trans B.named)
  cases Option.some.inj (h1.symm.trans B.method)
  cases Option.some.inj (h2.symm.trans (Stand.of_body B).code)
  rw [← h6, table_eq]
end Bodies
end VXA
/-! ===== END ===== -/
/-! ===== BEGIN a static call of a method with an exception table ===== -/
section VXS
variable {p : Program} {l : Launch} {e : Env} {R : Room} {s : State} {m : MethodId} {args : Array Value} {below : List Frame} {meth : Method} {c : Code} {T : State} {H : Heap} {locs : List Loc} {cells slots : Nat}
abbrev vx_CSW (R : Room) (s : State) (args : Array Value) (own : String) (index : Nat) (y : MethodName) (bytes : ByteArray) (maxL : Nat) (ret : Option FieldType) (hh : List (Nat × Nat × Nat × Nat)) (ws : List Cond) (rm : Room) (mc ms n : Nat) : Prop :=
  (rm.cells = mc ∧ rm.slots = ms ∧ rm.frames + 1 ≤ R.frames ∧ 8 + (maxL + 11) + rm.locals ≤ R.locals ∧ (∀ w ∈ ws, ∀ (a' : Array Value) (U : State), s.WarmedH U.vm → w.before a' U = true) ∧ Cond.codeWith y bytes maxL ret hh ∈ ws) ∧
  (Cond.codeWith y bytes maxL ret hh).before args s = true ∧ (Cond.initialized y.cls).before args s = true ∧ (y.cls ≠ "java/lang/invoke/MethodHandle" ∧ y.cls ≠ "java/lang/invoke/VarHandle") ∧
  (∀ sig, parseMethodDescriptor y.desc = some sig → n = sig.parameters.length) ∧ (Cond.methodLink own index y).before args s = true ∧ (Cond.static y).before args s = true
theorem vx_cwSW {own : String} {index maxL mc ms : Nat} {y : MethodName} {bytes : ByteArray} {ret : Option FieldType} {hh : List (Nat × Nat × Nat × Nat)} {Ts ws ws' : List Cond} {rm : Room} (n : Nat) (ht : ∀ w ∈ Ts, w.before args s = true) (hT : GoodIn Ts (va_wsS own index y ws)) (hw : ws = Cond.codeWith y bytes maxL ret hh :: ws') (hrc : rm.cells = mc) (hrs : rm.slots = ms)
    (hd : y.cls ≠ "java/lang/invoke/MethodHandle" ∧ y.cls ≠ "java/lang/invoke/VarHandle" ∧ (parseMethodDescriptor y.desc).map (fun d => d.parameters.length) = some n) (hR : rm.frames + 1 ≤ R.frames ∧ 8 + (maxL + 11) + rm.locals ≤ R.locals) :
    vx_CSW R s args own index y bytes maxL ret hh ws rm mc ms n := by
  have ok : ∀ w ∈ va_wsS own index y ws, w.before args s = true := fun w h => ht w (hT w h).1
  have hG : GoodIn Ts ws := fun w h => hT w (by unfold va_wsS; exact List.mem_append_right _ h)
  have hc : Cond.codeWith y bytes maxL ret hh ∈ ws := by rw [hw]; exact List.mem_cons_self
  refine ⟨⟨hrc, hrs, hR.1, hR.2, pay_in ht hG, hc⟩, ht _ (hG _ hc).1, ok _ (by simp [va_wsS]), ⟨hd.1, hd.2.1⟩, fun sig h => ?_, ok _ (by simp [va_wsS]), ok _ (by simp [va_wsS])⟩
  have h2 := hd.2.2
  rw [h] at h2
  exact (Option.some.inj h2).symm
theorem vx_callSW (X : Stand p l e R s m args below meth c T locs cells slots) (hexec : p.tables.exec = Jvm.exec) {own : String} {index : Nat} {y : MethodName} {bytes : ByteArray} {maxL : Nat} {ret : Option FieldType} {hh : List (Nat × Nat × Nat × Nat)}
    (hown : s.vm.findClass own = some m.cls) (hlink : (Cond.methodLink own index y).before args s = true) (hstat : (Cond.static y).before args s = true) (hinit : (Cond.initialized y.cls).before args s = true)
    (hcode : (Cond.codeWith y bytes maxL ret hh).before args s = true) (hy : y.cls ≠ "java/lang/invoke/MethodHandle" ∧ y.cls ≠ "java/lang/invoke/VarHandle")
    {W9 : Nat} {Pre : Pt → Array Value → Prop} {Post : Pt → Array Value → Option Value → Pt → Prop} (hK : Back l R p e below s args y 3 W9 Pre Post)
    {g : JFrame} (hg : g.method = m) (hsize : g.locals.size = c.maxLocals) {argsL rest : List Value} (hlen : ∀ sig, parseMethodDescriptor y.desc = some sig → argsL.length = sig.parameters.length)
    (hstack : g.stack = argsL.reverse ++ rest) (hW : 2 * g.monitorRoom + (rest.map fun v => v.category).sum ≤ W9) (hdg : decode c.code g.pc = .ok (.invokestatic index, 3))
    (hpre : ∀ vm₁, s.WarmedH vm₁ → Pre ⟨T.setVm vm₁, locs, cells, slots⟩ argsL.toArray) :
    ∃ (v : Option Value) (vm₁ : Vm) (B : Pt), s.WarmedH vm₁ ∧ Stand p l e R s m args below meth c B.U B.locs B.cells B.slots ∧ Post ⟨T.setVm vm₁, locs, cells, slots⟩ argsL.toArray v B ∧
      ∀ target, Steps p.tables e below (B.U.setTop { g with pc := g.pc + 3, stack := v.toList ++ rest }) target → Steps p.tables e below (T.setTop g) target := by
  obtain ⟨mk, methM, cM, hnamed, hmethM, -, -, -, -, -, -, hsigM⟩ := Cond.codeWith_spec hcode
  have hstatic : methM.isStatic = true := Cond.static_spec hnamed hmethM hstat
  obtain ⟨kP, hkP, -⟩ := className_of_methodNamed hnamed
  have hinitP : kP.init = .initialized := Cond.initialized_spec (findClass_of_methodNamed hnamed) hkP hinit
  obtain ⟨vm₁, X₁, hstep₁⟩ := X.invokestatic hexec hown hlink hnamed hmethM hstatic hkP hinitP hy (g := g) hg (argsL := argsL) (rest := rest) (hlen _ hsigM) hstack hdg
  obtain ⟨v, B, X', hpost, hsteps⟩ := hK m meth c ⟨T.setVm vm₁, locs, cells, slots⟩ { g with stack := rest } (.invokestatic index) mk argsL.toArray X₁ hg hsize hdg hW (X₁.named hnamed) (hpre vm₁ X₁.warmed)
  exact ⟨v, vm₁, B, X₁.warmed, X', hpost, fun target h => hstep₁ _ fun acts => by rw [doInvoke_state]; exact hsteps.trans h⟩
theorem vx_runSW {y : MethodName} {bytes cc : ByteArray} {maxL nL mc ms n index : Nat} {ret : Option FieldType} {hh : List (Nat × Nat × Nat × Nat)} {ws : List Cond} {rm : Room} {Pc : Array Value → State → Prop} {Qc : Array Value → State → Outcome → State → Prop} {free : Addr → Prop} {Ts : List Cond} {own : String} {As rest : List Value} {g : JFrame}
    (S : CallFix p m c cc nL s args Ts own) (hM : Met l y ws rm Pc Qc mc ms free) (cw : vx_CSW R s args own index y bytes maxL ret hh ws rm mc ms n) (hp : PreS s H Pc As)
    (hg : g.method = m) (hn : As.length = n) (hsize : g.locals.size = nL) (hstack : g.stack = As.reverse ++ rest) (hW : 2 * g.monitorRoom + (rest.map fun v => v.category).sum ≤ 8) (hdg : decode cc g.pc = .ok (.invokestatic index, 3)) (hf : cells + mc ≤ R.cells ∧ slots + ms ≤ R.slots) :
    va_Run p l e R s m args below meth c H locs cells slots mc ms g rest (Qc As.toArray) (free) := by
  obtain ⟨⟨hrc, hrs, hfr, hlo, hws, hcw⟩, hcode, hini, hy, hlen, hl, hstt⟩ := cw
  have hK : Back l R p e below s args y 3 8 (PreOf R mc ms Pc) (PostOf Qc mc ms free) := va_backW (hh := hh) (bytes := bytes) (maxL := maxL) (ret := ret) hM hp.1 hrc hrs hfr hlo hws hcw (fun a' U hW => word_at hW (Or.inl (by first | rfl | simp [Cond.onTables, Cond.keeps, Cond.steady])) hini)
  obtain ⟨hx, hb, hml, ho, -⟩ := S
  intro T hT X
  obtain ⟨v, vm₁, ⟨U', l2, c2, s2⟩, hW₁, X', ⟨g', mk, t, L, e1, e2, hq, h1, hL, h2, h3⟩, st⟩ := vx_callSW X hx (hh := hh) (bytes := bytes) (maxL := maxL) (ret := ret) ho hl hstt hini hcode hy hK hg (hsize.trans hml.symm) (argsL := As) (rest := rest) (fun sig h => hn.trans (hlen sig h)) hstack hW (by rw [hb]; exact hdg)
    (fun vm₁ hW₁ => ⟨hf.1, hf.2, hp.2 (T.setVm vm₁) hT hW₁⟩)
  dsimp only [Pt.U, Pt.locs, Pt.cells, Pt.slots] at X' e1 e2 h1 h2 h3 st
  subst h1; subst h2; subst h3
  exact ⟨v, (T.setVm vm₁).calling g' mk As.toArray, t, U', L, hT, X', hL, e1, e2, hq, st⟩
/-- not caught here, past rows that name other classes: it goes on to the caller -/
theorem vx_outP {p : Program} {l : Launch} {e : Env} {R : Room} {s : State} {m : MethodId} {args : Array Value} {below : List Frame} {meth : Method} {c : Code} {H : Heap} {locs : List Loc} {cells slots : Nat} {free : Addr → Prop} {ls : Array Slot} {rest : List Value} {Qc : Array Value → State → Outcome → State → Prop} {XC : String → State → State → Prop}
    {pc : Nat} {own E : String} {ce : Cell} {q : Addr} {mc ms : Nat} (hown : s.vm.findClass own = some m.cls) (hlocks : meth.locks = false)
    (hpass : ∀ z ∈ c.exceptionTable.toList, covers z pc = false ∨ (z.catchType ≠ 0 ∧ ∃ nm : String, (Cond.classLink own z.catchType nm).before args s = true ∧ va_Nc E nm s)) (hcell : H[q]? = some ce) (hv : ce.vm = .none) (hcl : s.vm.findClass E = some ce.cls)
    (hx : ∀ t : State, t.heap = H → s.vm.Alike t.vm → XC E s t) (hf : ∀ z ∈ locs, free z.base) (hc : cells ≤ mc) (hs : slots ≤ ms) :
    vx_W p l e R s m args below meth c H locs cells slots (vx_MQ below Qc XC args s mc ms free) (F0 m pc ls rest) q := by
  intro T hT X
  have hpl : e.platform.magicAccessors = ({} : Platform).magicAccessors := by rw [X.admits.platform]
  obtain ⟨vm', hW', X', st⟩ := X.outThrough hlocks q (g := F0 m pc ls rest) rfl rfl rfl (cell := ce) (by rw [hT]; exact hcell) (by rw [hv]; rfl)
    (by obtain ⟨k9, h9, -⟩ := Vm.findClass_spec hcl; exact ⟨k9, h9⟩) (fun z hz => by
      rcases hpass z hz with h | ⟨hz0, nm, hl1, hn1⟩
      · exact Or.inl h
      · obtain ⟨c6, hc6, hcl6⟩ := Cond.classLink_spec hown hl1 e.platform hpl
        obtain ⟨a8, b8, h1, h2, h3⟩ := hn1
        cases Option.some.inj (h1.symm.trans hcl)
        cases Option.some.inj (h2.symm.trans hc6)
        exact Or.inr ⟨hz0, _, hcl6, h3⟩)
  obtain ⟨g₀, hfr⟩ := X'.frames_eq
  have hcell9 : ((T.setVm vm').setFrames (.throwing q :: below)).heap[q]? = some ce := by
    show T.heap[q]? = some ce
    rw [hT]; exact hcell
  have hend : Ended ((T.setVm vm').setFrames (.throwing q :: below)) below (.threw q) := State.frames_setFrames _ (State.cur_lt_of_frames hfr)
  refine ⟨(T.setVm vm').setFrames (.throwing q :: below), ?_, .threw q, X'.here.running, hend, Or.inr ⟨q, rfl, E, ce, locs, hx _ hT (X'.ends _).1.alike, hcell9, hv, hcl, (X'.ends _).1, (X'.ends _).2.mono hc hs, hf⟩⟩
  rw [X.pushThrowing_eq]
  exact st
/-- a thing of a world lies in the heap -/
theorem vx_lt {D : va_G} {cl : List vw_C} {ws : va_W} {H1 : Heap} (h : va_P D cl ws H1) {k : Nat} {q : Nat × va_E} (hk : ws[k]? = some q) : q.1 < H1.size := (h k q hk).lt
end VXS
/-! ===== END ===== -/
/-! ===== BEGIN methods with a table of their own: called by a name, returning or throwing ===== -/
section VXH
/-! vx_backW, vx_callVX, vx_callSX, vx_callVW, vx_runVW, vx_runVX, vx_runSX, vx_ofWH follow the same proofs as their sisters above (Free/Laws.lean, Shelf42/LK1.lean); vx_outP calls Shelf42/NT130.lean (outThrough). -/
section
variable {l : Launch} {R : Room} {p : Program} {e : Env} {below : List Frame} {s : State} {sargs : Array Value} {y : MethodName} {len W9 : Nat}
theorem vx_backW {ws : List Cond} {rm : Room} {Pc : Array Value → State → Prop} {Qc : Array Value → State → Outcome → State → Prop} {XC : String → State → State → Prop} {mc ms : Nat} {free : Addr → Prop} {bytes : ByteArray} {maxL : Nat} {ret : Option FieldType} {hh : List (Nat × Nat × Nat × Nat)}
    (hM : vx_Met l y ws rm Pc Qc XC mc ms free) (hblind : FrameBlind Pc) (hrc : rm.cells = mc) (hrs : rm.slots = ms)
    (hframes : rm.frames + 1 ≤ R.frames) (hlocals : W9 + (maxL + 11) + rm.locals ≤ R.locals)
    (hws : ∀ w ∈ ws, ∀ a' U, s.WarmedH U.vm → w.before a' U = true) (hcode : Cond.codeWith y bytes maxL ret hh ∈ ws) (hinit : ∀ a' U, s.WarmedH U.vm → (Cond.initialized y.cls).before a' U = true) :
    vx_Back l R p e below s sargs y len W9 (PreOf R mc ms Pc) (PostOf Qc mc ms free) (vx_Post XC mc ms free) := by
  intro m meth c A g ig mk a X hg hsize hdg hW hn hp
  have h1 : (headSpec ws rm).pre.before a A.U = true := atoms_intro fun w hw => hws w hw _ _ X.warmed
  have h2 : (Cond.codeWith y bytes maxL ret hh).before a A.U = true := hws _ hcode _ _ X.warmed
  have h3 : (Cond.initialized y.cls).before a A.U = true := hinit _ _ X.warmed
  have h4 : A.cells + (headSpec ws rm).room.cells ≤ R.cells := by rw [show (headSpec ws rm).room.cells = mc from hrc]; exact hp.1
  have h5 : A.slots + (headSpec ws rm).room.slots ≤ R.slots := by rw [show (headSpec ws rm).room.slots = ms from hrs]; exact hp.2.1
  have hPc : Pc a (A.U.calling g mk a) := hblind _ _ _ _ hp.2.2
  obtain ⟨U, Ls, c0, s0⟩ := A
  dsimp only [Pt.U, Pt.locs, Pt.cells, Pt.slots] at h1 h2 h3 h4 h5 X hn hPc ⊢
  obtain ⟨m9, methY, cY, hn9, hmY, hcY, -, hlY, -⟩ := Cond.codeWith_spec h2
  cases Option.some.inj (hn9.symm.trans hn)
  obtain ⟨kY, hkY, -⟩ := className_of_methodNamed hn
  have hinitY : kY.init = .initialized := Cond.initialized_spec (findClass_of_methodNamed hn) hkY h3
  have h : At U g.method c below := by rw [hg]; exact X.here
  have hlocals9 : W9 + (maxL + 11) + (headSpec ws rm).room.locals ≤ R.locals := hlocals
  have happ : (headSpec ws rm).appliesLoose y e.platform (U.calling g mk a) = true :=
    Spec.appliesLoose_calling (g := g) h hdg hn hkY hinitY
      (X.room_calling (g := g) (R' := (headSpec ws rm).room) hsize hmY hcY hframes (by rw [hlY]; omega) h4 h5) h1
  obtain ⟨mid, hmid⟩ := h.above
  have hfr : (U.setTop g).frames = (.java g :: mid) ++ below := by rw [State.frames_setTop' g h.top, hmid]; rfl
  obtain ⟨o, s₂, hsteps, -, hend, hq⟩ := Steps.callFree hM p X.admits X.cas X.clock (acts := []) hfr happ hPc trivial
  have hq' : vx_Q Qc XC mc ms free a (U.calling g mk a) o s₂ := hq
  rw [State.frames_setTop' g h.top] at hend
  obtain ⟨g₀, hg0⟩ := Option.isSome_iff_exists.mp h.top
  obtain ⟨r, hr⟩ := State.topJava?_eq_some.mp hg0
  have hr' : (({ U with heap := s₂.heap, slotsUsed := s₂.slotsUsed } : State).setVm s₂.vm).frames = .java g₀ :: r := hr
  rcases hq' with ⟨hqc, L, hfe, hL⟩ | ⟨q, rfl, E, ce, L, hx, hce, hcv, hcl, hW₂, hsm, hL⟩
  · obtain ⟨⟨v, rfl⟩, hW₂, e2, q2, q3, q4, q5, q6⟩ := id hfe
    have e3 : s₂ = ({ (U.calling g mk a).setFrames s₂.frames with heap := s₂.heap, slotsUsed := s₂.slotsUsed } : State).setVm s₂.vm := by
      have : s₂ = ({ s₂ with vm := (U.calling g mk a).vm } : State).setVm s₂.vm := rfl
      rw [e2] at this
      exact this
    obtain ⟨c₂, i₂, len₂, hc₂, hd₂, hf₂⟩ := hend
    have hW' : U.WarmedH s₂.vm := hW₂
    have hcc : c₂ = c := by
      have h1 : s₂.code? g.method = U.code? g.method := by
        rw [State.code?_eq, State.code?_eq, hW'.alike.method?]
      exact Option.some.inj (hc₂.symm.trans (h1.trans h.code))
    subst hcc
    have hlen : len₂ = len := by rw [hdg] at hd₂; cases hd₂; rfl
    subst hlen
    have hs₂ : s₂ = (({ U with heap := s₂.heap, slotsUsed := s₂.slotsUsed } : State).setVm s₂.vm).setTop { g with pc := g.pc + len₂, stack := v.toList ++ g.stack } := by
      refine e3.trans ?_
      rw [hf₂, State.calling_eq h.top, State.setFrames_setFrames, State.setTop_of_frames _ hr', hr]
      rfl
    have hsame : U.sameButNew ({ U with heap := s₂.heap, slotsUsed := s₂.slotsUsed } : State) L mc ms := by
      refine ⟨?_, q2, q3, q4, q5, q6⟩
      obtain ⟨t, ht, -⟩ := State.frames_cons hr
      show ({ U with heap := s₂.heap, slotsUsed := s₂.slotsUsed } : State) = { U.setFrames U.frames with heap := s₂.heap, slotsUsed := s₂.slotsUsed }
      rw [State.setFrames_self ht]
    subst hg
    refine Or.inl ⟨v, ⟨(({ U with heap := s₂.heap, slotsUsed := s₂.slotsUsed } : State).setVm s₂.vm), Ls ++ L, c0 + mc, s0 + ms⟩,
      ⟨X.admits, X.cas, X.clock, X.frames, X.room, X.hears, X.method, X.code, (X.here.setHeapUsed s₂.heap s₂.slotsUsed).setVm hW'.alike, X.tail, State.WarmedH.trans X.warmed hW', X.limits, X.bytes, X.same.trans (hsame.setVm s.vm)⟩,
      ⟨g, mk, s₂, L, rfl, rfl, hqc, rfl, hL, rfl, rfl⟩, ?_⟩
    show Steps p.tables e below _ ((({ U with heap := s₂.heap, slotsUsed := s₂.slotsUsed } : State).setVm s₂.vm).setTop { g with pc := g.pc + len₂, stack := v.toList ++ g.stack })
    rw [← hs₂]
    exact hsteps
  · obtain ⟨e2, q2, q3, q4, q5, q6⟩ := id hsm
    have e3 : s₂ = ({ (U.calling g mk a).setFrames s₂.frames with heap := s₂.heap, slotsUsed := s₂.slotsUsed } : State).setVm s₂.vm := by
      have : s₂ = ({ s₂ with vm := (U.calling g mk a).vm } : State).setVm s₂.vm := rfl
      rw [e2] at this
      exact this
    have hf₂ : s₂.frames = .throwing q :: .java g :: U.frames.tail := hend
    have hW' : U.WarmedH s₂.vm := hW₂
    have hs₂ : s₂ = ((({ U with heap := s₂.heap, slotsUsed := s₂.slotsUsed } : State).setVm s₂.vm).setTop g).pushFrame (.throwing q) := by
      refine e3.trans ?_
      rw [hf₂, State.calling_eq h.top, State.setFrames_setFrames, State.pushFrame, State.frames_setTop _ hr', State.setTop_of_frames _ hr', State.setFrames_setFrames, hr]
      rfl
    have hsame : U.sameButNew ({ U with heap := s₂.heap, slotsUsed := s₂.slotsUsed } : State) L mc ms := by
      refine ⟨?_, q2, q3, q4, q5, q6⟩
      obtain ⟨t, ht, -⟩ := State.frames_cons hr
      show ({ U with heap := s₂.heap, slotsUsed := s₂.slotsUsed } : State) = { U.setFrames U.frames with heap := s₂.heap, slotsUsed := s₂.slotsUsed }
      rw [State.setFrames_self ht]
    subst hg
    refine Or.inr ⟨q, ⟨(({ U with heap := s₂.heap, slotsUsed := s₂.slotsUsed } : State).setVm s₂.vm), Ls ++ L, c0 + mc, s0 + ms⟩,
      ⟨X.admits, X.cas, X.clock, X.frames, X.room, X.hears, X.method, X.code, (X.here.setHeapUsed s₂.heap s₂.slotsUsed).setVm hW'.alike, X.tail, State.WarmedH.trans X.warmed hW', X.limits, X.bytes, X.same.trans (hsame.setVm s.vm)⟩,
      ⟨g, mk, s₂, L, E, ce, rfl, rfl, hx, hce, hcv, hcl, rfl, hL, rfl, rfl⟩, ?_⟩
    show Steps p.tables e below _ (((({ U with heap := s₂.heap, slotsUsed := s₂.slotsUsed } : State).setVm s₂.vm).setTop g).pushFrame (.throwing q))
    rw [← hs₂]
    exact hsteps
end
variable {p : Program} {l : Launch} {e : Env} {R : Room} {s : State} {m : MethodId} {args : Array Value} {below : List Frame} {meth : Method} {c : Code} {T : State} {H : Heap} {locs : List Loc} {cells slots : Nat}
theorem vx_callVX (X : Stand p l e R s m args below meth c T locs cells slots) (hexec : p.tables.exec = Jvm.exec) {own C : String} {index : Nat} {y : MethodName} {bytes : ByteArray} {maxL : Nat} {ret : Option FieldType} {hh : List (Nat × Nat × Nat × Nat)}
    (hown : s.vm.findClass own = some m.cls) (hlink : (Cond.methodLink own index y).before args s = true) (hinst : (Cond.instanceMethod y).before args s = true) (hsel : (Cond.selects C y y).before args s = true)
    (hcode : (Cond.codeWith y bytes maxL ret hh).before args s = true) (hy : y.cls ≠ "java/lang/invoke/MethodHandle" ∧ y.cls ≠ "java/lang/invoke/VarHandle")
    {W9 : Nat} {Pre : Pt → Array Value → Prop} {Post : Pt → Array Value → Option Value → Pt → Prop} {PostX : Pt → Array Value → Addr → Pt → Prop} (hK : vx_Back l R p e below s args y 3 W9 Pre Post PostX)
    {b : Addr} {cellB : Cell} (hcell : T.heap[b]? = some cellB) (hobj : cellB.vm.isStatics = false) (hcls : s.vm.findClass C = some cellB.cls)
    {g : JFrame} (hg : g.method = m) (hsize : g.locals.size = c.maxLocals) {argsL rest : List Value} (hlen : ∀ sig, parseMethodDescriptor y.desc = some sig → argsL.length = sig.parameters.length)
    (hstack : g.stack = argsL.reverse ++ .ref b :: rest) (hW : 2 * g.monitorRoom + (rest.map fun v => v.category).sum ≤ W9) (hdg : decode c.code g.pc = .ok (.invokevirtual index, 3))
    (hpre : ∀ vm₁, s.WarmedH vm₁ → Pre ⟨T.setVm vm₁, locs, cells, slots⟩ (Value.ref b :: argsL).toArray) :
    (∃ (v : Option Value) (vm₁ : Vm) (B : Pt), s.WarmedH vm₁ ∧ Stand p l e R s m args below meth c B.U B.locs B.cells B.slots ∧ Post ⟨T.setVm vm₁, locs, cells, slots⟩ (Value.ref b :: argsL).toArray v B ∧
      ∀ target, Steps p.tables e below (B.U.setTop { g with pc := g.pc + 3, stack := v.toList ++ rest }) target → Steps p.tables e below (T.setTop g) target) ∨
    (∃ (q : Addr) (vm₁ : Vm) (B : Pt), s.WarmedH vm₁ ∧ Stand p l e R s m args below meth c B.U B.locs B.cells B.slots ∧ PostX ⟨T.setVm vm₁, locs, cells, slots⟩ (Value.ref b :: argsL).toArray q B ∧
      Steps p.tables e below (T.setTop g) ((B.U.setTop { g with stack := rest }).pushFrame (.throwing q))) := by
  obtain ⟨mk, methM, hnamed, hmethM, hstM, habM⟩ := Cond.instanceMethod_spec hinst
  obtain ⟨m8, methM', cM, hn8, hmethM', -, -, -, -, -, -, hsigM⟩ := Cond.codeWith_spec hcode
  cases Option.some.inj (hn8.symm.trans hnamed)
  cases hmethM.symm.trans hmethM'
  obtain ⟨c2, r2, m2, q1, q2, q3, q4, kP, hkP, hkPi⟩ := Cond.selects_spec hsel
  cases hcls.symm.trans q1
  cases (State.methodFound?_of_named hnamed hy).symm.trans q2
  cases hnamed.symm.trans q3
  have hselP : selectMethod e.platform s.vm cellB.cls mk = .method mk := by rw [Launch.admits_selectMethod X.admits]; exact q4
  obtain ⟨vm₁, X₁, hstep₁⟩ := X.invokevirtual hexec hown hlink hnamed hmethM hstM hkP hkPi hy (a := b) (cell := cellB) hcell
    (fun z h => by rw [h] at hobj; cases hobj) hselP hmethM habM hkP hkPi (g := g) hg (argsL := argsL) (rest := rest) (hlen _ hsigM) hstack hdg
  rcases hK m meth c ⟨T.setVm vm₁, locs, cells, slots⟩ { g with stack := rest } (.invokevirtual index) mk (Value.ref b :: argsL).toArray X₁ hg hsize hdg hW (X₁.named hnamed) (hpre vm₁ X₁.warmed) with ⟨v, B, X', hpost, hsteps⟩ | ⟨q, B, X', hpost, hsteps⟩
  · exact Or.inl ⟨v, vm₁, B, X₁.warmed, X', hpost, fun target h => hstep₁ _ fun acts => by rw [doInvoke_state]; exact hsteps.trans h⟩
  · exact Or.inr ⟨q, vm₁, B, X₁.warmed, X', hpost, hstep₁ _ fun acts => by rw [doInvoke_state]; exact hsteps⟩
theorem vx_callSX (X : Stand p l e R s m args below meth c T locs cells slots) (hexec : p.tables.exec = Jvm.exec) {own : String} {index : Nat} {y : MethodName} {bytes : ByteArray} {maxL : Nat} {ret : Option FieldType} {hh : List (Nat × Nat × Nat × Nat)}
    (hown : s.vm.findClass own = some m.cls) (hlink : (Cond.methodLink own index y).before args s = true) (hstat : (Cond.static y).before args s = true) (hinit : (Cond.initialized y.cls).before args s = true)
    (hcode : (Cond.codeWith y bytes maxL ret hh).before args s = true) (hy : y.cls ≠ "java/lang/invoke/MethodHandle" ∧ y.cls ≠ "java/lang/invoke/VarHandle")
    {W9 : Nat} {Pre : Pt → Array Value → Prop} {Post : Pt → Array Value → Option Value → Pt → Prop} {PostX : Pt → Array Value → Addr → Pt → Prop} (hK : vx_Back l R p e below s args y 3 W9 Pre Post PostX)
    {g : JFrame} (hg : g.method = m) (hsize : g.locals.size = c.maxLocals) {argsL rest : List Value} (hlen : ∀ sig, parseMethodDescriptor y.desc = some sig → argsL.length = sig.parameters.length)
    (hstack : g.stack = argsL.reverse ++ rest) (hW : 2 * g.monitorRoom + (rest.map fun v => v.category).sum ≤ W9) (hdg : decode c.code g.pc = .ok (.invokestatic index, 3))
    (hpre : ∀ vm₁, s.WarmedH vm₁ → Pre ⟨T.setVm vm₁, locs, cells, slots⟩ argsL.toArray) :
    (∃ (v : Option Value) (vm₁ : Vm) (B : Pt), s.WarmedH vm₁ ∧ Stand p l e R s m args below meth c B.U B.locs B.cells B.slots ∧ Post ⟨T.setVm vm₁, locs, cells, slots⟩ argsL.toArray v B ∧
      ∀ target, Steps p.tables e below (B.U.setTop { g with pc := g.pc + 3, stack := v.toList ++ rest }) target → Steps p.tables e below (T.setTop g) target) ∨
    (∃ (q : Addr) (vm₁ : Vm) (B : Pt), s.WarmedH vm₁ ∧ Stand p l e R s m args below meth c B.U B.locs B.cells B.slots ∧ PostX ⟨T.setVm vm₁, locs, cells, slots⟩ argsL.toArray q B ∧
      Steps p.tables e below (T.setTop g) ((B.U.setTop { g with stack := rest }).pushFrame (.throwing q))) := by
  obtain ⟨mk, methM, cM, hnamed, hmethM, -, -, -, -, -, -, hsigM⟩ := Cond.codeWith_spec hcode
  have hstatic : methM.isStatic = true := Cond.static_spec hnamed hmethM hstat
  obtain ⟨kP, hkP, -⟩ := className_of_methodNamed hnamed
  have hinitP : kP.init = .initialized := Cond.initialized_spec (findClass_of_methodNamed hnamed) hkP hinit
  obtain ⟨vm₁, X₁, hstep₁⟩ := X.invokestatic hexec hown hlink hnamed hmethM hstatic hkP hinitP hy (g := g) hg (argsL := argsL) (rest := rest) (hlen _ hsigM) hstack hdg
  rcases hK m meth c ⟨T.setVm vm₁, locs, cells, slots⟩ { g with stack := rest } (.invokestatic index) mk argsL.toArray X₁ hg hsize hdg hW (X₁.named hnamed) (hpre vm₁ X₁.warmed) with ⟨v, B, X', hpost, hsteps⟩ | ⟨q, B, X', hpost, hsteps⟩
  · exact Or.inl ⟨v, vm₁, B, X₁.warmed, X', hpost, fun target h => hstep₁ _ fun acts => by rw [doInvoke_state]; exact hsteps.trans h⟩
  · exact Or.inr ⟨q, vm₁, B, X₁.warmed, X', hpost, hstep₁ _ fun acts => by rw [doInvoke_state]; exact hsteps⟩
theorem vx_callVW (X : Stand p l e R s m args below meth c T locs cells slots) (hexec : p.tables.exec = Jvm.exec) {own C : String} {index : Nat} {y : MethodName} {bytes : ByteArray} {maxL : Nat} {ret : Option FieldType} {hh : List (Nat × Nat × Nat × Nat)}
    (hown : s.vm.findClass own = some m.cls) (hlink : (Cond.methodLink own index y).before args s = true) (hinst : (Cond.instanceMethod y).before args s = true) (hsel : (Cond.selects C y y).before args s = true)
    (hcode : (Cond.codeWith y bytes maxL ret hh).before args s = true) (hy : y.cls ≠ "java/lang/invoke/MethodHandle" ∧ y.cls ≠ "java/lang/invoke/VarHandle")
    {W9 : Nat} {Pre : Pt → Array Value → Prop} {Post : Pt → Array Value → Option Value → Pt → Prop} (hK : Back l R p e below s args y 3 W9 Pre Post)
    {b : Addr} {cellB : Cell} (hcell : T.heap[b]? = some cellB) (hobj : cellB.vm.isStatics = false) (hcls : s.vm.findClass C = some cellB.cls)
    {g : JFrame} (hg : g.method = m) (hsize : g.locals.size = c.maxLocals) {argsL rest : List Value} (hlen : ∀ sig, parseMethodDescriptor y.desc = some sig → argsL.length = sig.parameters.length)
    (hstack : g.stack = argsL.reverse ++ .ref b :: rest) (hW : 2 * g.monitorRoom + (rest.map fun v => v.category).sum ≤ W9) (hdg : decode c.code g.pc = .ok (.invokevirtual index, 3))
    (hpre : ∀ vm₁, s.WarmedH vm₁ → Pre ⟨T.setVm vm₁, locs, cells, slots⟩ (Value.ref b :: argsL).toArray) :
    ∃ (v : Option Value) (vm₁ : Vm) (B : Pt), s.WarmedH vm₁ ∧ Stand p l e R s m args below meth c B.U B.locs B.cells B.slots ∧ Post ⟨T.setVm vm₁, locs, cells, slots⟩ (Value.ref b :: argsL).toArray v B ∧
      ∀ target, Steps p.tables e below (B.U.setTop { g with pc := g.pc + 3, stack := v.toList ++ rest }) target → Steps p.tables e below (T.setTop g) target := by
  obtain ⟨mk, methM, hnamed, hmethM, hstM, habM⟩ := Cond.instanceMethod_spec hinst
  obtain ⟨m8, methM', cM, hn8, hmethM', -, -, -, -, -, -, hsigM⟩ := Cond.codeWith_spec hcode
  cases Option.some.inj (hn8.symm.trans hnamed)
  cases hmethM.symm.trans hmethM'
  obtain ⟨c2, r2, m2, q1, q2, q3, q4, kP, hkP, hkPi⟩ := Cond.selects_spec hsel
  cases hcls.symm.trans q1
  cases (State.methodFound?_of_named hnamed hy).symm.trans q2
  cases hnamed.symm.trans q3
  have hselP : selectMethod e.platform s.vm cellB.cls mk = .method mk := by rw [Launch.admits_selectMethod X.admits]; exact q4
  obtain ⟨vm₁, X₁, hstep₁⟩ := X.invokevirtual hexec hown hlink hnamed hmethM hstM hkP hkPi hy (a := b) (cell := cellB) hcell
    (fun z h => by rw [h] at hobj; cases hobj) hselP hmethM habM hkP hkPi (g := g) hg (argsL := argsL) (rest := rest) (hlen _ hsigM) hstack hdg
  obtain ⟨v, B, X', hpost, hsteps⟩ := hK m meth c ⟨T.setVm vm₁, locs, cells, slots⟩ { g with stack := rest } (.invokevirtual index) mk (Value.ref b :: argsL).toArray X₁ hg hsize hdg hW (X₁.named hnamed) (hpre vm₁ X₁.warmed)
  exact ⟨v, vm₁, B, X₁.warmed, X', hpost, fun target h => hstep₁ _ fun acts => by rw [doInvoke_state]; exact hsteps.trans h⟩
abbrev vx_CVW (R : Room) (s : State) (args : Array Value) (own C : String) (index : Nat) (y : MethodName) (bytes : ByteArray) (maxL : Nat) (ret : Option FieldType) (hh : List (Nat × Nat × Nat × Nat)) (ws : List Cond) (rm : Room) (mc ms n : Nat) : Prop :=
  (rm.cells = mc ∧ rm.slots = ms ∧ rm.frames + 1 ≤ R.frames ∧ 8 + (maxL + 11) + rm.locals ≤ R.locals ∧ (∀ w ∈ ws, ∀ (a' : Array Value) (U : State), s.WarmedH U.vm → w.before a' U = true) ∧ Cond.codeWith y bytes maxL ret hh ∈ ws) ∧
  (Cond.codeWith y bytes maxL ret hh).before args s = true ∧ (Cond.initialized y.cls).before args s = true ∧ (y.cls ≠ "java/lang/invoke/MethodHandle" ∧ y.cls ≠ "java/lang/invoke/VarHandle") ∧
  (∀ sig, parseMethodDescriptor y.desc = some sig → n = sig.parameters.length) ∧ (Cond.methodLink own index y).before args s = true ∧ (Cond.instanceMethod y).before args s = true ∧ (Cond.selects C y y).before args s = true
theorem vx_cwVW {own C : String} {index maxL mc ms : Nat} {y : MethodName} {bytes : ByteArray} {ret : Option FieldType} {hh : List (Nat × Nat × Nat × Nat)} {Ts ws ws' : List Cond} {rm : Room} (n : Nat) (ht : ∀ w ∈ Ts, w.before args s = true) (hT : GoodIn Ts (wsV own index C y ws)) (hw : ws = Cond.codeWith y bytes maxL ret hh :: ws') (hrc : rm.cells = mc) (hrs : rm.slots = ms)
    (hd : y.cls = C ∧ y.cls ≠ "java/lang/invoke/MethodHandle" ∧ y.cls ≠ "java/lang/invoke/VarHandle" ∧ (parseMethodDescriptor y.desc).map (fun d => d.parameters.length) = some n) (hR : rm.frames + 1 ≤ R.frames ∧ 8 + (maxL + 11) + rm.locals ≤ R.locals) :
    vx_CVW R s args own C index y bytes maxL ret hh ws rm mc ms n := by
  obtain ⟨hC, hd⟩ := hd
  subst hC
  have ok : ∀ w ∈ wsV own index y.cls y ws, w.before args s = true := fun w h => ht w (hT w h).1
  have hG : GoodIn Ts ws := fun w h => hT w (by unfold wsV; exact List.mem_append_right _ h)
  have hc : Cond.codeWith y bytes maxL ret hh ∈ ws := by rw [hw]; exact List.mem_cons_self
  refine ⟨⟨hrc, hrs, hR.1, hR.2, pay_in ht hG, hc⟩, ht _ (hG _ hc).1, ok _ (by simp [wsV]), ⟨hd.1, hd.2.1⟩, fun sig h => ?_, ok _ (by simp [wsV]), ok _ (by simp [wsV]), ok _ (by simp [wsV])⟩
  have h2 := hd.2.2
  rw [h] at h2
  exact (Option.some.inj h2).symm
theorem vx_runVW {y : MethodName} {bytes cc : ByteArray} {maxL nL mc ms n index : Nat} {ret : Option FieldType} {hh : List (Nat × Nat × Nat × Nat)} {ws : List Cond} {rm : Room} {Pc : Array Value → State → Prop} {Qc : Array Value → State → Outcome → State → Prop} {free : Addr → Prop} {Ts : List Cond} {own C : String} {b : Addr} {As rest : List Value} {g : JFrame}
    (S : CallFix p m c cc nL s args Ts own) (hM : Met l y ws rm Pc Qc mc ms free) (cw : vx_CVW R s args own C index y bytes maxL ret hh ws rm mc ms n) (hp : PreV s H C b Pc As)
    (hg : g.method = m) (hn : As.length = n) (hsize : g.locals.size = nL) (hstack : g.stack = As.reverse ++ .ref b :: rest) (hW : 2 * g.monitorRoom + (rest.map fun v => v.category).sum ≤ 8) (hdg : decode cc g.pc = .ok (.invokevirtual index, 3)) (hf : cells + mc ≤ R.cells ∧ slots + ms ≤ R.slots) :
    va_Run p l e R s m args below meth c H locs cells slots mc ms g rest (Qc (Value.ref b :: As).toArray) free := by
  obtain ⟨⟨hrc, hrs, hfr, hlo, hws, hcw⟩, hcode, hini, hy, hlen, hl, hin, hse⟩ := cw
  have hK : Back l R p e below s args y 3 8 (PreOf R mc ms Pc) (PostOf Qc mc ms free) := va_backW (hh := hh) (bytes := bytes) (maxL := maxL) (ret := ret) hM hp.1 hrc hrs hfr hlo hws hcw (fun a' U hW => word_at hW (Or.inl (by first | rfl | simp [Cond.onTables, Cond.keeps, Cond.steady])) hini)
  obtain ⟨hx, hb, hml, ho, -⟩ := S
  obtain ⟨-, ⟨cellB, hcB, hoB, hclB⟩, hPc⟩ := hp
  intro T hT X
  obtain ⟨v, vm₁, ⟨U', l2, c2, s2⟩, hW₁, X', ⟨g', mk, t, L, e1, e2, hq, h1, hL, h2, h3⟩, st⟩ := vx_callVW X hx (C := C) (hh := hh) (bytes := bytes) (maxL := maxL) (ret := ret) ho hl hin hse hcode hy hK (by rw [hT]; exact hcB) hoB hclB hg (hsize.trans hml.symm) (argsL := As) (rest := rest) (fun sig h => hn.trans (hlen sig h)) hstack hW (by rw [hb]; exact hdg)
    (fun vm₁ hW₁ => ⟨hf.1, hf.2, hPc (T.setVm vm₁) hT hW₁⟩)
  dsimp only [Pt.U, Pt.locs, Pt.cells, Pt.slots] at X' e1 e2 h1 h2 h3 st
  subst h1; subst h2; subst h3
  exact ⟨v, (T.setVm vm₁).calling g' mk (Value.ref b :: As).toArray, t, U', L, hT, X', hL, e1, e2, hq, st⟩
section
variable {y : MethodName} {bytes cc : ByteArray} {maxL nL mc ms n index : Nat} {ret : Option FieldType} {ws : List Cond} {rm : Room} {Pc : Array Value → State → Prop} {Qc : Array Value → State → Outcome → State → Prop} {XC : String → State → State → Prop} {free : Addr → Prop} {Ts : List Cond} {own C : String} {b : Addr} {As rest : List Value} {g : JFrame}
theorem vx_runVX {hh : List (Nat × Nat × Nat × Nat)} (S : CallFix p m c cc nL s args Ts own) (hM : vx_Met l y ws rm Pc Qc XC mc ms free) (cw : vx_CVW R s args own C index y bytes maxL ret hh ws rm mc ms n) (hp : PreV s H C b Pc As)
    (hg : g.method = m) (hn : As.length = n) (hsize : g.locals.size = nL) (hstack : g.stack = As.reverse ++ .ref b :: rest) (hW : 2 * g.monitorRoom + (rest.map fun v => v.category).sum ≤ 8) (hdg : decode cc g.pc = .ok (.invokevirtual index, 3)) (hf : cells + mc ≤ R.cells ∧ slots + ms ≤ R.slots) :
    vx_Run p l e R s m args below meth c H locs cells slots mc ms g rest (Qc (Value.ref b :: As).toArray) XC free := by
  obtain ⟨⟨hrc, hrs, hfr, hlo, hws, hcw⟩, hcode, hini, hy, hlen, hl, hin, hse⟩ := cw
  have hK : vx_Back l R p e below s args y 3 8 (PreOf R mc ms Pc) (PostOf Qc mc ms free) (vx_Post XC mc ms free) := vx_backW (hh := hh) (bytes := bytes) (maxL := maxL) (ret := ret) hM hp.1 hrc hrs hfr hlo hws hcw (fun a' U hW => word_at hW (Or.inl (by first | rfl | simp [Cond.onTables, Cond.keeps, Cond.steady])) hini)
  obtain ⟨hx, hb, hml, ho, -⟩ := S
  obtain ⟨-, ⟨cellB, hcB, hoB, hclB⟩, hPc⟩ := hp
  intro T hT X
  rcases vx_callVX X hx (C := C) (hh := hh) (bytes := bytes) (maxL := maxL) (ret := ret) ho hl hin hse hcode hy hK (by rw [hT]; exact hcB) hoB hclB hg (hsize.trans hml.symm) (argsL := As) (rest := rest) (fun sig h => hn.trans (hlen sig h)) hstack hW (by rw [hb]; exact hdg)
    (fun vm₁ hW₁ => ⟨hf.1, hf.2, hPc (T.setVm vm₁) hT hW₁⟩) with ⟨v, vm₁, ⟨U', l2, c2, s2⟩, hW₁, X', ⟨g', mk, t, L, e1, e2, hq, h1, hL, h2, h3⟩, st⟩ | ⟨q, vm₁, ⟨U', l2, c2, s2⟩, hW₁, X', ⟨g', mk, t, L, E, ce, e1, e2, hq, hce, hcv, hcl, h1, hL, h2, h3⟩, st⟩
  · dsimp only [Pt.U, Pt.locs, Pt.cells, Pt.slots] at X' e1 e2 h1 h2 h3 st
    subst h1; subst h2; subst h3
    exact Or.inl ⟨v, (T.setVm vm₁).calling g' mk (Value.ref b :: As).toArray, t, U', L, hT, X', hL, e1, e2, hq, st⟩
  · dsimp only [Pt.U, Pt.locs, Pt.cells, Pt.slots] at X' e1 e2 h1 h2 h3 st hcl
    subst h1; subst h2; subst h3
    exact Or.inr ⟨q, (T.setVm vm₁).calling g' mk (Value.ref b :: As).toArray, t, U', L, E, ce, hT, X', hL, e1, e2, hq, hce, hcv, vx_cls hW₁ hcl, st⟩
theorem vx_runSX {hh : List (Nat × Nat × Nat × Nat)} (S : CallFix p m c cc nL s args Ts own) (hM : vx_Met l y ws rm Pc Qc XC mc ms free) (cw : vx_CSW R s args own index y bytes maxL ret hh ws rm mc ms n) (hp : PreS s H Pc As)
    (hg : g.method = m) (hn : As.length = n) (hsize : g.locals.size = nL) (hstack : g.stack = As.reverse ++ rest) (hW : 2 * g.monitorRoom + (rest.map fun v => v.category).sum ≤ 8) (hdg : decode cc g.pc = .ok (.invokestatic index, 3)) (hf : cells + mc ≤ R.cells ∧ slots + ms ≤ R.slots) :
    vx_Run p l e R s m args below meth c H locs cells slots mc ms g rest (Qc As.toArray) XC free := by
  obtain ⟨⟨hrc, hrs, hfr, hlo, hws, hcw⟩, hcode, hini, hy, hlen, hl, hstt⟩ := cw
  have hK : vx_Back l R p e below s args y 3 8 (PreOf R mc ms Pc) (PostOf Qc mc ms free) (vx_Post XC mc ms free) := vx_backW (hh := hh) (bytes := bytes) (maxL := maxL) (ret := ret) hM hp.1 hrc hrs hfr hlo hws hcw (fun a' U hW => word_at hW (Or.inl (by first | rfl | simp [Cond.onTables, Cond.keeps, Cond.steady])) hini)
  obtain ⟨hx, hb, hml, ho, -⟩ := S
  intro T hT X
  rcases vx_callSX X hx (hh := hh) (bytes := bytes) (maxL := maxL) (ret := ret) ho hl hstt hini hcode hy hK hg (hsize.trans hml.symm) (argsL := As) (rest := rest) (fun sig h => hn.trans (hlen sig h)) hstack hW (by rw [hb]; exact hdg)
    (fun vm₁ hW₁ => ⟨hf.1, hf.2, hp.2 (T.setVm vm₁) hT hW₁⟩) with ⟨v, vm₁, ⟨U', l2, c2, s2⟩, hW₁, X', ⟨g', mk, t, L, e1, e2, hq, h1, hL, h2, h3⟩, st⟩ | ⟨q, vm₁, ⟨U', l2, c2, s2⟩, hW₁, X', ⟨g', mk, t, L, E, ce, e1, e2, hq, hce, hcv, hcl, h1, hL, h2, h3⟩, st⟩
  · dsimp only [Pt.U, Pt.locs, Pt.cells, Pt.slots] at X' e1 e2 h1 h2 h3 st
    subst h1; subst h2; subst h3
    exact Or.inl ⟨v, (T.setVm vm₁).calling g' mk As.toArray, t, U', L, hT, X', hL, e1, e2, hq, st⟩
  · dsimp only [Pt.U, Pt.locs, Pt.cells, Pt.slots] at X' e1 e2 h1 h2 h3 st hcl
    subst h1; subst h2; subst h3
    exact Or.inr ⟨q, (T.setVm vm₁).calling g' mk As.toArray, t, U', L, E, ce, hT, X', hL, e1, e2, hq, hce, hcv, vx_cls hW₁ hcl, st⟩
end
end VXH
theorem vx_ofWH {l : Launch} {y : MethodName} {ws ws' : List Cond} {rm : Room} {Pc : Array Value → State → Prop} {Qc : Array Value → State → Outcome → State → Prop} {XC : String → State → State → Prop} {mc ms : Nat} {free : Addr → Prop} {cc : ByteArray} {maxL : Nat} {ret : Option FieldType} {hh : List (Nat × Nat × Nat × Nat)}
    (hy : plainName y.cls = true) (hw : ws = Cond.codeWith y cc maxL ret hh :: ws')
    (body : ∀ p e s m args below meth c s₁, BodyLoose p l y (headSpec ws rm) cc maxL ret e s m args below meth c s₁ → c.maxLocals = maxL → Pc args s →
      W p l e (headSpec ws rm).room s m args below meth c s.heap [] 0 0 (vx_MQ below Qc XC args s mc ms free) (entryFrame m args maxL)) : vx_Met l y ws rm Pc Qc XC mc ms free := by
  refine MetFree.of_bodyS (code := cc) (maxLocals := maxL) (ret := ret) hy ?_ ?_
  · intro args s m h hn
    obtain ⟨m9, meth, c, hn9, h1, h2, h3, h4, -, h5, h6, -⟩ := Cond.codeWith_spec (atoms_spec (ws := ws) h _ (by rw [hw]; exact List.mem_cons_self))
    cases hn.symm.trans hn9
    exact ⟨meth, c, h1, h2, h3, h4, h5, h6⟩
  · intro p e s m args below meth c s₁ B hml hP _
    have hh0 : s₁.heap = s.heap := by rw [B.state]; rfl
    obtain ⟨t, a1, o, b1, b2, b3⟩ := body p e s m args below meth c s₁ B hml hP s₁ hh0 (Stand.of_body B)
    exact ⟨t, o, a1, b1, b2, b3⟩
/-! ===== END ===== -/
end
section
/-! names: printed by the kit's program (claim/NAMES.whole), the heads of it; then the words that the tables hold -/
def RX0 : String := "CircleFlips$Hull"
def TX0 : u_T := fun k => match k with
  | 0 => ("CircleFlips$Hull", "layerRow", "LCircleFlips$Row;", true)
  | 1 => ("CircleFlips$Hull", "ring", "LCircleFlips$Row;", true)
  | 2 => ("CircleFlips$Hull", "ringSize", "I", false)
  | _ => ("CircleFlips$Hull", "layerCount", "I", false)
def tyX0 : Nat → FieldType := fun k => match k with
  | 0 => .object "CircleFlips$Row"
  | 1 => .object "CircleFlips$Row"
  | 2 => .int
  | _ => .int
theorem nmX0 : ∀ a, a < 4 → ∀ b, b < 4 → a ≠ b → (TX0 a).2.1 ≠ (TX0 b).2.1 := by decide +kernel
theorem tyX0_ok : ∀ k, k < 4 → parseFieldDescriptor (TX0 k).2.2.1 = some (tyX0 k) := by decide +kernel
abbrev cX0_init : ByteArray := prog_2_method_1_code
def yX0_init : MethodName := ⟨RX0, "<init>", "()V"⟩
abbrev cX0_corners : ByteArray := prog_2_method_2_code
def yX0_corners : MethodName := ⟨RX0, "corners", "()I"⟩
abbrev cX0_layers : ByteArray := prog_2_method_3_code
def yX0_layers : MethodName := ⟨RX0, "layers", "()I"⟩
abbrev cX0_layerOf : ByteArray := prog_2_method_4_code
def yX0_layerOf : MethodName := ⟨RX0, "layerOf", "(I)I"⟩
abbrev cX0_cornerAt : ByteArray := prog_2_method_5_code
def yX0_cornerAt : MethodName := ⟨RX0, "cornerAt", "(I)I"⟩
abbrev cX0_renew : ByteArray := prog_2_method_6_code
def yX0_renew : MethodName := ⟨RX0, "renew", "(LCircleFlips$Points;)V"⟩
abbrev cX0_peel : ByteArray := prog_2_method_7_code
def yX0_peel : MethodName := ⟨RX0, "peel", "(LCircleFlips$Points;I)I"⟩
abbrev cX0_leftmost : ByteArray := prog_2_method_8_code
def yX0_leftmost : MethodName := ⟨RX0, "leftmost", "(LCircleFlips$Points;I)I"⟩
abbrev cX0_nextCorner : ByteArray := prog_2_method_9_code
def yX0_nextCorner : MethodName := ⟨RX0, "nextCorner", "(LCircleFlips$Points;II)I"⟩
def RX1 : String := "CircleFlips$Mesh"
def TX1 : u_T := fun k => match k with
  | 0 => ("CircleFlips$Mesh", "codes", "LCircleFlips$Row;", true)
  | 1 => ("CircleFlips$Mesh", "thirds", "LCircleFlips$Row;", true)
  | _ => ("CircleFlips$Mesh", "count", "I", false)
def tyX1 : Nat → FieldType := fun k => match k with
  | 0 => .object "CircleFlips$Row"
  | 1 => .object "CircleFlips$Row"
  | _ => .int
theorem nmX1 : ∀ a, a < 3 → ∀ b, b < 3 → a ≠ b → (TX1 a).2.1 ≠ (TX1 b).2.1 := by decide +kernel
theorem tyX1_ok : ∀ k, k < 3 → parseFieldDescriptor (TX1 k).2.2.1 = some (tyX1 k) := by decide +kernel
abbrev cX1_init : ByteArray := prog_3_method_1_code
def yX1_init : MethodName := ⟨RX1, "<init>", "()V"⟩
abbrev cX1_size : ByteArray := prog_3_method_2_code
def yX1_size : MethodName := ⟨RX1, "size", "()I"⟩
abbrev cX1_a : ByteArray := prog_3_method_3_code
def yX1_a : MethodName := ⟨RX1, "a", "(I)I"⟩
abbrev cX1_b : ByteArray := prog_3_method_4_code
def yX1_b : MethodName := ⟨RX1, "b", "(I)I"⟩
abbrev cX1_c : ByteArray := prog_3_method_5_code
def yX1_c : MethodName := ⟨RX1, "c", "(I)I"⟩
abbrev cX1_clear : ByteArray := prog_3_method_6_code
def yX1_clear : MethodName := ⟨RX1, "clear", "()V"⟩
abbrev cX1_copyFrom : ByteArray := prog_3_method_7_code
def yX1_copyFrom : MethodName := ⟨RX1, "copyFrom", "(LCircleFlips$Mesh;)V"⟩
abbrev cX1_add : ByteArray := prog_3_method_8_code
def yX1_add : MethodName := ⟨RX1, "add", "(III)V"⟩
abbrev cX1_remove : ByteArray := prog_3_method_9_code
def yX1_remove : MethodName := ⟨RX1, "remove", "(III)V"⟩
abbrev cX1_codeOf : ByteArray := prog_3_method_10_code
def yX1_codeOf : MethodName := ⟨RX1, "codeOf", "(III)I"⟩
abbrev cX1_placeOf : ByteArray := prog_3_method_11_code
def yX1_placeOf : MethodName := ⟨RX1, "placeOf", "(I)I"⟩
abbrev cX1_holds : ByteArray := prog_3_method_12_code
def yX1_holds : MethodName := ⟨RX1, "holds", "(I)Z"⟩
abbrev cX1_changeEdge : ByteArray := prog_3_method_13_code
def yX1_changeEdge : MethodName := ⟨RX1, "changeEdge", "(III)V"⟩
abbrev cX1_thirdsOf : ByteArray := prog_3_method_14_code
def yX1_thirdsOf : MethodName := ⟨RX1, "thirdsOf", "(II)I"⟩
abbrev cX1_joined : ByteArray := prog_3_method_15_code
def yX1_joined : MethodName := ⟨RX1, "joined", "(I)I"⟩
abbrev cX1_edges : ByteArray := prog_3_method_16_code
def yX1_edges : MethodName := ⟨RX1, "edges", "()I"⟩
abbrev cX1_edgesOf : ByteArray := prog_3_method_17_code
def yX1_edgesOf : MethodName := ⟨RX1, "edgesOf", "(I)I"⟩
abbrev cX1_edgesBeyond : ByteArray := prog_3_method_18_code
def yX1_edgesBeyond : MethodName := ⟨RX1, "edgesBeyond", "(LCircleFlips$Mesh;)I"⟩
abbrev cX1_trianglesBeyond : ByteArray := prog_3_method_19_code
def yX1_trianglesBeyond : MethodName := ⟨RX1, "trianglesBeyond", "(LCircleFlips$Mesh;)I"⟩
abbrev cX1_beside : ByteArray := prog_3_method_20_code
def yX1_beside : MethodName := ⟨RX1, "beside", "(I)I"⟩
def RX2 : String := "CircleFlips$Plane"
def TX2 : u_T := fun k => match k with
  | 0 => ("CircleFlips$Plane", "points", "LCircleFlips$Points;", true)
  | 1 => ("CircleFlips$Plane", "drawing", "LCircleFlips$Mesh;", true)
  | 2 => ("CircleFlips$Plane", "due", "LCircleFlips$Mesh;", true)
  | 3 => ("CircleFlips$Plane", "flips", "I", false)
  | _ => ("CircleFlips$Plane", "puts", "I", false)
def tyX2 : Nat → FieldType := fun k => match k with
  | 0 => .object "CircleFlips$Points"
  | 1 => .object "CircleFlips$Mesh"
  | 2 => .object "CircleFlips$Mesh"
  | 3 => .int
  | _ => .int
theorem nmX2 : ∀ a, a < 5 → ∀ b, b < 5 → a ≠ b → (TX2 a).2.1 ≠ (TX2 b).2.1 := by decide +kernel
theorem tyX2_ok : ∀ k, k < 5 → parseFieldDescriptor (TX2 k).2.2.1 = some (tyX2 k) := by decide +kernel
abbrev cX2_init : ByteArray := prog_4_method_1_code
def yX2_init : MethodName := ⟨RX2, "<init>", "()V"⟩
abbrev cX2_clear : ByteArray := prog_4_method_2_code
def yX2_clear : MethodName := ⟨RX2, "clear", "()V"⟩
abbrev cX2_copyFrom : ByteArray := prog_4_method_3_code
def yX2_copyFrom : MethodName := ⟨RX2, "copyFrom", "(LCircleFlips$Plane;)V"⟩
abbrev cX2_renew : ByteArray := prog_4_method_4_code
def yX2_renew : MethodName := ⟨RX2, "renew", "()V"⟩
abbrev cX2_isDue : ByteArray := prog_4_method_5_code
def yX2_isDue : MethodName := ⟨RX2, "isDue", "(III)Z"⟩
abbrev cX2_refusal : ByteArray := prog_4_method_6_code
def yX2_refusal : MethodName := ⟨RX2, "refusal", "(II)I"⟩
abbrev cX2_flipEdge : ByteArray := prog_4_method_7_code
def yX2_flipEdge : MethodName := ⟨RX2, "flipEdge", "(II)I"⟩
abbrev cX2_isBad : ByteArray := prog_4_method_8_code
def yX2_isBad : MethodName := ⟨RX2, "isBad", "(II)Z"⟩
abbrev cX2_badEdges : ByteArray := prog_4_method_9_code
def yX2_badEdges : MethodName := ⟨RX2, "badEdges", "()I"⟩
abbrev cX2_firstBad : ByteArray := prog_4_method_10_code
def yX2_firstBad : MethodName := ⟨RX2, "firstBad", "()I"⟩
def RX3 : String := "CircleFlips$Points"
def TX3 : u_T := fun k => match k with
  | 0 => ("CircleFlips$Points", "xs", "LCircleFlips$Row;", true)
  | 1 => ("CircleFlips$Points", "ys", "LCircleFlips$Row;", true)
  | _ => ("CircleFlips$Points", "count", "I", false)
def tyX3 : Nat → FieldType := fun k => match k with
  | 0 => .object "CircleFlips$Row"
  | 1 => .object "CircleFlips$Row"
  | _ => .int
theorem nmX3 : ∀ a, a < 3 → ∀ b, b < 3 → a ≠ b → (TX3 a).2.1 ≠ (TX3 b).2.1 := by decide +kernel
theorem tyX3_ok : ∀ k, k < 3 → parseFieldDescriptor (TX3 k).2.2.1 = some (tyX3 k) := by decide +kernel
abbrev cX3_init : ByteArray := prog_5_method_1_code
def yX3_init : MethodName := ⟨RX3, "<init>", "()V"⟩
abbrev cX3_size : ByteArray := prog_5_method_2_code
def yX3_size : MethodName := ⟨RX3, "size", "()I"⟩
abbrev cX3_x : ByteArray := prog_5_method_3_code
def yX3_x : MethodName := ⟨RX3, "x", "(I)I"⟩
abbrev cX3_y : ByteArray := prog_5_method_4_code
def yX3_y : MethodName := ⟨RX3, "y", "(I)I"⟩
abbrev cX3_clear : ByteArray := prog_5_method_5_code
def yX3_clear : MethodName := ⟨RX3, "clear", "()V"⟩
abbrev cX3_copyFrom : ByteArray := prog_5_method_6_code
def yX3_copyFrom : MethodName := ⟨RX3, "copyFrom", "(LCircleFlips$Points;)V"⟩
abbrev cX3_add : ByteArray := prog_5_method_7_code
def yX3_add : MethodName := ⟨RX3, "add", "(II)V"⟩
abbrev cX3_set : ByteArray := prog_5_method_8_code
def yX3_set : MethodName := ⟨RX3, "set", "(III)V"⟩
abbrev cX3_remove : ByteArray := prog_5_method_9_code
def yX3_remove : MethodName := ⟨RX3, "remove", "(I)V"⟩
abbrev cX3_find : ByteArray := prog_5_method_10_code
def yX3_find : MethodName := ⟨RX3, "find", "(II)I"⟩
abbrev cX3_turn : ByteArray := prog_5_method_11_code
def yX3_turn : MethodName := ⟨RX3, "turn", "(III)I"⟩
abbrev cX3_turnTo : ByteArray := prog_5_method_12_code
def yX3_turnTo : MethodName := ⟨RX3, "turnTo", "(IIII)I"⟩
abbrev cX3_cross : ByteArray := prog_5_method_13_code
def yX3_cross : MethodName := ⟨RX3, "cross", "(IIII)I"⟩
abbrev cX3_circleSide : ByteArray := prog_5_method_14_code
def yX3_circleSide : MethodName := ⟨RX3, "circleSide", "(IIIII)I"⟩
abbrev cX3_countCircle : ByteArray := prog_5_method_15_code
def yX3_countCircle : MethodName := ⟨RX3, "countCircle", "(IIII)I"⟩
abbrev cX3_covers : ByteArray := prog_5_method_16_code
def yX3_covers : MethodName := ⟨RX3, "covers", "(IIIII)Z"⟩
abbrev cX3_square : ByteArray := prog_5_method_17_code
def yX3_square : MethodName := ⟨RX3, "square", "(I)J"⟩
abbrev cX3_distance : ByteArray := prog_5_method_18_code
def yX3_distance : MethodName := ⟨RX3, "distance", "(II)I"⟩
abbrev cX3_nearest : ByteArray := prog_5_method_19_code
def yX3_nearest : MethodName := ⟨RX3, "nearest", "(I)I"⟩
abbrev cX3_leastTree : ByteArray := prog_5_method_20_code
def yX3_leastTree : MethodName := ⟨RX3, "leastTree", "()J"⟩
abbrev cX3_gapTo : ByteArray := prog_5_method_21_code
def yX3_gapTo : MethodName := ⟨RX3, "gapTo", "(II)I"⟩
def RX4 : String := "CircleFlips$Row"
def TX4 : u_T := fun k => match k with
  | _ => ("CircleFlips$Row", "numbers", "[I", true)
def tyX4 : Nat → FieldType := fun k => match k with
  | _ => .array .int
theorem nmX4 : ∀ a, a < 1 → ∀ b, b < 1 → a ≠ b → (TX4 a).2.1 ≠ (TX4 b).2.1 := by decide +kernel
theorem tyX4_ok : ∀ k, k < 1 → parseFieldDescriptor (TX4 k).2.2.1 = some (tyX4 k) := by decide +kernel
abbrev cX4_init : ByteArray := prog_6_method_1_code
def yX4_init : MethodName := ⟨RX4, "<init>", "(I)V"⟩
abbrev cX4_get : ByteArray := prog_6_method_2_code
def yX4_get : MethodName := ⟨RX4, "get", "(I)I"⟩
abbrev cX4_set : ByteArray := prog_6_method_3_code
def yX4_set : MethodName := ⟨RX4, "set", "(II)V"⟩
abbrev cX4_clear : ByteArray := prog_6_method_4_code
def yX4_clear : MethodName := ⟨RX4, "clear", "()V"⟩
abbrev cX4_copyFrom : ByteArray := prog_6_method_5_code
def yX4_copyFrom : MethodName := ⟨RX4, "copyFrom", "(LCircleFlips$Row;)V"⟩
abbrev cX4_insert : ByteArray := prog_6_method_6_code
def yX4_insert : MethodName := ⟨RX4, "insert", "(III)V"⟩
abbrev cX4_remove : ByteArray := prog_6_method_7_code
def yX4_remove : MethodName := ⟨RX4, "remove", "(I)V"⟩
def RX5 : String := "CircleFlips$Setup"
def TX5 : u_T := fun k => match k with
  | 0 => ("CircleFlips$Setup", "text", "LCircleFlips$Row;", true)
  | 1 => ("CircleFlips$Setup", "plane", "LCircleFlips$Plane;", true)
  | 2 => ("CircleFlips$Setup", "filled", "I", false)
  | 3 => ("CircleFlips$Setup", "length", "I", false)
  | 4 => ("CircleFlips$Setup", "next", "I", false)
  | 5 => ("CircleFlips$Setup", "kind", "I", false)
  | 6 => ("CircleFlips$Setup", "start", "I", false)
  | 7 => ("CircleFlips$Setup", "number", "I", false)
  | 8 => ("CircleFlips$Setup", "error", "I", false)
  | 9 => ("CircleFlips$Setup", "offset", "I", false)
  | _ => ("CircleFlips$Setup", "isDrawn", "Z", false)
def tyX5 : Nat → FieldType := fun k => match k with
  | 0 => .object "CircleFlips$Row"
  | 1 => .object "CircleFlips$Plane"
  | 2 => .int
  | 3 => .int
  | 4 => .int
  | 5 => .int
  | 6 => .int
  | 7 => .int
  | 8 => .int
  | 9 => .int
  | _ => .boolean
theorem nmX5 : ∀ a, a < 11 → ∀ b, b < 11 → a ≠ b → (TX5 a).2.1 ≠ (TX5 b).2.1 := by decide +kernel
theorem tyX5_ok : ∀ k, k < 11 → parseFieldDescriptor (TX5 k).2.2.1 = some (tyX5 k) := by decide +kernel
abbrev cX5_init : ByteArray := prog_7_method_1_code
def yX5_init : MethodName := ⟨RX5, "<init>", "()V"⟩
abbrev cX5_size : ByteArray := prog_7_method_2_code
def yX5_size : MethodName := ⟨RX5, "size", "()I"⟩
abbrev cX5_addWord : ByteArray := prog_7_method_3_code
def yX5_addWord : MethodName := ⟨RX5, "addWord", "(I)V"⟩
abbrev cX5_read : ByteArray := prog_7_method_4_code
def yX5_read : MethodName := ⟨RX5, "read", "(I)I"⟩
abbrev cX5_begin : ByteArray := prog_7_method_5_code
def yX5_begin : MethodName := ⟨RX5, "begin", "(I)V"⟩
abbrev cX5_fail : ByteArray := prog_7_method_6_code
def yX5_fail : MethodName := ⟨RX5, "fail", "(I)V"⟩
abbrev cX5_need : ByteArray := prog_7_method_7_code
def yX5_need : MethodName := ⟨RX5, "need", "(I)V"⟩
abbrev cX5_needNumber : ByteArray := prog_7_method_8_code
def yX5_needNumber : MethodName := ⟨RX5, "needNumber", "(I)V"⟩
abbrev cX5_readPlaces : ByteArray := prog_7_method_9_code
def yX5_readPlaces : MethodName := ⟨RX5, "readPlaces", "()V"⟩
abbrev cX5_readFlip : ByteArray := prog_7_method_10_code
def yX5_readFlip : MethodName := ⟨RX5, "readFlip", "()V"⟩
abbrev cX5_draw : ByteArray := prog_7_method_11_code
def yX5_draw : MethodName := ⟨RX5, "draw", "()V"⟩
abbrev cX5_advance : ByteArray := prog_7_method_12_code
def yX5_advance : MethodName := ⟨RX5, "advance", "()V"⟩
abbrev cX5_readNumber : ByteArray := prog_7_method_13_code
def yX5_readNumber : MethodName := ⟨RX5, "readNumber", "()V"⟩
abbrev cX5_readWord : ByteArray := prog_7_method_14_code
def yX5_readWord : MethodName := ⟨RX5, "readWord", "()V"⟩
abbrev cX5_isWord : ByteArray := prog_7_method_15_code
def yX5_isWord : MethodName := ⟨RX5, "isWord", "(Ljava/lang/String;)Z"⟩
abbrev cX5_isDigit : ByteArray := prog_7_method_16_code
def yX5_isDigit : MethodName := ⟨RX5, "isDigit", "(I)Z"⟩
abbrev cX5_isLetter : ByteArray := prog_7_method_17_code
def yX5_isLetter : MethodName := ⟨RX5, "isLetter", "(I)Z"⟩
def RX6 : String := "CircleFlips"
def TX6 : u_T := fun k => match k with
  | 0 => ("CircleFlips", "setup", "LCircleFlips$Setup;", true)
  | 1 => ("CircleFlips", "plane", "LCircleFlips$Plane;", true)
  | 2 => ("CircleFlips", "hull", "LCircleFlips$Hull;", true)
  | 3 => ("CircleFlips", "past", "[LCircleFlips$Plane;", true)
  | 4 => ("CircleFlips", "changes", "I", false)
  | 5 => ("CircleFlips", "undoable", "I", false)
  | _ => ("CircleFlips", "offsetOfError", "I", false)
def tyX6 : Nat → FieldType := fun k => match k with
  | 0 => .object "CircleFlips$Setup"
  | 1 => .object "CircleFlips$Plane"
  | 2 => .object "CircleFlips$Hull"
  | 3 => .array (.object "CircleFlips$Plane")
  | 4 => .int
  | 5 => .int
  | _ => .int
theorem nmX6 : ∀ a, a < 7 → ∀ b, b < 7 → a ≠ b → (TX6 a).2.1 ≠ (TX6 b).2.1 := by decide +kernel
theorem tyX6_ok : ∀ k, k < 7 → parseFieldDescriptor (TX6 k).2.2.1 = some (tyX6 k) := by decide +kernel
abbrev cX6_init : ByteArray := prog_1_method_1_code
def yX6_init : MethodName := ⟨RX6, "<init>", "()V"⟩
abbrev cX6_append : ByteArray := prog_1_method_2_code
def yX6_append : MethodName := ⟨RX6, "append", "(IIIII)I"⟩
abbrev cX6_load : ByteArray := prog_1_method_3_code
def yX6_load : MethodName := ⟨RX6, "load", "(I)I"⟩
abbrev cX6_errorOffset : ByteArray := prog_1_method_4_code
def yX6_errorOffset : MethodName := ⟨RX6, "errorOffset", "()I"⟩
abbrev cX6_state : ByteArray := prog_1_method_5_code
def yX6_state : MethodName := ⟨RX6, "state", "(I)I"⟩
abbrev cX6_point : ByteArray := prog_1_method_6_code
def yX6_point : MethodName := ⟨RX6, "point", "(II)I"⟩
abbrev cX6_triangle : ByteArray := prog_1_method_7_code
def yX6_triangle : MethodName := ⟨RX6, "triangle", "(IZI)I"⟩
abbrev cX6_circle : ByteArray := prog_1_method_8_code
def yX6_circle : MethodName := ⟨RX6, "circle", "(IIII)I"⟩
abbrev cX6_why : ByteArray := prog_1_method_9_code
def yX6_why : MethodName := ⟨RX6, "why", "(II)I"⟩
abbrev cX6_badEdge : ByteArray := prog_1_method_10_code
def yX6_badEdge : MethodName := ⟨RX6, "badEdge", "()I"⟩
abbrev cX6_at : ByteArray := prog_1_method_11_code
def yX6_at : MethodName := ⟨RX6, "at", "(II)I"⟩
abbrev cX6_hit : ByteArray := prog_1_method_12_code
def yX6_hit : MethodName := ⟨RX6, "hit", "(II)I"⟩
abbrev cX6_corner : ByteArray := prog_1_method_13_code
def yX6_corner : MethodName := ⟨RX6, "corner", "(I)I"⟩
abbrev cX6_lift : ByteArray := prog_1_method_14_code
def yX6_lift : MethodName := ⟨RX6, "lift", "()J"⟩
abbrev cX6_tree : ByteArray := prog_1_method_15_code
def yX6_tree : MethodName := ⟨RX6, "tree", "()J"⟩
abbrev cX6_centre : ByteArray := prog_1_method_16_code
def yX6_centre : MethodName := ⟨RX6, "centre", "(IZ)D"⟩
abbrev cX6_roundness : ByteArray := prog_1_method_17_code
def yX6_roundness : MethodName := ⟨RX6, "roundness", "(I)I"⟩
abbrev cX6_share : ByteArray := prog_1_method_18_code
def yX6_share : MethodName := ⟨RX6, "share", "()F"⟩
abbrev cX6_put : ByteArray := prog_1_method_19_code
def yX6_put : MethodName := ⟨RX6, "put", "(II)I"⟩
abbrev cX6_take : ByteArray := prog_1_method_20_code
def yX6_take : MethodName := ⟨RX6, "take", "(I)I"⟩
abbrev cX6_move : ByteArray := prog_1_method_21_code
def yX6_move : MethodName := ⟨RX6, "move", "(III)I"⟩
abbrev cX6_flip : ByteArray := prog_1_method_22_code
def yX6_flip : MethodName := ⟨RX6, "flip", "(II)I"⟩
abbrev cX6_mend : ByteArray := prog_1_method_23_code
def yX6_mend : MethodName := ⟨RX6, "mend", "(I)I"⟩
abbrev cX6_undo : ByteArray := prog_1_method_24_code
def yX6_undo : MethodName := ⟨RX6, "undo", "()I"⟩
abbrev cX6_checksum : ByteArray := prog_1_method_25_code
def yX6_checksum : MethodName := ⟨RX6, "checksum", "()J"⟩
abbrev cX6_withTriangles : ByteArray := prog_1_method_26_code
def yX6_withTriangles : MethodName := ⟨RX6, "withTriangles", "(JZ)J"⟩
abbrev cX6_needPoint : ByteArray := prog_1_method_27_code
def yX6_needPoint : MethodName := ⟨RX6, "needPoint", "(I)V"⟩
abbrev cX6_needTriangle : ByteArray := prog_1_method_28_code
def yX6_needTriangle : MethodName := ⟨RX6, "needTriangle", "(LCircleFlips$Mesh;I)V"⟩
abbrev cX6_needPlace : ByteArray := prog_1_method_29_code
def yX6_needPlace : MethodName := ⟨RX6, "needPlace", "(II)V"⟩
abbrev cX6_needAsked : ByteArray := prog_1_method_30_code
def yX6_needAsked : MethodName := ⟨RX6, "needAsked", "(II)V"⟩
abbrev cX6_pointsChanged : ByteArray := prog_1_method_31_code
def yX6_pointsChanged : MethodName := ⟨RX6, "pointsChanged", "()V"⟩
abbrev cX6_remember : ByteArray := prog_1_method_32_code
def yX6_remember : MethodName := ⟨RX6, "remember", "()V"⟩
abbrev cX6_pastOf : ByteArray := prog_1_method_33_code
def yX6_pastOf : MethodName := ⟨RX6, "pastOf", "(I)LCircleFlips$Plane;"⟩
abbrev cX6_bitsOf : ByteArray := prog_1_method_34_code
def yX6_bitsOf : MethodName := ⟨RX6, "bitsOf", "(F)I"⟩
abbrev cX6_lowest : ByteArray := prog_1_method_35_code
def yX6_lowest : MethodName := ⟨RX6, "lowest", "(I)I"⟩
abbrev cX6_sign : ByteArray := prog_1_method_36_code
def yX6_sign : MethodName := ⟨RX6, "sign", "(J)I"⟩
def RX7 : String := "CircleFlipsModel"
def TX7 : u_T := fun k => match k with
  | 0 => ("CircleFlipsModel", "thrown", "I", false)
  | 1 => ("CircleFlipsModel", "rows", "[I", true)
  | 2 => ("CircleFlipsModel", "read", "[I", true)
  | 3 => ("CircleFlipsModel", "now", "I", false)
  | 4 => ("CircleFlipsModel", "undoable", "I", false)
  | 5 => ("CircleFlipsModel", "due", "[I", true)
  | 6 => ("CircleFlipsModel", "before", "[I", true)
  | 7 => ("CircleFlipsModel", "laid", "[I", true)
  | 8 => ("CircleFlipsModel", "dueMany", "I", false)
  | 9 => ("CircleFlipsModel", "laidMany", "I", false)
  | 10 => ("CircleFlipsModel", "text", "[I", true)
  | 11 => ("CircleFlipsModel", "fed", "I", false)
  | 12 => ("CircleFlipsModel", "length", "I", false)
  | 13 => ("CircleFlipsModel", "spot", "I", false)
  | 14 => ("CircleFlipsModel", "fault", "I", false)
  | 15 => ("CircleFlipsModel", "faultAt", "I", false)
  | 16 => ("CircleFlipsModel", "number", "I", false)
  | 17 => ("CircleFlipsModel", "from", "I", false)
  | _ => ("CircleFlipsModel", "hasFlip", "Z", false)
def tyX7 : Nat → FieldType := fun k => match k with
  | 0 => .int
  | 1 => .array .int
  | 2 => .array .int
  | 3 => .int
  | 4 => .int
  | 5 => .array .int
  | 6 => .array .int
  | 7 => .array .int
  | 8 => .int
  | 9 => .int
  | 10 => .array .int
  | 11 => .int
  | 12 => .int
  | 13 => .int
  | 14 => .int
  | 15 => .int
  | 16 => .int
  | 17 => .int
  | _ => .boolean
theorem nmX7 : ∀ a, a < 19 → ∀ b, b < 19 → a ≠ b → (TX7 a).2.1 ≠ (TX7 b).2.1 := by decide +kernel
theorem tyX7_ok : ∀ k, k < 19 → parseFieldDescriptor (TX7 k).2.2.1 = some (tyX7 k) := by decide +kernel
abbrev cX7_init : ByteArray := prog_9_method_1_code
def yX7_init : MethodName := ⟨RX7, "<init>", "()V"⟩
abbrev cX7_thrown : ByteArray := prog_9_method_2_code
def yX7_thrown : MethodName := ⟨RX7, "thrown", "()I"⟩
abbrev cX7_isIn : ByteArray := prog_9_method_3_code
def yX7_isIn : MethodName := ⟨RX7, "isIn", "(III)Z"⟩
abbrev cX7_get : ByteArray := prog_9_method_4_code
def yX7_get : MethodName := ⟨RX7, "get", "(I)I"⟩
abbrev cX7_put0 : ByteArray := prog_9_method_5_code
def yX7_put0 : MethodName := ⟨RX7, "put0", "(II)V"⟩
abbrev cX7_change : ByteArray := prog_9_method_6_code
def yX7_change : MethodName := ⟨RX7, "change", "()V"⟩
abbrev cX7_right : ByteArray := prog_9_method_7_code
def yX7_right : MethodName := ⟨RX7, "right", "(ZI)Z"⟩
abbrev cX7_points : ByteArray := prog_9_method_8_code
def yX7_points : MethodName := ⟨RX7, "points", "()I"⟩
abbrev cX7_isPoint : ByteArray := prog_9_method_9_code
def yX7_isPoint : MethodName := ⟨RX7, "isPoint", "(I)Z"⟩
abbrev cX7_x : ByteArray := prog_9_method_10_code
def yX7_x : MethodName := ⟨RX7, "x", "(I)I"⟩
abbrev cX7_y : ByteArray := prog_9_method_11_code
def yX7_y : MethodName := ⟨RX7, "y", "(I)I"⟩
abbrev cX7_pointAt : ByteArray := prog_9_method_12_code
def yX7_pointAt : MethodName := ⟨RX7, "pointAt", "(II)I"⟩
abbrev cX7_turnOf : ByteArray := prog_9_method_13_code
def yX7_turnOf : MethodName := ⟨RX7, "turnOf", "(JJJJJJ)J"⟩
abbrev cX7_turn : ByteArray := prog_9_method_14_code
def yX7_turn : MethodName := ⟨RX7, "turn", "(III)J"⟩
abbrev cX7_signOf : ByteArray := prog_9_method_15_code
def yX7_signOf : MethodName := ⟨RX7, "signOf", "(J)I"⟩
abbrev cX7_circleOf : ByteArray := prog_9_method_16_code
def yX7_circleOf : MethodName := ⟨RX7, "circleOf", "(IIIJJ)I"⟩
abbrev cX7_circleBy : ByteArray := prog_9_method_17_code
def yX7_circleBy : MethodName := ⟨RX7, "circleBy", "(IIII)I"⟩
abbrev cX7_apart : ByteArray := prog_9_method_18_code
def yX7_apart : MethodName := ⟨RX7, "apart", "(II)J"⟩
abbrev cX7_isDue : ByteArray := prog_9_method_19_code
def yX7_isDue : MethodName := ⟨RX7, "isDue", "(III)Z"⟩
abbrev cX7_isLaid : ByteArray := prog_9_method_20_code
def yX7_isLaid : MethodName := ⟨RX7, "isLaid", "()Z"⟩
abbrev cX7_laysDue : ByteArray := prog_9_method_21_code
def yX7_laysDue : MethodName := ⟨RX7, "laysDue", "()V"⟩
abbrev cX7_adds : ByteArray := prog_9_method_22_code
def yX7_adds : MethodName := ⟨RX7, "adds", "(III)V"⟩
abbrev cX7_drawsAnew : ByteArray := prog_9_method_23_code
def yX7_drawsAnew : MethodName := ⟨RX7, "drawsAnew", "()V"⟩
abbrev cX7_many : ByteArray := prog_9_method_24_code
def yX7_many : MethodName := ⟨RX7, "many", "(Z)I"⟩
abbrev cX7_endOf : ByteArray := prog_9_method_25_code
def yX7_endOf : MethodName := ⟨RX7, "endOf", "(ZII)I"⟩
abbrev cX7_has : ByteArray := prog_9_method_26_code
def yX7_has : MethodName := ⟨RX7, "has", "(ZII)Z"⟩
abbrev cX7_edgeMany : ByteArray := prog_9_method_27_code
def yX7_edgeMany : MethodName := ⟨RX7, "edgeMany", "(ZII)I"⟩
abbrev cX7_third : ByteArray := prog_9_method_28_code
def yX7_third : MethodName := ⟨RX7, "third", "(III)I"⟩
abbrev cX7_whyNot : ByteArray := prog_9_method_29_code
def yX7_whyNot : MethodName := ⟨RX7, "whyNot", "(II)I"⟩
abbrev cX7_isBad : ByteArray := prog_9_method_30_code
def yX7_isBad : MethodName := ⟨RX7, "isBad", "(II)Z"⟩
abbrev cX7_firstBad : ByteArray := prog_9_method_31_code
def yX7_firstBad : MethodName := ⟨RX7, "firstBad", "()I"⟩
abbrev cX7_triangleWith : ByteArray := prog_9_method_32_code
def yX7_triangleWith : MethodName := ⟨RX7, "triangleWith", "(III)I"⟩
abbrev cX7_becomes : ByteArray := prog_9_method_33_code
def yX7_becomes : MethodName := ⟨RX7, "becomes", "(IIII)V"⟩
abbrev cX7_lays3 : ByteArray := prog_9_method_34_code
def yX7_lays3 : MethodName := ⟨RX7, "lays3", "(IIII)V"⟩
abbrev cX7_codeOf : ByteArray := prog_9_method_35_code
def yX7_codeOf : MethodName := ⟨RX7, "codeOf", "(I)I"⟩
abbrev cX7_isBefore : ByteArray := prog_9_method_36_code
def yX7_isBefore : MethodName := ⟨RX7, "isBefore", "(II)Z"⟩
abbrev cX7_swaps : ByteArray := prog_9_method_37_code
def yX7_swaps : MethodName := ⟨RX7, "swaps", "(II)V"⟩
abbrev cX7_flips : ByteArray := prog_9_method_38_code
def yX7_flips : MethodName := ⟨RX7, "flips", "(II)I"⟩
abbrev cX7_isOf : ByteArray := prog_9_method_39_code
def yX7_isOf : MethodName := ⟨RX7, "isOf", "(II)Z"⟩
abbrev cX7_isBetween : ByteArray := prog_9_method_40_code
def yX7_isBetween : MethodName := ⟨RX7, "isBetween", "(III)Z"⟩
abbrev cX7_isWithin : ByteArray := prog_9_method_41_code
def yX7_isWithin : MethodName := ⟨RX7, "isWithin", "(IIII)Z"⟩
abbrev cX7_isCorner : ByteArray := prog_9_method_42_code
def yX7_isCorner : MethodName := ⟨RX7, "isCorner", "(II)Z"⟩
abbrev cX7_cornersOf : ByteArray := prog_9_method_43_code
def yX7_cornersOf : MethodName := ⟨RX7, "cornersOf", "(I)I"⟩
abbrev cX7_bits : ByteArray := prog_9_method_44_code
def yX7_bits : MethodName := ⟨RX7, "bits", "(I)I"⟩
abbrev cX7_layerOf : ByteArray := prog_9_method_45_code
def yX7_layerOf : MethodName := ⟨RX7, "layerOf", "(I)I"⟩
abbrev cX7_behind : ByteArray := prog_9_method_46_code
def yX7_behind : MethodName := ⟨RX7, "behind", "(II)I"⟩
abbrev cX7_append : ByteArray := prog_9_method_47_code
def yX7_append : MethodName := ⟨RX7, "append", "(IIIII)I"⟩
abbrev cX7_four : ByteArray := prog_9_method_48_code
def yX7_four : MethodName := ⟨RX7, "four", "(I)V"⟩
abbrev cX7_errorOffset : ByteArray := prog_9_method_49_code
def yX7_errorOffset : MethodName := ⟨RX7, "errorOffset", "()I"⟩
abbrev cX7_fails : ByteArray := prog_9_method_50_code
def yX7_fails : MethodName := ⟨RX7, "fails", "(II)Z"⟩
abbrev cX7_here : ByteArray := prog_9_method_51_code
def yX7_here : MethodName := ⟨RX7, "here", "()I"⟩
abbrev cX7_isSmall : ByteArray := prog_9_method_52_code
def yX7_isSmall : MethodName := ⟨RX7, "isSmall", "(I)Z"⟩
abbrev cX7_isDigit : ByteArray := prog_9_method_53_code
def yX7_isDigit : MethodName := ⟨RX7, "isDigit", "(I)Z"⟩
abbrev cX7_takes : ByteArray := prog_9_method_54_code
def yX7_takes : MethodName := ⟨RX7, "takes", "(Ljava/lang/String;)Z"⟩
abbrev cX7_sign : ByteArray := prog_9_method_55_code
def yX7_sign : MethodName := ⟨RX7, "sign", "(I)Z"⟩
abbrev cX7_reads : ByteArray := prog_9_method_56_code
def yX7_reads : MethodName := ⟨RX7, "reads", "(II)Z"⟩
abbrev cX7_readsPoints : ByteArray := prog_9_method_57_code
def yX7_readsPoints : MethodName := ⟨RX7, "readsPoints", "(I)Z"⟩
abbrev cX7_readsFlip : ByteArray := prog_9_method_58_code
def yX7_readsFlip : MethodName := ⟨RX7, "readsFlip", "()Z"⟩
abbrev cX7_readsText : ByteArray := prog_9_method_59_code
def yX7_readsText : MethodName := ⟨RX7, "readsText", "()Z"⟩
abbrev cX7_load : ByteArray := prog_9_method_60_code
def yX7_load : MethodName := ⟨RX7, "load", "(I)I"⟩
abbrev cX7_edges : ByteArray := prog_9_method_61_code
def yX7_edges : MethodName := ⟨RX7, "edges", "(I)I"⟩
abbrev cX7_toldOf : ByteArray := prog_9_method_62_code
def yX7_toldOf : MethodName := ⟨RX7, "toldOf", "(I)I"⟩
abbrev cX7_friends : ByteArray := prog_9_method_63_code
def yX7_friends : MethodName := ⟨RX7, "friends", "(ZI)I"⟩
abbrev cX7_nearestTo : ByteArray := prog_9_method_64_code
def yX7_nearestTo : MethodName := ⟨RX7, "nearestTo", "(I)I"⟩
abbrev cX7_toldOfPoint : ByteArray := prog_9_method_65_code
def yX7_toldOfPoint : MethodName := ⟨RX7, "toldOfPoint", "(II)I"⟩
abbrev cX7_onCircle : ByteArray := prog_9_method_66_code
def yX7_onCircle : MethodName := ⟨RX7, "onCircle", "(IIII)I"⟩
abbrev cX7_besides : ByteArray := prog_9_method_67_code
def yX7_besides : MethodName := ⟨RX7, "besides", "(IZ)I"⟩
abbrev cX7_toldOfTriangle : ByteArray := prog_9_method_68_code
def yX7_toldOfTriangle : MethodName := ⟨RX7, "toldOfTriangle", "(IZI)I"⟩
abbrev cX7_isTriangle : ByteArray := prog_9_method_69_code
def yX7_isTriangle : MethodName := ⟨RX7, "isTriangle", "(IZ)Z"⟩
abbrev cX7_state : ByteArray := prog_9_method_70_code
def yX7_state : MethodName := ⟨RX7, "state", "(I)I"⟩
abbrev cX7_point : ByteArray := prog_9_method_71_code
def yX7_point : MethodName := ⟨RX7, "point", "(II)I"⟩
abbrev cX7_triangle : ByteArray := prog_9_method_72_code
def yX7_triangle : MethodName := ⟨RX7, "triangle", "(IZI)I"⟩
abbrev cX7_circle : ByteArray := prog_9_method_73_code
def yX7_circle : MethodName := ⟨RX7, "circle", "(IIII)I"⟩
abbrev cX7_why : ByteArray := prog_9_method_74_code
def yX7_why : MethodName := ⟨RX7, "why", "(II)I"⟩
abbrev cX7_badEdge : ByteArray := prog_9_method_75_code
def yX7_badEdge : MethodName := ⟨RX7, "badEdge", "()I"⟩
abbrev cX7_holds : ByteArray := prog_9_method_76_code
def yX7_holds : MethodName := ⟨RX7, "holds", "(III)Z"⟩
abbrev cX7_at : ByteArray := prog_9_method_77_code
def yX7_at : MethodName := ⟨RX7, "at", "(II)I"⟩
abbrev cX7_hit : ByteArray := prog_9_method_78_code
def yX7_hit : MethodName := ⟨RX7, "hit", "(II)I"⟩
abbrev cX7_corner : ByteArray := prog_9_method_79_code
def yX7_corner : MethodName := ⟨RX7, "corner", "(I)I"⟩
abbrev cX7_square : ByteArray := prog_9_method_80_code
def yX7_square : MethodName := ⟨RX7, "square", "(I)J"⟩
abbrev cX7_liftOf : ByteArray := prog_9_method_81_code
def yX7_liftOf : MethodName := ⟨RX7, "liftOf", "()J"⟩
abbrev cX7_lift : ByteArray := prog_9_method_82_code
def yX7_lift : MethodName := ⟨RX7, "lift", "()J"⟩
abbrev cX7_treeOf : ByteArray := prog_9_method_83_code
def yX7_treeOf : MethodName := ⟨RX7, "treeOf", "()J"⟩
abbrev cX7_tree : ByteArray := prog_9_method_84_code
def yX7_tree : MethodName := ⟨RX7, "tree", "()J"⟩
abbrev cX7_centre : ByteArray := prog_9_method_85_code
def yX7_centre : MethodName := ⟨RX7, "centre", "(IZ)D"⟩
abbrev cX7_roundness : ByteArray := prog_9_method_86_code
def yX7_roundness : MethodName := ⟨RX7, "roundness", "(I)I"⟩
abbrev cX7_share : ByteArray := prog_9_method_87_code
def yX7_share : MethodName := ⟨RX7, "share", "()F"⟩
abbrev cX7_put : ByteArray := prog_9_method_88_code
def yX7_put : MethodName := ⟨RX7, "put", "(II)I"⟩
abbrev cX7_take : ByteArray := prog_9_method_89_code
def yX7_take : MethodName := ⟨RX7, "take", "(I)I"⟩
abbrev cX7_unlike : ByteArray := prog_9_method_90_code
def yX7_unlike : MethodName := ⟨RX7, "unlike", "(I)I"⟩
abbrev cX7_move : ByteArray := prog_9_method_91_code
def yX7_move : MethodName := ⟨RX7, "move", "(III)I"⟩
abbrev cX7_flip : ByteArray := prog_9_method_92_code
def yX7_flip : MethodName := ⟨RX7, "flip", "(II)I"⟩
abbrev cX7_mend : ByteArray := prog_9_method_93_code
def yX7_mend : MethodName := ⟨RX7, "mend", "(I)I"⟩
abbrev cX7_undo : ByteArray := prog_9_method_94_code
def yX7_undo : MethodName := ⟨RX7, "undo", "()I"⟩
abbrev cX7_joins : ByteArray := prog_9_method_95_code
def yX7_joins : MethodName := ⟨RX7, "joins", "(JJ)J"⟩
abbrev cX7_checksum : ByteArray := prog_9_method_96_code
def yX7_checksum : MethodName := ⟨RX7, "checksum", "()J"⟩
def RJx145de : String := "java/io/Serializable"
def RJx9f9b0 : String := "java/lang/CharSequence"
def RJxb160c : String := "java/lang/Comparable"
def RJxf58ca : String := "java/lang/Float"
abbrev cJxf58ca_isNaN_12338 : ByteArray := prog_14_method_6_code
def yJxf58ca_isNaN_12338 : MethodName := ⟨RJxf58ca, "isNaN", "(F)Z"⟩
abbrev cJxf58ca_floatToIntBits_5c35a : ByteArray := prog_14_method_24_code
def yJxf58ca_floatToIntBits_5c35a : MethodName := ⟨RJxf58ca, "floatToIntBits", "(F)I"⟩
def RJ6 : String := "java/lang/Integer"
abbrev cJ6_bitCount_0f7a4 : ByteArray := prog_18_method_49_code
def yJ6_bitCount_0f7a4 : MethodName := ⟨RJ6, "bitCount", "(I)I"⟩
def RJ9 : String := "java/lang/Math"
abbrev cJ9_floorMod_7cf53 : ByteArray := prog_19_method_50_code
def yJ9_floorMod_7cf53 : MethodName := ⟨RJ9, "floorMod", "(II)I"⟩
abbrev cJ9_abs_0f7a4 : ByteArray := prog_19_method_59_code
def yJ9_abs_0f7a4 : MethodName := ⟨RJ9, "abs", "(I)I"⟩
abbrev cJ9_abs_067f4 : ByteArray := prog_19_method_61_code
def yJ9_abs_067f4 : MethodName := ⟨RJ9, "abs", "(J)J"⟩
abbrev cJ9_max_7cf53 : ByteArray := prog_19_method_65_code
def yJ9_max_7cf53 : MethodName := ⟨RJ9, "max", "(II)I"⟩
abbrev cJ9_min_7cf53 : ByteArray := prog_19_method_69_code
def yJ9_min_7cf53 : MethodName := ⟨RJ9, "min", "(II)I"⟩
def RJxd2413 : String := "java/lang/Number"
def RJ0 : String := "java/lang/String"
abbrev cJ0_length_8abf5 : ByteArray := prog_22_method_54_code
def yJ0_length_8abf5 : MethodName := ⟨RJ0, "length", "()I"⟩
abbrev cJ0_charAt_5068e : ByteArray := prog_22_method_56_code
def yJ0_charAt_5068e : MethodName := ⟨RJ0, "charAt", "(I)C"⟩
abbrev cJ0_coder_7d493 : ByteArray := prog_22_method_152_code
def yJ0_coder_7d493 : MethodName := ⟨RJ0, "coder", "()B"⟩
abbrev cJ0_isLatin1_aae02 : ByteArray := prog_22_method_154_code
def yJ0_isLatin1_aae02 : MethodName := ⟨RJ0, "isLatin1", "()Z"⟩
abbrev cJ0_checkIndex_df160 : ByteArray := prog_22_method_155_code
def yJ0_checkIndex_df160 : MethodName := ⟨RJ0, "checkIndex", "(II)V"⟩
def RJ1 : String := "java/lang/StringLatin1"
abbrev cJ1_charAt_3b067 : ByteArray := prog_23_method_2_code
def yJ1_charAt_3b067 : MethodName := ⟨RJ1, "charAt", "([BI)C"⟩
def RJ2 : String := "java/lang/StringUTF16"
abbrev cJ2_getChar_3b067 : ByteArray := prog_24_method_5_code
def yJ2_getChar_3b067 : MethodName := ⟨RJ2, "getChar", "([BI)C"⟩
abbrev cJ2_length_9d52b : ByteArray := prog_24_method_6_code
def yJ2_length_9d52b : MethodName := ⟨RJ2, "length", "([B)I"⟩
abbrev cJ2_charAt_3b067 : ByteArray := prog_24_method_83_code
def yJ2_charAt_3b067 : MethodName := ⟨RJ2, "charAt", "([BI)C"⟩
abbrev cJ2_checkIndex_2214a : ByteArray := prog_24_method_91_code
def yJ2_checkIndex_2214a : MethodName := ⟨RJ2, "checkIndex", "(I[B)V"⟩
def RJ10 : String := "java/lang/System"
def RJxfd54e : String := "java/lang/constant/Constable"
def RJx3cf43 : String := "java/lang/constant/ConstantDesc"
def RJ3 : String := "jdk/internal/util/Preconditions"
abbrev cJ3_checkIndex_8e157 : ByteArray := prog_30_method_11_code
def yJ3_checkIndex_8e157 : MethodName := ⟨RJ3, "checkIndex", "(IILjava/util/function/BiFunction;)I"⟩
def RL : String := "CircleFlipsLaw"
abbrev cL_load : ByteArray := method_3_code
def yL_load : MethodName := ⟨RL, "load", "(LCircleFlips;I[J)I"⟩
abbrev cL_state : ByteArray := method_4_code
def yL_state : MethodName := ⟨RL, "state", "(LCircleFlips;I[J)I"⟩
abbrev cL_point : ByteArray := method_5_code
def yL_point : MethodName := ⟨RL, "point", "(LCircleFlips;II[J)I"⟩
abbrev cL_triangle : ByteArray := method_6_code
def yL_triangle : MethodName := ⟨RL, "triangle", "(LCircleFlips;IZI[J)I"⟩
abbrev cL_circle : ByteArray := method_7_code
def yL_circle : MethodName := ⟨RL, "circle", "(LCircleFlips;IIII[J)I"⟩
abbrev cL_why : ByteArray := method_8_code
def yL_why : MethodName := ⟨RL, "why", "(LCircleFlips;II[J)I"⟩
abbrev cL_badEdge : ByteArray := method_9_code
def yL_badEdge : MethodName := ⟨RL, "badEdge", "(LCircleFlips;[J)I"⟩
abbrev cL_at : ByteArray := method_10_code
def yL_at : MethodName := ⟨RL, "at", "(LCircleFlips;II[J)I"⟩
abbrev cL_hit : ByteArray := method_11_code
def yL_hit : MethodName := ⟨RL, "hit", "(LCircleFlips;II[J)I"⟩
abbrev cL_corner : ByteArray := method_12_code
def yL_corner : MethodName := ⟨RL, "corner", "(LCircleFlips;I[J)I"⟩
abbrev cL_centre : ByteArray := method_13_code
def yL_centre : MethodName := ⟨RL, "centre", "(LCircleFlips;IZ[D)I"⟩
abbrev cL_roundness : ByteArray := method_14_code
def yL_roundness : MethodName := ⟨RL, "roundness", "(LCircleFlips;I[J)I"⟩
abbrev cL_put : ByteArray := method_15_code
def yL_put : MethodName := ⟨RL, "put", "(LCircleFlips;II[J)I"⟩
abbrev cL_take : ByteArray := method_16_code
def yL_take : MethodName := ⟨RL, "take", "(LCircleFlips;I[J)I"⟩
abbrev cL_move : ByteArray := method_17_code
def yL_move : MethodName := ⟨RL, "move", "(LCircleFlips;III[J)I"⟩
abbrev cL_flip : ByteArray := method_18_code
def yL_flip : MethodName := ⟨RL, "flip", "(LCircleFlips;II[J)I"⟩
abbrev cL_mend : ByteArray := method_19_code
def yL_mend : MethodName := ⟨RL, "mend", "(LCircleFlips;I[J)I"⟩
abbrev cL_law : ByteArray := code
def yL_law : MethodName := ⟨RL, "law", "([I)Z"⟩
abbrev vwCl : List vw_C := [(RX0, TX0, 4), (RX1, TX1, 3), (RX2, TX2, 5), (RX3, TX3, 3), (RX4, TX4, 1), (RX5, TX5, 11), (RX6, TX6, 7), (RX7, TX7, 19)]

def lw_all : List Cond := lw_tbl.filter goodWord
theorem lw_in {w : Cond} (k : Nat) (h : lw_tbl[k]? = some w) (g : goodWord w = true) : w ∈ lw_all := List.mem_filter.mpr ⟨List.mem_of_getElem? h, g⟩
theorem lw_goodIn {ws : List Cond} (h : ∀ w ∈ ws, w ∈ lw_all) : GoodIn lw_all ws := fun w hw => ⟨h w hw, good_of_word (List.mem_filter.mp (h w hw)).2⟩
theorem lw_allin : ∀ w ∈ lw_all, w ∈ lw_tbl := fun w h => (List.mem_filter.mp h).1
theorem uX0 : ∀ w ∈ u_ws RX0 TX0 4, w ∈ lw_all := by
  have h : (u_ws RX0 TX0 4).all (fun w => lw_tbl.contains w && goodWord w) = true := by decide +kernel
  intro w hw
  have h1 := List.all_eq_true.mp h w hw
  rw [Bool.and_eq_true] at h1
  exact List.mem_filter.mpr ⟨List.contains_iff_mem.mp h1.1, h1.2⟩
theorem uX1 : ∀ w ∈ u_ws RX1 TX1 3, w ∈ lw_all := by
  have h : (u_ws RX1 TX1 3).all (fun w => lw_tbl.contains w && goodWord w) = true := by decide +kernel
  intro w hw
  have h1 := List.all_eq_true.mp h w hw
  rw [Bool.and_eq_true] at h1
  exact List.mem_filter.mpr ⟨List.contains_iff_mem.mp h1.1, h1.2⟩
theorem uX2 : ∀ w ∈ u_ws RX2 TX2 5, w ∈ lw_all := by
  have h : (u_ws RX2 TX2 5).all (fun w => lw_tbl.contains w && goodWord w) = true := by decide +kernel
  intro w hw
  have h1 := List.all_eq_true.mp h w hw
  rw [Bool.and_eq_true] at h1
  exact List.mem_filter.mpr ⟨List.contains_iff_mem.mp h1.1, h1.2⟩
theorem uX3 : ∀ w ∈ u_ws RX3 TX3 3, w ∈ lw_all := by
  have h : (u_ws RX3 TX3 3).all (fun w => lw_tbl.contains w && goodWord w) = true := by decide +kernel
  intro w hw
  have h1 := List.all_eq_true.mp h w hw
  rw [Bool.and_eq_true] at h1
  exact List.mem_filter.mpr ⟨List.contains_iff_mem.mp h1.1, h1.2⟩
theorem uX4 : ∀ w ∈ u_ws RX4 TX4 1, w ∈ lw_all := by
  have h : (u_ws RX4 TX4 1).all (fun w => lw_tbl.contains w && goodWord w) = true := by decide +kernel
  intro w hw
  have h1 := List.all_eq_true.mp h w hw
  rw [Bool.and_eq_true] at h1
  exact List.mem_filter.mpr ⟨List.contains_iff_mem.mp h1.1, h1.2⟩
theorem uX5 : ∀ w ∈ u_ws RX5 TX5 11, w ∈ lw_all := by
  have h : (u_ws RX5 TX5 11).all (fun w => lw_tbl.contains w && goodWord w) = true := by decide +kernel
  intro w hw
  have h1 := List.all_eq_true.mp h w hw
  rw [Bool.and_eq_true] at h1
  exact List.mem_filter.mpr ⟨List.contains_iff_mem.mp h1.1, h1.2⟩
theorem uX6 : ∀ w ∈ u_ws RX6 TX6 7, w ∈ lw_all := by
  have h : (u_ws RX6 TX6 7).all (fun w => lw_tbl.contains w && goodWord w) = true := by decide +kernel
  intro w hw
  have h1 := List.all_eq_true.mp h w hw
  rw [Bool.and_eq_true] at h1
  exact List.mem_filter.mpr ⟨List.contains_iff_mem.mp h1.1, h1.2⟩
theorem uX7 : ∀ w ∈ u_ws RX7 TX7 19, w ∈ lw_all := by
  have h : (u_ws RX7 TX7 19).all (fun w => lw_tbl.contains w && goodWord w) = true := by decide +kernel
  intro w hw
  have h1 := List.all_eq_true.mp h w hw
  rw [Bool.and_eq_true] at h1
  exact List.mem_filter.mpr ⟨List.contains_iff_mem.mp h1.1, h1.2⟩
end
section
/-! THE PURE MACHINE'S STEPS: loads, stores, constants, arithmetic: no heap, no calls. -/
def fx_c : Int → Int32
  | .ofNat k => Int32.ofNat k
  | .negSucc k => - Int32.ofNat (k + 1)
theorem fx_c_eq (n : Int) : Int32.ofInt n = fx_c n := by
  cases n with
  | ofNat k => rfl
  | negSucc k =>
    show Int32.ofInt (-((k + 1 : Nat) : Int)) = - Int32.ofNat (k + 1)
    rw [Int32.ofInt_neg]
    rfl
def fx_look : List (Nat × Value) → Nat → Option Value
  | [], _ => none
  | q :: r, i => bif Nat.beq q.1 i then some q.2 else fx_look r i
theorem fx_look_mem : ∀ {lv : List (Nat × Value)} {i : Nat} {v : Value}, fx_look lv i = some v → (i, v) ∈ lv
  | [], _, _, h => by cases h
  | q :: r, i, v, h => by
    unfold fx_look at h
    cases hb : Nat.beq q.1 i with
    | true =>
      rw [hb] at h
      have h1 : q.1 = i := Nat.eq_of_beq_eq_true hb
      have h2 : q.2 = v := Option.some.inj h
      subst h1; subst h2
      exact List.mem_cons_self
    | false =>
      rw [hb] at h
      exact List.mem_cons_of_mem _ (fx_look_mem h)
theorem fx_at {ls : Array Slot} {nL i : Nat} {lv : List (Nat × Value)} {v : Value} (h : lv_has ls nL lv) (hl : fx_look lv i = some v) : ls[i]? = some (.val v) := h.2.2 (i, v) (fx_look_mem hl)
def fx_s1 (lv : List (Nat × Value)) (i : Nat) (v : Value) : List (Nat × Value) := (i, v) :: lv.filter (fun q => !(q.1 == i) && !(q.1 + 1 == i && q.2.category == 2))
def fx_s2 (lv : List (Nat × Value)) (i : Nat) (v : Value) : List (Nat × Value) := (i, v) :: lv.filter (fun q => !(q.1 == i) && (!(q.1 == i + 1) && !(q.1 + 1 == i && q.2.category == 2)))
def fx_ii (f : Int32 → Int32 → Int32) : List Value → Option (List Value)
  | .int y :: .int x :: r => some (.int (f x y) :: r)
  | _ => none
def fx_ll (f : Int64 → Int64 → Int64) : List Value → Option (List Value)
  | .long y :: .long x :: r => some (.long (f x y) :: r)
  | _ => none
theorem fx_ii_eq {f : Int32 → Int32 → Int32} {st st' : List Value} (h : fx_ii f st = some st') : ∃ x y r, st = .int y :: .int x :: r ∧ st' = .int (f x y) :: r := by
  unfold fx_ii at h
  split at h
  · exact ⟨_, _, _, rfl, (Option.some.inj h).symm⟩
  · cases h
theorem fx_ll_eq {f : Int64 → Int64 → Int64} {st st' : List Value} (h : fx_ll f st = some st') : ∃ x y r, st = .long y :: .long x :: r ∧ st' = .long (f x y) :: r := by
  unfold fx_ll at h
  split at h
  · exact ⟨_, _, _, rfl, (Option.some.inj h).symm⟩
  · cases h
def fx_ldI (lv : List (Nat × Value)) (i : Nat) (st : List Value) : Option (List Value) := match fx_look lv i with
  | some (.int x) => some (.int x :: st)
  | _ => none
def fx_ldL (lv : List (Nat × Value)) (i : Nat) (st : List Value) : Option (List Value) := match fx_look lv i with
  | some (.long x) => some (.long x :: st)
  | _ => none
def fx_ldF (lv : List (Nat × Value)) (i : Nat) (st : List Value) : Option (List Value) := match fx_look lv i with
  | some (.float x) => some (.float x :: st)
  | _ => none
def fx_ldD (lv : List (Nat × Value)) (i : Nat) (st : List Value) : Option (List Value) := match fx_look lv i with
  | some (.double x) => some (.double x :: st)
  | _ => none
def fx_ldA (lv : List (Nat × Value)) (i : Nat) (st : List Value) : Option (List Value) := match fx_look lv i with
  | some (.ref x) => some (.ref x :: st)
  | _ => none
theorem fx_ldI_eq {lv : List (Nat × Value)} {i : Nat} {st st' : List Value} (h : fx_ldI lv i st = some st') : ∃ x, fx_look lv i = some (.int x) ∧ st' = .int x :: st := by
  unfold fx_ldI at h
  split at h
  · next x hx => exact ⟨x, hx, (Option.some.inj h).symm⟩
  · cases h
theorem fx_ldL_eq {lv : List (Nat × Value)} {i : Nat} {st st' : List Value} (h : fx_ldL lv i st = some st') : ∃ x, fx_look lv i = some (.long x) ∧ st' = .long x :: st := by
  unfold fx_ldL at h
  split at h
  · next x hx => exact ⟨x, hx, (Option.some.inj h).symm⟩
  · cases h
theorem fx_ldF_eq {lv : List (Nat × Value)} {i : Nat} {st st' : List Value} (h : fx_ldF lv i st = some st') : ∃ x, fx_look lv i = some (.float x) ∧ st' = .float x :: st := by
  unfold fx_ldF at h
  split at h
  · next x hx => exact ⟨x, hx, (Option.some.inj h).symm⟩
  · cases h
theorem fx_ldD_eq {lv : List (Nat × Value)} {i : Nat} {st st' : List Value} (h : fx_ldD lv i st = some st') : ∃ x, fx_look lv i = some (.double x) ∧ st' = .double x :: st := by
  unfold fx_ldD at h
  split at h
  · next x hx => exact ⟨x, hx, (Option.some.inj h).symm⟩
  · cases h
theorem fx_ldA_eq {lv : List (Nat × Value)} {i : Nat} {st st' : List Value} (h : fx_ldA lv i st = some st') : ∃ x, fx_look lv i = some (.ref x) ∧ st' = .ref x :: st := by
  unfold fx_ldA at h
  split at h
  · next x hx => exact ⟨x, hx, (Option.some.inj h).symm⟩
  · cases h
abbrev fx_R : Type := Option (List (Nat × Value) × List Value)
def fx_stI (nL : Nat) (lv : List (Nat × Value)) (i : Nat) : List Value → fx_R
  | .int x :: r => bif Nat.ble (i + 1) nL then some (fx_s1 lv i (.int x), r) else none
  | _ => none
def fx_stL (nL : Nat) (lv : List (Nat × Value)) (i : Nat) : List Value → fx_R
  | .long x :: r => bif Nat.ble (i + 2) nL then some (fx_s2 lv i (.long x), r) else none
  | _ => none
def fx_stF (nL : Nat) (lv : List (Nat × Value)) (i : Nat) : List Value → fx_R
  | .float x :: r => bif Nat.ble (i + 1) nL then some (fx_s1 lv i (.float x), r) else none
  | _ => none
def fx_stD (nL : Nat) (lv : List (Nat × Value)) (i : Nat) : List Value → fx_R
  | .double x :: r => bif Nat.ble (i + 2) nL then some (fx_s2 lv i (.double x), r) else none
  | _ => none
def fx_stA (nL : Nat) (lv : List (Nat × Value)) (i : Nat) : List Value → fx_R
  | .ref x :: r => bif Nat.ble (i + 1) nL then some (fx_s1 lv i (.ref x), r) else none
  | _ => none
theorem fx_stI_eq {nL i : Nat} {lv lv' : List (Nat × Value)} {st st' : List Value} (h : fx_stI nL lv i st = some (lv', st')) : ∃ x, st = .int x :: st' ∧ i < nL ∧ fx_s1 lv i (.int x) = lv' := by
  unfold fx_stI at h
  split at h
  · next x r =>
    cases hb : Nat.ble (i + 1) nL with
    | true => rw [hb] at h; cases h; exact ⟨x, rfl, Nat.le_of_ble_eq_true hb, rfl⟩
    | false => rw [hb] at h; cases h
  · cases h
theorem fx_stL_eq {nL i : Nat} {lv lv' : List (Nat × Value)} {st st' : List Value} (h : fx_stL nL lv i st = some (lv', st')) : ∃ x, st = .long x :: st' ∧ i + 1 < nL ∧ fx_s2 lv i (.long x) = lv' := by
  unfold fx_stL at h
  split at h
  · next x r =>
    cases hb : Nat.ble (i + 2) nL with
    | true => rw [hb] at h; cases h; exact ⟨x, rfl, Nat.le_of_ble_eq_true hb, rfl⟩
    | false => rw [hb] at h; cases h
  · cases h
theorem fx_stF_eq {nL i : Nat} {lv lv' : List (Nat × Value)} {st st' : List Value} (h : fx_stF nL lv i st = some (lv', st')) : ∃ x, st = .float x :: st' ∧ i < nL ∧ fx_s1 lv i (.float x) = lv' := by
  unfold fx_stF at h
  split at h
  · next x r =>
    cases hb : Nat.ble (i + 1) nL with
    | true => rw [hb] at h; cases h; exact ⟨x, rfl, Nat.le_of_ble_eq_true hb, rfl⟩
    | false => rw [hb] at h; cases h
  · cases h
theorem fx_stD_eq {nL i : Nat} {lv lv' : List (Nat × Value)} {st st' : List Value} (h : fx_stD nL lv i st = some (lv', st')) : ∃ x, st = .double x :: st' ∧ i + 1 < nL ∧ fx_s2 lv i (.double x) = lv' := by
  unfold fx_stD at h
  split at h
  · next x r =>
    cases hb : Nat.ble (i + 2) nL with
    | true => rw [hb] at h; cases h; exact ⟨x, rfl, Nat.le_of_ble_eq_true hb, rfl⟩
    | false => rw [hb] at h; cases h
  · cases h
theorem fx_stA_eq {nL i : Nat} {lv lv' : List (Nat × Value)} {st st' : List Value} (h : fx_stA nL lv i st = some (lv', st')) : ∃ x, st = .ref x :: st' ∧ i < nL ∧ fx_s1 lv i (.ref x) = lv' := by
  unfold fx_stA at h
  split at h
  · next x r =>
    cases hb : Nat.ble (i + 1) nL with
    | true => rw [hb] at h; cases h; exact ⟨x, rfl, Nat.le_of_ble_eq_true hb, rfl⟩
    | false => rw [hb] at h; cases h
  · cases h
def fx_keep (lv : List (Nat × Value)) : Option (List Value) → fx_R
  | some st => some (lv, st)
  | none => none
theorem fx_keep_eq {lv lv' : List (Nat × Value)} {o : Option (List Value)} {st' : List Value} (h : fx_keep lv o = some (lv', st')) : o = some st' ∧ lv' = lv := by
  cases o with
  | none => cases h
  | some s => cases h; exact ⟨rfl, rfl⟩
/-- what takes one value of the stack and puts one there -/
def fx_un : Instr → Value → Option Value
  | .i2l, .int x => some (.long x.toInt64)
  | .l2i, .long x => some (.int x.toInt32)
  | .i2f, .int x => some (.float (FP.i2f x))
  | .l2f, .long x => some (.float (FP.l2f x))
  | .i2d, .int x => some (.double (FP.i2d x))
  | .l2d, .long x => some (.double (FP.l2d x))
  | .f2i, .float x => some (.int (FP.f2i x))
  | _, _ => none
def fx_step (nL : Nat) (i : Instr) (lv : List (Nat × Value)) (st : List Value) : fx_R := match i with
  | .iconst n => some (lv, .int (fx_c n) :: st)
  | .bipush n => bif decide ((Int8.ofInt n).toInt32 = fx_c n) then some (lv, .int (fx_c n) :: st) else none
  | .sipush n => bif decide ((Int16.ofInt n).toInt32 = fx_c n) then some (lv, .int (fx_c n) :: st) else none
  | .lconst n => some (lv, .long (Int64.ofNat n.val) :: st)
  | .fconst 0 => some (lv, .float FP.fconst0 :: st)
  | .fconst 1 => some (lv, .float FP.fconst1 :: st)
  | .fconst 2 => some (lv, .float FP.fconst2 :: st)
  | .dconst 0 => some (lv, .double FP.dconst0 :: st)
  | .iload_n k => fx_keep lv (fx_ldI lv k.val st)
  | .iload k => fx_keep lv (fx_ldI lv k st)
  | .lload_n k => fx_keep lv (fx_ldL lv k.val st)
  | .lload k => fx_keep lv (fx_ldL lv k st)
  | .fload_n k => fx_keep lv (fx_ldF lv k.val st)
  | .dload_n k => fx_keep lv (fx_ldD lv k.val st)
  | .dload k => fx_keep lv (fx_ldD lv k st)
  | .aload_n k => fx_keep lv (fx_ldA lv k.val st)
  | .aload k => fx_keep lv (fx_ldA lv k st)
  | .istore_n k => fx_stI nL lv k.val st
  | .istore k => fx_stI nL lv k st
  | .lstore_n k => fx_stL nL lv k.val st
  | .lstore k => fx_stL nL lv k st
  | .fstore_n k => fx_stF nL lv k.val st
  | .dstore k => fx_stD nL lv k st
  | .astore_n k => fx_stA nL lv k.val st
  | .astore k => fx_stA nL lv k st
  | .iadd => fx_keep lv (fx_ii (fun x y => x + y) st)
  | .isub => fx_keep lv (fx_ii (fun x y => x - y) st)
  | .imul => fx_keep lv (fx_ii (fun x y => x * y) st)
  | .iand => fx_keep lv (fx_ii (fun x y => x &&& y) st)
  | .ior => fx_keep lv (fx_ii (fun x y => x ||| y) st)
  | .ixor => fx_keep lv (fx_ii (fun x y => x ^^^ y) st)
  | .ishl => fx_keep lv (fx_ii (fun x y => x <<< (y &&& 31)) st)
  | .ishr => fx_keep lv (fx_ii (fun x y => x >>> (y &&& 31)) st)
  | .iushr => fx_keep lv (fx_ii (fun x y => (x.toUInt32 >>> (y.toUInt32 &&& Int32.toUInt32 31)).toInt32) st)
  | .ladd => fx_keep lv (fx_ll (fun x y => x + y) st)
  | .lsub => fx_keep lv (fx_ll (fun x y => x - y) st)
  | .lmul => fx_keep lv (fx_ll (fun x y => x * y) st)
  | .lcmp => match st with
    | .long y :: .long x :: r => some (lv, .int (lg_cmp x y) :: r)
    | _ => none
  | .fcmp op => match st with
    | .float y :: .float x :: r => some (lv, .int (Op.cmpValue (FP.fcmp x y) op) :: r)
    | _ => none
  | .dcmp op => match st with
    | .double y :: .double x :: r => some (lv, .int (Op.cmpValue (FP.dcmp x y) op) :: r)
    | _ => none
  | .dup => match st with
    | v :: r => bif v.category == 1 then some (lv, v :: v :: r) else none
    | _ => none
  | .pop => match st with
    | v :: r => bif v.category == 1 then some (lv, r) else none
    | _ => none
  | .i2l => match st with
    | .int x :: r => some (lv, .long x.toInt64 :: r)
    | _ => none
  | .l2i => match st with
    | .long x :: r => some (lv, .int x.toInt32 :: r)
    | _ => none
  | .i2f => match st with
    | .int x :: r => some (lv, .float (FP.i2f x) :: r)
    | _ => none
  | .l2f => match st with
    | .long x :: r => some (lv, .float (FP.l2f x) :: r)
    | _ => none
  | .i2d => match st with
    | .int x :: r => some (lv, .double (FP.i2d x) :: r)
    | _ => none
  | .l2d => match st with
    | .long x :: r => some (lv, .double (FP.l2d x) :: r)
    | _ => none
  | .f2i => match st with
    | .float x :: r => some (lv, .int (FP.f2i x) :: r)
    | _ => none
  | .iinc k n => match fx_look lv k with
    | some (.int x) => bif Nat.ble (k + 1) nL then some (fx_s1 lv k (.int (x + fx_c n)), st) else none
    | _ => none
  | _ => none
/-- the length of an instruction that fx_step takes -/
def fx_len : Instr → Nat
  | .bipush _ => 2
  | .sipush _ => 3
  | .iload _ => 2
  | .lload _ => 2
  | .dload _ => 2
  | .aload _ => 2
  | .istore _ => 2
  | .lstore _ => 2
  | .dstore _ => 2
  | .astore _ => 2
  | .iinc _ _ => 3
  | _ => 1
section FX
variable {p : Program} {l : Launch} {e : Env} {R : Room} {s : State} {m : MethodId} {args : Array Value} {below : List Frame} {meth : Method} {c : Code} {H : Heap} {locs : List Loc} {cells slots : Nat} {Q : State → Prop} {cc : ByteArray} {pc : Nat} {ls : Array Slot}
set_option maxHeartbeats 4000000 in
theorem fx_sound (hx : p.tables.exec = Jvm.exec) (hb : c.code = cc) {nL : Nat} {i : Instr} {lv lv' : List (Nat × Value)} {st st' : List Value} (h : fx_step nL i lv st = some (lv', st')) (hl : lv_has ls nL lv) (hdg : decode cc pc = .ok (i, fx_len i))
    (k : ∀ ls' : Array Slot, lv_has ls' nL lv' → W p l e R s m args below meth c H locs cells slots Q (F0 m (pc + fx_len i) ls' st')) : W p l e R s m args below meth c H locs cells slots Q (F0 m pc ls st) := by
  unfold fx_step at h
  split at h
  case h_1 n => cases h; exact lv_iconst hx hb hdg (fx_c_eq n) (k ls hl)
  case h_2 n =>
    cases hd : decide ((Int8.ofInt n).toInt32 = fx_c n) with
    | true => rw [hd] at h; cases h; exact lv_bipush hx hb hdg (of_decide_eq_true hd) (k ls hl)
    | false => rw [hd] at h; cases h
  case h_3 n =>
    cases hd : decide ((Int16.ofInt n).toInt32 = fx_c n) with
    | true => rw [hd] at h; cases h; exact lv_sipush hx hb hdg (of_decide_eq_true hd) (k ls hl)
    | false => rw [hd] at h; cases h
  case h_4 n => cases h; exact lv_lconst hx hb hdg rfl (k ls hl)
  case h_5 => cases h; exact lv_fconst0 hx hb hdg (k ls hl)
  case h_6 => cases h; exact lv_fconst1 hx hb hdg (k ls hl)
  case h_7 => cases h; exact lv_fconst2 hx hb hdg (k ls hl)
  case h_8 => cases h; exact lv_dconst0 hx hb hdg (k ls hl)
  case h_9 n => obtain ⟨h1, rfl⟩ := fx_keep_eq h; obtain ⟨x, h2, rfl⟩ := fx_ldI_eq h1; exact lv_iload_n hx hb hdg rfl (fx_at hl h2) (k ls hl)
  case h_10 n => obtain ⟨h1, rfl⟩ := fx_keep_eq h; obtain ⟨x, h2, rfl⟩ := fx_ldI_eq h1; exact lv_iload hx hb hdg (fx_at hl h2) (k ls hl)
  case h_11 n => obtain ⟨h1, rfl⟩ := fx_keep_eq h; obtain ⟨x, h2, rfl⟩ := fx_ldL_eq h1; exact lv_lload_n hx hb hdg rfl (fx_at hl h2) (k ls hl)
  case h_12 n => obtain ⟨h1, rfl⟩ := fx_keep_eq h; obtain ⟨x, h2, rfl⟩ := fx_ldL_eq h1; exact lv_lload hx hb hdg (fx_at hl h2) (k ls hl)
  case h_13 n => obtain ⟨h1, rfl⟩ := fx_keep_eq h; obtain ⟨x, h2, rfl⟩ := fx_ldF_eq h1; exact lv_fload_n hx hb hdg rfl (fx_at hl h2) (k ls hl)
  case h_14 n => obtain ⟨h1, rfl⟩ := fx_keep_eq h; obtain ⟨x, h2, rfl⟩ := fx_ldD_eq h1; exact lv_dload_n hx hb hdg rfl (fx_at hl h2) (k ls hl)
  case h_15 n => obtain ⟨h1, rfl⟩ := fx_keep_eq h; obtain ⟨x, h2, rfl⟩ := fx_ldD_eq h1; exact lv_dload hx hb hdg (fx_at hl h2) (k ls hl)
  case h_16 n => obtain ⟨h1, rfl⟩ := fx_keep_eq h; obtain ⟨x, h2, rfl⟩ := fx_ldA_eq h1; exact lv_aload_n hx hb hdg rfl (fx_at hl h2) (k ls hl)
  case h_17 n => obtain ⟨h1, rfl⟩ := fx_keep_eq h; obtain ⟨x, h2, rfl⟩ := fx_ldA_eq h1; exact lv_aload hx hb hdg (fx_at hl h2) (k ls hl)
  case h_18 n => obtain ⟨x, rfl, h1, h2⟩ := fx_stI_eq h; exact lv_istore_n hx hb hdg rfl hl h1 h2 k
  case h_19 n => obtain ⟨x, rfl, h1, h2⟩ := fx_stI_eq h; exact lv_istore hx hb hdg hl h1 h2 k
  case h_20 n => obtain ⟨x, rfl, h1, h2⟩ := fx_stL_eq h; exact lv_lstore_n hx hb hdg rfl hl h1 h2 k
  case h_21 n => obtain ⟨x, rfl, h1, h2⟩ := fx_stL_eq h; exact lv_lstore hx hb hdg hl h1 h2 k
  case h_22 n => obtain ⟨x, rfl, h1, h2⟩ := fx_stF_eq h; exact lv_fstore_n hx hb hdg rfl hl h1 h2 k
  case h_23 n => obtain ⟨x, rfl, h1, h2⟩ := fx_stD_eq h; exact lv_dstore hx hb hdg hl h1 h2 k
  case h_24 n => obtain ⟨x, rfl, h1, h2⟩ := fx_stA_eq h; exact lv_astore_n hx hb hdg rfl hl h1 h2 k
  case h_25 n => obtain ⟨x, rfl, h1, h2⟩ := fx_stA_eq h; exact lv_astore hx hb hdg hl h1 h2 k
  case h_26 => obtain ⟨h1, rfl⟩ := fx_keep_eq h; obtain ⟨x, y, r, rfl, rfl⟩ := fx_ii_eq h1; exact lv_iadd hx hb hdg (k ls hl)
  case h_27 => obtain ⟨h1, rfl⟩ := fx_keep_eq h; obtain ⟨x, y, r, rfl, rfl⟩ := fx_ii_eq h1; exact lv_isub hx hb hdg (k ls hl)
  case h_28 => obtain ⟨h1, rfl⟩ := fx_keep_eq h; obtain ⟨x, y, r, rfl, rfl⟩ := fx_ii_eq h1; exact lv_imul hx hb hdg (k ls hl)
  case h_29 => obtain ⟨h1, rfl⟩ := fx_keep_eq h; obtain ⟨x, y, r, rfl, rfl⟩ := fx_ii_eq h1; exact lv_iand hx hb hdg (k ls hl)
  case h_30 => obtain ⟨h1, rfl⟩ := fx_keep_eq h; obtain ⟨x, y, r, rfl, rfl⟩ := fx_ii_eq h1; exact lv_ior hx hb hdg (k ls hl)
  case h_31 => obtain ⟨h1, rfl⟩ := fx_keep_eq h; obtain ⟨x, y, r, rfl, rfl⟩ := fx_ii_eq h1; exact lv_ixor hx hb hdg (k ls hl)
  case h_32 => obtain ⟨h1, rfl⟩ := fx_keep_eq h; obtain ⟨x, y, r, rfl, rfl⟩ := fx_ii_eq h1; exact lv_ishl hx hb hdg (k ls hl)
  case h_33 => obtain ⟨h1, rfl⟩ := fx_keep_eq h; obtain ⟨x, y, r, rfl, rfl⟩ := fx_ii_eq h1; exact lv_ishr hx hb hdg (k ls hl)
  case h_34 => obtain ⟨h1, rfl⟩ := fx_keep_eq h; obtain ⟨x, y, r, rfl, rfl⟩ := fx_ii_eq h1; exact lv_iushr hx hb hdg rfl (k ls hl)
  case h_35 => obtain ⟨h1, rfl⟩ := fx_keep_eq h; obtain ⟨x, y, r, rfl, rfl⟩ := fx_ll_eq h1; exact lv_ladd hx hb hdg (k ls hl)
  case h_36 => obtain ⟨h1, rfl⟩ := fx_keep_eq h; obtain ⟨x, y, r, rfl, rfl⟩ := fx_ll_eq h1; exact lv_lsub hx hb hdg (k ls hl)
  case h_37 => obtain ⟨h1, rfl⟩ := fx_keep_eq h; obtain ⟨x, y, r, rfl, rfl⟩ := fx_ll_eq h1; exact lv_lmul hx hb hdg (k ls hl)
  case h_38 =>
    split at h
    · cases h; exact W.lcmp hx hb hdg (k ls hl)
    · cases h
  case h_39 op =>
    split at h
    · cases h; exact lv_fcmp hx hb hdg (k ls hl)
    · cases h
  case h_40 op =>
    split at h
    · cases h; exact lv_dcmp hx hb hdg (k ls hl)
    · cases h
  case h_41 =>
    split at h
    · next v r =>
      cases hd : v.category == 1 with
      | true => rw [hd] at h; cases h; exact lv_dup hx hb hdg (eq_of_beq hd) (k ls hl)
      | false => rw [hd] at h; cases h
    · cases h
  case h_42 =>
    split at h
    · next v r =>
      cases hd : v.category == 1 with
      | true => rw [hd] at h; cases h; exact lv_pop hx hb hdg (eq_of_beq hd) (k ls hl)
      | false => rw [hd] at h; cases h
    · cases h
  case h_43 =>
    split at h
    · cases h; exact lv_i2l hx hb hdg rfl (k ls hl)
    · cases h
  case h_44 =>
    split at h
    · cases h; exact lv_l2i hx hb hdg rfl (k ls hl)
    · cases h
  case h_45 =>
    split at h
    · cases h; exact lv_i2f hx hb hdg (k ls hl)
    · cases h
  case h_46 =>
    split at h
    · cases h; exact lv_l2f hx hb hdg (k ls hl)
    · cases h
  case h_47 =>
    split at h
    · cases h; exact lv_i2d hx hb hdg (k ls hl)
    · cases h
  case h_48 =>
    split at h
    · cases h; exact lv_l2d hx hb hdg (k ls hl)
    · cases h
  case h_49 =>
    split at h
    · cases h; exact lv_f2i hx hb hdg (k ls hl)
    · cases h
  case h_50 kk n =>
    split at h
    · next x hx1 =>
      cases hd : Nat.ble (kk + 1) nL with
      | true =>
        rw [hd] at h; cases h
        obtain ⟨j, hj⟩ := List.getElem?_of_mem (fx_look_mem hx1)
        exact lv_iinc hx hb hdg hl hj (by rw [fx_c_eq]) (Nat.le_of_ble_eq_true hd) rfl k
      | false => rw [hd] at h; cases h
    · cases h
  case h_51 => cases h
end FX
end
section
/-! THE WORLD: all cells lie in one block from b0 on, in the order in which they are made; what changes of them are ints, and the law's long and double.
kinds: 0..7 the classes by vwCl; 8 the row of Planes; 9 the long cell, 10 the double cell; 100 + n an int array of n. -/
abbrev fm_Mem : Type := Nat → Nat → Int32
abbrev fm_St : Type := fm_Mem × Int64 × UInt64
/-- the block's start; classes and slots; array classes of int, Plane, long, double; strings' cells and their bytes' cells -/
abbrev fm_G : Type := Nat × va_G × (ClassId × ClassId × ClassId × ClassId) × (Nat → Nat) × (Nat → Nat)
def fm_tab : List Nat := [6, 5, 4, 500, 2, 3, 4, 120, 4, 120, 1, 4, 135, 4, 500, 1, 4, 135, 4, 500, 2, 3, 4, 120, 4, 120, 1, 4, 135, 4, 500, 1, 4, 135, 4, 500, 0, 4, 120, 4, 120, 8, 2, 3, 4, 120, 4, 120, 1, 4, 135, 4, 500, 1, 4, 135, 4, 500, 2, 3, 4, 120, 4, 120, 1, 4, 135, 4, 500, 1, 4, 135, 4, 500, 2, 3, 4, 120, 4, 120, 1, 4, 135, 4, 500, 1, 4, 135, 4, 500, 2, 3, 4, 120, 4, 120, 1, 4, 135, 4, 500, 1, 4, 135, 4, 500, 2, 3, 4, 120, 4, 120, 1, 4, 135, 4, 500, 1, 4, 135, 4, 500, 2, 3, 4, 120, 4, 120, 1, 4, 135, 4, 500, 1, 4, 135, 4, 500, 2, 3, 4, 120, 4, 120, 1, 4, 135, 4, 500, 1, 4, 135, 4, 500, 2, 3, 4, 120, 4, 120, 1, 4, 135, 4, 500, 1, 4, 135, 4, 500, 7, 1900, 300, 220, 220, 140, 500, 9, 10]
def fm_kd (g : fm_G) (a : Nat) : Nat := if g.1 ≤ a then fm_tab.getD (a - g.1) 9999 else 9999
/-- a class's fields: none an int, some off the cell at that distance -/
def fm_fld : Nat → List (Option Nat)
  | 0 => [some 1, some 3, none, none]
  | 1 => [some 1, some 3, none]
  | 2 => [some 1, some 6, some 11, none, none]
  | 3 => [some 1, some 3, none]
  | 4 => [some 1]
  | 5 => [some 1, some 3, none, none, none, none, none, none, none, none, none]
  | 6 => [some 1, some 20, some 36, some 41, none, none, none]
  | 7 => [none, some 1, some 2, none, none, some 3, some 4, some 5, none, none, some 6, none, none, none, none, none, none, none, none]
  | _ => []
def fm_val (a : Nat) (f : Nat → Int32) (k : Nat) : Option Nat → Value
  | some d => .ref (a + d)
  | none => .int (f k)
def fm_vals (a : Nat) (f : Nat → Int32) (fs : List (Option Nat)) : List Value := (List.range fs.length).map (fun k => fm_val a f k (fs.getD k none))
def fm_cell (g : fm_G) (μ : fm_St) (a : Nat) : va_E :=
  if fm_kd g a < 8 then .inr (fm_kd g a, fm_vals a (μ.1 a) (fm_fld (fm_kd g a)))
  else if fm_kd g a = 8 then .inl (g.2.2.1.2.1, 8, .inr (.inr (.inr (.inr (fun j => some (a + 1 + 16 * j))))))
  else if fm_kd g a = 9 then .inl (g.2.2.1.2.2.1, 1, .inr (.inl (fun _ => μ.2.1)))
  else if fm_kd g a = 10 then .inl (g.2.2.1.2.2.2, 1, .inr (.inr (.inr (.inl (fun _ => μ.2.2)))))
  else .inl (g.2.2.1.1, fm_kd g a - 100, .inl (μ.1 a))
def fm_ws (g : fm_G) (μ : fm_St) : va_W := (List.range 179).map (fun i => (g.1 + i, fm_cell g μ (g.1 + i)))
theorem fm_tab_len : fm_tab.length = 179 := by decide +kernel
theorem fm_ws_i (g : fm_G) (μ : fm_St) (i : Nat) : (fm_ws g μ)[i]? = if i < 179 then some (g.1 + i, fm_cell g μ (g.1 + i)) else none := by
  unfold fm_ws
  rw [List.getElem?_map]
  by_cases h : i < 179
  · rw [if_pos h, List.getElem?_range h]; rfl
  · rw [if_neg h, List.getElem?_eq_none (by rw [List.length_range]; exact Nat.le_of_not_lt h)]; rfl
theorem fm_kd_in {g : fm_G} {a : Nat} (h : fm_kd g a ≠ 9999) : g.1 ≤ a ∧ a - g.1 < 179 := by
  unfold fm_kd at h
  by_cases h1 : g.1 ≤ a
  · rw [if_pos h1] at h
    refine ⟨h1, ?_⟩
    rw [← fm_tab_len]
    by_cases h2 : a - g.1 < fm_tab.length
    · exact h2
    · rw [List.getD_eq_getElem?_getD, List.getElem?_eq_none (Nat.le_of_not_lt h2)] at h; exact absurd rfl h
  · rw [if_neg h1] at h; exact absurd rfl h
theorem fm_ws_at {g : fm_G} {μ : fm_St} {a : Nat} (h : fm_kd g a ≠ 9999) : (fm_ws g μ)[a - g.1]? = some (a, fm_cell g μ a) := by
  obtain ⟨h1, h2⟩ := fm_kd_in h
  rw [fm_ws_i, if_pos h2, show g.1 + (a - g.1) = a by omega]
def fm_A (g : fm_G) : Nat → Prop := fun q => g.1 ≤ q
theorem fm_D (g : fm_G) (μ : fm_St) : va_D (fm_A g) (fm_ws g μ) := by
  refine ⟨fun i j p q hi hj hpq => ?_, fun k q hk => ?_⟩
  · rw [fm_ws_i] at hi hj
    split at hi
    · split at hj
      · cases hi; cases hj
        have h : g.1 + i = g.1 + j := hpq
        omega
      · cases hj
    · cases hi
  · rw [fm_ws_i] at hk
    split at hk
    · cases hk
      show g.1 ≤ g.1 + k
      omega
    · cases hk
/-- a cell changes, the others not -/
theorem fm_ws_set {g : fm_G} {μ ν : fm_St} {a : Nat} (h : fm_kd g a ≠ 9999) (ho : ∀ b, b ≠ a → fm_cell g ν b = fm_cell g μ b) : (fm_ws g μ).set (a - g.1) (a, fm_cell g ν a) = fm_ws g ν := by
  obtain ⟨h1, h2⟩ := fm_kd_in h
  apply List.ext_getElem?
  intro i
  rw [List.getElem?_set, fm_ws_i, fm_ws_i]
  have hlen : (fm_ws g μ).length = 179 := by unfold fm_ws; simp
  by_cases hi : a - g.1 = i
  · subst hi
    rw [if_pos rfl, hlen, if_pos h2, if_pos h2, show g.1 + (a - g.1) = a by omega]
  · rw [if_neg hi]
    by_cases h3 : i < 179
    · rw [if_pos h3, if_pos h3, ho (g.1 + i) (by omega)]
    · rw [if_neg h3, if_neg h3]
def fm_up (M : fm_Mem) (a k : Nat) (x : Int32) : fm_Mem := fun b j => if b = a ∧ j = k then x else M b j
def fm_cp (M : fm_Mem) (a b n : Nat) : fm_Mem := fun c j => if c = b ∧ j < n then M a j else M c j
theorem fm_up_ne {M : fm_Mem} {a b k : Nat} {x : Int32} (h : b ≠ a) : fm_up M a k x b = M b := by
  funext j; unfold fm_up; rw [if_neg (fun q => h q.1)]
theorem fm_up_self {M : fm_Mem} {a k : Nat} {x : Int32} : fm_up M a k x a = upd (M a) k x := by
  funext j; unfold fm_up upd
  by_cases h : j = k
  · rw [if_pos ⟨rfl, h⟩, if_pos h]
  · rw [if_neg (fun q => h q.2), if_neg h]
theorem fm_cell_ne {g : fm_G} {μ : fm_St} {M : fm_Mem} {b : Nat} (h : M b = μ.1 b) : fm_cell g (M, μ.2) b = fm_cell g μ b := by
  unfold fm_cell
  dsimp only
  rw [h]
theorem fm_cell_obj {g : fm_G} {μ : fm_St} {a c : Nat} (h : fm_kd g a = c) (hc : c < 8) : fm_cell g μ a = .inr (c, fm_vals a (μ.1 a) (fm_fld c)) := by
  subst h; unfold fm_cell; rw [if_pos hc]
theorem fm_cell_int {g : fm_G} {μ : fm_St} {a n : Nat} (h : fm_kd g a = 100 + n) : fm_cell g μ a = .inl (g.2.2.1.1, n, .inl (μ.1 a)) := by
  unfold fm_cell
  rw [if_neg (by omega), if_neg (by omega), if_neg (by omega), if_neg (by omega), h, show 100 + n - 100 = n by omega]
theorem fm_cell_ref {g : fm_G} {μ : fm_St} {a : Nat} (h : fm_kd g a = 8) : fm_cell g μ a = .inl (g.2.2.1.2.1, 8, .inr (.inr (.inr (.inr (fun j => some (a + 1 + 16 * j)))))) := by
  unfold fm_cell
  rw [if_neg (by omega), if_pos h]
theorem fm_vals_len {a : Nat} {f : Nat → Int32} {fs : List (Option Nat)} : (fm_vals a f fs).length = fs.length := by unfold fm_vals; simp
theorem fm_vals_at {a : Nat} {f : Nat → Int32} {fs : List (Option Nat)} {k : Nat} {x : Option Nat} (h : fs[k]? = some x) : (fm_vals a f fs)[k]? = some (fm_val a f k x) := by
  unfold fm_vals
  have hk : k < fs.length := (List.getElem?_eq_some_iff.mp h).1
  rw [List.getElem?_map, List.getElem?_range hk]
  show some (fm_val a f k (fs.getD k none)) = _
  rw [List.getD_eq_getElem?_getD, h]; rfl
theorem fm_vals_set {a : Nat} {f : Nat → Int32} {fs : List (Option Nat)} {k : Nat} {x : Int32} (h : fs[k]? = some none) : (fm_vals a f fs).set k (.int x) = fm_vals a (upd f k x) fs := by
  have hk : k < fs.length := (List.getElem?_eq_some_iff.mp h).1
  apply List.ext_getElem?
  intro i
  rw [List.getElem?_set, fm_vals_len]
  by_cases hi : k = i
  · subst hi
    rw [if_pos rfl, if_pos hk, fm_vals_at h]
    show some (Value.int x) = some (Value.int (upd f k x k))
    rw [upd, if_pos rfl]
  · rw [if_neg hi]
    cases hf : fs[i]? with
    | none =>
      have h1 : fs.length ≤ i := List.getElem?_eq_none_iff.mp hf
      rw [List.getElem?_eq_none (by rw [fm_vals_len]; exact h1), List.getElem?_eq_none (by rw [fm_vals_len]; exact h1)]
    | some y =>
      rw [fm_vals_at hf, fm_vals_at hf]
      cases y with
      | some d => rfl
      | none =>
        show some (Value.int (f i)) = some (Value.int (upd f k x i))
        rw [upd, if_neg (fun q => hi q.symm)]
/-! the machine's facts -/
def fm_P (g : fm_G) (μ : fm_St) (H : Heap) : Prop := va_P g.2.1 vwCl (fm_ws g μ) H
def fm_tys (g : fm_G) : List (ClassId × FieldType) := [(g.2.2.1.1, .int), (g.2.2.1.2.1, .object "CircleFlips$Plane"), (g.2.2.1.2.2.1, .long), (g.2.2.1.2.2.2, .double)]
def fm_K (g : fm_G) (U : State) : Prop := va_K g.2.1 vwCl (fm_tys g) U
def fm_strs : List (String × Nat × String) := [("CircleFlips$Setup", 135, "plane"), ("CircleFlips$Setup", 140, "at"), ("CircleFlips$Setup", 142, "flip"), ("CircleFlipsModel", 233, "plane"), ("CircleFlipsModel", 242, "at"), ("CircleFlipsModel", 247, "flip")]
def fm_slen : List Nat := [5, 2, 4, 5, 2, 4]
def fm_sbyt : List (List Int32) := [[112, 108, 97, 110, 101], [97, 116], [102, 108, 105, 112], [112, 108, 97, 110, 101], [97, 116], [102, 108, 105, 112]]
def fm_isN : Cond → Bool
  | .fieldLinkNest _ _ _ _ _ _ => true
  | .methodLinkNest _ _ _ _ => true
  | .castable _ _ => true
  | .declares _ => true
  | _ => false
theorem fm_nw_warm {w : Cond} (hw : fm_isN w = true) {s U : State} (hW : s.WarmedH U.vm) (h : va_Nw w s) : va_Nw w U := by
  unfold fm_isN at hw
  split at hw
  · exact h.warmF hW
  · exact h.warmM hW
  · exact h.warmC hW
  · exact h.warmD hW
  · cases hw
theorem fm_nw_use {w : Cond} (hw : fm_isN w = true) {U : State} {A : Array Value} (h : va_Nw w U) : w.before A U = true := by
  unfold fm_isN at hw
  split at hw
  · exact h.use rfl
  · exact h.use rfl
  · exact h.use rfl
  · exact h.use rfl
  · cases hw
/-- what lies outside the block: two statics of Throwable, two of text, the texts -/
def fm_E (g : fm_G) (U : State) (H : Heap) : Prop :=
  vx_Zq Bundle.tN "UNASSIGNED_STACK" Bundle.steD (fm_A g) U H ∧ vx_Zq Bundle.tN "SUPPRESSED_SENTINEL" Bundle.listD (fm_A g) U H
  ∧ va_Z "java/lang/String" "COMPACT_STRINGS" "Z" (.int 1) (fm_A g) U H
  ∧ va_Zq "jdk/internal/util/Preconditions" "SIOOBE_FORMATTER" "Ljava/util/function/BiFunction;" (fm_A g) U H
  ∧ vk_S 6 fm_slen fm_sbyt g.2.2.2.1 g.2.2.2.2 (fm_A g) U H
  ∧ (∀ (i : Nat) (q : String × Nat × String), fm_strs[i]? = some q → vk_R q.1 q.2.1 q.2.2 (g.2.2.2.1 i) U)
  ∧ ∀ w ∈ lw_tbl, fm_isN w = true → va_Nw w U
theorem fm_E.warm {g : fm_G} {s U : State} {H : Heap} (hW : s.WarmedH U.vm) (h : fm_E g s H) : fm_E g U H :=
  ⟨h.1.moved hW.alike, h.2.1.moved hW.alike, h.2.2.1.moved hW.alike, h.2.2.2.1.moved hW.alike, h.2.2.2.2.1.moved hW.alike, fun i q hq => (h.2.2.2.2.2.1 i q hq).warm hW, fun w hw hn => fm_nw_warm hn hW (h.2.2.2.2.2.2 w hw hn)⟩
theorem fm_E.kept {g : fm_G} {U : State} {H H1 : Heap} (h : fm_E g U H) (hq : ∀ a : Nat, a < H.size → ¬ fm_A g a → H1[a]? = H[a]?) : fm_E g U H1 :=
  ⟨h.1.kept hq, h.2.1.kept hq, h.2.2.1.kept hq, h.2.2.2.1.kept hq, h.2.2.2.2.1.kept hq, h.2.2.2.2.2⟩
end
section
/-! THE RULES: Tr: from this place the method comes to the outcome o. Everything of the machine is inside of Tr. -/
/-- a method: name, the class whose code it is, bytes, locals, answer's type, code, frames, room of locals -/
abbrev fm_Y : Type := MethodName × String × ByteArray × Nat × Option FieldType × List (Nat × Instr × Nat) × Nat × Nat
/-- thrown (0 IllegalArgument, 1 IllegalState, 2 IndexOutOfBounds, 3 NoSuchElement) or returned; the memory behind it -/
abbrev fm_O : Type := (Nat ⊕ Option Value) × fm_St
def fm_exc : Nat → String
  | 0 => "java/lang/IllegalArgumentException"
  | 1 => "java/lang/IllegalStateException"
  | 2 => "java/lang/IndexOutOfBoundsException"
  | _ => "java/util/NoSuchElementException"
def fm_nc : (Nat ⊕ Option Value) → Nat
  | .inl _ => 1
  | .inr _ => 0
def fm_R (z : fm_Y) (o : fm_O) : Room := { frames := z.2.2.2.2.2.2.1, cells := fm_nc o.1, slots := 6 * fm_nc o.1, locals := z.2.2.2.2.2.2.2 }
def fm_lk : List (Nat × Instr × Nat) → Nat → Option (Instr × Nat)
  | [], _ => none
  | q :: r, pc => bif Nat.beq q.1 pc then some q.2 else fm_lk r pc
theorem fm_lk_mem : ∀ {k : List (Nat × Instr × Nat)} {pc : Nat} {i : Instr × Nat}, fm_lk k pc = some i → (pc, i) ∈ k
  | [], _, _, h => by cases h
  | q :: r, pc, i, h => by
    unfold fm_lk at h
    cases hb : Nat.beq q.1 pc with
    | true =>
      rw [hb] at h
      have h1 : q.1 = pc := Nat.eq_of_beq_eq_true hb
      have h2 : q.2 = i := Option.some.inj h
      subst h1; subst h2
      exact List.mem_cons_self
    | false =>
      rw [hb] at h
      exact List.mem_cons_of_mem _ (fm_lk_mem h)
def fm_dec (z : fm_Y) : Prop := ∀ q ∈ z.2.2.2.2.2.1, decode z.2.2.1 q.1 = .ok q.2
def fm_Qr (g : fm_G) (v : Option Value) (μ : fm_St) : Array Value → State → Outcome → State → Prop := fun _ st oc t => oc = .returned v ∧ fm_P g μ t.heap ∧ va_F (fm_A g) st t
def fm_Qx (g : fm_G) (k : Nat) (μ : fm_St) : String → State → State → Prop := fun E st t => E = fm_exc k ∧ fm_P g μ t.heap ∧ va_F (fm_A g) st t
def fm_No : Array Value → State → Outcome → State → Prop := fun _ _ _ _ => False
def fm_Q (g : fm_G) (below : List Frame) (args : Array Value) (s : State) (μ : fm_St) : (Nat ⊕ Option Value) → State → Prop
  | .inr v => MQ below (fm_Qr g v μ) args s 0 0 (fm_A g)
  | .inl k => vx_MQ below fm_No (fm_Qx g k μ) args s 1 6 (fm_A g)
def fm_At (z : fm_Y) (g : fm_G) (l : Launch) (o : fm_O) (p : Program) (R : Room) (s : State) (m : MethodId) (args : Array Value) (meth : Method) (c : Code) : Prop :=
  p.tables.exec = Jvm.exec ∧ c.code = z.2.2.1 ∧ c.maxLocals = z.2.2.2.1 ∧ s.vm.findClass z.2.1 = some m.cls ∧ (∀ w ∈ lw_all, w.before args s = true) ∧ fm_K g s ∧ fm_E g s s.heap ∧ meth.sig.returnType = z.2.2.2.2.1 ∧ meth.locks = false ∧ R = fm_R z o ∧ l.stackTraces = false ∧ (∀ k, o.1 = .inl k → ∀ x ∈ c.exceptionTable.toList, False) ∧ fm_dec z
def Tr (g : fm_G) (l : Launch) (z : fm_Y) (o : fm_O) (pc : Nat) (lv : List (Nat × Value)) (st : List Value) (μ : fm_St) : Prop :=
  ∀ (p : Program) (e : Env) (R : Room) (s : State) (m : MethodId) (args : Array Value) (below : List Frame) (meth : Method) (c : Code) (H : Heap) (locs : List Loc) (ls : Array Slot),
    fm_At z g l o p R s m args meth c → fm_P g μ H → va_S (fm_A g) s.heap H locs → lv_has ls z.2.2.2.1 lv → W p l e R s m args below meth c H locs 0 0 (fm_Q g below args s o.2 o.1) (F0 m pc ls st)
def Tt {ρ : Type} (g : fm_G) (l : Launch) (z : fm_Y) (em : ρ → fm_O) (T : Option ρ) (pc : Nat) (lv : List (Nat × Value)) (st : List Value) (μ : fm_St) : Prop := ∀ r, T = some r → Tr g l z (em r) pc lv st μ
def fm_Pre (g : fm_G) (μ : fm_St) : State → Prop := fun U => fm_P g μ U.heap ∧ fm_K g U ∧ fm_E g U U.heap
def fm_wl (z : fm_Y) : List Cond := .code z.1 z.2.2.1 z.2.2.2.1 z.2.2.2.2.1 :: lw_all
/-- the contract of a call -/
def fC (g : fm_G) (l : Launch) (z : fm_Y) (av : List Value) (μ : fm_St) (o : fm_O) : Prop := match o.1 with
  | .inr v => Met l z.1 (fm_wl z) (fm_R z o) (va_Pc av (fm_Pre g μ)) (fm_Qr g v o.2) 0 0 (fm_A g)
  | .inl k => vx_Met l z.1 (fm_wl z) (fm_R z o) (va_Pc av (fm_Pre g μ)) fm_No (fm_Qx g k o.2) 1 6 (fm_A g)
theorem fC.of {g : fm_G} {l : Launch} {z : fm_Y} {av : List Value} {μ : fm_St} {o : fm_O} (hz : plainName z.1.cls = true) (ho : z.2.1 = z.1.cls) (hd : fm_dec z) (hl : l.stackTraces = false) (hL : (lg_sl av).length ≤ z.2.2.2.1)
    (k : Tr g l z o 0 (lv_args 0 av) [] μ) : fC g l z av μ o := by
  obtain ⟨o1, o2⟩ := o
  cases o1 with
  | inr v =>
    refine Met.ofW (cc := z.2.2.1) (maxL := z.2.2.2.1) (ret := z.2.2.2.2.1) hz rfl ?_
    intro p e s m args below meth c s₁ B hml hv
    obtain ⟨rfl, hP, hK, hE⟩ := hv
    have hts := atoms_spec (ws := fm_wl z) B.pre
    have hv := lv_entry av hL
    have hown : s.vm.findClass z.2.1 = some m.cls := by rw [ho]; exact findClass_of_methodNamed B.named
    rw [lg_entry_eq]
    exact k p e _ s m _ below meth c s.heap [] _ ⟨B.exec, B.bytes, hml, hown, fun w hw => hts w (List.mem_cons_of_mem _ hw), hK, hE, B.returns, B.notSynchronized, rfl, hl, (fun _ h => nomatch h), hd⟩ hP va_S.rf hv
  | inl v =>
    refine vx_ofW (cc := z.2.2.1) (maxL := z.2.2.2.1) (ret := z.2.2.2.2.1) hz rfl ?_
    intro p e s m args below meth c s₁ B hml hex hv
    obtain ⟨rfl, hP, hK, hE⟩ := hv
    have hts := atoms_spec (ws := fm_wl z) B.pre
    have hv := lv_entry av hL
    have hown : s.vm.findClass z.2.1 = some m.cls := by rw [ho]; exact findClass_of_methodNamed B.named
    rw [lg_entry_eq]
    exact k p e _ s m _ below meth c s.heap [] _ ⟨B.exec, B.bytes, hml, hown, fun w hw => hts w (List.mem_cons_of_mem _ hw), hK, hE, B.returns, B.notSynchronized, rfl, hl, fun _ _ => hex, hd⟩ hP va_S.rf hv
section AT
variable {z : fm_Y} {g : fm_G} {l : Launch} {o : fm_O} {p : Program} {R : Room} {s : State} {m : MethodId} {args : Array Value} {meth : Method} {c : Code}
theorem fm_At.x (h : fm_At z g l o p R s m args meth c) : p.tables.exec = Jvm.exec := h.1
theorem fm_At.b (h : fm_At z g l o p R s m args meth c) : c.code = z.2.2.1 := h.2.1
theorem fm_At.ml (h : fm_At z g l o p R s m args meth c) : c.maxLocals = z.2.2.2.1 := h.2.2.1
theorem fm_At.own (h : fm_At z g l o p R s m args meth c) : s.vm.findClass z.2.1 = some m.cls := h.2.2.2.1
theorem fm_At.ts (h : fm_At z g l o p R s m args meth c) : ∀ w ∈ lw_all, w.before args s = true := h.2.2.2.2.1
theorem fm_At.k (h : fm_At z g l o p R s m args meth c) : fm_K g s := h.2.2.2.2.2.1
theorem fm_At.e (h : fm_At z g l o p R s m args meth c) : fm_E g s s.heap := h.2.2.2.2.2.2.1
theorem fm_At.ret (h : fm_At z g l o p R s m args meth c) : meth.sig.returnType = z.2.2.2.2.1 := h.2.2.2.2.2.2.2.1
theorem fm_At.lock (h : fm_At z g l o p R s m args meth c) : meth.locks = false := h.2.2.2.2.2.2.2.2.1
theorem fm_At.room (h : fm_At z g l o p R s m args meth c) : R = fm_R z o := h.2.2.2.2.2.2.2.2.2.1
theorem fm_At.tr (h : fm_At z g l o p R s m args meth c) : l.stackTraces = false := h.2.2.2.2.2.2.2.2.2.2.1
theorem fm_At.exc (h : fm_At z g l o p R s m args meth c) : ∀ k, o.1 = .inl k → ∀ x ∈ c.exceptionTable.toList, False := h.2.2.2.2.2.2.2.2.2.2.2.1
theorem fm_At.dec (h : fm_At z g l o p R s m args meth c) : fm_dec z := h.2.2.2.2.2.2.2.2.2.2.2.2
theorem fm_At.dg {pc len : Nat} {i : Instr} (h : fm_At z g l o p R s m args meth c) (hk : fm_lk z.2.2.2.2.2.1 pc = some (i, len)) : decode z.2.2.1 pc = .ok (i, len) := h.dec (pc, i, len) (fm_lk_mem hk)
end AT
section RULES
variable {g : fm_G} {l : Launch} {z : fm_Y} {o : fm_O} {pc : Nat} {lv : List (Nat × Value)} {st rest : List Value} {μ : fm_St}
theorem Tr.sub {lv' : List (Nat × Value)} (ks : List Nat) (h : lv_pick lv ks = lv') (k : Tr g l z o pc lv' st μ) : Tr g l z o pc lv st μ :=
  fun p e R s m args below meth c H locs ls hA hP hS hl => k p e R s m args below meth c H locs ls hA hP hS (lv_sub hl ks h)
def fx_run (k : List (Nat × Instr × Nat)) (nL : Nat) : Nat → Nat → List (Nat × Value) → List Value → Option (Nat × List (Nat × Value) × List Value)
  | 0, pc, lv, st => some (pc, lv, st)
  | n + 1, pc, lv, st => match fm_lk k pc with
    | some (.goto off, len) => bif Nat.beq len 3 then (match (pc : Int) + off with
      | .ofNat t => fx_run k nL n t lv st
      | .negSucc _ => none) else none
    | some (i, len) => match fx_step nL i lv st with
      | some (lv', st') => bif Nat.beq len (fx_len i) then fx_run k nL n (pc + len) lv' st' else none
      | none => none
    | none => none
theorem Tr.run1 {i : Instr} {len : Nat} {lv' : List (Nat × Value)} {st' : List Value} (hk : fm_lk z.2.2.2.2.2.1 pc = some (i, len)) (h : fx_step z.2.2.2.1 i lv st = some (lv', st')) (hlen : len = fx_len i) (k : Tr g l z o (pc + len) lv' st' μ) : Tr g l z o pc lv st μ := by
  intro p e R s m args below meth c H locs ls hA hP hS hl
  subst hlen
  exact fx_sound hA.x hA.b h hl (hA.dg hk) (fun ls' hl' => k p e R s m args below meth c H locs ls' hA hP hS hl')
theorem Tr.goto {off : Int} {t : Nat} (hk : fm_lk z.2.2.2.2.2.1 pc = some (.goto off, 3)) (ht : (pc : Int) + off = (t : Int)) (k : Tr g l z o t lv st μ) : Tr g l z o pc lv st μ := by
  intro p e R s m args below meth c H locs ls hA hP hS hl
  exact lv_goto hA.x hA.b (hA.dg hk) ht (k p e R s m args below meth c H locs ls hA hP hS hl)
theorem Tr.run : ∀ (n : Nat) {pc pc' : Nat} {lv lv' : List (Nat × Value)} {st st' : List Value}, fx_run z.2.2.2.2.2.1 z.2.2.2.1 n pc lv st = some (pc', lv', st') → Tr g l z o pc' lv' st' μ → Tr g l z o pc lv st μ
  | 0, _, _, _, _, _, _, h, k => by cases h; exact k
  | n + 1, pc, pc', lv, lv', st, st', h, k => by
    unfold fx_run at h
    split at h
    · next off len hk =>
      cases hl3 : Nat.beq len 3 with
      | false => rw [hl3] at h; cases h
      | true =>
        have hl4 : len = 3 := Nat.eq_of_beq_eq_true hl3
        subst hl4
        change (match (pc : Int) + off with | .ofNat t => fx_run z.2.2.2.2.2.1 z.2.2.2.1 n t lv st | .negSucc _ => none) = some (pc', lv', st') at h
        split at h
        · next t ht => exact Tr.goto hk ht (Tr.run n h k)
        · cases h
    · next i len hne hk =>
      split at h
      · next lv1 st1 hs =>
        cases hl3 : Nat.beq len (fx_len i) with
        | false => rw [hl3] at h; cases h
        | true => rw [hl3] at h; exact Tr.run1 hk hs (Nat.eq_of_beq_eq_true hl3) (Tr.run n h k)
      · cases h
    · cases h
end RULES
end
section
/-! RULES of the heap, of branches, calls and ends -/
/-- a class of the world: its place in vwCl, name, fields, how many, types -/
def fm_cls (ci : Nat) (C : String) (T : u_T) (N : Nat) (ty : Nat → FieldType) : Prop :=
  vwCl[ci]? = some (C, T, N) ∧ ci < 8 ∧ (∀ w ∈ u_ws C T N, w ∈ lw_all) ∧ (∀ k, k < N → parseFieldDescriptor (T k).2.2.1 = some (ty k)) ∧ (∀ a, a < N → ∀ b, b < N → a ≠ b → (T a).2.1 ≠ (T b).2.1)
theorem fmc0 : fm_cls 0 RX0 TX0 4 tyX0 := ⟨rfl, by decide, uX0, tyX0_ok, nmX0⟩
theorem fmc1 : fm_cls 1 RX1 TX1 3 tyX1 := ⟨rfl, by decide, uX1, tyX1_ok, nmX1⟩
theorem fmc2 : fm_cls 2 RX2 TX2 5 tyX2 := ⟨rfl, by decide, uX2, tyX2_ok, nmX2⟩
theorem fmc3 : fm_cls 3 RX3 TX3 3 tyX3 := ⟨rfl, by decide, uX3, tyX3_ok, nmX3⟩
theorem fmc4 : fm_cls 4 RX4 TX4 1 tyX4 := ⟨rfl, by decide, uX4, tyX4_ok, nmX4⟩
theorem fmc5 : fm_cls 5 RX5 TX5 11 tyX5 := ⟨rfl, by decide, uX5, tyX5_ok, nmX5⟩
theorem fmc6 : fm_cls 6 RX6 TX6 7 tyX6 := ⟨rfl, by decide, uX6, tyX6_ok, nmX6⟩
theorem fmc7 : fm_cls 7 RX7 TX7 19 tyX7 := ⟨rfl, by decide, uX7, tyX7_ok, nmX7⟩
def fm_in (i : Int32) (n : Nat) : Bool := !(decide (i < 0)) && decide (i.toNatClampNeg < n)
theorem fm_in_vp {i : Int32} {n : Nat} (h : fm_in i n = true) : vp_in i n := by
  unfold fm_in at h
  rw [Bool.and_eq_true, Bool.not_eq_true', decide_eq_false_iff_not, decide_eq_true_eq] at h
  exact fun q => q.elim h.1 (fun q => absurd h.2 (Nat.not_lt.mpr q))
def fm_ck {ρ : Type} (b : Bool) (T : Option ρ) : Option ρ := bif b then T else none
theorem fm_ck_eq {ρ : Type} {b : Bool} {T : Option ρ} {r : ρ} (h : fm_ck b T = some r) : b = true ∧ T = some r := by
  cases b with
  | true => exact ⟨rfl, h⟩
  | false => cases h
def fm_bo (x : Int32) : Bool := decide (x = 0) || decide (x = 1)
theorem fm_bo_nar {x : Int32} (h : fm_bo x = true) : narrow .boolean (.int x) = .int x ∧ fits .boolean (.int x) = true := by
  unfold fm_bo at h
  rw [Bool.or_eq_true, decide_eq_true_eq, decide_eq_true_eq] at h
  rcases h with h | h <;> subst h <;> exact ⟨by decide +kernel, by decide +kernel⟩
def fm_f32 (r : UInt32) : Bool := decide (r &&& 0x7fffffff ≤ 0x7f800000)
def fm_f64 (r : UInt64) : Bool := decide (r &&& 0x7fffffffffffffff ≤ 0x7ff0000000000000)
theorem fm_f32_n {r : UInt32} (h : fm_f32 r = true) : vf_n32 r := of_decide_eq_true (p := r &&& 0x7fffffff ≤ 0x7f800000) h
theorem fm_f64_n {r : UInt64} (h : fm_f64 r = true) : vf_n64 r := of_decide_eq_true (p := r &&& 0x7fffffffffffffff ≤ 0x7ff0000000000000) h
section RULES2
variable {g : fm_G} {l : Launch} {z : fm_Y} {o : fm_O} {pc : Nat} {lv : List (Nat × Value)} {st rest : List Value} {μ : fm_St}
theorem fm_fld9 {g : fm_G} {a c : Nat} (h : fm_kd g a = c) (hc : c < 8) : fm_kd g a ≠ 9999 := by omega
/-- getfield: k the field's place; ref the class by which it is spelled -/
theorem Tr.get {a ci k idx N : Nat} {C : String} {T : u_T} {ty : Nat → FieldType} {x : Option Nat} (hc : fm_cls ci C T N ty) (hk : fm_kd g a = ci) (hl : fm_lk z.2.2.2.2.2.1 pc = some (.getfield idx, 3)) (hw : Cond.fieldLink z.2.1 idx (T k).1 (T k).2.1 (T k).2.2.1 ∈ lw_all) (hkN : k < N) (hx : (fm_fld ci)[k]? = some x)
    (kk : Tr g l z o (pc + 3) lv (fm_val a (μ.1 a) k x :: rest) μ) : Tr g l z o pc lv (.ref a :: rest) μ := by
  intro p e R s m args below meth c H locs ls hA hP hS hv
  obtain ⟨h1, h2, h3, -, -⟩ := hc
  exact va_get (D := g.2.1) hA.x hA.b hA.ts h3 hA.own hA.k hP (a - g.1) (by rw [fm_ws_at (fm_fld9 hk h2), fm_cell_obj hk h2]) h1 k hkN (hA.ts _ hw) (fun _ h => h) (fm_vals_at hx) (hA.dg hl) (kk p e R s m args below meth c H locs ls hA hP hS hv)
theorem Tr.getN {a ci k idx N : Nat} {C host : String} {T : u_T} {ty : Nat → FieldType} {x : Option Nat} (hc : fm_cls ci C T N ty) (hk : fm_kd g a = ci) (hl : fm_lk z.2.2.2.2.2.1 pc = some (.getfield idx, 3)) (hw : Cond.fieldLinkNest z.2.1 idx (T k).1 (T k).2.1 (T k).2.2.1 host ∈ lw_tbl) (hkN : k < N) (hx : (fm_fld ci)[k]? = some x)
    (kk : Tr g l z o (pc + 3) lv (fm_val a (μ.1 a) k x :: rest) μ) : Tr g l z o pc lv (.ref a :: rest) μ := by
  intro p e R s m args below meth c H locs ls hA hP hS hv
  obtain ⟨h1, h2, h3, -, -⟩ := hc
  exact va_getN (D := g.2.1) hA.x hA.b hA.ts h3 hA.own hA.k hP (a - g.1) (by rw [fm_ws_at (fm_fld9 hk h2), fm_cell_obj hk h2]) h1 k hkN (fm_nw_use rfl (hA.e.2.2.2.2.2.2 _ hw rfl)) (fun _ h => h) (fm_vals_at hx) (hA.dg hl) (kk p e R s m args below meth c H locs ls hA hP hS hv)
theorem fm_put_ws {a ci k : Nat} {v : Int32} (hk : fm_kd g a = ci) (h2 : ci < 8) (hx : (fm_fld ci)[k]? = some none) : (fm_ws g μ).set (a - g.1) (a, .inr (ci, (fm_vals a (μ.1 a) (fm_fld ci)).set k (.int v))) = fm_ws g (fm_up μ.1 a k v, μ.2) := by
  rw [fm_vals_set hx, ← fm_up_self]
  rw [← fm_ws_set (μ := μ) (ν := (fm_up μ.1 a k v, μ.2)) (fm_fld9 hk h2) (fun b hb => fm_cell_ne (fm_up_ne hb)), fm_cell_obj (μ := (fm_up μ.1 a k v, μ.2)) hk h2]
theorem Tr.put {a ci k idx N : Nat} {C : String} {T : u_T} {ty : Nat → FieldType} {v : Int32} (hc : fm_cls ci C T N ty) (hk : fm_kd g a = ci) (hl : fm_lk z.2.2.2.2.2.1 pc = some (.putfield idx, 3)) (hw : Cond.fieldLink z.2.1 idx (T k).1 (T k).2.1 (T k).2.2.1 ∈ lw_all) (hkN : k < N) (hx : (fm_fld ci)[k]? = some none) (hfin : (T k).2.2.2 = false)
    (hn : narrow (ty k) (.int v) = .int v ∧ fits (ty k) (.int v) = true) (kk : Tr g l z o (pc + 3) lv rest (fm_up μ.1 a k v, μ.2)) : Tr g l z o pc lv (.int v :: .ref a :: rest) μ := by
  intro p e R s m args below meth c H locs ls hA hP hS hv
  obtain ⟨h1, h2, h3, h4, h5⟩ := hc
  have hlen : k < (fm_vals a (μ.1 a) (fm_fld ci)).length := by rw [fm_vals_len]; exact (List.getElem?_eq_some_iff.mp hx).1
  refine va_put (D := g.2.1) hA.x hA.b hA.ts h3 ty h4 h5 hA.own hA.k hP (fm_D g μ) hS (a - g.1) (by rw [fm_ws_at (fm_fld9 hk h2), fm_cell_obj hk h2]) h1 k hkN (hA.ts _ hw) (fun _ h => h) hfin (h4 k hkN) hn.1 hn.2 hlen (hA.dg hl) (fun H1 locs1 hP1 hD1 hS1 => ?_)
  rw [fm_put_ws hk h2 hx] at hP1
  exact kk p e R s m args below meth c H1 locs1 ls hA hP1 hS1 hv
theorem Tr.putN {a ci k idx N : Nat} {C host : String} {T : u_T} {ty : Nat → FieldType} {v : Int32} (hc : fm_cls ci C T N ty) (hk : fm_kd g a = ci) (hl : fm_lk z.2.2.2.2.2.1 pc = some (.putfield idx, 3)) (hw : Cond.fieldLinkNest z.2.1 idx (T k).1 (T k).2.1 (T k).2.2.1 host ∈ lw_tbl) (hkN : k < N) (hx : (fm_fld ci)[k]? = some none) (hfin : (T k).2.2.2 = false)
    (hn : narrow (ty k) (.int v) = .int v ∧ fits (ty k) (.int v) = true) (kk : Tr g l z o (pc + 3) lv rest (fm_up μ.1 a k v, μ.2)) : Tr g l z o pc lv (.int v :: .ref a :: rest) μ := by
  intro p e R s m args below meth c H locs ls hA hP hS hv
  obtain ⟨h1, h2, h3, h4, h5⟩ := hc
  have hlen : k < (fm_vals a (μ.1 a) (fm_fld ci)).length := by rw [fm_vals_len]; exact (List.getElem?_eq_some_iff.mp hx).1
  refine va_putN (D := g.2.1) hA.x hA.b hA.ts h3 ty h4 h5 hA.own hA.k hP (fm_D g μ) hS (a - g.1) (by rw [fm_ws_at (fm_fld9 hk h2), fm_cell_obj hk h2]) h1 k hkN (fm_nw_use rfl (hA.e.2.2.2.2.2.2 _ hw rfl)) (fun _ h => h) hfin (h4 k hkN) hn.1 hn.2 hlen (hA.dg hl) (fun H1 locs1 hP1 hD1 hS1 => ?_)
  rw [fm_put_ws hk h2 hx] at hP1
  exact kk p e R s m args below meth c H1 locs1 ls hA hP1 hS1 hv
theorem fm_a9 {a n : Nat} (h : fm_kd g a = 100 + n) (hn : n < 9000) : fm_kd g a ≠ 9999 := by omega
theorem Tr.iald {a n : Nat} {i : Int32} (hk : fm_kd g a = 100 + n) (hn : n < 9000) (hi : fm_in i n = true) (hl : fm_lk z.2.2.2.2.2.1 pc = some (.iaload, 1)) (kk : Tr g l z o (pc + 1) lv (.int (μ.1 a i.toNatClampNeg) :: rest) μ) : Tr g l z o pc lv (.int i :: .ref a :: rest) μ := by
  intro p e R s m args below meth c H locs ls hA hP hS hv
  exact va_iald (D := g.2.1) hA.x hA.b hA.k hP (a - g.1) 0 (by rw [fm_ws_at (fm_a9 hk hn), fm_cell_int hk]) rfl (fm_in_vp hi) (hA.dg hl) (kk p e R s m args below meth c H locs ls hA hP hS hv)
theorem fm_ast_ws {a n j : Nat} {x : Int32} (hk : fm_kd g a = 100 + n) (hn : n < 9000) : (fm_ws g μ).set (a - g.1) (a, .inl (g.2.2.1.1, n, .inl (upd (μ.1 a) j x))) = fm_ws g (fm_up μ.1 a j x, μ.2) := by
  rw [← fm_up_self, ← fm_ws_set (μ := μ) (ν := (fm_up μ.1 a j x, μ.2)) (fm_a9 hk hn) (fun b hb => fm_cell_ne (fm_up_ne hb)), fm_cell_int (μ := (fm_up μ.1 a j x, μ.2)) hk]
theorem Tr.iast {a n : Nat} {i x : Int32} (hk : fm_kd g a = 100 + n) (hn : n < 9000) (hi : fm_in i n = true) (hl : fm_lk z.2.2.2.2.2.1 pc = some (.iastore, 1)) (kk : Tr g l z o (pc + 1) lv rest (fm_up μ.1 a i.toNatClampNeg x, μ.2)) : Tr g l z o pc lv (.int x :: .int i :: .ref a :: rest) μ := by
  intro p e R s m args below meth c H locs ls hA hP hS hv
  refine va_iast (D := g.2.1) hA.x hA.b hA.k hP (fm_D g μ) hS (a - g.1) 0 (by rw [fm_ws_at (fm_a9 hk hn), fm_cell_int hk]) rfl (fm_in_vp hi) (hA.dg hl) (fun H1 locs1 hP1 hD1 hS1 => ?_)
  rw [fm_ast_ws hk hn] at hP1
  exact kk p e R s m args below meth c H1 locs1 ls hA hP1 hS1 hv
theorem Tr.alen {a n : Nat} (hk : fm_kd g a = 100 + n) (hn : n < 9000) (hl : fm_lk z.2.2.2.2.2.1 pc = some (.arraylength, 1)) (kk : Tr g l z o (pc + 1) lv (.int (Int32.ofNat n) :: rest) μ) : Tr g l z o pc lv (.ref a :: rest) μ := by
  intro p e R s m args below meth c H locs ls hA hP hS hv
  exact va_alen (D := g.2.1) hA.x hA.b hA.k hP (a - g.1) 0 (by rw [fm_ws_at (fm_a9 hk hn), fm_cell_int hk]) rfl rfl (hA.dg hl) (kk p e R s m args below meth c H locs ls hA hP hS hv)
theorem Tr.alenP {a : Nat} (hk : fm_kd g a = 8) (hl : fm_lk z.2.2.2.2.2.1 pc = some (.arraylength, 1)) (kk : Tr g l z o (pc + 1) lv (.int 8 :: rest) μ) : Tr g l z o pc lv (.ref a :: rest) μ := by
  intro p e R s m args below meth c H locs ls hA hP hS hv
  exact va_alen (D := g.2.1) hA.x hA.b hA.k hP (a - g.1) 1 (by rw [fm_ws_at (by omega), fm_cell_ref hk]) rfl rfl (hA.dg hl) (kk p e R s m args below meth c H locs ls hA hP hS hv)
theorem Tr.aald {a : Nat} {i : Int32} (hk : fm_kd g a = 8) (hi : fm_in i 8 = true) (hl : fm_lk z.2.2.2.2.2.1 pc = some (.aaload, 1)) (kk : Tr g l z o (pc + 1) lv (.ref (a + 1 + 16 * i.toNatClampNeg) :: rest) μ) : Tr g l z o pc lv (.int i :: .ref a :: rest) μ := by
  intro p e R s m args below meth c H locs ls hA hP hS hv
  exact va_aldq (D := g.2.1) (f := fun j => some (a + 1 + 16 * j)) hA.x hA.b hA.k hP (a - g.1) 1 (by rw [fm_ws_at (by omega), fm_cell_ref hk]) rfl (fm_in_vp hi) (hA.dg hl) (kk p e R s m args below meth c H locs ls hA hP hS hv)
theorem Tr.idiv {x y : Int32} (hl : fm_lk z.2.2.2.2.2.1 pc = some (.idiv, 1)) (hne : ¬ y = 0) (kk : Tr g l z o (pc + 1) lv (.int (x / y) :: rest) μ) : Tr g l z o pc lv (.int y :: .int x :: rest) μ :=
  fun p e R s m args below meth c H locs ls hA hP hS hv => lv_idiv hA.x hA.b (hA.dg hl) hne (kk p e R s m args below meth c H locs ls hA hP hS hv)
theorem Tr.irem {x y : Int32} (hl : fm_lk z.2.2.2.2.2.1 pc = some (.irem, 1)) (hne : ¬ y = 0) (kk : Tr g l z o (pc + 1) lv (.int (x - x / y * y) :: rest) μ) : Tr g l z o pc lv (.int y :: .int x :: rest) μ :=
  fun p e R s m args below meth c H locs ls hA hP hS hv => lv_irem hA.x hA.b (hA.dg hl) hne (kk p e R s m args below meth c H locs ls hA hP hS hv)
theorem Tr.fdiv {x y : UInt32} (hl : fm_lk z.2.2.2.2.2.1 pc = some (.fdiv, 1)) (hne : fm_f32 (FP.fdiv x y) = true) (kk : Tr g l z o (pc + 1) lv (.float (FP.fdiv x y) :: rest) μ) : Tr g l z o pc lv (.float y :: .float x :: rest) μ :=
  fun p e R s m args below meth c H locs ls hA hP hS hv => lv_fdiv hA.x hA.b (hA.dg hl) (fm_f32_n hne) (kk p e R s m args below meth c H locs ls hA hP hS hv)
theorem Tr.fmul {x y : UInt32} (hl : fm_lk z.2.2.2.2.2.1 pc = some (.fmul, 1)) (hne : fm_f32 (FP.fmul x y) = true) (kk : Tr g l z o (pc + 1) lv (.float (FP.fmul x y) :: rest) μ) : Tr g l z o pc lv (.float y :: .float x :: rest) μ :=
  fun p e R s m args below meth c H locs ls hA hP hS hv => lv_fmul hA.x hA.b (hA.dg hl) (fm_f32_n hne) (kk p e R s m args below meth c H locs ls hA hP hS hv)
theorem Tr.fsub {x y : UInt32} (hl : fm_lk z.2.2.2.2.2.1 pc = some (.fsub, 1)) (hne : fm_f32 (FP.fsub x y) = true) (kk : Tr g l z o (pc + 1) lv (.float (FP.fsub x y) :: rest) μ) : Tr g l z o pc lv (.float y :: .float x :: rest) μ :=
  fun p e R s m args below meth c H locs ls hA hP hS hv => lv_fsub hA.x hA.b (hA.dg hl) (fm_f32_n hne) (kk p e R s m args below meth c H locs ls hA hP hS hv)
theorem Tr.ddiv {x y : UInt64} (hl : fm_lk z.2.2.2.2.2.1 pc = some (.ddiv, 1)) (hne : fm_f64 (FP.ddiv x y) = true) (kk : Tr g l z o (pc + 1) lv (.double (FP.ddiv x y) :: rest) μ) : Tr g l z o pc lv (.double y :: .double x :: rest) μ :=
  fun p e R s m args below meth c H locs ls hA hP hS hv => lv_ddiv hA.x hA.b (hA.dg hl) (fm_f64_n hne) (kk p e R s m args below meth c H locs ls hA hP hS hv)
theorem Tr.dmul {x y : UInt64} (hl : fm_lk z.2.2.2.2.2.1 pc = some (.dmul, 1)) (hne : fm_f64 (FP.dmul x y) = true) (kk : Tr g l z o (pc + 1) lv (.double (FP.dmul x y) :: rest) μ) : Tr g l z o pc lv (.double y :: .double x :: rest) μ :=
  fun p e R s m args below meth c H locs ls hA hP hS hv => lv_dmul hA.x hA.b (hA.dg hl) (fm_f64_n hne) (kk p e R s m args below meth c H locs ls hA hP hS hv)
theorem Tr.f2d {x : UInt32} (hl : fm_lk z.2.2.2.2.2.1 pc = some (.f2d, 1)) (hne : fm_f64 (FP.f2d x) = true) (kk : Tr g l z o (pc + 1) lv (.double (FP.f2d x) :: rest) μ) : Tr g l z o pc lv (.float x :: rest) μ :=
  fun p e R s m args below meth c H locs ls hA hP hS hv => lv_f2d hA.x hA.b (hA.dg hl) (fm_f64_n hne) (kk p e R s m args below meth c H locs ls hA hP hS hv)
theorem Tr.ldcI {idx : Nat} {v : Int32} (hl : fm_lk z.2.2.2.2.2.1 pc = some (.ldc idx, 2)) (hw : Cond.constant z.2.1 idx v ∈ lw_all) (kk : Tr g l z o (pc + 2) lv (.int v :: rest) μ) : Tr g l z o pc lv rest μ :=
  fun p e R s m args below meth c H locs ls hA hP hS hv => lv_ldc hA.x hA.b hA.own (hA.ts _ hw) (hA.dg hl) (kk p e R s m args below meth c H locs ls hA hP hS hv)
theorem Tr.ldcwI {idx : Nat} {v : Int32} (hl : fm_lk z.2.2.2.2.2.1 pc = some (.ldc_w idx, 3)) (hw : Cond.constant z.2.1 idx v ∈ lw_all) (kk : Tr g l z o (pc + 3) lv (.int v :: rest) μ) : Tr g l z o pc lv rest μ :=
  fun p e R s m args below meth c H locs ls hA hP hS hv => lv_ldcw hA.x hA.b hA.own (hA.ts _ hw) (hA.dg hl) (kk p e R s m args below meth c H locs ls hA hP hS hv)
theorem Tr.ldcL {idx : Nat} {v : Int64} (hl : fm_lk z.2.2.2.2.2.1 pc = some (.ldc2_w idx, 3)) (hw : Cond.constantLong z.2.1 idx v ∈ lw_all) (kk : Tr g l z o (pc + 3) lv (.long v :: rest) μ) : Tr g l z o pc lv rest μ :=
  fun p e R s m args below meth c H locs ls hA hP hS hv => lv_ldc2 hA.x hA.b hA.own (hA.ts _ hw) (hA.dg hl) (kk p e R s m args below meth c H locs ls hA hP hS hv)
theorem Tr.ldcD {idx : Nat} {v : UInt64} (hl : fm_lk z.2.2.2.2.2.1 pc = some (.ldc2_w idx, 3)) (hw : Cond.constantDouble z.2.1 idx v ∈ lw_all) (kk : Tr g l z o (pc + 3) lv (.double v :: rest) μ) : Tr g l z o pc lv rest μ :=
  fun p e R s m args below meth c H locs ls hA hP hS hv => lv_ldc2d hA.x hA.b hA.own (hA.ts _ hw) (hA.dg hl) (kk p e R s m args below meth c H locs ls hA hP hS hv)
theorem Tr.ldcF {idx : Nat} {v : UInt32} (hl : fm_lk z.2.2.2.2.2.1 pc = some (.ldc idx, 2)) (hw : Cond.constantFloat z.2.1 idx v ∈ lw_all) (kk : Tr g l z o (pc + 2) lv (.float v :: rest) μ) : Tr g l z o pc lv rest μ :=
  fun p e R s m args below meth c H locs ls hA hP hS hv => lv_ldcf hA.x hA.b hA.own (hA.ts _ hw) (hA.dg hl) (kk p e R s m args below meth c H locs ls hA hP hS hv)
theorem Tr.ldcS {idx i : Nat} {tx : String} (hl : fm_lk z.2.2.2.2.2.1 pc = some (.ldc idx, 2)) (hi : fm_strs[i]? = some (z.2.1, idx, tx)) (kk : Tr g l z o (pc + 2) lv (.ref (g.2.2.2.1 i) :: rest) μ) : Tr g l z o pc lv rest μ :=
  fun p e R s m args below meth c H locs ls hA hP hS hv => va_ldcS hA.x hA.b hA.own (hA.e.2.2.2.2.2.1 i _ hi) (hA.dg hl) (kk p e R s m args below meth c H locs ls hA hP hS hv)
theorem Tr.if_eq {x : Int32} {off : Int} {tgt : Nat} (hl : fm_lk z.2.2.2.2.2.1 pc = some (.ifCond .eq off, 3)) (ht : (pc : Int) + off = (tgt : Int)) (kt : x = 0 → Tr g l z o tgt lv rest μ) (kf : ¬ x = 0 → Tr g l z o (pc + 3) lv rest μ) : Tr g l z o pc lv (.int x :: rest) μ :=
  fun p e R s m args below meth c H locs ls hA hP hS hv => lv_if_eq hA.x hA.b (hA.dg hl) ht (fun q => kt q p e R s m args below meth c H locs ls hA hP hS hv) (fun q => kf q p e R s m args below meth c H locs ls hA hP hS hv)
theorem Tr.if_ne {x : Int32} {off : Int} {tgt : Nat} (hl : fm_lk z.2.2.2.2.2.1 pc = some (.ifCond .ne off, 3)) (ht : (pc : Int) + off = (tgt : Int)) (kt : ¬ x = 0 → Tr g l z o tgt lv rest μ) (kf : x = 0 → Tr g l z o (pc + 3) lv rest μ) : Tr g l z o pc lv (.int x :: rest) μ :=
  fun p e R s m args below meth c H locs ls hA hP hS hv => lv_if_ne hA.x hA.b (hA.dg hl) ht (fun q => kt q p e R s m args below meth c H locs ls hA hP hS hv) (fun q => kf q p e R s m args below meth c H locs ls hA hP hS hv)
theorem Tr.if_lt {x : Int32} {off : Int} {tgt : Nat} (hl : fm_lk z.2.2.2.2.2.1 pc = some (.ifCond .lt off, 3)) (ht : (pc : Int) + off = (tgt : Int)) (kt : x < 0 → Tr g l z o tgt lv rest μ) (kf : ¬ x < 0 → Tr g l z o (pc + 3) lv rest μ) : Tr g l z o pc lv (.int x :: rest) μ :=
  fun p e R s m args below meth c H locs ls hA hP hS hv => lv_if_lt hA.x hA.b (hA.dg hl) ht (fun q => kt q p e R s m args below meth c H locs ls hA hP hS hv) (fun q => kf q p e R s m args below meth c H locs ls hA hP hS hv)
theorem Tr.if_ge {x : Int32} {off : Int} {tgt : Nat} (hl : fm_lk z.2.2.2.2.2.1 pc = some (.ifCond .ge off, 3)) (ht : (pc : Int) + off = (tgt : Int)) (kt : 0 ≤ x → Tr g l z o tgt lv rest μ) (kf : ¬ 0 ≤ x → Tr g l z o (pc + 3) lv rest μ) : Tr g l z o pc lv (.int x :: rest) μ :=
  fun p e R s m args below meth c H locs ls hA hP hS hv => lv_if_ge hA.x hA.b (hA.dg hl) ht (fun q => kt q p e R s m args below meth c H locs ls hA hP hS hv) (fun q => kf q p e R s m args below meth c H locs ls hA hP hS hv)
theorem Tr.if_gt {x : Int32} {off : Int} {tgt : Nat} (hl : fm_lk z.2.2.2.2.2.1 pc = some (.ifCond .gt off, 3)) (ht : (pc : Int) + off = (tgt : Int)) (kt : 0 < x → Tr g l z o tgt lv rest μ) (kf : ¬ 0 < x → Tr g l z o (pc + 3) lv rest μ) : Tr g l z o pc lv (.int x :: rest) μ :=
  fun p e R s m args below meth c H locs ls hA hP hS hv => lv_if_gt hA.x hA.b (hA.dg hl) ht (fun q => kt q p e R s m args below meth c H locs ls hA hP hS hv) (fun q => kf q p e R s m args below meth c H locs ls hA hP hS hv)
theorem Tr.if_le {x : Int32} {off : Int} {tgt : Nat} (hl : fm_lk z.2.2.2.2.2.1 pc = some (.ifCond .le off, 3)) (ht : (pc : Int) + off = (tgt : Int)) (kt : x ≤ 0 → Tr g l z o tgt lv rest μ) (kf : ¬ x ≤ 0 → Tr g l z o (pc + 3) lv rest μ) : Tr g l z o pc lv (.int x :: rest) μ :=
  fun p e R s m args below meth c H locs ls hA hP hS hv => lv_if_le hA.x hA.b (hA.dg hl) ht (fun q => kt q p e R s m args below meth c H locs ls hA hP hS hv) (fun q => kf q p e R s m args below meth c H locs ls hA hP hS hv)
theorem Tr.ic_eq {x y : Int32} {off : Int} {tgt : Nat} (hl : fm_lk z.2.2.2.2.2.1 pc = some (.if_icmp .eq off, 3)) (ht : (pc : Int) + off = (tgt : Int)) (kt : x = y → Tr g l z o tgt lv rest μ) (kf : ¬ x = y → Tr g l z o (pc + 3) lv rest μ) : Tr g l z o pc lv (.int y :: .int x :: rest) μ :=
  fun p e R s m args below meth c H locs ls hA hP hS hv => lv_icmp_eq hA.x hA.b (hA.dg hl) ht (fun q => kt q p e R s m args below meth c H locs ls hA hP hS hv) (fun q => kf q p e R s m args below meth c H locs ls hA hP hS hv)
theorem Tr.ic_ne {x y : Int32} {off : Int} {tgt : Nat} (hl : fm_lk z.2.2.2.2.2.1 pc = some (.if_icmp .ne off, 3)) (ht : (pc : Int) + off = (tgt : Int)) (kt : ¬ x = y → Tr g l z o tgt lv rest μ) (kf : x = y → Tr g l z o (pc + 3) lv rest μ) : Tr g l z o pc lv (.int y :: .int x :: rest) μ :=
  fun p e R s m args below meth c H locs ls hA hP hS hv => lv_icmp_ne hA.x hA.b (hA.dg hl) ht (fun q => kt q p e R s m args below meth c H locs ls hA hP hS hv) (fun q => kf q p e R s m args below meth c H locs ls hA hP hS hv)
theorem Tr.ic_lt {x y : Int32} {off : Int} {tgt : Nat} (hl : fm_lk z.2.2.2.2.2.1 pc = some (.if_icmp .lt off, 3)) (ht : (pc : Int) + off = (tgt : Int)) (kt : x < y → Tr g l z o tgt lv rest μ) (kf : ¬ x < y → Tr g l z o (pc + 3) lv rest μ) : Tr g l z o pc lv (.int y :: .int x :: rest) μ :=
  fun p e R s m args below meth c H locs ls hA hP hS hv => lv_icmp_lt hA.x hA.b (hA.dg hl) ht (fun q => kt q p e R s m args below meth c H locs ls hA hP hS hv) (fun q => kf q p e R s m args below meth c H locs ls hA hP hS hv)
theorem Tr.ic_ge {x y : Int32} {off : Int} {tgt : Nat} (hl : fm_lk z.2.2.2.2.2.1 pc = some (.if_icmp .ge off, 3)) (ht : (pc : Int) + off = (tgt : Int)) (kt : y ≤ x → Tr g l z o tgt lv rest μ) (kf : ¬ y ≤ x → Tr g l z o (pc + 3) lv rest μ) : Tr g l z o pc lv (.int y :: .int x :: rest) μ :=
  fun p e R s m args below meth c H locs ls hA hP hS hv => lv_icmp_ge hA.x hA.b (hA.dg hl) ht (fun q => kt q p e R s m args below meth c H locs ls hA hP hS hv) (fun q => kf q p e R s m args below meth c H locs ls hA hP hS hv)
theorem Tr.ic_gt {x y : Int32} {off : Int} {tgt : Nat} (hl : fm_lk z.2.2.2.2.2.1 pc = some (.if_icmp .gt off, 3)) (ht : (pc : Int) + off = (tgt : Int)) (kt : y < x → Tr g l z o tgt lv rest μ) (kf : ¬ y < x → Tr g l z o (pc + 3) lv rest μ) : Tr g l z o pc lv (.int y :: .int x :: rest) μ :=
  fun p e R s m args below meth c H locs ls hA hP hS hv => lv_icmp_gt hA.x hA.b (hA.dg hl) ht (fun q => kt q p e R s m args below meth c H locs ls hA hP hS hv) (fun q => kf q p e R s m args below meth c H locs ls hA hP hS hv)
theorem Tr.ic_le {x y : Int32} {off : Int} {tgt : Nat} (hl : fm_lk z.2.2.2.2.2.1 pc = some (.if_icmp .le off, 3)) (ht : (pc : Int) + off = (tgt : Int)) (kt : x ≤ y → Tr g l z o tgt lv rest μ) (kf : ¬ x ≤ y → Tr g l z o (pc + 3) lv rest μ) : Tr g l z o pc lv (.int y :: .int x :: rest) μ :=
  fun p e R s m args below meth c H locs ls hA hP hS hv => lv_icmp_le hA.x hA.b (hA.dg hl) ht (fun q => kt q p e R s m args below meth c H locs ls hA hP hS hv) (fun q => kf q p e R s m args below meth c H locs ls hA hP hS hv)
end RULES2
end
section
/-! CALLS AND ENDS -/
section RULES3
variable {g : fm_G} {l : Launch} {z : fm_Y} {o : fm_O} {pc : Nat} {lv : List (Nat × Value)} {st rest : List Value} {μ : fm_St}
theorem Tr.iret {v : Int32} (hl : fm_lk z.2.2.2.2.2.1 pc = some (.ireturn, 1)) (hr : z.2.2.2.2.1 = some .int) : Tr g l z (.inr (some (.int v)), μ) pc lv [.int v] μ := by
  intro p e R s m args below meth c H locs ls hA hP hS hv
  exact W.iret hA.x hA.b (hA.ret.trans hr) (fun t ht hW => ⟨rfl, by rw [ht]; exact hP, hS.F ht⟩) hS.2.2 (hA.dg hl) hA.lock
theorem Tr.zret {v : Int32} (hl : fm_lk z.2.2.2.2.2.1 pc = some (.ireturn, 1)) (hr : z.2.2.2.2.1 = some .boolean) (hb : fm_bo v = true) : Tr g l z (.inr (some (.int v)), μ) pc lv [.int v] μ := by
  intro p e R s m args below meth c H locs ls hA hP hS hv
  exact W.zret hA.x hA.b (hA.ret.trans hr) (fm_bo_nar hb).1 (fun t ht hW => ⟨rfl, by rw [ht]; exact hP, hS.F ht⟩) hS.2.2 (hA.dg hl) hA.lock
theorem Tr.lret {v : Int64} (hl : fm_lk z.2.2.2.2.2.1 pc = some (.lreturn, 1)) (hr : z.2.2.2.2.1 = some .long) : Tr g l z (.inr (some (.long v)), μ) pc lv [.long v] μ := by
  intro p e R s m args below meth c H locs ls hA hP hS hv
  exact W.lret hA.x hA.b (hA.ret.trans hr) (fun t ht hW => ⟨rfl, by rw [ht]; exact hP, hS.F ht⟩) hS.2.2 (hA.dg hl) hA.lock
theorem Tr.fret {v : UInt32} (hl : fm_lk z.2.2.2.2.2.1 pc = some (.freturn, 1)) (hr : z.2.2.2.2.1 = some .float) : Tr g l z (.inr (some (.float v)), μ) pc lv [.float v] μ := by
  intro p e R s m args below meth c H locs ls hA hP hS hv
  exact W.fret hA.x hA.b (hA.ret.trans hr) (fun t ht hW => ⟨rfl, by rw [ht]; exact hP, hS.F ht⟩) hS.2.2 (hA.dg hl) hA.lock
theorem Tr.dret {v : UInt64} (hl : fm_lk z.2.2.2.2.2.1 pc = some (.dreturn, 1)) (hr : z.2.2.2.2.1 = some .double) : Tr g l z (.inr (some (.double v)), μ) pc lv [.double v] μ := by
  intro p e R s m args below meth c H locs ls hA hP hS hv
  exact W.dret hA.x hA.b (hA.ret.trans hr) (fun t ht hW => ⟨rfl, by rw [ht]; exact hP, hS.F ht⟩) hS.2.2 (hA.dg hl) hA.lock
theorem Tr.aret {a : Nat} {C : String} (hl : fm_lk z.2.2.2.2.2.1 pc = some (.areturn, 1)) (hr : z.2.2.2.2.1 = some (.object C)) : Tr g l z (.inr (some (.ref a)), μ) pc lv [.ref a] μ := by
  intro p e R s m args below meth c H locs ls hA hP hS hv
  exact W.aret hA.x hA.b (hA.ret.trans hr) (Or.inl ⟨C, rfl⟩) (Or.inr ⟨a, rfl⟩) (fun t ht hW => ⟨rfl, by rw [ht]; exact hP, hS.F ht⟩) hS.2.2 (hA.dg hl) hA.lock
theorem Tr.vret (hl : fm_lk z.2.2.2.2.2.1 pc = some (.return_, 1)) (hr : z.2.2.2.2.1 = none) : Tr g l z (.inr none, μ) pc lv [] μ := by
  intro p e R s m args below meth c H locs ls hA hP hS hv
  exact W.vret hA.x hA.b (hA.ret.trans hr) (fun t ht hW => ⟨rfl, by rw [ht]; exact hP, hS.F ht⟩) hS.2.2 (hA.dg hl) hA.lock
/-- what a 'throw new E()' needs of the tables -/
def fm_xw (own : String) (ik ic : Nat) (k : Nat) : Prop := Bundle.fit (fm_exc k) = true ∧ Cond.classLink own ik (fm_exc k) ∈ lw_all ∧ Cond.initialized (fm_exc k) ∈ lw_all
  ∧ (∀ w ∈ vx_at0 own ic (fm_exc k) ["java/lang/RuntimeException", "java/lang/Exception"], w ∈ lw_tbl ∧ (goodWord w = true ∨ fm_isN w = true))
  ∧ ∀ w ∈ Cond.classLink own ik (fm_exc k) :: Cond.initialized (fm_exc k) :: vx_at0 own ic (fm_exc k) ["java/lang/RuntimeException", "java/lang/Exception"], vx_ot w = true
def fm_xwb (own : String) (ik ic : Nat) (k : Nat) : Bool := (Bundle.fit (fm_exc k) && lw_tbl.contains (Cond.classLink own ik (fm_exc k)) && goodWord (Cond.classLink own ik (fm_exc k)) && lw_tbl.contains (Cond.initialized (fm_exc k)) && goodWord (Cond.initialized (fm_exc k)))
  && (vx_at0 own ic (fm_exc k) ["java/lang/RuntimeException", "java/lang/Exception"]).all (fun w => lw_tbl.contains w && (goodWord w || fm_isN w))
  && (Cond.classLink own ik (fm_exc k) :: Cond.initialized (fm_exc k) :: vx_at0 own ic (fm_exc k) ["java/lang/RuntimeException", "java/lang/Exception"]).all vx_ot
theorem fm_xw_of {own : String} {ik ic k : Nat} (h : fm_xwb own ik ic k = true) : fm_xw own ik ic k := by
  unfold fm_xwb at h
  rw [Bool.and_eq_true, Bool.and_eq_true, Bool.and_eq_true, Bool.and_eq_true, Bool.and_eq_true, Bool.and_eq_true] at h
  obtain ⟨⟨⟨⟨⟨⟨h1, h2⟩, h3⟩, h4⟩, h5⟩, h6⟩, h7⟩ := h
  refine ⟨h1, List.mem_filter.mpr ⟨List.contains_iff_mem.mp h2, h3⟩, List.mem_filter.mpr ⟨List.contains_iff_mem.mp h4, h5⟩, fun w hw => ?_, fun w hw => List.all_eq_true.mp h7 w hw⟩
  have h8 := List.all_eq_true.mp h6 w hw
  rw [Bool.and_eq_true, Bool.or_eq_true] at h8
  exact ⟨List.contains_iff_mem.mp h8.1, h8.2⟩
theorem fx0 : fm_xw RX6 46 48 0 := fm_xw_of (by decide +kernel)
theorem fx1 : fm_xw RX6 213 215 1 := fm_xw_of (by decide +kernel)
theorem fx2 : fm_xw RX6 264 266 2 := fm_xw_of (by decide +kernel)
theorem fx3 : fm_xw RX6 176 178 3 := fm_xw_of (by decide +kernel)
theorem fm_hfits {z : fm_Y} {g : fm_G} {l : Launch} {o : fm_O} {p : Program} {R : Room} {s : State} {m : MethodId} {args : Array Value} {meth : Method} {c : Code} (hA : fm_At z g l o p R s m args meth c) {w : Cond} (h : w ∈ lw_tbl ∧ (goodWord w = true ∨ fm_isN w = true)) : w.before args s = true := by
  rcases h.2 with q | q
  · exact hA.ts w (List.mem_filter.mpr ⟨h.1, q⟩)
  · exact fm_nw_use q (hA.e.2.2.2.2.2.2 w h.1 q)
theorem Tr.thr {k ik ic : Nat} (hw : fm_xw z.2.1 ik ic k) (d0 : fm_lk z.2.2.2.2.2.1 pc = some (.new ik, 3)) (d3 : fm_lk z.2.2.2.2.2.1 (pc + 3) = some (.dup, 1)) (d4 : fm_lk z.2.2.2.2.2.1 (pc + 4) = some (.invokespecial ic, 3)) (d7 : fm_lk z.2.2.2.2.2.1 (pc + 7) = some (.athrow, 1))
    (hF : 6 ≤ z.2.2.2.2.2.2.1) (hL : (rest.map fun v => v.category).sum + 81 ≤ z.2.2.2.2.2.2.2) : Tr g l z (.inl k, μ) pc lv rest μ := by
  intro p e R s m args below meth c H locs ls hA hP hS hv
  obtain ⟨w1, w2, w3, w4, w5⟩ := hw
  have hR := hA.room
  subst hR
  exact vx_throw0 hA.x hA.b hA.tr hA.own w1 (by decide +kernel) (hA.ts _ w2) (hA.ts _ w3) (fun w h => fm_hfits hA (w4 w h)) w5 hA.e.1 hA.e.2.1 hS (hv.1.trans hA.ml.symm) (hA.dg d0) (hA.dg d3) (hA.dg d4) (hA.dg d7)
    (fun x hx => (hA.exc k rfl x hx).elim) (by show 2 + 3 < _; exact hF) (by show _ + (13 * (2 + 1) + 42) ≤ _; exact hL) (Nat.le_refl _) (Nat.le_refl _) hA.lock
    (fun t hvm hz hk => ⟨rfl, va_P.kept hP (fun j q hq => hk q.1 (hP j q hq).lt), Nat.le_trans hS.1 hz, fun q h1 h2 => (hk q (Nat.lt_of_lt_of_le h1 hS.1)).trans (hS.2.1 q h1 h2)⟩) hS.2.2 (Nat.le_refl _) (Nat.le_refl _)
end RULES3
end
section
/-! CALLS, and the rules over answers T of a pure function -/
def fm_cw (y : fm_Y) : Prop := Cond.code y.1 y.2.2.1 y.2.2.2.1 y.2.2.2.2.1 ∈ lw_all ∧ Cond.initialized y.1.cls ∈ lw_all ∧ y.1.cls ≠ "java/lang/invoke/MethodHandle" ∧ y.1.cls ≠ "java/lang/invoke/VarHandle"
def fm_cwV (y : fm_Y) : Prop := fm_cw y ∧ Cond.instanceMethod y.1 ∈ lw_all ∧ Cond.selects y.1.cls y.1 y.1 ∈ lw_all
def fm_cwS (y : fm_Y) : Prop := fm_cw y ∧ Cond.static y.1 ∈ lw_all
section RULES4
variable {g : fm_G} {l : Launch} {z y : fm_Y} {o : fm_O} {pc : Nat} {lv : List (Nat × Value)} {st rest As : List Value} {μ ν : fm_St}
theorem fm_blind (av : List Value) : FrameBlind (va_Pc av (fm_Pre g μ)) := by
  intro a U G mk q
  obtain ⟨q0, qP, qK, qE⟩ := q
  exact ⟨q0, qP, va_K.moved (u := U) (U := U.calling G mk a) (Vm.Alike.refl U.vm) qK, fm_E.warm (s := U) (U := U.calling G mk a) (State.WarmedH.refl U) qE⟩
theorem fm_pre {s U : State} {H : Heap} {locs : List Loc} (hP : fm_P g μ H) (hK : fm_K g s) (hE : fm_E g s s.heap) (hS : va_S (fm_A g) s.heap H locs) (hU : U.heap = H) (hW : s.WarmedH U.vm) : fm_Pre g μ U :=
  ⟨by rw [hU]; exact hP, va_K.moved hW.alike hK, fm_E.warm hW (hE.kept (fun a h1 h2 => by rw [hU]; exact hS.2.1 a h1 h2))⟩
theorem fm_gV {own : String} {idx : Nat} (hw : fm_cwV y) (hln : Cond.methodLink own idx y.1 ∈ lw_all) : GoodIn lw_all (wsV own idx y.1.cls y.1 (fm_wl y)) := by
  refine lw_goodIn (fun w h => ?_)
  unfold wsV fm_wl at h
  rcases List.mem_append.mp h with h | h
  · rcases List.mem_cons.mp h with h | h
    · rw [h]; exact hln
    · rcases List.mem_cons.mp h with h | h
      · rw [h]; exact hw.2.1
      · rcases List.mem_cons.mp h with h | h
        · rw [h]; exact hw.2.2
        · rcases List.mem_cons.mp h with h | h
          · rw [h]; exact hw.1.2.1
          · exact absurd h List.not_mem_nil
  · rcases List.mem_cons.mp h with h | h
    · rw [h]; exact hw.1.1
    · exact h
theorem fm_gS {own : String} {idx : Nat} (hw : fm_cwS y) (hln : Cond.methodLink own idx y.1 ∈ lw_all) : GoodIn lw_all (va_wsS own idx y.1 (fm_wl y)) := by
  refine lw_goodIn (fun w h => ?_)
  unfold va_wsS fm_wl at h
  rcases List.mem_append.mp h with h | h
  · rcases List.mem_cons.mp h with h | h
    · rw [h]; exact hln
    · rcases List.mem_cons.mp h with h | h
      · rw [h]; exact hw.2
      · rcases List.mem_cons.mp h with h | h
        · rw [h]; exact hw.1.2.1
        · exact absurd h List.not_mem_nil
  · rcases List.mem_cons.mp h with h | h
    · rw [h]; exact hw.1.1
    · exact h
theorem fm_gN (hw : fm_cw y) : GoodIn lw_all (fm_wl y) := by
  refine lw_goodIn (fun w h => ?_)
  rcases List.mem_cons.mp h with h | h
  · rw [h]; exact hw.1
  · exact h
/-- a call's end, from the kit's va_Run -/
theorem fm_done {p : Program} {e : Env} {R : Room} {s : State} {m : MethodId} {args : Array Value} {below : List Frame} {meth : Method} {c : Code} {H : Heap} {locs : List Loc} {ls : Array Slot} {v : Option Value} {a : Array Value} (hA : fm_At z g l o p R s m args meth c) (hS : va_S (fm_A g) s.heap H locs) (hv : lv_has ls z.2.2.2.1 lv)
    (hr : va_Run p l e R s m args below meth c H locs 0 0 0 0 (F0 m pc ls st) rest (fm_Qr g v ν a) (fm_A g)) (kk : Tr g l z o (pc + 3) lv (v.toList ++ rest) ν) : W p l e R s m args below meth c H locs 0 0 (fm_Q g below args s o.2 o.1) (F0 m pc ls st) := by
  intro T hT X
  obtain ⟨v', st₀, t, T', L, h0, X', hL, e1, e2, ⟨hv', hP', hz, hk⟩, sg⟩ := hr T hT X
  cases hv'
  rw [h0] at hz hk
  have hS' : va_S (fm_A g) s.heap T'.heap (locs ++ L) := ⟨Nat.le_trans hS.1 (by rw [e1]; exact hz), fun q h1 h2 => by rw [e1, hk q (Nat.lt_of_lt_of_le h1 hS.1) h2]; exact hS.2.1 q h1 h2, fun q hq => by
    rcases List.mem_append.mp hq with h | h
    · exact hS.2.2 q h
    · exact hL q h⟩
  obtain ⟨t2, a1, b1⟩ := kk p e R s m args below meth c T'.heap (locs ++ L) ls hA (by rw [e1]; exact hP') hS' hv T' rfl X'
  exact ⟨t2, sg t2 a1, b1⟩
theorem Tr.callV {b idx ci N : Nat} {T : u_T} {v : Option Value} (hC : fC g l y (.ref b :: As) μ (.inr v, ν)) (hkd : fm_kd g b = ci) (hci : ci < 8) (hc : vwCl[ci]? = some (y.1.cls, T, N)) (hl : fm_lk z.2.2.2.2.2.1 pc = some (.invokevirtual idx, 3)) (hw : fm_cwV y) (hln : Cond.methodLink z.2.1 idx y.1 ∈ lw_all)
    (hn : (parseMethodDescriptor y.1.desc).map (fun d => d.parameters.length) = some As.length) (hcat : (rest.map fun v => v.category).sum ≤ 8) (hF : y.2.2.2.2.2.2.1 + 1 ≤ z.2.2.2.2.2.2.1) (hLo : 8 + (y.2.2.2.1 + 11) + y.2.2.2.2.2.2.2 ≤ z.2.2.2.2.2.2.2) (hst : st = As.reverse ++ .ref b :: rest)
    (kk : Tr g l z o (pc + 3) lv (v.toList ++ rest) ν) : Tr g l z o pc lv st μ := by
  intro p e R s m args below meth c H locs ls hA hP hS hv
  have hR := hA.room
  have hcw : CallW R s args z.2.1 y.1.cls idx y.1 y.2.2.1 y.2.2.2.1 y.2.2.2.2.1 (fm_wl y) (fm_R y (.inr v, ν)) 0 0 As.length := by
    subst hR
    exact cwV As.length hA.ts (fm_gV hw hln) rfl rfl rfl ⟨rfl, hw.1.2.2.1, hw.1.2.2.2, hn⟩ ⟨hF, hLo⟩
  refine fm_done hA hS hv (va_runV ⟨hA.x, hA.b, hA.ml, hA.own, hA.ts⟩ hC hcw ⟨fm_blind _, va_recv hA.k hP hc (by rw [fm_ws_at (fm_fld9 hkd hci), fm_cell_obj hkd hci]), fun U hU hW => ⟨rfl, fm_pre hP hA.k hA.e hS hU hW⟩⟩ rfl rfl hv.1 hst (lv_room hcat) (hA.dg hl) ⟨Nat.zero_le _, Nat.zero_le _⟩) kk
theorem Tr.callS {idx : Nat} {v : Option Value} (hC : fC g l y As μ (.inr v, ν)) (hl : fm_lk z.2.2.2.2.2.1 pc = some (.invokestatic idx, 3)) (hw : fm_cwS y) (hln : Cond.methodLink z.2.1 idx y.1 ∈ lw_all)
    (hn : (parseMethodDescriptor y.1.desc).map (fun d => d.parameters.length) = some As.length) (hcat : (rest.map fun v => v.category).sum ≤ 8) (hF : y.2.2.2.2.2.2.1 + 1 ≤ z.2.2.2.2.2.2.1) (hLo : 8 + (y.2.2.2.1 + 11) + y.2.2.2.2.2.2.2 ≤ z.2.2.2.2.2.2.2) (hst : st = As.reverse ++ rest)
    (kk : Tr g l z o (pc + 3) lv (v.toList ++ rest) ν) : Tr g l z o pc lv st μ := by
  intro p e R s m args below meth c H locs ls hA hP hS hv
  have hR := hA.room
  have hcw : CallB R s args z.2.1 idx y.1 y.2.2.1 y.2.2.2.1 y.2.2.2.2.1 (fm_wl y) (fm_R y (.inr v, ν)) 0 0 As.length ∧ (Cond.static y.1).before args s = true := by
    subst hR
    exact va_cwS As.length hA.ts (fm_gS hw hln) rfl rfl rfl ⟨hw.1.2.2.1, hw.1.2.2.2, hn⟩ ⟨hF, hLo⟩
  refine fm_done hA hS hv (va_runS ⟨hA.x, hA.b, hA.ml, hA.own, hA.ts⟩ hC hcw ⟨fm_blind _, fun U hU hW => ⟨rfl, fm_pre hP hA.k hA.e hS hU hW⟩⟩ rfl rfl hv.1 hst (lv_room hcat) (hA.dg hl) ⟨Nat.zero_le _, Nat.zero_le _⟩) kk
theorem Tr.callN {idx : Nat} {v : Option Value} {host : String} (hC : fC g l y As μ (.inr v, ν)) (hl : fm_lk z.2.2.2.2.2.1 pc = some (.invokestatic idx, 3)) (hw : fm_cwS y) (hln : Cond.methodLinkNest z.2.1 idx y.1 host ∈ lw_tbl)
    (hn : (parseMethodDescriptor y.1.desc).map (fun d => d.parameters.length) = some As.length) (hcat : (rest.map fun v => v.category).sum ≤ 8) (hF : y.2.2.2.2.2.2.1 + 1 ≤ z.2.2.2.2.2.2.1) (hLo : 8 + (y.2.2.2.1 + 11) + y.2.2.2.2.2.2.2 ≤ z.2.2.2.2.2.2.2) (hst : st = As.reverse ++ rest)
    (kk : Tr g l z o (pc + 3) lv (v.toList ++ rest) ν) : Tr g l z o pc lv st μ := by
  intro p e R s m args below meth c H locs ls hA hP hS hv
  have hR := hA.room
  have hcw : va_CN R s args z.2.1 idx y.1 host y.2.2.1 y.2.2.2.1 y.2.2.2.2.1 (fm_wl y) (fm_R y (.inr v, ν)) 0 0 As.length ∧ (Cond.static y.1).before args s = true ∧ True := by
    subst hR
    exact ⟨va_cnB As.length hA.ts (fm_gN hw.1) rfl rfl rfl (hA.e.2.2.2.2.2.2 _ hln rfl) (hA.ts _ hw.1.2.1) ⟨hw.1.2.2.1, hw.1.2.2.2, hn⟩ ⟨hF, hLo⟩, hA.ts _ hw.2, trivial⟩
  refine fm_done hA hS hv (va_runSN ⟨hA.x, hA.b, hA.ml, hA.own, hA.ts⟩ hC hcw ⟨fm_blind _, fun U hU hW => ⟨rfl, fm_pre hP hA.k hA.e hS hU hW⟩⟩ rfl rfl hv.1 hst (lv_room hcat) (hA.dg hl) ⟨Nat.zero_le _, Nat.zero_le _⟩) kk
/-- a callee throws, and nothing here catches it -/
theorem Tr.callX {b idx ci N k : Nat} {T : u_T} (hC : fC g l y (.ref b :: As) μ (.inl k, ν)) (hkd : fm_kd g b = ci) (hci : ci < 8) (hc : vwCl[ci]? = some (y.1.cls, T, N)) (hl : fm_lk z.2.2.2.2.2.1 pc = some (.invokevirtual idx, 3)) (hw : fm_cwV y) (hln : Cond.methodLink z.2.1 idx y.1 ∈ lw_all)
    (hn : (parseMethodDescriptor y.1.desc).map (fun d => d.parameters.length) = some As.length) (hcat : (rest.map fun v => v.category).sum ≤ 8) (hF : y.2.2.2.2.2.2.1 + 1 ≤ z.2.2.2.2.2.2.1) (hLo : 8 + (y.2.2.2.1 + 11) + y.2.2.2.2.2.2.2 ≤ z.2.2.2.2.2.2.2) (hst : st = As.reverse ++ .ref b :: rest) : Tr g l z (.inl k, ν) pc lv st μ := by
  intro p e R s m args below meth c H locs ls hA hP hS hv
  have hR := hA.room
  have hcw : CallW R s args z.2.1 y.1.cls idx y.1 y.2.2.1 y.2.2.2.1 y.2.2.2.2.1 (fm_wl y) (fm_R y (.inl k, ν)) 1 6 As.length := by
    subst hR
    exact cwV As.length hA.ts (fm_gV hw hln) rfl rfl rfl ⟨rfl, hw.1.2.2.1, hw.1.2.2.2, hn⟩ ⟨hF, hLo⟩
  have hfit : 0 + 1 ≤ R.cells ∧ 0 + 6 ≤ R.slots := by subst hR; exact ⟨Nat.le_refl _, Nat.le_refl _⟩
  have hr := vx_runV (e := e) (below := below) (meth := meth) (locs := locs) (cells := 0) (slots := 0) (g := F0 m pc ls st) (rest := rest) ⟨hA.x, hA.b, hA.ml, hA.own, hA.ts⟩ hC hcw ⟨fm_blind _, va_recv hA.k hP hc (by rw [fm_ws_at (fm_fld9 hkd hci), fm_cell_obj hkd hci]), fun U hU hW => ⟨rfl, fm_pre hP hA.k hA.e hS hU hW⟩⟩ rfl rfl hv.1 hst (lv_room hcat) (hA.dg hl) hfit
  intro X0 hT X
  rcases hr X0 hT X with ⟨v, st₀, t, T', L, h0, X', hL, e1, e2, hq, sg⟩ | ⟨q, st₀, t, T', L, E, ce, h0, X', hL, e1, e2, ⟨hE, hP', hz, hk⟩, hce, hcv, hcl, sg⟩
  · exact hq.elim
  · rw [h0] at hz hk
    have hS' : va_S (fm_A g) s.heap T'.heap (locs ++ L) := ⟨Nat.le_trans hS.1 (by rw [e1]; exact hz), fun q h1 h2 => by rw [e1, hk q (Nat.lt_of_lt_of_le h1 hS.1) h2]; exact hS.2.1 q h1 h2, fun q hq => by
      rcases List.mem_append.mp hq with h | h
      · exact hS.2.2 q h
      · exact hL q h⟩
    have ho : vx_W p l e R s m args below meth c T'.heap (locs ++ L) (0 + 1) (0 + 6) (vx_MQ below fm_No (fm_Qx g k ν) args s 1 6 (fm_A g)) (F0 m pc ls rest) q :=
      vx_out (E := E) (ce := ce) (fun x hx => (hA.exc k rfl x hx).elim) hA.lock (by rw [e1]; exact hce) hcv hcl (fun t1 ht1 _ => ⟨hE, by rw [ht1, e1]; exact hP', hS'.F ht1⟩) hS'.2.2 (Nat.le_refl _) (Nat.le_refl _)
    obtain ⟨t2, a1, b1⟩ := ho T' rfl X'
    exact ⟨t2, sg.trans a1, b1⟩
end RULES4
section TT
variable {ρ τ : Type} {g : fm_G} {l : Launch} {z y : fm_Y} {em : ρ → fm_O} {T T1 T2 : Option ρ} {pc pc' : Nat} {lv lv' : List (Nat × Value)} {st st' rest As : List Value} {μ μ' : fm_St}
theorem Tt.go (h : ∀ o, Tr g l z o pc' lv' st' μ' → Tr g l z o pc lv st μ) (k : Tt g l z em T pc' lv' st' μ') : Tt g l z em T pc lv st μ := fun r hr => h _ (k r hr)
theorem Tt.ret {r : ρ} (h : Tr g l z (em r) pc lv st μ) : Tt g l z em (some r) pc lv st μ := fun r' hr => by cases hr; exact h
theorem Tt.ck {b : Bool} (h : b = true → Tt g l z em T pc lv st μ) : Tt g l z em (fm_ck b T) pc lv st μ := fun r hr => h (fm_ck_eq hr).1 r (fm_ck_eq hr).2
theorem Tt.ite {c : Prop} [Decidable c] (h1 : c → Tt g l z em T1 pc lv st μ) (h2 : ¬ c → Tt g l z em T2 pc lv st μ) : Tt g l z em (if c then T1 else T2) pc lv st μ := by
  intro r hr
  by_cases h : c
  · rw [if_pos h] at hr; exact h1 h r hr
  · rw [if_neg h] at hr; exact h2 h r hr
theorem Tt.none : Tt g l z em (none : Option ρ) pc lv st μ := fun r hr => nomatch hr
end TT
/-! what a pure function answers: fm_em returns, fm_ex throws or returns -/
def fm_em {τ : Type} (vl : τ → Option Value) (mm : τ → fm_St) : τ → fm_O := fun x => (.inr (vl x), mm x)
def fm_ex {τ : Type} (μ : fm_St) (vl : τ → Option Value) (mm : τ → fm_St) : Nat ⊕ τ → fm_O
  | .inl k => (.inl k, μ)
  | .inr x => (.inr (vl x), mm x)
def fm_bx {τ ρ : Type} (f : Option (Nat ⊕ τ)) (k : τ → Option (Nat ⊕ ρ)) : Option (Nat ⊕ ρ) := match f with
  | none => none
  | some (.inl e) => some (.inl e)
  | some (.inr x) => k x
def fm_fuel : Nat := 5000
section TT2
variable {ρ τ : Type} {g : fm_G} {l : Launch} {z y : fm_Y} {em : ρ → fm_O} {pc : Nat} {lv : List (Nat × Value)} {st rest As : List Value} {μ : fm_St} {f : Option τ} {k : τ → Option ρ} {vl : τ → Option Value} {mm : τ → fm_St}
theorem Tt.callV {b idx ci N : Nat} {T : u_T} (hC : ∀ r, f = some r → fC g l y (.ref b :: As) μ (fm_em vl mm r)) (hkd : fm_kd g b = ci) (hci : ci < 8) (hc : vwCl[ci]? = some (y.1.cls, T, N)) (hl : fm_lk z.2.2.2.2.2.1 pc = some (.invokevirtual idx, 3)) (hw : fm_cwV y) (hln : Cond.methodLink z.2.1 idx y.1 ∈ lw_all)
    (hn : (parseMethodDescriptor y.1.desc).map (fun d => d.parameters.length) = some As.length) (hcat : (rest.map fun v => v.category).sum ≤ 8) (hF : y.2.2.2.2.2.2.1 + 1 ≤ z.2.2.2.2.2.2.1) (hLo : 8 + (y.2.2.2.1 + 11) + y.2.2.2.2.2.2.2 ≤ z.2.2.2.2.2.2.2) (hst : st = As.reverse ++ .ref b :: rest)
    (kk : ∀ r, Tt g l z em (k r) (pc + 3) lv ((vl r).toList ++ rest) (mm r)) : Tt g l z em (f.bind k) pc lv st μ := by
  intro r hr
  cases hf : f with
  | none => rw [hf] at hr; cases hr
  | some x => rw [hf] at hr; exact Tr.callV (hC x hf) hkd hci hc hl hw hln hn hcat hF hLo hst (kk x r hr)
theorem Tt.callS {idx : Nat} (hC : ∀ r, f = some r → fC g l y As μ (fm_em vl mm r)) (hl : fm_lk z.2.2.2.2.2.1 pc = some (.invokestatic idx, 3)) (hw : fm_cwS y) (hln : Cond.methodLink z.2.1 idx y.1 ∈ lw_all)
    (hn : (parseMethodDescriptor y.1.desc).map (fun d => d.parameters.length) = some As.length) (hcat : (rest.map fun v => v.category).sum ≤ 8) (hF : y.2.2.2.2.2.2.1 + 1 ≤ z.2.2.2.2.2.2.1) (hLo : 8 + (y.2.2.2.1 + 11) + y.2.2.2.2.2.2.2 ≤ z.2.2.2.2.2.2.2) (hst : st = As.reverse ++ rest)
    (kk : ∀ r, Tt g l z em (k r) (pc + 3) lv ((vl r).toList ++ rest) (mm r)) : Tt g l z em (f.bind k) pc lv st μ := by
  intro r hr
  cases hf : f with
  | none => rw [hf] at hr; cases hr
  | some x => rw [hf] at hr; exact Tr.callS (hC x hf) hl hw hln hn hcat hF hLo hst (kk x r hr)
theorem Tt.callN {idx : Nat} {host : String} (hC : ∀ r, f = some r → fC g l y As μ (fm_em vl mm r)) (hl : fm_lk z.2.2.2.2.2.1 pc = some (.invokestatic idx, 3)) (hw : fm_cwS y) (hln : Cond.methodLinkNest z.2.1 idx y.1 host ∈ lw_tbl)
    (hn : (parseMethodDescriptor y.1.desc).map (fun d => d.parameters.length) = some As.length) (hcat : (rest.map fun v => v.category).sum ≤ 8) (hF : y.2.2.2.2.2.2.1 + 1 ≤ z.2.2.2.2.2.2.1) (hLo : 8 + (y.2.2.2.1 + 11) + y.2.2.2.2.2.2.2 ≤ z.2.2.2.2.2.2.2) (hst : st = As.reverse ++ rest)
    (kk : ∀ r, Tt g l z em (k r) (pc + 3) lv ((vl r).toList ++ rest) (mm r)) : Tt g l z em (f.bind k) pc lv st μ := by
  intro r hr
  cases hf : f with
  | none => rw [hf] at hr; cases hr
  | some x => rw [hf] at hr; exact Tr.callN (hC x hf) hl hw hln hn hcat hF hLo hst (kk x r hr)
end TT2
section TT3
variable {ρ τ : Type} {g : fm_G} {l : Launch} {z y : fm_Y} {pc : Nat} {lv : List (Nat × Value)} {st rest As : List Value} {μ : fm_St} {f : Option (Nat ⊕ τ)} {k : τ → Option (Nat ⊕ ρ)} {vl : τ → Option Value} {mm : τ → fm_St} {vl' : ρ → Option Value} {mm' : ρ → fm_St}
theorem Tt.callX {b idx ci N : Nat} {T : u_T} (hC : ∀ r, f = some r → fC g l y (.ref b :: As) μ (fm_ex μ vl mm r)) (hkd : fm_kd g b = ci) (hci : ci < 8) (hc : vwCl[ci]? = some (y.1.cls, T, N)) (hl : fm_lk z.2.2.2.2.2.1 pc = some (.invokevirtual idx, 3)) (hw : fm_cwV y) (hln : Cond.methodLink z.2.1 idx y.1 ∈ lw_all)
    (hn : (parseMethodDescriptor y.1.desc).map (fun d => d.parameters.length) = some As.length) (hcat : (rest.map fun v => v.category).sum ≤ 8) (hF : y.2.2.2.2.2.2.1 + 1 ≤ z.2.2.2.2.2.2.1) (hLo : 8 + (y.2.2.2.1 + 11) + y.2.2.2.2.2.2.2 ≤ z.2.2.2.2.2.2.2) (hst : st = As.reverse ++ .ref b :: rest)
    (kk : ∀ r, Tt g l z (fm_ex μ vl' mm') (k r) (pc + 3) lv ((vl r).toList ++ rest) (mm r)) : Tt g l z (fm_ex μ vl' mm') (fm_bx f k) pc lv st μ := by
  intro r hr
  cases hf : f with
  | none => rw [hf] at hr; cases hr
  | some x =>
    rw [hf] at hr
    cases x with
    | inl e =>
      cases hr
      exact Tr.callX (k := e) (hC _ hf) hkd hci hc hl hw hln hn hcat hF hLo hst
    | inr x => exact Tr.callV (hC _ hf) hkd hci hc hl hw hln hn hcat hF hLo hst (kk x r hr)
end TT3
section BR
variable {ρ : Type} {g : fm_G} {l : Launch} {z : fm_Y} {em : ρ → fm_O} {T1 T2 : Option ρ} {pc : Nat} {lv : List (Nat × Value)} {st rest : List Value} {μ : fm_St}
theorem Tt.if_eq {x : Int32} {off : Int} {tgt : Nat} (hl : fm_lk z.2.2.2.2.2.1 pc = some (.ifCond .eq off, 3)) (ht : (pc : Int) + off = (tgt : Int)) (k1 : Tt g l z em T1 tgt lv rest μ) (k2 : Tt g l z em T2 (pc + 3) lv rest μ) : Tt g l z em (if x = 0 then T1 else T2) pc lv (.int x :: rest) μ := fun r hr => Tr.if_eq hl ht (fun q => k1 r (by rw [if_pos q] at hr; exact hr)) (fun q => k2 r (by rw [if_neg q] at hr; exact hr))
theorem Tt.if_ne {x : Int32} {off : Int} {tgt : Nat} (hl : fm_lk z.2.2.2.2.2.1 pc = some (.ifCond .ne off, 3)) (ht : (pc : Int) + off = (tgt : Int)) (k1 : Tt g l z em T1 (pc + 3) lv rest μ) (k2 : Tt g l z em T2 tgt lv rest μ) : Tt g l z em (if x = 0 then T1 else T2) pc lv (.int x :: rest) μ := fun r hr => Tr.if_ne hl ht (fun q => k2 r (by rw [if_neg q] at hr; exact hr)) (fun q => k1 r (by rw [if_pos q] at hr; exact hr))
theorem Tt.if_lt {x : Int32} {off : Int} {tgt : Nat} (hl : fm_lk z.2.2.2.2.2.1 pc = some (.ifCond .lt off, 3)) (ht : (pc : Int) + off = (tgt : Int)) (k1 : Tt g l z em T1 tgt lv rest μ) (k2 : Tt g l z em T2 (pc + 3) lv rest μ) : Tt g l z em (if x < 0 then T1 else T2) pc lv (.int x :: rest) μ := fun r hr => Tr.if_lt hl ht (fun q => k1 r (by rw [if_pos q] at hr; exact hr)) (fun q => k2 r (by rw [if_neg q] at hr; exact hr))
theorem Tt.if_ge {x : Int32} {off : Int} {tgt : Nat} (hl : fm_lk z.2.2.2.2.2.1 pc = some (.ifCond .ge off, 3)) (ht : (pc : Int) + off = (tgt : Int)) (k1 : Tt g l z em T1 tgt lv rest μ) (k2 : Tt g l z em T2 (pc + 3) lv rest μ) : Tt g l z em (if 0 ≤ x then T1 else T2) pc lv (.int x :: rest) μ := fun r hr => Tr.if_ge hl ht (fun q => k1 r (by rw [if_pos q] at hr; exact hr)) (fun q => k2 r (by rw [if_neg q] at hr; exact hr))
theorem Tt.if_gt {x : Int32} {off : Int} {tgt : Nat} (hl : fm_lk z.2.2.2.2.2.1 pc = some (.ifCond .gt off, 3)) (ht : (pc : Int) + off = (tgt : Int)) (k1 : Tt g l z em T1 tgt lv rest μ) (k2 : Tt g l z em T2 (pc + 3) lv rest μ) : Tt g l z em (if 0 < x then T1 else T2) pc lv (.int x :: rest) μ := fun r hr => Tr.if_gt hl ht (fun q => k1 r (by rw [if_pos q] at hr; exact hr)) (fun q => k2 r (by rw [if_neg q] at hr; exact hr))
theorem Tt.if_le {x : Int32} {off : Int} {tgt : Nat} (hl : fm_lk z.2.2.2.2.2.1 pc = some (.ifCond .le off, 3)) (ht : (pc : Int) + off = (tgt : Int)) (k1 : Tt g l z em T1 tgt lv rest μ) (k2 : Tt g l z em T2 (pc + 3) lv rest μ) : Tt g l z em (if x ≤ 0 then T1 else T2) pc lv (.int x :: rest) μ := fun r hr => Tr.if_le hl ht (fun q => k1 r (by rw [if_pos q] at hr; exact hr)) (fun q => k2 r (by rw [if_neg q] at hr; exact hr))
theorem Tt.ic_eq {x y : Int32} {off : Int} {tgt : Nat} (hl : fm_lk z.2.2.2.2.2.1 pc = some (.if_icmp .eq off, 3)) (ht : (pc : Int) + off = (tgt : Int)) (k1 : Tt g l z em T1 tgt lv rest μ) (k2 : Tt g l z em T2 (pc + 3) lv rest μ) : Tt g l z em (if x = y then T1 else T2) pc lv (.int y :: .int x :: rest) μ := fun r hr => Tr.ic_eq hl ht (fun q => k1 r (by rw [if_pos q] at hr; exact hr)) (fun q => k2 r (by rw [if_neg q] at hr; exact hr))
theorem Tt.ic_ne {x y : Int32} {off : Int} {tgt : Nat} (hl : fm_lk z.2.2.2.2.2.1 pc = some (.if_icmp .ne off, 3)) (ht : (pc : Int) + off = (tgt : Int)) (k1 : Tt g l z em T1 (pc + 3) lv rest μ) (k2 : Tt g l z em T2 tgt lv rest μ) : Tt g l z em (if x = y then T1 else T2) pc lv (.int y :: .int x :: rest) μ := fun r hr => Tr.ic_ne hl ht (fun q => k2 r (by rw [if_neg q] at hr; exact hr)) (fun q => k1 r (by rw [if_pos q] at hr; exact hr))
theorem Tt.ic_lt {x y : Int32} {off : Int} {tgt : Nat} (hl : fm_lk z.2.2.2.2.2.1 pc = some (.if_icmp .lt off, 3)) (ht : (pc : Int) + off = (tgt : Int)) (k1 : Tt g l z em T1 tgt lv rest μ) (k2 : Tt g l z em T2 (pc + 3) lv rest μ) : Tt g l z em (if x < y then T1 else T2) pc lv (.int y :: .int x :: rest) μ := fun r hr => Tr.ic_lt hl ht (fun q => k1 r (by rw [if_pos q] at hr; exact hr)) (fun q => k2 r (by rw [if_neg q] at hr; exact hr))
theorem Tt.ic_ge {x y : Int32} {off : Int} {tgt : Nat} (hl : fm_lk z.2.2.2.2.2.1 pc = some (.if_icmp .ge off, 3)) (ht : (pc : Int) + off = (tgt : Int)) (k1 : Tt g l z em T1 tgt lv rest μ) (k2 : Tt g l z em T2 (pc + 3) lv rest μ) : Tt g l z em (if y ≤ x then T1 else T2) pc lv (.int y :: .int x :: rest) μ := fun r hr => Tr.ic_ge hl ht (fun q => k1 r (by rw [if_pos q] at hr; exact hr)) (fun q => k2 r (by rw [if_neg q] at hr; exact hr))
theorem Tt.ic_gt {x y : Int32} {off : Int} {tgt : Nat} (hl : fm_lk z.2.2.2.2.2.1 pc = some (.if_icmp .gt off, 3)) (ht : (pc : Int) + off = (tgt : Int)) (k1 : Tt g l z em T1 tgt lv rest μ) (k2 : Tt g l z em T2 (pc + 3) lv rest μ) : Tt g l z em (if y < x then T1 else T2) pc lv (.int y :: .int x :: rest) μ := fun r hr => Tr.ic_gt hl ht (fun q => k1 r (by rw [if_pos q] at hr; exact hr)) (fun q => k2 r (by rw [if_neg q] at hr; exact hr))
theorem Tt.ic_le {x y : Int32} {off : Int} {tgt : Nat} (hl : fm_lk z.2.2.2.2.2.1 pc = some (.if_icmp .le off, 3)) (ht : (pc : Int) + off = (tgt : Int)) (k1 : Tt g l z em T1 tgt lv rest μ) (k2 : Tt g l z em T2 (pc + 3) lv rest μ) : Tt g l z em (if x ≤ y then T1 else T2) pc lv (.int y :: .int x :: rest) μ := fun r hr => Tr.ic_le hl ht (fun q => k1 r (by rw [if_pos q] at hr; exact hr)) (fun q => k2 r (by rw [if_neg q] at hr; exact hr))
end BR
end
section
/-! PRIMITIVES: Math over ints and longs, arraycopy, the cells below a cell, switches -/
theorem fm_kd_sub (c d k : Nat) (h : (List.range 179).all (fun i => !(Nat.beq (fm_tab.getD i 9999) c) || Nat.beq (fm_tab.getD (i + d) 9999) k) = true) (hc : c < 9000) {g : fm_G} {a : Nat} (hk : fm_kd g a = c) : fm_kd g (a + d) = k := by
  obtain ⟨h1, h2⟩ := fm_kd_in (g := g) (a := a) (by omega)
  have h3 := List.all_eq_true.mp h (a - g.1) (List.mem_range.mpr h2)
  unfold fm_kd at hk ⊢
  rw [if_pos h1] at hk
  rw [if_pos (Nat.le_trans h1 (Nat.le_add_right a d)), show a + d - g.1 = a - g.1 + d by omega]
  rw [hk, Nat.beq_refl, Bool.not_true, Bool.false_or] at h3
  exact Nat.eq_of_beq_eq_true h3
theorem fmk_0_0 {g : fm_G} {a : Nat} (h : fm_kd g a = 0) : fm_kd g (a + 1) = 4 := fm_kd_sub 0 1 4 (by decide +kernel) (by decide) h
theorem fmn_0_0 {g : fm_G} {a : Nat} (h : fm_kd g a = 0) : fm_kd g (a + 1 + 1) = 100 + 20 := by have q := fm_kd_sub 0 2 120 (by decide +kernel) (by decide) h; exact q
theorem fmk_0_1 {g : fm_G} {a : Nat} (h : fm_kd g a = 0) : fm_kd g (a + 3) = 4 := fm_kd_sub 0 3 4 (by decide +kernel) (by decide) h
theorem fmn_0_1 {g : fm_G} {a : Nat} (h : fm_kd g a = 0) : fm_kd g (a + 3 + 1) = 100 + 20 := by have q := fm_kd_sub 0 4 120 (by decide +kernel) (by decide) h; exact q
theorem fmk_1_0 {g : fm_G} {a : Nat} (h : fm_kd g a = 1) : fm_kd g (a + 1) = 4 := fm_kd_sub 1 1 4 (by decide +kernel) (by decide) h
theorem fmn_1_0 {g : fm_G} {a : Nat} (h : fm_kd g a = 1) : fm_kd g (a + 1 + 1) = 100 + 35 := by have q := fm_kd_sub 1 2 135 (by decide +kernel) (by decide) h; exact q
theorem fmk_1_1 {g : fm_G} {a : Nat} (h : fm_kd g a = 1) : fm_kd g (a + 3) = 4 := fm_kd_sub 1 3 4 (by decide +kernel) (by decide) h
theorem fmn_1_1 {g : fm_G} {a : Nat} (h : fm_kd g a = 1) : fm_kd g (a + 3 + 1) = 100 + 400 := by have q := fm_kd_sub 1 4 500 (by decide +kernel) (by decide) h; exact q
theorem fmk_2_0 {g : fm_G} {a : Nat} (h : fm_kd g a = 2) : fm_kd g (a + 1) = 3 := fm_kd_sub 2 1 3 (by decide +kernel) (by decide) h
theorem fmk_2_1 {g : fm_G} {a : Nat} (h : fm_kd g a = 2) : fm_kd g (a + 6) = 1 := fm_kd_sub 2 6 1 (by decide +kernel) (by decide) h
theorem fmk_2_2 {g : fm_G} {a : Nat} (h : fm_kd g a = 2) : fm_kd g (a + 11) = 1 := fm_kd_sub 2 11 1 (by decide +kernel) (by decide) h
theorem fmk_3_0 {g : fm_G} {a : Nat} (h : fm_kd g a = 3) : fm_kd g (a + 1) = 4 := fm_kd_sub 3 1 4 (by decide +kernel) (by decide) h
theorem fmn_3_0 {g : fm_G} {a : Nat} (h : fm_kd g a = 3) : fm_kd g (a + 1 + 1) = 100 + 20 := by have q := fm_kd_sub 3 2 120 (by decide +kernel) (by decide) h; exact q
theorem fmk_3_1 {g : fm_G} {a : Nat} (h : fm_kd g a = 3) : fm_kd g (a + 3) = 4 := fm_kd_sub 3 3 4 (by decide +kernel) (by decide) h
theorem fmn_3_1 {g : fm_G} {a : Nat} (h : fm_kd g a = 3) : fm_kd g (a + 3 + 1) = 100 + 20 := by have q := fm_kd_sub 3 4 120 (by decide +kernel) (by decide) h; exact q
theorem fmk_5_0 {g : fm_G} {a : Nat} (h : fm_kd g a = 5) : fm_kd g (a + 1) = 4 := fm_kd_sub 5 1 4 (by decide +kernel) (by decide) h
theorem fmn_5_0 {g : fm_G} {a : Nat} (h : fm_kd g a = 5) : fm_kd g (a + 1 + 1) = 100 + 400 := by have q := fm_kd_sub 5 2 500 (by decide +kernel) (by decide) h; exact q
theorem fmk_5_1 {g : fm_G} {a : Nat} (h : fm_kd g a = 5) : fm_kd g (a + 3) = 2 := fm_kd_sub 5 3 2 (by decide +kernel) (by decide) h
theorem fmk_6_0 {g : fm_G} {a : Nat} (h : fm_kd g a = 6) : fm_kd g (a + 1) = 5 := fm_kd_sub 6 1 5 (by decide +kernel) (by decide) h
theorem fmk_6_1 {g : fm_G} {a : Nat} (h : fm_kd g a = 6) : fm_kd g (a + 20) = 2 := fm_kd_sub 6 20 2 (by decide +kernel) (by decide) h
theorem fmk_6_2 {g : fm_G} {a : Nat} (h : fm_kd g a = 6) : fm_kd g (a + 36) = 0 := fm_kd_sub 6 36 0 (by decide +kernel) (by decide) h
theorem fmk_6_3 {g : fm_G} {a : Nat} (h : fm_kd g a = 6) : fm_kd g (a + 41) = 8 := fm_kd_sub 6 41 8 (by decide +kernel) (by decide) h
theorem fmk_7_1 {g : fm_G} {a : Nat} (h : fm_kd g a = 7) : fm_kd g (a + 1) = 100 + 1800 := fm_kd_sub 7 1 1900 (by decide +kernel) (by decide) h
theorem fmk_7_2 {g : fm_G} {a : Nat} (h : fm_kd g a = 7) : fm_kd g (a + 2) = 100 + 200 := fm_kd_sub 7 2 300 (by decide +kernel) (by decide) h
theorem fmk_7_5 {g : fm_G} {a : Nat} (h : fm_kd g a = 7) : fm_kd g (a + 3) = 100 + 120 := fm_kd_sub 7 3 220 (by decide +kernel) (by decide) h
theorem fmk_7_6 {g : fm_G} {a : Nat} (h : fm_kd g a = 7) : fm_kd g (a + 4) = 100 + 120 := fm_kd_sub 7 4 220 (by decide +kernel) (by decide) h
theorem fmk_7_7 {g : fm_G} {a : Nat} (h : fm_kd g a = 7) : fm_kd g (a + 5) = 100 + 40 := fm_kd_sub 7 5 140 (by decide +kernel) (by decide) h
theorem fmk_7_10 {g : fm_G} {a : Nat} (h : fm_kd g a = 7) : fm_kd g (a + 6) = 100 + 400 := fm_kd_sub 7 6 500 (by decide +kernel) (by decide) h
theorem fmk_8 {g : fm_G} {a j : Nat} (h : fm_kd g a = 8) (hj : j < 8) : fm_kd g (a + 1 + 16 * j) = 2 := by
  rw [Nat.add_assoc]
  have hd : ∀ j, j < 8 → (List.range 179).all (fun i => !(Nat.beq (fm_tab.getD i 9999) 8) || Nat.beq (fm_tab.getD (i + (1 + 16 * j)) 9999) 2) = true := by decide +kernel
  exact fm_kd_sub 8 (1 + 16 * j) 2 (hd j hj) (by decide) h
theorem fm_in8 {i : Int32} (h : fm_in i 8 = true) : i.toNatClampNeg < 8 := by
  unfold fm_in at h
  rw [Bool.and_eq_true, decide_eq_true_eq] at h
  exact h.2
def fm_max (x y : Int32) : Int32 := if x < y then y else x
def fm_min (x y : Int32) : Int32 := if y < x then y else x
def fm_abs (x : Int32) : Int32 := if 0 ≤ x then x else 0 - x
def fm_absL (x : Int64) : Int64 := if 0 < x then x else -x
def fm_mth (own : String) (idx : Nat) (y : MethodName) (c : ByteArray) (n : Nat) (r : FieldType) : Prop := Cond.methodLink own idx y ∈ lw_all ∧ Cond.static y ∈ lw_all ∧ Cond.initialized "java/lang/Math" ∈ lw_all ∧ Cond.code y c n (some r) ∈ lw_all
section RULES5
variable {g : fm_G} {l : Launch} {z : fm_Y} {o : fm_O} {pc : Nat} {lv : List (Nat × Value)} {st rest : List Value} {μ : fm_St}
theorem Tr.max {x y : Int32} {idx : Nat} (hl : fm_lk z.2.2.2.2.2.1 pc = some (.invokestatic idx, 3)) (hw : fm_mth z.2.1 idx Lib.Math.max.name Lib.Math.max.code 2 .int) (hF : 1 ≤ z.2.2.2.2.2.2.1) (hLo : (rest.map fun v => v.category).sum + 13 ≤ z.2.2.2.2.2.2.2) (kk : Tr g l z o (pc + 3) lv (.int (fm_max x y) :: rest) μ) : Tr g l z o pc lv (.int y :: .int x :: rest) μ := by
  intro p e R s m args below meth c H locs ls hA hP hS hv
  have hR := hA.room
  subst hR
  exact va_mmax hA.x hA.b (hA.ml.trans hv.1.symm) hA.own (hA.ts _ hw.1) (hA.ts _ hw.2.1) (hA.ts _ hw.2.2.1) (hA.ts _ hw.2.2.2) hF hLo (Nat.zero_le _) (Nat.zero_le _) (hA.dg hl) (kk p e _ s m args below meth c H locs ls hA hP hS hv)
theorem Tr.min {x y : Int32} {idx : Nat} (hl : fm_lk z.2.2.2.2.2.1 pc = some (.invokestatic idx, 3)) (hw : fm_mth z.2.1 idx Lib.Math.min.name Lib.Math.min.code 2 .int) (hF : 1 ≤ z.2.2.2.2.2.2.1) (hLo : (rest.map fun v => v.category).sum + 13 ≤ z.2.2.2.2.2.2.2) (kk : Tr g l z o (pc + 3) lv (.int (fm_min x y) :: rest) μ) : Tr g l z o pc lv (.int y :: .int x :: rest) μ := by
  intro p e R s m args below meth c H locs ls hA hP hS hv
  have hR := hA.room
  subst hR
  exact va_mmin hA.x hA.b (hA.ml.trans hv.1.symm) hA.own (hA.ts _ hw.1) (hA.ts _ hw.2.1) (hA.ts _ hw.2.2.1) (hA.ts _ hw.2.2.2) hF hLo (Nat.zero_le _) (Nat.zero_le _) (hA.dg hl) (kk p e _ s m args below meth c H locs ls hA hP hS hv)
theorem Tr.abs {x : Int32} {idx : Nat} (hl : fm_lk z.2.2.2.2.2.1 pc = some (.invokestatic idx, 3)) (hw : fm_mth z.2.1 idx Lib.Math.abs.name Lib.Math.abs.code 1 .int) (hF : 1 ≤ z.2.2.2.2.2.2.1) (hLo : (rest.map fun v => v.category).sum + 13 ≤ z.2.2.2.2.2.2.2) (kk : Tr g l z o (pc + 3) lv (.int (fm_abs x) :: rest) μ) : Tr g l z o pc lv (.int x :: rest) μ := by
  intro p e R s m args below meth c H locs ls hA hP hS hv
  have hR := hA.room
  subst hR
  exact va_mabs hA.x hA.b (hA.ml.trans hv.1.symm) hA.own (hA.ts _ hw.1) (hA.ts _ hw.2.1) (hA.ts _ hw.2.2.1) (hA.ts _ hw.2.2.2) hF hLo (Nat.zero_le _) (Nat.zero_le _) (hA.dg hl) (kk p e _ s m args below meth c H locs ls hA hP hS hv)
theorem Tr.absL {x : Int64} {idx : Nat} (hl : fm_lk z.2.2.2.2.2.1 pc = some (.invokestatic idx, 3)) (hw : fm_mth z.2.1 idx Lib.MathLoose.abs_long.x Lib.MathLoose.abs_long.code 2 .long) (hF : 1 ≤ z.2.2.2.2.2.2.1) (hLo : (rest.map fun v => v.category).sum + 13 ≤ z.2.2.2.2.2.2.2) (kk : Tr g l z o (pc + 3) lv (.long (fm_absL x) :: rest) μ) : Tr g l z o pc lv (.long x :: rest) μ := by
  intro p e R s m args below meth c H locs ls hA hP hS hv
  have hR := hA.room
  subst hR
  exact va_mabs_long hA.x hA.b (hA.ml.trans hv.1.symm) hA.own (hA.ts _ hw.1) (hA.ts _ hw.2.1) (hA.ts _ hw.2.2.1) (hA.ts _ hw.2.2.2) hF hLo (Nat.zero_le _) (Nat.zero_le _) (hA.dg hl) (kk p e _ s m args below meth c H locs ls hA hP hS hv)
def fm_acw (own : String) (idx : Nat) : Prop := Cond.methodLink own idx arraycopyName ∈ lw_all ∧ Cond.native arraycopyName ∈ lw_all ∧ Cond.static arraycopyName ∈ lw_all ∧ Cond.initialized "java/lang/System" ∈ lw_all
def fm_cin (n : Int32) (a b : Nat) : Bool := !(decide (n < 0)) && (decide (n.toNatClampNeg ≤ a) && decide (n.toNatClampNeg ≤ b))
theorem Tr.acopy {a a0 n0 n1 idx : Nat} {n : Int32} (h0 : fm_kd g a0 = 100 + n0) (h1 : fm_kd g a = 100 + n1) (hn0 : n0 < 9000) (hn1 : n1 < 9000) (hl : fm_lk z.2.2.2.2.2.1 pc = some (.invokestatic idx, 3)) (hw : fm_acw z.2.1 idx) (hin : fm_cin n n0 n1 = true) (hF : 1 ≤ z.2.2.2.2.2.2.1) (hLo : (rest.map fun v => v.category).sum + (nativeFrameWords "java/lang/System" "arraycopy" 5 + 11) ≤ z.2.2.2.2.2.2.2)
    (kk : Tr g l z o (pc + 3) lv rest (fm_cp μ.1 a0 a n.toNatClampNeg, μ.2)) : Tr g l z o pc lv (.int n :: .int 0 :: .ref a :: .int 0 :: .ref a0 :: rest) μ := by
  intro p e R s m args below meth c H locs ls hA hP hS hv
  have hR := hA.room
  subst hR
  unfold fm_cin at hin
  rw [Bool.and_eq_true, Bool.and_eq_true, Bool.not_eq_true', decide_eq_false_iff_not, decide_eq_true_eq, decide_eq_true_eq] at hin
  obtain ⟨i1, i2, i3⟩ := hin
  refine va_copyi (D := g.2.1) hA.x hA.b (hA.ml.trans hv.1.symm) hA.own (hA.ts _ hw.1) (hA.ts _ hw.2.1) (hA.ts _ hw.2.2.1) (hA.ts _ hw.2.2.2) hA.k hP (fm_D g μ) hS (a0 - g.1) (a - g.1) 0 0 (by rw [fm_ws_at (fm_a9 h0 hn0), fm_cell_int h0]) (by rw [fm_ws_at (fm_a9 h1 hn1), fm_cell_int h1]) rfl rfl rfl
    (by decide) (by decide) i1 (by show 0 + _ ≤ _; omega) (by show 0 + _ ≤ _; omega) (fun i _ => rfl) hF hLo (hA.dg hl) (fun H1 locs1 hP1 hD1 hS1 => ?_)
  have hM : va_cpy (μ.1 a0) (μ.1 a) 0 0 n.toNatClampNeg = fm_cp μ.1 a0 a n.toNatClampNeg a := by
    funext j
    unfold va_cpy fm_cp
    by_cases hj : j < n.toNatClampNeg
    · rw [if_pos ⟨Nat.zero_le _, by omega⟩, if_pos ⟨rfl, hj⟩, Nat.zero_add, Nat.sub_zero]
    · rw [if_neg (fun q => hj (by omega)), if_neg (fun q => hj q.2)]
  have hw2 : (fm_ws g μ).set (a - g.1) (a, .inl (g.2.2.1.1, n1, .inl (va_cpy (μ.1 a0) (μ.1 a) 0 0 n.toNatClampNeg))) = fm_ws g (fm_cp μ.1 a0 a n.toNatClampNeg, μ.2) := by
    rw [hM, ← fm_ws_set (μ := μ) (ν := (fm_cp μ.1 a0 a n.toNatClampNeg, μ.2)) (fm_a9 h1 hn1) (fun b hb => fm_cell_ne (by funext j; unfold fm_cp; rw [if_neg (fun q => hb q.1)])), fm_cell_int (μ := (fm_cp μ.1 a0 a n.toNatClampNeg, μ.2)) h1]
  have hP2 : va_P g.2.1 vwCl ((fm_ws g μ).set (a - g.1) (a, .inl (g.2.2.1.1, n1, .inl (va_cpy (μ.1 a0) (μ.1 a) 0 0 n.toNatClampNeg)))) H1 := hP1
  rw [hw2] at hP2
  exact kk p e _ s m args below meth c H1 locs1 ls hA hP2 hS1 hv
theorem fm_swd {x : Int32} {n : Nat} (hn : n ≤ 1000) (h : ∀ j : Nat, j < n → ¬ x = Int32.ofNat j) : x.toInt < 0 ∨ ((n : Int) - 1) < x.toInt := by
  by_cases h0 : x.toInt < 0
  · exact Or.inl h0
  · refine Or.inr ?_
    by_cases h1 : (n : Int) - 1 < x.toInt
    · exact h1
    · exfalso
      refine h x.toInt.toNat (by omega) ?_
      apply Int32.toInt_inj.mp
      rw [Int32.toInt_ofNat_of_lt (by omega)]
      omega
theorem Tr.tsIn {d hi : Int} {offs : Array Int} {len k tgt : Nat} {off : Int} (hl : fm_lk z.2.2.2.2.2.1 pc = some (.tableswitch d 0 hi offs, len)) (h1 : ¬ (Int32.ofNat k).toInt < 0) (h2 : ¬ hi < (Int32.ofNat k).toInt) (ho : offs[((Int32.ofNat k).toInt - 0).toNat]? = some off) (ht : (pc : Int) + off = (tgt : Int)) {x : Int32} (hx : x = Int32.ofNat k) (kk : Tr g l z o tgt lv rest μ) : Tr g l z o pc lv (.int x :: rest) μ := by
  intro p e R s m args below meth c H locs ls hA hP hS hv
  subst hx
  exact lv_tableIn hA.x hA.b (hA.dg hl) h1 h2 ho ht (kk p e R s m args below meth c H locs ls hA hP hS hv)
theorem Tr.tsOut {d hi : Int} {offs : Array Int} {len tgt : Nat} {x : Int32} (hl : fm_lk z.2.2.2.2.2.1 pc = some (.tableswitch d 0 hi offs, len)) (h : x.toInt < 0 ∨ hi < x.toInt) (ht : (pc : Int) + d = (tgt : Int)) (kk : Tr g l z o tgt lv rest μ) : Tr g l z o pc lv (.int x :: rest) μ := by
  intro p e R s m args below meth c H locs ls hA hP hS hv
  exact lv_tableOut hA.x hA.b (hA.dg hl) h ht (kk p e R s m args below meth c H locs ls hA hP hS hv)
end RULES5
abbrev fm_W : Type := Int64 × UInt64
abbrev emI (M : fm_Mem) (w : fm_W) : Int32 → fm_O := fm_em (fun r => some (.int r)) (fun _ => (M, w))
abbrev emJ (M : fm_Mem) (w : fm_W) : Int64 → fm_O := fm_em (fun r => some (.long r)) (fun _ => (M, w))
abbrev emF (M : fm_Mem) (w : fm_W) : UInt32 → fm_O := fm_em (fun r => some (.float r)) (fun _ => (M, w))
abbrev emD (M : fm_Mem) (w : fm_W) : UInt64 → fm_O := fm_em (fun r => some (.double r)) (fun _ => (M, w))
abbrev emA (M : fm_Mem) (w : fm_W) : Nat → fm_O := fm_em (fun r => some (.ref r)) (fun _ => (M, w))
abbrev emV (M : fm_Mem) (w : fm_W) : Unit → fm_O := fm_em (fun _ => none) (fun _ => (M, w))
abbrev emIw (_ : fm_Mem) (w : fm_W) : Int32 × fm_Mem → fm_O := fm_em (fun r => some (.int r.1)) (fun r => (r.2, w))
abbrev emJw (_ : fm_Mem) (w : fm_W) : Int64 × fm_Mem → fm_O := fm_em (fun r => some (.long r.1)) (fun r => (r.2, w))
abbrev emFw (_ : fm_Mem) (w : fm_W) : UInt32 × fm_Mem → fm_O := fm_em (fun r => some (.float r.1)) (fun r => (r.2, w))
abbrev emDw (_ : fm_Mem) (w : fm_W) : UInt64 × fm_Mem → fm_O := fm_em (fun r => some (.double r.1)) (fun r => (r.2, w))
abbrev emVw (_ : fm_Mem) (w : fm_W) : fm_Mem → fm_O := fm_em (fun _ => none) (fun r => (r, w))
abbrev exI (M : fm_Mem) (w : fm_W) : Nat ⊕ Int32 → fm_O := fm_ex (M, w) (fun r => some (.int r)) (fun _ => (M, w))
abbrev exJ (M : fm_Mem) (w : fm_W) : Nat ⊕ Int64 → fm_O := fm_ex (M, w) (fun r => some (.long r)) (fun _ => (M, w))
abbrev exD (M : fm_Mem) (w : fm_W) : Nat ⊕ UInt64 → fm_O := fm_ex (M, w) (fun r => some (.double r)) (fun _ => (M, w))
abbrev exV (M : fm_Mem) (w : fm_W) : Nat ⊕ Unit → fm_O := fm_ex (M, w) (fun _ => none) (fun _ => (M, w))
abbrev exIw (M : fm_Mem) (w : fm_W) : Nat ⊕ (Int32 × fm_Mem) → fm_O := fm_ex (M, w) (fun r => some (.int r.1)) (fun r => (r.2, w))
def fm_nz (y : Int32) : Bool := !(decide (y = 0))
theorem fm_nz_ne {y : Int32} (h : fm_nz y = true) : ¬ y = 0 := by
  unfold fm_nz at h
  rw [Bool.not_eq_true', decide_eq_false_iff_not] at h
  exact h
def fm_rem (x y : Int32) : Int32 := x - x / y * y
end
section
theorem fw94 : Cond.initialized "java/lang/Math" ∈ lw_all := lw_in 94 (by decide +kernel) (by decide +kernel)
theorem fw108 : Cond.initialized "java/lang/System" ∈ lw_all := lw_in 108 (by decide +kernel) (by decide +kernel)
theorem fw135 : Cond.methodLink "CircleFlips$Row" 7 ⟨"java/lang/Math", "max", "(II)I"⟩ ∈ lw_all := lw_in 135 (by decide +kernel) (by decide +kernel)
theorem fw136 : Cond.static ⟨"java/lang/Math", "max", "(II)I"⟩ ∈ lw_all := lw_in 136 (by decide +kernel) (by decide +kernel)
theorem fw137 : Cond.code ⟨"java/lang/Math", "max", "(II)I"⟩ prog_19_method_65_code 2 (some .int) ∈ lw_all := lw_in 137 (by decide +kernel) (by decide +kernel)
theorem fw138 : Cond.fieldLink "CircleFlips$Row" 13 "CircleFlips$Row" "numbers" "[I" ∈ lw_all := lw_in 138 (by decide +kernel) (by decide +kernel)
theorem fw157 : Cond.fieldLink "CircleFlips$Points" 14 "CircleFlips$Points" "xs" "LCircleFlips$Row;" ∈ lw_all := lw_in 157 (by decide +kernel) (by decide +kernel)
theorem fw158 : Cond.fieldLink "CircleFlips$Points" 20 "CircleFlips$Points" "ys" "LCircleFlips$Row;" ∈ lw_all := lw_in 158 (by decide +kernel) (by decide +kernel)
theorem fw159 : Cond.fieldLink "CircleFlips$Points" 23 "CircleFlips$Points" "count" "I" ∈ lw_all := lw_in 159 (by decide +kernel) (by decide +kernel)
theorem fw337 : Cond.methodLink "CircleFlips$Points" 27 ⟨"CircleFlips$Row", "get", "(I)I"⟩ ∈ lw_all := lw_in 337 (by decide +kernel) (by decide +kernel)
theorem fw342 : Cond.methodLink "CircleFlips$Points" 51 ⟨"CircleFlips$Points", "cross", "(IIII)I"⟩ ∈ lw_all := lw_in 342 (by decide +kernel) (by decide +kernel)
theorem fw409 : Cond.methodLink "CircleFlips$Row" 19 ⟨"java/lang/Math", "min", "(II)I"⟩ ∈ lw_all := lw_in 409 (by decide +kernel) (by decide +kernel)
theorem fw410 : Cond.static ⟨"java/lang/Math", "min", "(II)I"⟩ ∈ lw_all := lw_in 410 (by decide +kernel) (by decide +kernel)
theorem fw411 : Cond.code ⟨"java/lang/Math", "min", "(II)I"⟩ prog_19_method_69_code 2 (some .int) ∈ lw_all := lw_in 411 (by decide +kernel) (by decide +kernel)
theorem fw412 : Cond.methodLink "CircleFlips$Row" 22 ⟨"java/lang/System", "arraycopy", "(Ljava/lang/Object;ILjava/lang/Object;II)V"⟩ ∈ lw_all := lw_in 412 (by decide +kernel) (by decide +kernel)
theorem fw413 : Cond.static ⟨"java/lang/System", "arraycopy", "(Ljava/lang/Object;ILjava/lang/Object;II)V"⟩ ∈ lw_all := lw_in 413 (by decide +kernel) (by decide +kernel)
theorem fw414 : Cond.native ⟨"java/lang/System", "arraycopy", "(Ljava/lang/Object;ILjava/lang/Object;II)V"⟩ ∈ lw_all := lw_in 414 (by decide +kernel) (by decide +kernel)
theorem fw793 : Cond.methodLink "CircleFlips$Row" 28 ⟨"CircleFlips$Row", "get", "(I)I"⟩ ∈ lw_all := lw_in 793 (by decide +kernel) (by decide +kernel)
theorem fw794 : Cond.methodLink "CircleFlips$Row" 32 ⟨"CircleFlips$Row", "set", "(II)V"⟩ ∈ lw_all := lw_in 794 (by decide +kernel) (by decide +kernel)
def k_X4_get : List (Nat × Instr × Nat) := [(0, .iload_n 1, 1), (1, .ifCond .lt 21, 3), (4, .iload_n 1, 1), (5, .aload_n 0, 1), (6, .getfield 13, 3), (9, .arraylength, 1), (10, .if_icmp .ge 12, 3), (13, .aload_n 0, 1), (14, .getfield 13, 3), (17, .iload_n 1, 1), (18, .iaload, 1), (19, .goto 4, 3), (22, .iconst 0, 1), (23, .ireturn, 1)]
def z_X4_get : fm_Y := (yX4_get, RX4, cX4_get, 2, (some .int), k_X4_get, 0, 0)
theorem o_X4_get : fm_dec z_X4_get := (by decide +kernel : ∀ q ∈ k_X4_get, decode cX4_get q.1 = .ok q.2)
theorem cw_X4_get : fm_cwV z_X4_get := ⟨⟨lw_in 324 (by decide +kernel) (by decide +kernel), lw_in 93 (by decide +kernel) (by decide +kernel), by decide, by decide⟩, lw_in 322 (by decide +kernel) (by decide +kernel), lw_in 323 (by decide +kernel) (by decide +kernel)⟩
theorem pn_X4_get : (parseMethodDescriptor z_X4_get.1.desc).map (fun d => d.parameters.length) = some 1 := by decide +kernel
def f_X4_get_23 (P : Nat) (nP : Nat) (a1 : Int32) (s0 : Int32) (M : fm_Mem) : Option (Int32) := some (s0)
theorem t_X4_get_23 (g : fm_G) (l : Launch) (hl : l.stackTraces = false) (P : Nat) (nP : Nat) (a1 : Int32) (hP : fm_kd g P = 4) (hP1 : fm_kd g (P + 1) = 100 + nP) (hP9 : nP < 9000) (w : fm_W)  (s0 : Int32)  (M : fm_Mem) : Tt g l z_X4_get (emI M w) (f_X4_get_23 P nP a1  s0 M) 23 [] [.int s0] (M, w) := by
  rw [f_X4_get_23]
  exact Tt.ret (Tr.iret rfl rfl)
def f_X4_get_22 (P : Nat) (nP : Nat) (a1 : Int32)  (M : fm_Mem) : Option (Int32) := (f_X4_get_23 P nP a1 (0 : Int32) M)
theorem t_X4_get_22 (g : fm_G) (l : Launch) (hl : l.stackTraces = false) (P : Nat) (nP : Nat) (a1 : Int32) (hP : fm_kd g P = 4) (hP1 : fm_kd g (P + 1) = 100 + nP) (hP9 : nP < 9000) (w : fm_W)    (M : fm_Mem) : Tt g l z_X4_get (emI M w) (f_X4_get_22 P nP a1   M) 22 [] [] (M, w) := by
  rw [f_X4_get_22]
  refine Tt.go (fun _ => Tr.run 1 (pc' := 23) (lv' := []) (st' := [.int (0 : Int32)]) rfl) ?_
  exact t_X4_get_23 g l hl P nP a1 hP hP1 hP9 w (0 : Int32) M
def f_X4_get (P : Nat) (nP : Nat) (a1 : Int32) (M : fm_Mem) : Option (Int32) := if a1 < 0 then (f_X4_get_22 P nP a1 M) else (if (Int32.ofNat nP) ≤ a1 then (f_X4_get_22 P nP a1 M) else (fm_ck (fm_in a1 nP) (f_X4_get_23 P nP a1 (M (P + 1) (Int32.toNatClampNeg a1)) M)))
theorem t_X4_get (g : fm_G) (l : Launch) (hl : l.stackTraces = false) (P : Nat) (nP : Nat) (a1 : Int32) (hP : fm_kd g P = 4) (hP1 : fm_kd g (P + 1) = 100 + nP) (hP9 : nP < 9000) (M : fm_Mem) (w : fm_W) : Tt g l z_X4_get (emI M w) (f_X4_get P nP a1 M) 0 [(0, .ref P), (1, .int a1)] [] (M, w) := by
  rw [f_X4_get]
  refine Tt.go (fun _ => Tr.run 1 (pc' := 1) (lv' := [(0, .ref P), (1, .int a1)]) (st' := [.int a1]) rfl) ?_
  refine Tt.if_lt (tgt := 22) rfl (by decide) ?_ ?_
  · refine Tt.go (fun _ => Tr.sub (lv' := []) [] rfl) ?_
    exact t_X4_get_22 g l hl P nP a1 hP hP1 hP9 w M
  · refine Tt.go (fun _ => Tr.run 2 (pc' := 6) (lv' := [(0, .ref P), (1, .int a1)]) (st' := [.ref P, .int a1]) rfl) ?_
    refine Tt.go (fun _ => Tr.get fmc4 hP rfl fw138 (k := 0) (by decide) rfl) (?_ : Tt g l z_X4_get (emI M w) _ 9 [(0, .ref P), (1, .int a1)] [.ref (P + 1), .int a1] (M, w))
    refine Tt.go (fun _ => Tr.alen hP1 hP9 rfl) (?_ : Tt g l z_X4_get (emI M w) _ 10 [(0, .ref P), (1, .int a1)] [.int (Int32.ofNat nP), .int a1] (M, w))
    refine Tt.ic_ge (tgt := 22) rfl (by decide) ?_ ?_
    · refine Tt.go (fun _ => Tr.sub (lv' := []) [] rfl) ?_
      exact t_X4_get_22 g l hl P nP a1 hP hP1 hP9 w M
    · refine Tt.go (fun _ => Tr.run 1 (pc' := 14) (lv' := [(0, .ref P), (1, .int a1)]) (st' := [.ref P]) rfl) ?_
      refine Tt.go (fun _ => Tr.get fmc4 hP rfl fw138 (k := 0) (by decide) rfl) (?_ : Tt g l z_X4_get (emI M w) _ 17 [(0, .ref P), (1, .int a1)] [.ref (P + 1)] (M, w))
      refine Tt.go (fun _ => Tr.run 1 (pc' := 18) (lv' := [(0, .ref P), (1, .int a1)]) (st' := [.int a1, .ref (P + 1)]) rfl) ?_
      refine Tt.ck (fun hi1 => ?_)
      refine Tt.go (fun _ => Tr.iald hP1 hP9 hi1 rfl) (?_ : Tt g l z_X4_get (emI M w) _ 19 [(0, .ref P), (1, .int a1)] [.int (M (P + 1) (Int32.toNatClampNeg a1))] (M, w))
      refine Tt.go (fun _ => Tr.run 1 (pc' := 23) (lv' := [(0, .ref P), (1, .int a1)]) (st' := [.int (M (P + 1) (Int32.toNatClampNeg a1))]) rfl) ?_
      refine Tt.go (fun _ => Tr.sub (lv' := []) [] rfl) ?_
      exact t_X4_get_23 g l hl P nP a1 hP hP1 hP9 w (M (P + 1) (Int32.toNatClampNeg a1)) M
theorem c_X4_get (g : fm_G) (l : Launch) (hl : l.stackTraces = false) (P : Nat) (nP : Nat) (a1 : Int32) (hP : fm_kd g P = 4) (hP1 : fm_kd g (P + 1) = 100 + nP) (hP9 : nP < 9000) (M : fm_Mem) (w : fm_W) : ∀ r, f_X4_get P nP a1 M = some r → fC g l z_X4_get [.ref P, .int a1] (M, w) (emI M w r) := fun r hr => fC.of (by decide) rfl o_X4_get hl (Nat.le_of_ble_eq_true rfl) (t_X4_get g l hl P nP a1 hP hP1 hP9 M w r hr)
def k_X3_x : List (Nat × Instr × Nat) := [(0, .aload_n 0, 1), (1, .getfield 14, 3), (4, .iload_n 1, 1), (5, .invokevirtual 27, 3), (8, .ireturn, 1)]
def z_X3_x : fm_Y := (yX3_x, RX3, cX3_x, 2, (some .int), k_X3_x, 1, 21)
theorem o_X3_x : fm_dec z_X3_x := (by decide +kernel : ∀ q ∈ k_X3_x, decode cX3_x q.1 = .ok q.2)
theorem cw_X3_x : fm_cwV z_X3_x := ⟨⟨lw_in 438 (by decide +kernel) (by decide +kernel), lw_in 96 (by decide +kernel) (by decide +kernel), by decide, by decide⟩, lw_in 436 (by decide +kernel) (by decide +kernel), lw_in 437 (by decide +kernel) (by decide +kernel)⟩
theorem pn_X3_x : (parseMethodDescriptor z_X3_x.1.desc).map (fun d => d.parameters.length) = some 1 := by decide +kernel
def f_X3_x (P : Nat) (a1 : Int32) (M : fm_Mem) : Option (Int32) := Option.bind (f_X4_get (P + 1) 20 a1 M) (fun v1 => some (v1))
theorem t_X3_x (g : fm_G) (l : Launch) (hl : l.stackTraces = false) (P : Nat) (a1 : Int32) (hP : fm_kd g P = 3) (M : fm_Mem) (w : fm_W) : Tt g l z_X3_x (emI M w) (f_X3_x P a1 M) 0 [(0, .ref P), (1, .int a1)] [] (M, w) := by
  rw [f_X3_x]
  refine Tt.go (fun _ => Tr.run 1 (pc' := 1) (lv' := [(0, .ref P), (1, .int a1)]) (st' := [.ref P]) rfl) ?_
  refine Tt.go (fun _ => Tr.get fmc3 hP rfl fw157 (k := 0) (by decide) rfl) (?_ : Tt g l z_X3_x (emI M w) _ 4 [(0, .ref P), (1, .int a1)] [.ref (P + 1)] (M, w))
  refine Tt.go (fun _ => Tr.run 1 (pc' := 5) (lv' := [(0, .ref P), (1, .int a1)]) (st' := [.int a1, .ref (P + 1)]) rfl) ?_
  refine Tt.callV (As := [.int a1]) (rest := []) (c_X4_get g l hl (P + 1) 20 a1 (fmk_3_0 hP) (fmn_3_0 hP) (by decide) M w) (fmk_3_0 hP) (by decide) rfl rfl cw_X4_get fw337 pn_X4_get (Nat.le_of_ble_eq_true rfl) (Nat.le_of_ble_eq_true rfl) (Nat.le_of_ble_eq_true rfl) rfl (fun v1 => (?_ : Tt g l z_X3_x (emI M w) _ 8 [(0, .ref P), (1, .int a1)] [.int v1] (M, w)))
  exact Tt.ret (Tr.iret rfl rfl)
theorem c_X3_x (g : fm_G) (l : Launch) (hl : l.stackTraces = false) (P : Nat) (a1 : Int32) (hP : fm_kd g P = 3) (M : fm_Mem) (w : fm_W) : ∀ r, f_X3_x P a1 M = some r → fC g l z_X3_x [.ref P, .int a1] (M, w) (emI M w r) := fun r hr => fC.of (by decide) rfl o_X3_x hl (Nat.le_of_ble_eq_true rfl) (t_X3_x g l hl P a1 hP M w r hr)
def k_X4_set : List (Nat × Instr × Nat) := [(0, .iload_n 1, 1), (1, .ifCond .lt 19, 3), (4, .iload_n 1, 1), (5, .aload_n 0, 1), (6, .getfield 13, 3), (9, .arraylength, 1), (10, .if_icmp .ge 10, 3), (13, .aload_n 0, 1), (14, .getfield 13, 3), (17, .iload_n 1, 1), (18, .iload_n 2, 1), (19, .iastore, 1), (20, .return_, 1)]
def z_X4_set : fm_Y := (yX4_set, RX4, cX4_set, 3, none, k_X4_set, 0, 0)
theorem o_X4_set : fm_dec z_X4_set := (by decide +kernel : ∀ q ∈ k_X4_set, decode cX4_set q.1 = .ok q.2)
theorem cw_X4_set : fm_cwV z_X4_set := ⟨⟨lw_in 304 (by decide +kernel) (by decide +kernel), lw_in 93 (by decide +kernel) (by decide +kernel), by decide, by decide⟩, lw_in 302 (by decide +kernel) (by decide +kernel), lw_in 303 (by decide +kernel) (by decide +kernel)⟩
theorem pn_X4_set : (parseMethodDescriptor z_X4_set.1.desc).map (fun d => d.parameters.length) = some 2 := by decide +kernel
def f_X4_set_20 (P : Nat) (nP : Nat) (a1 : Int32) (a2 : Int32)  (M : fm_Mem) : Option (fm_Mem) := some (M)
theorem t_X4_set_20 (g : fm_G) (l : Launch) (hl : l.stackTraces = false) (P : Nat) (nP : Nat) (a1 : Int32) (a2 : Int32) (hP : fm_kd g P = 4) (hP1 : fm_kd g (P + 1) = 100 + nP) (hP9 : nP < 9000) (w : fm_W) (M0 : fm_Mem)    (M : fm_Mem) : Tt g l z_X4_set (emVw M0 w) (f_X4_set_20 P nP a1 a2   M) 20 [] [] (M, w) := by
  rw [f_X4_set_20]
  exact Tt.ret (Tr.vret rfl rfl)
def f_X4_set (P : Nat) (nP : Nat) (a1 : Int32) (a2 : Int32) (M : fm_Mem) : Option (fm_Mem) := if a1 < 0 then (f_X4_set_20 P nP a1 a2 M) else (if (Int32.ofNat nP) ≤ a1 then (f_X4_set_20 P nP a1 a2 M) else (fm_ck (fm_in a1 nP) (f_X4_set_20 P nP a1 a2 (fm_up M (P + 1) (Int32.toNatClampNeg a1) a2))))
theorem t_X4_set (g : fm_G) (l : Launch) (hl : l.stackTraces = false) (P : Nat) (nP : Nat) (a1 : Int32) (a2 : Int32) (hP : fm_kd g P = 4) (hP1 : fm_kd g (P + 1) = 100 + nP) (hP9 : nP < 9000) (M : fm_Mem) (w : fm_W) : Tt g l z_X4_set (emVw M w) (f_X4_set P nP a1 a2 M) 0 [(0, .ref P), (1, .int a1), (2, .int a2)] [] (M, w) := by
  rw [f_X4_set]
  refine Tt.go (fun _ => Tr.run 1 (pc' := 1) (lv' := [(0, .ref P), (1, .int a1), (2, .int a2)]) (st' := [.int a1]) rfl) ?_
  refine Tt.if_lt (tgt := 20) rfl (by decide) ?_ ?_
  · refine Tt.go (fun _ => Tr.sub (lv' := []) [] rfl) ?_
    exact t_X4_set_20 g l hl P nP a1 a2 hP hP1 hP9 w M M
  · refine Tt.go (fun _ => Tr.run 2 (pc' := 6) (lv' := [(0, .ref P), (1, .int a1), (2, .int a2)]) (st' := [.ref P, .int a1]) rfl) ?_
    refine Tt.go (fun _ => Tr.get fmc4 hP rfl fw138 (k := 0) (by decide) rfl) (?_ : Tt g l z_X4_set (emVw M w) _ 9 [(0, .ref P), (1, .int a1), (2, .int a2)] [.ref (P + 1), .int a1] (M, w))
    refine Tt.go (fun _ => Tr.alen hP1 hP9 rfl) (?_ : Tt g l z_X4_set (emVw M w) _ 10 [(0, .ref P), (1, .int a1), (2, .int a2)] [.int (Int32.ofNat nP), .int a1] (M, w))
    refine Tt.ic_ge (tgt := 20) rfl (by decide) ?_ ?_
    · refine Tt.go (fun _ => Tr.sub (lv' := []) [] rfl) ?_
      exact t_X4_set_20 g l hl P nP a1 a2 hP hP1 hP9 w M M
    · refine Tt.go (fun _ => Tr.run 1 (pc' := 14) (lv' := [(0, .ref P), (1, .int a1), (2, .int a2)]) (st' := [.ref P]) rfl) ?_
      refine Tt.go (fun _ => Tr.get fmc4 hP rfl fw138 (k := 0) (by decide) rfl) (?_ : Tt g l z_X4_set (emVw M w) _ 17 [(0, .ref P), (1, .int a1), (2, .int a2)] [.ref (P + 1)] (M, w))
      refine Tt.go (fun _ => Tr.run 2 (pc' := 19) (lv' := [(0, .ref P), (1, .int a1), (2, .int a2)]) (st' := [.int a2, .int a1, .ref (P + 1)]) rfl) ?_
      refine Tt.ck (fun hi1 => ?_)
      refine Tt.go (fun _ => Tr.iast hP1 hP9 hi1 rfl) (?_ : Tt g l z_X4_set (emVw M w) _ 20 [(0, .ref P), (1, .int a1), (2, .int a2)] [] ((fm_up M (P + 1) (Int32.toNatClampNeg a1) a2), w))
      refine Tt.go (fun _ => Tr.sub (lv' := []) [] rfl) ?_
      exact t_X4_set_20 g l hl P nP a1 a2 hP hP1 hP9 w M (fm_up M (P + 1) (Int32.toNatClampNeg a1) a2)
theorem c_X4_set (g : fm_G) (l : Launch) (hl : l.stackTraces = false) (P : Nat) (nP : Nat) (a1 : Int32) (a2 : Int32) (hP : fm_kd g P = 4) (hP1 : fm_kd g (P + 1) = 100 + nP) (hP9 : nP < 9000) (M : fm_Mem) (w : fm_W) : ∀ r, f_X4_set P nP a1 a2 M = some r → fC g l z_X4_set [.ref P, .int a1, .int a2] (M, w) (emVw M w r) := fun r hr => fC.of (by decide) rfl o_X4_set hl (Nat.le_of_ble_eq_true rfl) (t_X4_set g l hl P nP a1 a2 hP hP1 hP9 M w r hr)
def k_X3_cross : List (Nat × Instr × Nat) := [(0, .iload_n 0, 1), (1, .iload_n 3, 1), (2, .imul, 1), (3, .iload_n 1, 1), (4, .iload_n 2, 1), (5, .imul, 1), (6, .isub, 1), (7, .ireturn, 1)]
def z_X3_cross : fm_Y := (yX3_cross, RX3, cX3_cross, 4, (some .int), k_X3_cross, 0, 0)
theorem o_X3_cross : fm_dec z_X3_cross := (by decide +kernel : ∀ q ∈ k_X3_cross, decode cX3_cross q.1 = .ok q.2)
theorem cw_X3_cross : fm_cwS z_X3_cross := ⟨⟨lw_in 344 (by decide +kernel) (by decide +kernel), lw_in 96 (by decide +kernel) (by decide +kernel), by decide, by decide⟩, lw_in 343 (by decide +kernel) (by decide +kernel)⟩
theorem pn_X3_cross : (parseMethodDescriptor z_X3_cross.1.desc).map (fun d => d.parameters.length) = some 4 := by decide +kernel
def f_X3_cross (a0 : Int32) (a1 : Int32) (a2 : Int32) (a3 : Int32) (M : fm_Mem) : Option (Int32) := some (((a0 * a3) - (a1 * a2)))
theorem t_X3_cross (g : fm_G) (l : Launch) (hl : l.stackTraces = false) (a0 : Int32) (a1 : Int32) (a2 : Int32) (a3 : Int32)  (M : fm_Mem) (w : fm_W) : Tt g l z_X3_cross (emI M w) (f_X3_cross a0 a1 a2 a3 M) 0 [(0, .int a0), (1, .int a1), (2, .int a2), (3, .int a3)] [] (M, w) := by
  rw [f_X3_cross]
  refine Tt.go (fun _ => Tr.run 7 (pc' := 7) (lv' := [(0, .int a0), (1, .int a1), (2, .int a2), (3, .int a3)]) (st' := [.int ((a0 * a3) - (a1 * a2))]) rfl) ?_
  exact Tt.ret (Tr.iret rfl rfl)
theorem c_X3_cross (g : fm_G) (l : Launch) (hl : l.stackTraces = false) (a0 : Int32) (a1 : Int32) (a2 : Int32) (a3 : Int32)  (M : fm_Mem) (w : fm_W) : ∀ r, f_X3_cross a0 a1 a2 a3 M = some r → fC g l z_X3_cross [.int a0, .int a1, .int a2, .int a3] (M, w) (emI M w r) := fun r hr => fC.of (by decide) rfl o_X3_cross hl (Nat.le_of_ble_eq_true rfl) (t_X3_cross g l hl a0 a1 a2 a3  M w r hr)
def k_X3_turn : List (Nat × Instr × Nat) := [(0, .aload_n 0, 1), (1, .getfield 14, 3), (4, .iload_n 1, 1), (5, .invokevirtual 27, 3), (8, .istore 4, 2), (10, .aload_n 0, 1), (11, .getfield 20, 3), (14, .iload_n 1, 1), (15, .invokevirtual 27, 3), (18, .istore 5, 2), (20, .aload_n 0, 1), (21, .getfield 14, 3), (24, .iload_n 2, 1), (25, .invokevirtual 27, 3), (28, .iload 4, 2), (30, .isub, 1), (31, .aload_n 0, 1), (32, .getfield 20, 3), (35, .iload_n 2, 1), (36, .invokevirtual 27, 3), (39, .iload 5, 2), (41, .isub, 1), (42, .aload_n 0, 1), (43, .getfield 14, 3), (46, .iload_n 3, 1), (47, .invokevirtual 27, 3), (50, .iload 4, 2), (52, .isub, 1), (53, .aload_n 0, 1), (54, .getfield 20, 3), (57, .iload_n 3, 1), (58, .invokevirtual 27, 3), (61, .iload 5, 2), (63, .isub, 1), (64, .invokestatic 51, 3), (67, .ireturn, 1)]
def z_X3_turn : fm_Y := (yX3_turn, RX3, cX3_turn, 6, (some .int), k_X3_turn, 1, 23)
theorem o_X3_turn : fm_dec z_X3_turn := (by decide +kernel : ∀ q ∈ k_X3_turn, decode cX3_turn q.1 = .ok q.2)
theorem cw_X3_turn : fm_cwV z_X3_turn := ⟨⟨lw_in 341 (by decide +kernel) (by decide +kernel), lw_in 96 (by decide +kernel) (by decide +kernel), by decide, by decide⟩, lw_in 339 (by decide +kernel) (by decide +kernel), lw_in 340 (by decide +kernel) (by decide +kernel)⟩
theorem pn_X3_turn : (parseMethodDescriptor z_X3_turn.1.desc).map (fun d => d.parameters.length) = some 3 := by decide +kernel
def f_X3_turn (P : Nat) (a1 : Int32) (a2 : Int32) (a3 : Int32) (M : fm_Mem) : Option (Int32) := Option.bind (f_X4_get (P + 1) 20 a1 M) (fun v1 => Option.bind (f_X4_get (P + 3) 20 a1 M) (fun v2 => Option.bind (f_X4_get (P + 1) 20 a2 M) (fun v3 => Option.bind (f_X4_get (P + 3) 20 a2 M) (fun v4 => Option.bind (f_X4_get (P + 1) 20 a3 M) (fun v5 => Option.bind (f_X4_get (P + 3) 20 a3 M) (fun v6 => Option.bind (f_X3_cross (v3 - v1) (v4 - v2) (v5 - v1) (v6 - v2) M) (fun v7 => some (v7))))))))
theorem t_X3_turn (g : fm_G) (l : Launch) (hl : l.stackTraces = false) (P : Nat) (a1 : Int32) (a2 : Int32) (a3 : Int32) (hP : fm_kd g P = 3) (M : fm_Mem) (w : fm_W) : Tt g l z_X3_turn (emI M w) (f_X3_turn P a1 a2 a3 M) 0 [(0, .ref P), (1, .int a1), (2, .int a2), (3, .int a3)] [] (M, w) := by
  rw [f_X3_turn]
  refine Tt.go (fun _ => Tr.run 1 (pc' := 1) (lv' := [(0, .ref P), (1, .int a1), (2, .int a2), (3, .int a3)]) (st' := [.ref P]) rfl) ?_
  refine Tt.go (fun _ => Tr.get fmc3 hP rfl fw157 (k := 0) (by decide) rfl) (?_ : Tt g l z_X3_turn (emI M w) _ 4 [(0, .ref P), (1, .int a1), (2, .int a2), (3, .int a3)] [.ref (P + 1)] (M, w))
  refine Tt.go (fun _ => Tr.run 1 (pc' := 5) (lv' := [(0, .ref P), (1, .int a1), (2, .int a2), (3, .int a3)]) (st' := [.int a1, .ref (P + 1)]) rfl) ?_
  refine Tt.callV (As := [.int a1]) (rest := []) (c_X4_get g l hl (P + 1) 20 a1 (fmk_3_0 hP) (fmn_3_0 hP) (by decide) M w) (fmk_3_0 hP) (by decide) rfl rfl cw_X4_get fw337 pn_X4_get (Nat.le_of_ble_eq_true rfl) (Nat.le_of_ble_eq_true rfl) (Nat.le_of_ble_eq_true rfl) rfl (fun v1 => (?_ : Tt g l z_X3_turn (emI M w) _ 8 [(0, .ref P), (1, .int a1), (2, .int a2), (3, .int a3)] [.int v1] (M, w)))
  refine Tt.go (fun _ => Tr.run 2 (pc' := 11) (lv' := [(4, .int v1), (0, .ref P), (1, .int a1), (2, .int a2), (3, .int a3)]) (st' := [.ref P]) rfl) ?_
  refine Tt.go (fun _ => Tr.get fmc3 hP rfl fw158 (k := 1) (by decide) rfl) (?_ : Tt g l z_X3_turn (emI M w) _ 14 [(4, .int v1), (0, .ref P), (1, .int a1), (2, .int a2), (3, .int a3)] [.ref (P + 3)] (M, w))
  refine Tt.go (fun _ => Tr.run 1 (pc' := 15) (lv' := [(4, .int v1), (0, .ref P), (1, .int a1), (2, .int a2), (3, .int a3)]) (st' := [.int a1, .ref (P + 3)]) rfl) ?_
  refine Tt.callV (As := [.int a1]) (rest := []) (c_X4_get g l hl (P + 3) 20 a1 (fmk_3_1 hP) (fmn_3_1 hP) (by decide) M w) (fmk_3_1 hP) (by decide) rfl rfl cw_X4_get fw337 pn_X4_get (Nat.le_of_ble_eq_true rfl) (Nat.le_of_ble_eq_true rfl) (Nat.le_of_ble_eq_true rfl) rfl (fun v2 => (?_ : Tt g l z_X3_turn (emI M w) _ 18 [(4, .int v1), (0, .ref P), (1, .int a1), (2, .int a2), (3, .int a3)] [.int v2] (M, w)))
  refine Tt.go (fun _ => Tr.run 2 (pc' := 21) (lv' := [(5, .int v2), (4, .int v1), (0, .ref P), (1, .int a1), (2, .int a2), (3, .int a3)]) (st' := [.ref P]) rfl) ?_
  refine Tt.go (fun _ => Tr.get fmc3 hP rfl fw157 (k := 0) (by decide) rfl) (?_ : Tt g l z_X3_turn (emI M w) _ 24 [(5, .int v2), (4, .int v1), (0, .ref P), (1, .int a1), (2, .int a2), (3, .int a3)] [.ref (P + 1)] (M, w))
  refine Tt.go (fun _ => Tr.run 1 (pc' := 25) (lv' := [(5, .int v2), (4, .int v1), (0, .ref P), (1, .int a1), (2, .int a2), (3, .int a3)]) (st' := [.int a2, .ref (P + 1)]) rfl) ?_
  refine Tt.callV (As := [.int a2]) (rest := []) (c_X4_get g l hl (P + 1) 20 a2 (fmk_3_0 hP) (fmn_3_0 hP) (by decide) M w) (fmk_3_0 hP) (by decide) rfl rfl cw_X4_get fw337 pn_X4_get (Nat.le_of_ble_eq_true rfl) (Nat.le_of_ble_eq_true rfl) (Nat.le_of_ble_eq_true rfl) rfl (fun v3 => (?_ : Tt g l z_X3_turn (emI M w) _ 28 [(5, .int v2), (4, .int v1), (0, .ref P), (1, .int a1), (2, .int a2), (3, .int a3)] [.int v3] (M, w)))
  refine Tt.go (fun _ => Tr.run 3 (pc' := 32) (lv' := [(5, .int v2), (4, .int v1), (0, .ref P), (1, .int a1), (2, .int a2), (3, .int a3)]) (st' := [.ref P, .int (v3 - v1)]) rfl) ?_
  refine Tt.go (fun _ => Tr.get fmc3 hP rfl fw158 (k := 1) (by decide) rfl) (?_ : Tt g l z_X3_turn (emI M w) _ 35 [(5, .int v2), (4, .int v1), (0, .ref P), (1, .int a1), (2, .int a2), (3, .int a3)] [.ref (P + 3), .int (v3 - v1)] (M, w))
  refine Tt.go (fun _ => Tr.run 1 (pc' := 36) (lv' := [(5, .int v2), (4, .int v1), (0, .ref P), (1, .int a1), (2, .int a2), (3, .int a3)]) (st' := [.int a2, .ref (P + 3), .int (v3 - v1)]) rfl) ?_
  refine Tt.callV (As := [.int a2]) (rest := [.int (v3 - v1)]) (c_X4_get g l hl (P + 3) 20 a2 (fmk_3_1 hP) (fmn_3_1 hP) (by decide) M w) (fmk_3_1 hP) (by decide) rfl rfl cw_X4_get fw337 pn_X4_get (Nat.le_of_ble_eq_true rfl) (Nat.le_of_ble_eq_true rfl) (Nat.le_of_ble_eq_true rfl) rfl (fun v4 => (?_ : Tt g l z_X3_turn (emI M w) _ 39 [(5, .int v2), (4, .int v1), (0, .ref P), (1, .int a1), (2, .int a2), (3, .int a3)] [.int v4, .int (v3 - v1)] (M, w)))
  refine Tt.go (fun _ => Tr.run 3 (pc' := 43) (lv' := [(5, .int v2), (4, .int v1), (0, .ref P), (1, .int a1), (2, .int a2), (3, .int a3)]) (st' := [.ref P, .int (v4 - v2), .int (v3 - v1)]) rfl) ?_
  refine Tt.go (fun _ => Tr.get fmc3 hP rfl fw157 (k := 0) (by decide) rfl) (?_ : Tt g l z_X3_turn (emI M w) _ 46 [(5, .int v2), (4, .int v1), (0, .ref P), (1, .int a1), (2, .int a2), (3, .int a3)] [.ref (P + 1), .int (v4 - v2), .int (v3 - v1)] (M, w))
  refine Tt.go (fun _ => Tr.run 1 (pc' := 47) (lv' := [(5, .int v2), (4, .int v1), (0, .ref P), (1, .int a1), (2, .int a2), (3, .int a3)]) (st' := [.int a3, .ref (P + 1), .int (v4 - v2), .int (v3 - v1)]) rfl) ?_
  refine Tt.callV (As := [.int a3]) (rest := [.int (v4 - v2), .int (v3 - v1)]) (c_X4_get g l hl (P + 1) 20 a3 (fmk_3_0 hP) (fmn_3_0 hP) (by decide) M w) (fmk_3_0 hP) (by decide) rfl rfl cw_X4_get fw337 pn_X4_get (Nat.le_of_ble_eq_true rfl) (Nat.le_of_ble_eq_true rfl) (Nat.le_of_ble_eq_true rfl) rfl (fun v5 => (?_ : Tt g l z_X3_turn (emI M w) _ 50 [(5, .int v2), (4, .int v1), (0, .ref P), (1, .int a1), (2, .int a2), (3, .int a3)] [.int v5, .int (v4 - v2), .int (v3 - v1)] (M, w)))
  refine Tt.go (fun _ => Tr.run 3 (pc' := 54) (lv' := [(5, .int v2), (4, .int v1), (0, .ref P), (1, .int a1), (2, .int a2), (3, .int a3)]) (st' := [.ref P, .int (v5 - v1), .int (v4 - v2), .int (v3 - v1)]) rfl) ?_
  refine Tt.go (fun _ => Tr.get fmc3 hP rfl fw158 (k := 1) (by decide) rfl) (?_ : Tt g l z_X3_turn (emI M w) _ 57 [(5, .int v2), (4, .int v1), (0, .ref P), (1, .int a1), (2, .int a2), (3, .int a3)] [.ref (P + 3), .int (v5 - v1), .int (v4 - v2), .int (v3 - v1)] (M, w))
  refine Tt.go (fun _ => Tr.run 1 (pc' := 58) (lv' := [(5, .int v2), (4, .int v1), (0, .ref P), (1, .int a1), (2, .int a2), (3, .int a3)]) (st' := [.int a3, .ref (P + 3), .int (v5 - v1), .int (v4 - v2), .int (v3 - v1)]) rfl) ?_
  refine Tt.callV (As := [.int a3]) (rest := [.int (v5 - v1), .int (v4 - v2), .int (v3 - v1)]) (c_X4_get g l hl (P + 3) 20 a3 (fmk_3_1 hP) (fmn_3_1 hP) (by decide) M w) (fmk_3_1 hP) (by decide) rfl rfl cw_X4_get fw337 pn_X4_get (Nat.le_of_ble_eq_true rfl) (Nat.le_of_ble_eq_true rfl) (Nat.le_of_ble_eq_true rfl) rfl (fun v6 => (?_ : Tt g l z_X3_turn (emI M w) _ 61 [(5, .int v2), (4, .int v1), (0, .ref P), (1, .int a1), (2, .int a2), (3, .int a3)] [.int v6, .int (v5 - v1), .int (v4 - v2), .int (v3 - v1)] (M, w)))
  refine Tt.go (fun _ => Tr.run 2 (pc' := 64) (lv' := [(5, .int v2), (4, .int v1), (0, .ref P), (1, .int a1), (2, .int a2), (3, .int a3)]) (st' := [.int (v6 - v2), .int (v5 - v1), .int (v4 - v2), .int (v3 - v1)]) rfl) ?_
  refine Tt.callS (As := [.int (v3 - v1), .int (v4 - v2), .int (v5 - v1), .int (v6 - v2)]) (rest := []) (c_X3_cross g l hl (v3 - v1) (v4 - v2) (v5 - v1) (v6 - v2) M w) rfl cw_X3_cross fw342 pn_X3_cross (Nat.le_of_ble_eq_true rfl) (Nat.le_of_ble_eq_true rfl) (Nat.le_of_ble_eq_true rfl) rfl (fun v7 => (?_ : Tt g l z_X3_turn (emI M w) _ 67 [(5, .int v2), (4, .int v1), (0, .ref P), (1, .int a1), (2, .int a2), (3, .int a3)] [.int v7] (M, w)))
  exact Tt.ret (Tr.iret rfl rfl)
theorem c_X3_turn (g : fm_G) (l : Launch) (hl : l.stackTraces = false) (P : Nat) (a1 : Int32) (a2 : Int32) (a3 : Int32) (hP : fm_kd g P = 3) (M : fm_Mem) (w : fm_W) : ∀ r, f_X3_turn P a1 a2 a3 M = some r → fC g l z_X3_turn [.ref P, .int a1, .int a2, .int a3] (M, w) (emI M w r) := fun r hr => fC.of (by decide) rfl o_X3_turn hl (Nat.le_of_ble_eq_true rfl) (t_X3_turn g l hl P a1 a2 a3 hP M w r hr)
def k_X4_clear : List (Nat × Instr × Nat) := [(0, .iconst 0, 1), (1, .istore_n 1, 1), (2, .iload_n 1, 1), (3, .aload_n 0, 1), (4, .getfield 13, 3), (7, .arraylength, 1), (8, .if_icmp .ge 16, 3), (11, .aload_n 0, 1), (12, .getfield 13, 3), (15, .iload_n 1, 1), (16, .iconst 0, 1), (17, .iastore, 1), (18, .iinc 1 1, 3), (21, .goto (-19), 3), (24, .return_, 1)]
def z_X4_clear : fm_Y := (yX4_clear, RX4, cX4_clear, 2, none, k_X4_clear, 0, 0)
theorem o_X4_clear : fm_dec z_X4_clear := (by decide +kernel : ∀ q ∈ k_X4_clear, decode cX4_clear q.1 = .ok q.2)
theorem cw_X4_clear : fm_cwV z_X4_clear := ⟨⟨lw_in 658 (by decide +kernel) (by decide +kernel), lw_in 93 (by decide +kernel) (by decide +kernel), by decide, by decide⟩, lw_in 656 (by decide +kernel) (by decide +kernel), lw_in 657 (by decide +kernel) (by decide +kernel)⟩
theorem pn_X4_clear : (parseMethodDescriptor z_X4_clear.1.desc).map (fun d => d.parameters.length) = some 0 := by decide +kernel
def f_X4_clear_2 (P : Nat) (nP : Nat) : Nat → Int32 → fm_Mem → Option (fm_Mem)
  | 0, _, _ => none
  | n + 1, x1, M => if (Int32.ofNat nP) ≤ x1 then (some (M)) else (fm_ck (fm_in x1 nP) (f_X4_clear_2 P nP n (x1 + (1 : Int32)) (fm_up M (P + 1) (Int32.toNatClampNeg x1) (0 : Int32))))
theorem t_X4_clear_2 (g : fm_G) (l : Launch) (hl : l.stackTraces = false) (P : Nat) (nP : Nat) (hP : fm_kd g P = 4) (hP1 : fm_kd g (P + 1) = 100 + nP) (hP9 : nP < 9000) (w : fm_W) (M0 : fm_Mem)  : ∀ (n : Nat) (x1 : Int32)  (M : fm_Mem), Tt g l z_X4_clear (emVw M0 w) (f_X4_clear_2 P nP  n x1 M) 2 [(0, .ref P), (1, .int x1)] [] (M, w) := by
  intro n
  induction n with
  | zero => intros; exact Tt.none
  | succ n ih =>
    intro x1  M
    rw [f_X4_clear_2]
    refine Tt.go (fun _ => Tr.run 2 (pc' := 4) (lv' := [(0, .ref P), (1, .int x1)]) (st' := [.ref P, .int x1]) rfl) ?_
    refine Tt.go (fun _ => Tr.get fmc4 hP rfl fw138 (k := 0) (by decide) rfl) (?_ : Tt g l z_X4_clear (emVw M0 w) _ 7 [(0, .ref P), (1, .int x1)] [.ref (P + 1), .int x1] (M, w))
    refine Tt.go (fun _ => Tr.alen hP1 hP9 rfl) (?_ : Tt g l z_X4_clear (emVw M0 w) _ 8 [(0, .ref P), (1, .int x1)] [.int (Int32.ofNat nP), .int x1] (M, w))
    refine Tt.ic_ge (tgt := 24) rfl (by decide) ?_ ?_
    · exact Tt.ret (Tr.vret rfl rfl)
    · refine Tt.go (fun _ => Tr.run 1 (pc' := 12) (lv' := [(0, .ref P), (1, .int x1)]) (st' := [.ref P]) rfl) ?_
      refine Tt.go (fun _ => Tr.get fmc4 hP rfl fw138 (k := 0) (by decide) rfl) (?_ : Tt g l z_X4_clear (emVw M0 w) _ 15 [(0, .ref P), (1, .int x1)] [.ref (P + 1)] (M, w))
      refine Tt.go (fun _ => Tr.run 2 (pc' := 17) (lv' := [(0, .ref P), (1, .int x1)]) (st' := [.int (0 : Int32), .int x1, .ref (P + 1)]) rfl) ?_
      refine Tt.ck (fun hi1 => ?_)
      refine Tt.go (fun _ => Tr.iast hP1 hP9 hi1 rfl) (?_ : Tt g l z_X4_clear (emVw M0 w) _ 18 [(0, .ref P), (1, .int x1)] [] ((fm_up M (P + 1) (Int32.toNatClampNeg x1) (0 : Int32)), w))
      refine Tt.go (fun _ => Tr.run 2 (pc' := 2) (lv' := [(1, .int (x1 + (1 : Int32))), (0, .ref P)]) (st' := []) rfl) ?_
      refine Tt.go (fun _ => Tr.sub (lv' := [(0, .ref P), (1, .int (x1 + (1 : Int32)))]) [1, 0] rfl) ?_
      exact ih (x1 + (1 : Int32)) (fm_up M (P + 1) (Int32.toNatClampNeg x1) (0 : Int32))
def f_X4_clear (P : Nat) (nP : Nat) (M : fm_Mem) : Option (fm_Mem) := (f_X4_clear_2 P nP fm_fuel (0 : Int32) M)
theorem t_X4_clear (g : fm_G) (l : Launch) (hl : l.stackTraces = false) (P : Nat) (nP : Nat) (hP : fm_kd g P = 4) (hP1 : fm_kd g (P + 1) = 100 + nP) (hP9 : nP < 9000) (M : fm_Mem) (w : fm_W) : Tt g l z_X4_clear (emVw M w) (f_X4_clear P nP M) 0 [(0, .ref P)] [] (M, w) := by
  rw [f_X4_clear]
  refine Tt.go (fun _ => Tr.run 2 (pc' := 2) (lv' := [(1, .int (0 : Int32)), (0, .ref P)]) (st' := []) rfl) ?_
  refine Tt.go (fun _ => Tr.sub (lv' := [(0, .ref P), (1, .int (0 : Int32))]) [1, 0] rfl) ?_
  exact t_X4_clear_2 g l hl P nP hP hP1 hP9 w M fm_fuel (0 : Int32) M
theorem c_X4_clear (g : fm_G) (l : Launch) (hl : l.stackTraces = false) (P : Nat) (nP : Nat) (hP : fm_kd g P = 4) (hP1 : fm_kd g (P + 1) = 100 + nP) (hP9 : nP < 9000) (M : fm_Mem) (w : fm_W) : ∀ r, f_X4_clear P nP M = some r → fC g l z_X4_clear [.ref P] (M, w) (emVw M w r) := fun r hr => fC.of (by decide) rfl o_X4_clear hl (Nat.le_of_ble_eq_true rfl) (t_X4_clear g l hl P nP hP hP1 hP9 M w r hr)
def k_X4_copyFrom : List (Nat × Instr × Nat) := [(0, .aload_n 0, 1), (1, .getfield 13, 3), (4, .arraylength, 1), (5, .aload_n 1, 1), (6, .getfield 13, 3), (9, .arraylength, 1), (10, .invokestatic 19, 3), (13, .istore_n 2, 1), (14, .aload_n 1, 1), (15, .getfield 13, 3), (18, .iconst 0, 1), (19, .aload_n 0, 1), (20, .getfield 13, 3), (23, .iconst 0, 1), (24, .iload_n 2, 1), (25, .invokestatic 22, 3), (28, .return_, 1)]
def z_X4_copyFrom : fm_Y := (yX4_copyFrom, RX4, cX4_copyFrom, 3, none, k_X4_copyFrom, 1, 40)
theorem o_X4_copyFrom : fm_dec z_X4_copyFrom := (by decide +kernel : ∀ q ∈ k_X4_copyFrom, decode cX4_copyFrom q.1 = .ok q.2)
theorem cw_X4_copyFrom : fm_cwV z_X4_copyFrom := ⟨⟨lw_in 408 (by decide +kernel) (by decide +kernel), lw_in 93 (by decide +kernel) (by decide +kernel), by decide, by decide⟩, lw_in 406 (by decide +kernel) (by decide +kernel), lw_in 407 (by decide +kernel) (by decide +kernel)⟩
theorem pn_X4_copyFrom : (parseMethodDescriptor z_X4_copyFrom.1.desc).map (fun d => d.parameters.length) = some 1 := by decide +kernel
def f_X4_copyFrom (P : Nat) (nP : Nat) (r1 : Nat) (nr1 : Nat) (M : fm_Mem) : Option (fm_Mem) := fm_ck (fm_cin (fm_min (Int32.ofNat nP) (Int32.ofNat nr1)) nr1 nP) (some ((fm_cp M (r1 + 1) (P + 1) (Int32.toNatClampNeg (fm_min (Int32.ofNat nP) (Int32.ofNat nr1))))))
theorem t_X4_copyFrom (g : fm_G) (l : Launch) (hl : l.stackTraces = false) (P : Nat) (nP : Nat) (r1 : Nat) (nr1 : Nat) (hP : fm_kd g P = 4) (hP1 : fm_kd g (P + 1) = 100 + nP) (hP9 : nP < 9000) (hr1 : fm_kd g r1 = 4) (hr11 : fm_kd g (r1 + 1) = 100 + nr1) (hr19 : nr1 < 9000) (M : fm_Mem) (w : fm_W) : Tt g l z_X4_copyFrom (emVw M w) (f_X4_copyFrom P nP r1 nr1 M) 0 [(0, .ref P), (1, .ref r1)] [] (M, w) := by
  rw [f_X4_copyFrom]
  refine Tt.go (fun _ => Tr.run 1 (pc' := 1) (lv' := [(0, .ref P), (1, .ref r1)]) (st' := [.ref P]) rfl) ?_
  refine Tt.go (fun _ => Tr.get fmc4 hP rfl fw138 (k := 0) (by decide) rfl) (?_ : Tt g l z_X4_copyFrom (emVw M w) _ 4 [(0, .ref P), (1, .ref r1)] [.ref (P + 1)] (M, w))
  refine Tt.go (fun _ => Tr.alen hP1 hP9 rfl) (?_ : Tt g l z_X4_copyFrom (emVw M w) _ 5 [(0, .ref P), (1, .ref r1)] [.int (Int32.ofNat nP)] (M, w))
  refine Tt.go (fun _ => Tr.run 1 (pc' := 6) (lv' := [(0, .ref P), (1, .ref r1)]) (st' := [.ref r1, .int (Int32.ofNat nP)]) rfl) ?_
  refine Tt.go (fun _ => Tr.get fmc4 hr1 rfl fw138 (k := 0) (by decide) rfl) (?_ : Tt g l z_X4_copyFrom (emVw M w) _ 9 [(0, .ref P), (1, .ref r1)] [.ref (r1 + 1), .int (Int32.ofNat nP)] (M, w))
  refine Tt.go (fun _ => Tr.alen hr11 hr19 rfl) (?_ : Tt g l z_X4_copyFrom (emVw M w) _ 10 [(0, .ref P), (1, .ref r1)] [.int (Int32.ofNat nr1), .int (Int32.ofNat nP)] (M, w))
  refine Tt.go (fun _ => Tr.min rfl ⟨fw409, fw410, fw94, fw411⟩ (Nat.le_of_ble_eq_true rfl) (Nat.le_of_ble_eq_true rfl)) (?_ : Tt g l z_X4_copyFrom (emVw M w) _ 13 [(0, .ref P), (1, .ref r1)] [.int (fm_min (Int32.ofNat nP) (Int32.ofNat nr1))] (M, w))
  refine Tt.go (fun _ => Tr.run 2 (pc' := 15) (lv' := [(2, .int (fm_min (Int32.ofNat nP) (Int32.ofNat nr1))), (0, .ref P), (1, .ref r1)]) (st' := [.ref r1]) rfl) ?_
  refine Tt.go (fun _ => Tr.get fmc4 hr1 rfl fw138 (k := 0) (by decide) rfl) (?_ : Tt g l z_X4_copyFrom (emVw M w) _ 18 [(2, .int (fm_min (Int32.ofNat nP) (Int32.ofNat nr1))), (0, .ref P), (1, .ref r1)] [.ref (r1 + 1)] (M, w))
  refine Tt.go (fun _ => Tr.run 2 (pc' := 20) (lv' := [(2, .int (fm_min (Int32.ofNat nP) (Int32.ofNat nr1))), (0, .ref P), (1, .ref r1)]) (st' := [.ref P, .int (0 : Int32), .ref (r1 + 1)]) rfl) ?_
  refine Tt.go (fun _ => Tr.get fmc4 hP rfl fw138 (k := 0) (by decide) rfl) (?_ : Tt g l z_X4_copyFrom (emVw M w) _ 23 [(2, .int (fm_min (Int32.ofNat nP) (Int32.ofNat nr1))), (0, .ref P), (1, .ref r1)] [.ref (P + 1), .int (0 : Int32), .ref (r1 + 1)] (M, w))
  refine Tt.go (fun _ => Tr.run 2 (pc' := 25) (lv' := [(2, .int (fm_min (Int32.ofNat nP) (Int32.ofNat nr1))), (0, .ref P), (1, .ref r1)]) (st' := [.int (fm_min (Int32.ofNat nP) (Int32.ofNat nr1)), .int (0 : Int32), .ref (P + 1), .int (0 : Int32), .ref (r1 + 1)]) rfl) ?_
  refine Tt.ck (fun hc1 => ?_)
  refine Tt.go (fun _ => Tr.acopy hr11 hP1 hr19 hP9 rfl ⟨fw412, fw414, fw413, fw108⟩ hc1 (Nat.le_of_ble_eq_true rfl) (Nat.le_of_ble_eq_true rfl)) (?_ : Tt g l z_X4_copyFrom (emVw M w) _ 28 [(2, .int (fm_min (Int32.ofNat nP) (Int32.ofNat nr1))), (0, .ref P), (1, .ref r1)] [] ((fm_cp M (r1 + 1) (P + 1) (Int32.toNatClampNeg (fm_min (Int32.ofNat nP) (Int32.ofNat nr1)))), w))
  exact Tt.ret (Tr.vret rfl rfl)
theorem c_X4_copyFrom (g : fm_G) (l : Launch) (hl : l.stackTraces = false) (P : Nat) (nP : Nat) (r1 : Nat) (nr1 : Nat) (hP : fm_kd g P = 4) (hP1 : fm_kd g (P + 1) = 100 + nP) (hP9 : nP < 9000) (hr1 : fm_kd g r1 = 4) (hr11 : fm_kd g (r1 + 1) = 100 + nr1) (hr19 : nr1 < 9000) (M : fm_Mem) (w : fm_W) : ∀ r, f_X4_copyFrom P nP r1 nr1 M = some r → fC g l z_X4_copyFrom [.ref P, .ref r1] (M, w) (emVw M w r) := fun r hr => fC.of (by decide) rfl o_X4_copyFrom hl (Nat.le_of_ble_eq_true rfl) (t_X4_copyFrom g l hl P nP r1 nr1 hP hP1 hP9 hr1 hr11 hr19 M w r hr)
def k_X4_insert : List (Nat × Instr × Nat) := [(0, .iload_n 2, 1), (1, .aload_n 0, 1), (2, .getfield 13, 3), (5, .arraylength, 1), (6, .iconst 1, 1), (7, .isub, 1), (8, .invokestatic 19, 3), (11, .istore 4, 2), (13, .iload 4, 2), (15, .iload_n 1, 1), (16, .if_icmp .le 23, 3), (19, .aload_n 0, 1), (20, .iload 4, 2), (22, .aload_n 0, 1), (23, .iload 4, 2), (25, .iconst 1, 1), (26, .isub, 1), (27, .invokevirtual 28, 3), (30, .invokevirtual 32, 3), (33, .iinc 4 (-1), 3), (36, .goto (-23), 3), (39, .aload_n 0, 1), (40, .iload_n 1, 1), (41, .iload_n 3, 1), (42, .invokevirtual 32, 3), (45, .return_, 1)]
def z_X4_insert : fm_Y := (yX4_insert, RX4, cX4_insert, 5, none, k_X4_insert, 1, 22)
theorem o_X4_insert : fm_dec z_X4_insert := (by decide +kernel : ∀ q ∈ k_X4_insert, decode cX4_insert q.1 = .ok q.2)
theorem cw_X4_insert : fm_cwV z_X4_insert := ⟨⟨lw_in 792 (by decide +kernel) (by decide +kernel), lw_in 93 (by decide +kernel) (by decide +kernel), by decide, by decide⟩, lw_in 790 (by decide +kernel) (by decide +kernel), lw_in 791 (by decide +kernel) (by decide +kernel)⟩
theorem pn_X4_insert : (parseMethodDescriptor z_X4_insert.1.desc).map (fun d => d.parameters.length) = some 3 := by decide +kernel
def f_X4_insert_13 (P : Nat) (nP : Nat) (a1 : Int32) (a2 : Int32) (a3 : Int32) : Nat → Int32 → fm_Mem → Option (fm_Mem)
  | 0, _, _ => none
  | n + 1, x4, M => if x4 ≤ a1 then (Option.bind (f_X4_set P nP a1 a3 M) (fun v1 => some (v1))) else (Option.bind (f_X4_get P nP (x4 - (1 : Int32)) M) (fun v2 => Option.bind (f_X4_set P nP x4 v2 M) (fun v3 => (f_X4_insert_13 P nP a1 a2 a3 n (x4 + (-1 : Int32)) v3))))
theorem t_X4_insert_13 (g : fm_G) (l : Launch) (hl : l.stackTraces = false) (P : Nat) (nP : Nat) (a1 : Int32) (a2 : Int32) (a3 : Int32) (hP : fm_kd g P = 4) (hP1 : fm_kd g (P + 1) = 100 + nP) (hP9 : nP < 9000) (w : fm_W) (M0 : fm_Mem)  : ∀ (n : Nat) (x4 : Int32)  (M : fm_Mem), Tt g l z_X4_insert (emVw M0 w) (f_X4_insert_13 P nP a1 a2 a3  n x4 M) 13 [(0, .ref P), (1, .int a1), (3, .int a3), (4, .int x4)] [] (M, w) := by
  intro n
  induction n with
  | zero => intros; exact Tt.none
  | succ n ih =>
    intro x4  M
    rw [f_X4_insert_13]
    refine Tt.go (fun _ => Tr.run 2 (pc' := 16) (lv' := [(0, .ref P), (1, .int a1), (3, .int a3), (4, .int x4)]) (st' := [.int a1, .int x4]) rfl) ?_
    refine Tt.ic_le (tgt := 39) rfl (by decide) ?_ ?_
    · refine Tt.go (fun _ => Tr.run 3 (pc' := 42) (lv' := [(0, .ref P), (1, .int a1), (3, .int a3), (4, .int x4)]) (st' := [.int a3, .int a1, .ref P]) rfl) ?_
      refine Tt.callV (As := [.int a1, .int a3]) (rest := []) (c_X4_set g l hl P nP a1 a3 hP hP1 hP9 M w) hP (by decide) rfl rfl cw_X4_set fw794 pn_X4_set (Nat.le_of_ble_eq_true rfl) (Nat.le_of_ble_eq_true rfl) (Nat.le_of_ble_eq_true rfl) rfl (fun v1 => (?_ : Tt g l z_X4_insert (emVw M0 w) _ 45 [(0, .ref P), (1, .int a1), (3, .int a3), (4, .int x4)] [] (v1, w)))
      exact Tt.ret (Tr.vret rfl rfl)
    · refine Tt.go (fun _ => Tr.run 6 (pc' := 27) (lv' := [(0, .ref P), (1, .int a1), (3, .int a3), (4, .int x4)]) (st' := [.int (x4 - (1 : Int32)), .ref P, .int x4, .ref P]) rfl) ?_
      refine Tt.callV (As := [.int (x4 - (1 : Int32))]) (rest := [.int x4, .ref P]) (c_X4_get g l hl P nP (x4 - (1 : Int32)) hP hP1 hP9 M w) hP (by decide) rfl rfl cw_X4_get fw793 pn_X4_get (Nat.le_of_ble_eq_true rfl) (Nat.le_of_ble_eq_true rfl) (Nat.le_of_ble_eq_true rfl) rfl (fun v2 => (?_ : Tt g l z_X4_insert (emVw M0 w) _ 30 [(0, .ref P), (1, .int a1), (3, .int a3), (4, .int x4)] [.int v2, .int x4, .ref P] (M, w)))
      refine Tt.callV (As := [.int x4, .int v2]) (rest := []) (c_X4_set g l hl P nP x4 v2 hP hP1 hP9 M w) hP (by decide) rfl rfl cw_X4_set fw794 pn_X4_set (Nat.le_of_ble_eq_true rfl) (Nat.le_of_ble_eq_true rfl) (Nat.le_of_ble_eq_true rfl) rfl (fun v3 => (?_ : Tt g l z_X4_insert (emVw M0 w) _ 33 [(0, .ref P), (1, .int a1), (3, .int a3), (4, .int x4)] [] (v3, w)))
      refine Tt.go (fun _ => Tr.run 2 (pc' := 13) (lv' := [(4, .int (x4 + (-1 : Int32))), (0, .ref P), (1, .int a1), (3, .int a3)]) (st' := []) rfl) ?_
      refine Tt.go (fun _ => Tr.sub (lv' := [(0, .ref P), (1, .int a1), (3, .int a3), (4, .int (x4 + (-1 : Int32)))]) [1, 2, 3, 0] rfl) ?_
      exact ih (x4 + (-1 : Int32)) v3
def f_X4_insert (P : Nat) (nP : Nat) (a1 : Int32) (a2 : Int32) (a3 : Int32) (M : fm_Mem) : Option (fm_Mem) := (f_X4_insert_13 P nP a1 a2 a3 fm_fuel (fm_min a2 ((Int32.ofNat nP) - (1 : Int32))) M)
theorem t_X4_insert (g : fm_G) (l : Launch) (hl : l.stackTraces = false) (P : Nat) (nP : Nat) (a1 : Int32) (a2 : Int32) (a3 : Int32) (hP : fm_kd g P = 4) (hP1 : fm_kd g (P + 1) = 100 + nP) (hP9 : nP < 9000) (M : fm_Mem) (w : fm_W) : Tt g l z_X4_insert (emVw M w) (f_X4_insert P nP a1 a2 a3 M) 0 [(0, .ref P), (1, .int a1), (2, .int a2), (3, .int a3)] [] (M, w) := by
  rw [f_X4_insert]
  refine Tt.go (fun _ => Tr.run 2 (pc' := 2) (lv' := [(0, .ref P), (1, .int a1), (2, .int a2), (3, .int a3)]) (st' := [.ref P, .int a2]) rfl) ?_
  refine Tt.go (fun _ => Tr.get fmc4 hP rfl fw138 (k := 0) (by decide) rfl) (?_ : Tt g l z_X4_insert (emVw M w) _ 5 [(0, .ref P), (1, .int a1), (2, .int a2), (3, .int a3)] [.ref (P + 1), .int a2] (M, w))
  refine Tt.go (fun _ => Tr.alen hP1 hP9 rfl) (?_ : Tt g l z_X4_insert (emVw M w) _ 6 [(0, .ref P), (1, .int a1), (2, .int a2), (3, .int a3)] [.int (Int32.ofNat nP), .int a2] (M, w))
  refine Tt.go (fun _ => Tr.run 2 (pc' := 8) (lv' := [(0, .ref P), (1, .int a1), (2, .int a2), (3, .int a3)]) (st' := [.int ((Int32.ofNat nP) - (1 : Int32)), .int a2]) rfl) ?_
  refine Tt.go (fun _ => Tr.min rfl ⟨fw409, fw410, fw94, fw411⟩ (Nat.le_of_ble_eq_true rfl) (Nat.le_of_ble_eq_true rfl)) (?_ : Tt g l z_X4_insert (emVw M w) _ 11 [(0, .ref P), (1, .int a1), (2, .int a2), (3, .int a3)] [.int (fm_min a2 ((Int32.ofNat nP) - (1 : Int32)))] (M, w))
  refine Tt.go (fun _ => Tr.run 1 (pc' := 13) (lv' := [(4, .int (fm_min a2 ((Int32.ofNat nP) - (1 : Int32)))), (0, .ref P), (1, .int a1), (2, .int a2), (3, .int a3)]) (st' := []) rfl) ?_
  refine Tt.go (fun _ => Tr.sub (lv' := [(0, .ref P), (1, .int a1), (3, .int a3), (4, .int (fm_min a2 ((Int32.ofNat nP) - (1 : Int32))))]) [1, 2, 4, 0] rfl) ?_
  exact t_X4_insert_13 g l hl P nP a1 a2 a3 hP hP1 hP9 w M fm_fuel (fm_min a2 ((Int32.ofNat nP) - (1 : Int32))) M
theorem c_X4_insert (g : fm_G) (l : Launch) (hl : l.stackTraces = false) (P : Nat) (nP : Nat) (a1 : Int32) (a2 : Int32) (a3 : Int32) (hP : fm_kd g P = 4) (hP1 : fm_kd g (P + 1) = 100 + nP) (hP9 : nP < 9000) (M : fm_Mem) (w : fm_W) : ∀ r, f_X4_insert P nP a1 a2 a3 M = some r → fC g l z_X4_insert [.ref P, .int a1, .int a2, .int a3] (M, w) (emVw M w r) := fun r hr => fC.of (by decide) rfl o_X4_insert hl (Nat.le_of_ble_eq_true rfl) (t_X4_insert g l hl P nP a1 a2 a3 hP hP1 hP9 M w r hr)
def k_X4_remove : List (Nat × Instr × Nat) := [(0, .iload_n 1, 1), (1, .iconst 0, 1), (2, .invokestatic 7, 3), (5, .istore_n 2, 1), (6, .iload_n 2, 1), (7, .iconst 1, 1), (8, .iadd, 1), (9, .aload_n 0, 1), (10, .getfield 13, 3), (13, .arraylength, 1), (14, .if_icmp .ge 21, 3), (17, .aload_n 0, 1), (18, .iload_n 2, 1), (19, .aload_n 0, 1), (20, .iload_n 2, 1), (21, .iconst 1, 1), (22, .iadd, 1), (23, .invokevirtual 28, 3), (26, .invokevirtual 32, 3), (29, .iinc 2 1, 3), (32, .goto (-26), 3), (35, .return_, 1)]
def z_X4_remove : fm_Y := (yX4_remove, RX4, cX4_remove, 3, none, k_X4_remove, 1, 22)
theorem o_X4_remove : fm_dec z_X4_remove := (by decide +kernel : ∀ q ∈ k_X4_remove, decode cX4_remove q.1 = .ok q.2)
theorem cw_X4_remove : fm_cwV z_X4_remove := ⟨⟨lw_in 819 (by decide +kernel) (by decide +kernel), lw_in 93 (by decide +kernel) (by decide +kernel), by decide, by decide⟩, lw_in 817 (by decide +kernel) (by decide +kernel), lw_in 818 (by decide +kernel) (by decide +kernel)⟩
theorem pn_X4_remove : (parseMethodDescriptor z_X4_remove.1.desc).map (fun d => d.parameters.length) = some 1 := by decide +kernel
def f_X4_remove_6 (P : Nat) (nP : Nat) (a1 : Int32) : Nat → Int32 → fm_Mem → Option (fm_Mem)
  | 0, _, _ => none
  | n + 1, x2, M => if (Int32.ofNat nP) ≤ (x2 + (1 : Int32)) then (some (M)) else (Option.bind (f_X4_get P nP (x2 + (1 : Int32)) M) (fun v1 => Option.bind (f_X4_set P nP x2 v1 M) (fun v2 => (f_X4_remove_6 P nP a1 n (x2 + (1 : Int32)) v2))))
theorem t_X4_remove_6 (g : fm_G) (l : Launch) (hl : l.stackTraces = false) (P : Nat) (nP : Nat) (a1 : Int32) (hP : fm_kd g P = 4) (hP1 : fm_kd g (P + 1) = 100 + nP) (hP9 : nP < 9000) (w : fm_W) (M0 : fm_Mem)  : ∀ (n : Nat) (x2 : Int32)  (M : fm_Mem), Tt g l z_X4_remove (emVw M0 w) (f_X4_remove_6 P nP a1  n x2 M) 6 [(0, .ref P), (2, .int x2)] [] (M, w) := by
  intro n
  induction n with
  | zero => intros; exact Tt.none
  | succ n ih =>
    intro x2  M
    rw [f_X4_remove_6]
    refine Tt.go (fun _ => Tr.run 4 (pc' := 10) (lv' := [(0, .ref P), (2, .int x2)]) (st' := [.ref P, .int (x2 + (1 : Int32))]) rfl) ?_
    refine Tt.go (fun _ => Tr.get fmc4 hP rfl fw138 (k := 0) (by decide) rfl) (?_ : Tt g l z_X4_remove (emVw M0 w) _ 13 [(0, .ref P), (2, .int x2)] [.ref (P + 1), .int (x2 + (1 : Int32))] (M, w))
    refine Tt.go (fun _ => Tr.alen hP1 hP9 rfl) (?_ : Tt g l z_X4_remove (emVw M0 w) _ 14 [(0, .ref P), (2, .int x2)] [.int (Int32.ofNat nP), .int (x2 + (1 : Int32))] (M, w))
    refine Tt.ic_ge (tgt := 35) rfl (by decide) ?_ ?_
    · exact Tt.ret (Tr.vret rfl rfl)
    · refine Tt.go (fun _ => Tr.run 6 (pc' := 23) (lv' := [(0, .ref P), (2, .int x2)]) (st' := [.int (x2 + (1 : Int32)), .ref P, .int x2, .ref P]) rfl) ?_
      refine Tt.callV (As := [.int (x2 + (1 : Int32))]) (rest := [.int x2, .ref P]) (c_X4_get g l hl P nP (x2 + (1 : Int32)) hP hP1 hP9 M w) hP (by decide) rfl rfl cw_X4_get fw793 pn_X4_get (Nat.le_of_ble_eq_true rfl) (Nat.le_of_ble_eq_true rfl) (Nat.le_of_ble_eq_true rfl) rfl (fun v1 => (?_ : Tt g l z_X4_remove (emVw M0 w) _ 26 [(0, .ref P), (2, .int x2)] [.int v1, .int x2, .ref P] (M, w)))
      refine Tt.callV (As := [.int x2, .int v1]) (rest := []) (c_X4_set g l hl P nP x2 v1 hP hP1 hP9 M w) hP (by decide) rfl rfl cw_X4_set fw794 pn_X4_set (Nat.le_of_ble_eq_true rfl) (Nat.le_of_ble_eq_true rfl) (Nat.le_of_ble_eq_true rfl) rfl (fun v2 => (?_ : Tt g l z_X4_remove (emVw M0 w) _ 29 [(0, .ref P), (2, .int x2)] [] (v2, w)))
      refine Tt.go (fun _ => Tr.run 2 (pc' := 6) (lv' := [(2, .int (x2 + (1 : Int32))), (0, .ref P)]) (st' := []) rfl) ?_
      refine Tt.go (fun _ => Tr.sub (lv' := [(0, .ref P), (2, .int (x2 + (1 : Int32)))]) [1, 0] rfl) ?_
      exact ih (x2 + (1 : Int32)) v2
def f_X4_remove (P : Nat) (nP : Nat) (a1 : Int32) (M : fm_Mem) : Option (fm_Mem) := (f_X4_remove_6 P nP a1 fm_fuel (fm_max a1 (0 : Int32)) M)
theorem t_X4_remove (g : fm_G) (l : Launch) (hl : l.stackTraces = false) (P : Nat) (nP : Nat) (a1 : Int32) (hP : fm_kd g P = 4) (hP1 : fm_kd g (P + 1) = 100 + nP) (hP9 : nP < 9000) (M : fm_Mem) (w : fm_W) : Tt g l z_X4_remove (emVw M w) (f_X4_remove P nP a1 M) 0 [(0, .ref P), (1, .int a1)] [] (M, w) := by
  rw [f_X4_remove]
  refine Tt.go (fun _ => Tr.run 2 (pc' := 2) (lv' := [(0, .ref P), (1, .int a1)]) (st' := [.int (0 : Int32), .int a1]) rfl) ?_
  refine Tt.go (fun _ => Tr.max rfl ⟨fw135, fw136, fw94, fw137⟩ (Nat.le_of_ble_eq_true rfl) (Nat.le_of_ble_eq_true rfl)) (?_ : Tt g l z_X4_remove (emVw M w) _ 5 [(0, .ref P), (1, .int a1)] [.int (fm_max a1 (0 : Int32))] (M, w))
  refine Tt.go (fun _ => Tr.run 1 (pc' := 6) (lv' := [(2, .int (fm_max a1 (0 : Int32))), (0, .ref P), (1, .int a1)]) (st' := []) rfl) ?_
  refine Tt.go (fun _ => Tr.sub (lv' := [(0, .ref P), (2, .int (fm_max a1 (0 : Int32)))]) [1, 0] rfl) ?_
  exact t_X4_remove_6 g l hl P nP a1 hP hP1 hP9 w M fm_fuel (fm_max a1 (0 : Int32)) M
theorem c_X4_remove (g : fm_G) (l : Launch) (hl : l.stackTraces = false) (P : Nat) (nP : Nat) (a1 : Int32) (hP : fm_kd g P = 4) (hP1 : fm_kd g (P + 1) = 100 + nP) (hP9 : nP < 9000) (M : fm_Mem) (w : fm_W) : ∀ r, f_X4_remove P nP a1 M = some r → fC g l z_X4_remove [.ref P, .int a1] (M, w) (emVw M w r) := fun r hr => fC.of (by decide) rfl o_X4_remove hl (Nat.le_of_ble_eq_true rfl) (t_X4_remove g l hl P nP a1 hP hP1 hP9 M w r hr)
def k_X3_find : List (Nat × Instr × Nat) := [(0, .iconst 0, 1), (1, .istore_n 3, 1), (2, .iload_n 3, 1), (3, .aload_n 0, 1), (4, .getfield 23, 3), (7, .if_icmp .ge 35, 3), (10, .aload_n 0, 1), (11, .getfield 14, 3), (14, .iload_n 3, 1), (15, .invokevirtual 27, 3), (18, .iload_n 1, 1), (19, .if_icmp .ne 17, 3), (22, .aload_n 0, 1), (23, .getfield 20, 3), (26, .iload_n 3, 1), (27, .invokevirtual 27, 3), (30, .iload_n 2, 1), (31, .if_icmp .ne 5, 3), (34, .iload_n 3, 1), (35, .ireturn, 1), (36, .iinc 3 1, 3), (39, .goto (-37), 3), (42, .iconst (-1), 1), (43, .ireturn, 1)]
def z_X3_find : fm_Y := (yX3_find, RX3, cX3_find, 4, (some .int), k_X3_find, 1, 21)
theorem o_X3_find : fm_dec z_X3_find := (by decide +kernel : ∀ q ∈ k_X3_find, decode cX3_find q.1 = .ok q.2)
theorem cw_X3_find : fm_cwV z_X3_find := ⟨⟨lw_in 754 (by decide +kernel) (by decide +kernel), lw_in 96 (by decide +kernel) (by decide +kernel), by decide, by decide⟩, lw_in 752 (by decide +kernel) (by decide +kernel), lw_in 753 (by decide +kernel) (by decide +kernel)⟩
theorem pn_X3_find : (parseMethodDescriptor z_X3_find.1.desc).map (fun d => d.parameters.length) = some 2 := by decide +kernel
def f_X3_find_36 (P : Nat) (a1 : Int32) (a2 : Int32) (k2 : Int32 → fm_Mem → Option (Int32)) (x3 : Int32) (M : fm_Mem) : Option (Int32) := (k2 (x3 + (1 : Int32)) M)
theorem t_X3_find_36 (g : fm_G) (l : Launch) (hl : l.stackTraces = false) (P : Nat) (a1 : Int32) (a2 : Int32) (hP : fm_kd g P = 3) (w : fm_W) (k2 : Int32 → fm_Mem → Option (Int32)) (hk2 : ∀ (x3 : Int32) (M : fm_Mem), Tt g l z_X3_find (emI M w) (k2 x3 M) 2 [(0, .ref P), (1, .int a1), (2, .int a2), (3, .int x3)] [] (M, w)) (x3 : Int32)  (M : fm_Mem) : Tt g l z_X3_find (emI M w) (f_X3_find_36 P a1 a2 k2 x3 M) 36 [(0, .ref P), (1, .int a1), (2, .int a2), (3, .int x3)] [] (M, w) := by
  rw [f_X3_find_36]
  refine Tt.go (fun _ => Tr.run 2 (pc' := 2) (lv' := [(3, .int (x3 + (1 : Int32))), (0, .ref P), (1, .int a1), (2, .int a2)]) (st' := []) rfl) ?_
  refine Tt.go (fun _ => Tr.sub (lv' := [(0, .ref P), (1, .int a1), (2, .int a2), (3, .int (x3 + (1 : Int32)))]) [1, 2, 3, 0] rfl) ?_
  exact hk2 (x3 + (1 : Int32)) M
def f_X3_find_2 (P : Nat) (a1 : Int32) (a2 : Int32) : Nat → Int32 → fm_Mem → Option (Int32)
  | 0, _, _ => none
  | n + 1, x3, M => if (M P 2) ≤ x3 then (some ((-1 : Int32))) else (Option.bind (f_X4_get (P + 1) 20 x3 M) (fun v1 => if v1 = a1 then (Option.bind (f_X4_get (P + 3) 20 x3 M) (fun v2 => if v2 = a2 then (some (x3)) else (f_X3_find_36 P a1 a2 (fun x3 M => f_X3_find_2 P a1 a2 n x3 M) x3 M))) else (f_X3_find_36 P a1 a2 (fun x3 M => f_X3_find_2 P a1 a2 n x3 M) x3 M)))
theorem t_X3_find_2 (g : fm_G) (l : Launch) (hl : l.stackTraces = false) (P : Nat) (a1 : Int32) (a2 : Int32) (hP : fm_kd g P = 3) (w : fm_W)  : ∀ (n : Nat) (x3 : Int32)  (M : fm_Mem), Tt g l z_X3_find (emI M w) (f_X3_find_2 P a1 a2  n x3 M) 2 [(0, .ref P), (1, .int a1), (2, .int a2), (3, .int x3)] [] (M, w) := by
  intro n
  induction n with
  | zero => intros; exact Tt.none
  | succ n ih =>
    intro x3  M
    rw [f_X3_find_2]
    refine Tt.go (fun _ => Tr.run 2 (pc' := 4) (lv' := [(0, .ref P), (1, .int a1), (2, .int a2), (3, .int x3)]) (st' := [.ref P, .int x3]) rfl) ?_
    refine Tt.go (fun _ => Tr.get fmc3 hP rfl fw159 (k := 2) (by decide) rfl) (?_ : Tt g l z_X3_find (emI M w) _ 7 [(0, .ref P), (1, .int a1), (2, .int a2), (3, .int x3)] [.int (M P 2), .int x3] (M, w))
    refine Tt.ic_ge (tgt := 42) rfl (by decide) ?_ ?_
    · refine Tt.go (fun _ => Tr.run 1 (pc' := 43) (lv' := [(0, .ref P), (1, .int a1), (2, .int a2), (3, .int x3)]) (st' := [.int (-1 : Int32)]) rfl) ?_
      exact Tt.ret (Tr.iret rfl rfl)
    · refine Tt.go (fun _ => Tr.run 1 (pc' := 11) (lv' := [(0, .ref P), (1, .int a1), (2, .int a2), (3, .int x3)]) (st' := [.ref P]) rfl) ?_
      refine Tt.go (fun _ => Tr.get fmc3 hP rfl fw157 (k := 0) (by decide) rfl) (?_ : Tt g l z_X3_find (emI M w) _ 14 [(0, .ref P), (1, .int a1), (2, .int a2), (3, .int x3)] [.ref (P + 1)] (M, w))
      refine Tt.go (fun _ => Tr.run 1 (pc' := 15) (lv' := [(0, .ref P), (1, .int a1), (2, .int a2), (3, .int x3)]) (st' := [.int x3, .ref (P + 1)]) rfl) ?_
      refine Tt.callV (As := [.int x3]) (rest := []) (c_X4_get g l hl (P + 1) 20 x3 (fmk_3_0 hP) (fmn_3_0 hP) (by decide) M w) (fmk_3_0 hP) (by decide) rfl rfl cw_X4_get fw337 pn_X4_get (Nat.le_of_ble_eq_true rfl) (Nat.le_of_ble_eq_true rfl) (Nat.le_of_ble_eq_true rfl) rfl (fun v1 => (?_ : Tt g l z_X3_find (emI M w) _ 18 [(0, .ref P), (1, .int a1), (2, .int a2), (3, .int x3)] [.int v1] (M, w)))
      refine Tt.go (fun _ => Tr.run 1 (pc' := 19) (lv' := [(0, .ref P), (1, .int a1), (2, .int a2), (3, .int x3)]) (st' := [.int a1, .int v1]) rfl) ?_
      refine Tt.ic_ne (tgt := 36) rfl (by decide) ?_ ?_
      · refine Tt.go (fun _ => Tr.run 1 (pc' := 23) (lv' := [(0, .ref P), (1, .int a1), (2, .int a2), (3, .int x3)]) (st' := [.ref P]) rfl) ?_
        refine Tt.go (fun _ => Tr.get fmc3 hP rfl fw158 (k := 1) (by decide) rfl) (?_ : Tt g l z_X3_find (emI M w) _ 26 [(0, .ref P), (1, .int a1), (2, .int a2), (3, .int x3)] [.ref (P + 3)] (M, w))
        refine Tt.go (fun _ => Tr.run 1 (pc' := 27) (lv' := [(0, .ref P), (1, .int a1), (2, .int a2), (3, .int x3)]) (st' := [.int x3, .ref (P + 3)]) rfl) ?_
        refine Tt.callV (As := [.int x3]) (rest := []) (c_X4_get g l hl (P + 3) 20 x3 (fmk_3_1 hP) (fmn_3_1 hP) (by decide) M w) (fmk_3_1 hP) (by decide) rfl rfl cw_X4_get fw337 pn_X4_get (Nat.le_of_ble_eq_true rfl) (Nat.le_of_ble_eq_true rfl) (Nat.le_of_ble_eq_true rfl) rfl (fun v2 => (?_ : Tt g l z_X3_find (emI M w) _ 30 [(0, .ref P), (1, .int a1), (2, .int a2), (3, .int x3)] [.int v2] (M, w)))
        refine Tt.go (fun _ => Tr.run 1 (pc' := 31) (lv' := [(0, .ref P), (1, .int a1), (2, .int a2), (3, .int x3)]) (st' := [.int a2, .int v2]) rfl) ?_
        refine Tt.ic_ne (tgt := 36) rfl (by decide) ?_ ?_
        · refine Tt.go (fun _ => Tr.run 1 (pc' := 35) (lv' := [(0, .ref P), (1, .int a1), (2, .int a2), (3, .int x3)]) (st' := [.int x3]) rfl) ?_
          exact Tt.ret (Tr.iret rfl rfl)
        · exact t_X3_find_36 g l hl P a1 a2 hP w _ ih x3 M
      · exact t_X3_find_36 g l hl P a1 a2 hP w _ ih x3 M
def f_X3_find (P : Nat) (a1 : Int32) (a2 : Int32) (M : fm_Mem) : Option (Int32) := (f_X3_find_2 P a1 a2 fm_fuel (0 : Int32) M)
theorem t_X3_find (g : fm_G) (l : Launch) (hl : l.stackTraces = false) (P : Nat) (a1 : Int32) (a2 : Int32) (hP : fm_kd g P = 3) (M : fm_Mem) (w : fm_W) : Tt g l z_X3_find (emI M w) (f_X3_find P a1 a2 M) 0 [(0, .ref P), (1, .int a1), (2, .int a2)] [] (M, w) := by
  rw [f_X3_find]
  refine Tt.go (fun _ => Tr.run 2 (pc' := 2) (lv' := [(3, .int (0 : Int32)), (0, .ref P), (1, .int a1), (2, .int a2)]) (st' := []) rfl) ?_
  refine Tt.go (fun _ => Tr.sub (lv' := [(0, .ref P), (1, .int a1), (2, .int a2), (3, .int (0 : Int32))]) [1, 2, 3, 0] rfl) ?_
  exact t_X3_find_2 g l hl P a1 a2 hP w fm_fuel (0 : Int32) M
theorem c_X3_find (g : fm_G) (l : Launch) (hl : l.stackTraces = false) (P : Nat) (a1 : Int32) (a2 : Int32) (hP : fm_kd g P = 3) (M : fm_Mem) (w : fm_W) : ∀ r, f_X3_find P a1 a2 M = some r → fC g l z_X3_find [.ref P, .int a1, .int a2] (M, w) (emI M w r) := fun r hr => fC.of (by decide) rfl o_X3_find hl (Nat.le_of_ble_eq_true rfl) (t_X3_find g l hl P a1 a2 hP M w r hr)
end
