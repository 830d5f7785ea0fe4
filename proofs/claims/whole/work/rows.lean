section
-- ===== PART A: goes FIRST, ahead of the names: the tables' words, and 'selects' of the private methods out of them =====
/-- a private method of a class that the tables say can be made, by its rows of tables_1 -/
def lw_okq (q : MethodName × Nat) : Prop := (q.1.cls ≠ "java/lang/invoke/MethodHandle" ∧ q.1.cls ≠ "java/lang/invoke/VarHandle") ∧ Cond.instantiable q.1.cls q.2 ∈ tables_1 ∧ Cond.privateMethod q.1 ∈ tables_1 ∧ Cond.instanceMethod q.1 ∈ tables_1
theorem lw_p0 : lw_okq (⟨"RouteSpeaker$Peer", "send", "([II)Z"⟩, 17) := ⟨⟨by decide +kernel, by decide +kernel⟩, List.mem_of_getElem? (i := 187) (by decide +kernel), List.mem_of_getElem? (i := 352) (by decide +kernel), List.mem_of_getElem? (i := 353) (by decide +kernel)⟩
theorem lw_p1 : lw_okq (⟨"RouteSpeaker$Peer", "close", "()V"⟩, 17) := ⟨⟨by decide +kernel, by decide +kernel⟩, List.mem_of_getElem? (i := 187) (by decide +kernel), List.mem_of_getElem? (i := 360) (by decide +kernel), List.mem_of_getElem? (i := 361) (by decide +kernel)⟩
theorem lw_p2 : lw_okq (⟨"RouteSpeaker$Peer", "sendKeepalive", "()V"⟩, 17) := ⟨⟨by decide +kernel, by decide +kernel⟩, List.mem_of_getElem? (i := 187) (by decide +kernel), List.mem_of_getElem? (i := 364) (by decide +kernel), List.mem_of_getElem? (i := 365) (by decide +kernel)⟩
theorem lw_p3 : lw_okq (⟨"RouteSpeaker", "tellAll", "()V"⟩, 6) := ⟨⟨by decide +kernel, by decide +kernel⟩, List.mem_of_getElem? (i := 21) (by decide +kernel), List.mem_of_getElem? (i := 374) (by decide +kernel), List.mem_of_getElem? (i := 375) (by decide +kernel)⟩
theorem lw_p4 : lw_okq (⟨"RouteSpeaker", "tellRound", "()Z"⟩, 6) := ⟨⟨by decide +kernel, by decide +kernel⟩, List.mem_of_getElem? (i := 21) (by decide +kernel), List.mem_of_getElem? (i := 378) (by decide +kernel), List.mem_of_getElem? (i := 379) (by decide +kernel)⟩
theorem lw_p5 : lw_okq (⟨"RouteSpeaker", "chooseFor", "(I)I"⟩, 6) := ⟨⟨by decide +kernel, by decide +kernel⟩, List.mem_of_getElem? (i := 21) (by decide +kernel), List.mem_of_getElem? (i := 382) (by decide +kernel), List.mem_of_getElem? (i := 383) (by decide +kernel)⟩
theorem lw_p6 : lw_okq (⟨"RouteSpeaker", "flawsOf", "(II)I"⟩, 6) := ⟨⟨by decide +kernel, by decide +kernel⟩, List.mem_of_getElem? (i := 21) (by decide +kernel), List.mem_of_getElem? (i := 394) (by decide +kernel), List.mem_of_getElem? (i := 395) (by decide +kernel)⟩
theorem lw_p7 : lw_okq (⟨"RouteSpeaker", "preferenceOf", "(II)I"⟩, 6) := ⟨⟨by decide +kernel, by decide +kernel⟩, List.mem_of_getElem? (i := 21) (by decide +kernel), List.mem_of_getElem? (i := 412) (by decide +kernel), List.mem_of_getElem? (i := 413) (by decide +kernel)⟩
theorem lw_p8 : lw_okq (⟨"RouteSpeaker", "routeOf", "(II)LRouteSpeaker$Route;"⟩, 6) := ⟨⟨by decide +kernel, by decide +kernel⟩, List.mem_of_getElem? (i := 21) (by decide +kernel), List.mem_of_getElem? (i := 416) (by decide +kernel), List.mem_of_getElem? (i := 417) (by decide +kernel)⟩
theorem lw_p9 : lw_okq (⟨"RouteSpeaker", "isInternal", "(I)Z"⟩, 6) := ⟨⟨by decide +kernel, by decide +kernel⟩, List.mem_of_getElem? (i := 21) (by decide +kernel), List.mem_of_getElem? (i := 420) (by decide +kernel), List.mem_of_getElem? (i := 421) (by decide +kernel)⟩
theorem lw_p10 : lw_okq (⟨"RouteSpeaker$Choice", "dropBeaten", "(I)V"⟩, 3) := ⟨⟨by decide +kernel, by decide +kernel⟩, List.mem_of_getElem? (i := 149) (by decide +kernel), List.mem_of_getElem? (i := 440) (by decide +kernel), List.mem_of_getElem? (i := 441) (by decide +kernel)⟩
theorem lw_p11 : lw_okq (⟨"RouteSpeaker$Choice", "isBeaten", "(II)Z"⟩, 3) := ⟨⟨by decide +kernel, by decide +kernel⟩, List.mem_of_getElem? (i := 149) (by decide +kernel), List.mem_of_getElem? (i := 444) (by decide +kernel), List.mem_of_getElem? (i := 445) (by decide +kernel)⟩
theorem lw_p12 : lw_okq (⟨"RouteSpeaker", "tell", "(III)Z"⟩, 6) := ⟨⟨by decide +kernel, by decide +kernel⟩, List.mem_of_getElem? (i := 21) (by decide +kernel), List.mem_of_getElem? (i := 456) (by decide +kernel), List.mem_of_getElem? (i := 457) (by decide +kernel)⟩
theorem lw_p13 : lw_okq (⟨"RouteSpeaker", "isMeantFor", "(III)Z"⟩, 6) := ⟨⟨by decide +kernel, by decide +kernel⟩, List.mem_of_getElem? (i := 21) (by decide +kernel), List.mem_of_getElem? (i := 460) (by decide +kernel), List.mem_of_getElem? (i := 461) (by decide +kernel)⟩
theorem lw_p14 : lw_okq (⟨"RouteSpeaker$Letter", "begin", "(I)V"⟩, 4) := ⟨⟨by decide +kernel, by decide +kernel⟩, List.mem_of_getElem? (i := 167) (by decide +kernel), List.mem_of_getElem? (i := 473) (by decide +kernel), List.mem_of_getElem? (i := 474) (by decide +kernel)⟩
theorem lw_p15 : lw_okq (⟨"RouteSpeaker$Letter", "add", "(I)V"⟩, 4) := ⟨⟨by decide +kernel, by decide +kernel⟩, List.mem_of_getElem? (i := 167) (by decide +kernel), List.mem_of_getElem? (i := 477) (by decide +kernel), List.mem_of_getElem? (i := 478) (by decide +kernel)⟩
def lw_privs_1 : List (MethodName × Nat) := [(⟨"RouteSpeaker$Peer", "send", "([II)Z"⟩, 17), (⟨"RouteSpeaker$Peer", "close", "()V"⟩, 17), (⟨"RouteSpeaker$Peer", "sendKeepalive", "()V"⟩, 17), (⟨"RouteSpeaker", "tellAll", "()V"⟩, 6), (⟨"RouteSpeaker", "tellRound", "()Z"⟩, 6), (⟨"RouteSpeaker", "chooseFor", "(I)I"⟩, 6), (⟨"RouteSpeaker", "flawsOf", "(II)I"⟩, 6), (⟨"RouteSpeaker", "preferenceOf", "(II)I"⟩, 6), (⟨"RouteSpeaker", "routeOf", "(II)LRouteSpeaker$Route;"⟩, 6), (⟨"RouteSpeaker", "isInternal", "(I)Z"⟩, 6), (⟨"RouteSpeaker$Choice", "dropBeaten", "(I)V"⟩, 3), (⟨"RouteSpeaker$Choice", "isBeaten", "(II)Z"⟩, 3), (⟨"RouteSpeaker", "tell", "(III)Z"⟩, 6), (⟨"RouteSpeaker", "isMeantFor", "(III)Z"⟩, 6), (⟨"RouteSpeaker$Letter", "begin", "(I)V"⟩, 4), (⟨"RouteSpeaker$Letter", "add", "(I)V"⟩, 4)]
theorem lw_r1 : ∀ q ∈ lw_privs_1, lw_okq q := List.forall_mem_cons.mpr ⟨lw_p0, List.forall_mem_cons.mpr ⟨lw_p1, List.forall_mem_cons.mpr ⟨lw_p2, List.forall_mem_cons.mpr ⟨lw_p3, List.forall_mem_cons.mpr ⟨lw_p4, List.forall_mem_cons.mpr ⟨lw_p5, List.forall_mem_cons.mpr ⟨lw_p6, List.forall_mem_cons.mpr ⟨lw_p7, List.forall_mem_cons.mpr ⟨lw_p8, List.forall_mem_cons.mpr ⟨lw_p9, List.forall_mem_cons.mpr ⟨lw_p10, List.forall_mem_cons.mpr ⟨lw_p11, List.forall_mem_cons.mpr ⟨lw_p12, List.forall_mem_cons.mpr ⟨lw_p13, List.forall_mem_cons.mpr ⟨lw_p14, List.forall_mem_cons.mpr ⟨lw_p15, fun _ h => absurd h List.not_mem_nil⟩⟩⟩⟩⟩⟩⟩⟩⟩⟩⟩⟩⟩⟩⟩⟩
theorem lw_p16 : lw_okq (⟨"RouteSpeaker$Letter", "addValue", "(II)V"⟩, 4) := ⟨⟨by decide +kernel, by decide +kernel⟩, List.mem_of_getElem? (i := 167) (by decide +kernel), List.mem_of_getElem? (i := 481) (by decide +kernel), List.mem_of_getElem? (i := 482) (by decide +kernel)⟩
theorem lw_p17 : lw_okq (⟨"RouteSpeaker$Letter", "addList", "(III[II)V"⟩, 4) := ⟨⟨by decide +kernel, by decide +kernel⟩, List.mem_of_getElem? (i := 167) (by decide +kernel), List.mem_of_getElem? (i := 485) (by decide +kernel), List.mem_of_getElem? (i := 486) (by decide +kernel)⟩
theorem lw_p18 : lw_okq (⟨"RouteSpeaker$Letter", "endAnnouncement", "()V"⟩, 4) := ⟨⟨by decide +kernel, by decide +kernel⟩, List.mem_of_getElem? (i := 167) (by decide +kernel), List.mem_of_getElem? (i := 489) (by decide +kernel), List.mem_of_getElem? (i := 490) (by decide +kernel)⟩
theorem lw_p19 : lw_okq (⟨"RouteSpeaker$Peer", "isTold", "(ILRouteSpeaker$Letter;)Z"⟩, 17) := ⟨⟨by decide +kernel, by decide +kernel⟩, List.mem_of_getElem? (i := 187) (by decide +kernel), List.mem_of_getElem? (i := 502) (by decide +kernel), List.mem_of_getElem? (i := 503) (by decide +kernel)⟩
theorem lw_p20 : lw_okq (⟨"java/lang/Throwable", "fillInStackTrace", "(I)Ljava/lang/Throwable;"⟩, 6) := ⟨⟨by decide +kernel, by decide +kernel⟩, List.mem_of_getElem? (i := 572) (by decide +kernel), List.mem_of_getElem? (i := 570) (by decide +kernel), List.mem_of_getElem? (i := 571) (by decide +kernel)⟩
theorem lw_p21 : lw_okq (⟨"RouteSpeaker$Peer", "lookWhenSent", "(I)V"⟩, 17) := ⟨⟨by decide +kernel, by decide +kernel⟩, List.mem_of_getElem? (i := 187) (by decide +kernel), List.mem_of_getElem? (i := 711) (by decide +kernel), List.mem_of_getElem? (i := 712) (by decide +kernel)⟩
theorem lw_p22 : lw_okq (⟨"RouteSpeaker$Peer", "lookWhenAgreed", "(I)V"⟩, 17) := ⟨⟨by decide +kernel, by decide +kernel⟩, List.mem_of_getElem? (i := 187) (by decide +kernel), List.mem_of_getElem? (i := 719) (by decide +kernel), List.mem_of_getElem? (i := 720) (by decide +kernel)⟩
theorem lw_p23 : lw_okq (⟨"RouteSpeaker$Peer", "lookWhenUp", "(ILRouteSpeaker$Update;LRouteSpeaker$Prefixes;)V"⟩, 17) := ⟨⟨by decide +kernel, by decide +kernel⟩, List.mem_of_getElem? (i := 187) (by decide +kernel), List.mem_of_getElem? (i := 723) (by decide +kernel), List.mem_of_getElem? (i := 724) (by decide +kernel)⟩
theorem lw_p24 : lw_okq (⟨"RouteSpeaker$Update", "clear", "()V"⟩, 8) := ⟨⟨by decide +kernel, by decide +kernel⟩, List.mem_of_getElem? (i := 113) (by decide +kernel), List.mem_of_getElem? (i := 731) (by decide +kernel), List.mem_of_getElem? (i := 732) (by decide +kernel)⟩
theorem lw_p25 : lw_okq (⟨"RouteSpeaker$Update", "isFramed", "()Z"⟩, 8) := ⟨⟨by decide +kernel, by decide +kernel⟩, List.mem_of_getElem? (i := 113) (by decide +kernel), List.mem_of_getElem? (i := 743) (by decide +kernel), List.mem_of_getElem? (i := 744) (by decide +kernel)⟩
theorem lw_p26 : lw_okq (⟨"RouteSpeaker$Update", "attributeFault", "(III)I"⟩, 8) := ⟨⟨by decide +kernel, by decide +kernel⟩, List.mem_of_getElem? (i := 113) (by decide +kernel), List.mem_of_getElem? (i := 747) (by decide +kernel), List.mem_of_getElem? (i := 748) (by decide +kernel)⟩
theorem lw_p27 : lw_okq (⟨"RouteSpeaker$Update", "listFault", "(II[I)I"⟩, 8) := ⟨⟨by decide +kernel, by decide +kernel⟩, List.mem_of_getElem? (i := 113) (by decide +kernel), List.mem_of_getElem? (i := 752) (by decide +kernel), List.mem_of_getElem? (i := 753) (by decide +kernel)⟩
theorem lw_p28 : lw_okq (⟨"RouteSpeaker$Update", "valueFault", "(II)I"⟩, 8) := ⟨⟨by decide +kernel, by decide +kernel⟩, List.mem_of_getElem? (i := 113) (by decide +kernel), List.mem_of_getElem? (i := 757) (by decide +kernel), List.mem_of_getElem? (i := 758) (by decide +kernel)⟩
theorem lw_p29 : lw_okq (⟨"RouteSpeaker$Update", "announcementFault", "(ZI)I"⟩, 8) := ⟨⟨by decide +kernel, by decide +kernel⟩, List.mem_of_getElem? (i := 113) (by decide +kernel), List.mem_of_getElem? (i := 761) (by decide +kernel), List.mem_of_getElem? (i := 762) (by decide +kernel)⟩
theorem lw_p30 : lw_okq (⟨"RouteSpeaker$Update", "hasOnlyPrefixes", "()Z"⟩, 8) := ⟨⟨by decide +kernel, by decide +kernel⟩, List.mem_of_getElem? (i := 113) (by decide +kernel), List.mem_of_getElem? (i := 766) (by decide +kernel), List.mem_of_getElem? (i := 767) (by decide +kernel)⟩
theorem lw_p31 : lw_okq (⟨"RouteSpeaker$Update", "isFirstOfItsKind", "(I)Z"⟩, 8) := ⟨⟨by decide +kernel, by decide +kernel⟩, List.mem_of_getElem? (i := 113) (by decide +kernel), List.mem_of_getElem? (i := 785) (by decide +kernel), List.mem_of_getElem? (i := 786) (by decide +kernel)⟩
def lw_privs_2 : List (MethodName × Nat) := [(⟨"RouteSpeaker$Letter", "addValue", "(II)V"⟩, 4), (⟨"RouteSpeaker$Letter", "addList", "(III[II)V"⟩, 4), (⟨"RouteSpeaker$Letter", "endAnnouncement", "()V"⟩, 4), (⟨"RouteSpeaker$Peer", "isTold", "(ILRouteSpeaker$Letter;)Z"⟩, 17), (⟨"java/lang/Throwable", "fillInStackTrace", "(I)Ljava/lang/Throwable;"⟩, 6), (⟨"RouteSpeaker$Peer", "lookWhenSent", "(I)V"⟩, 17), (⟨"RouteSpeaker$Peer", "lookWhenAgreed", "(I)V"⟩, 17), (⟨"RouteSpeaker$Peer", "lookWhenUp", "(ILRouteSpeaker$Update;LRouteSpeaker$Prefixes;)V"⟩, 17), (⟨"RouteSpeaker$Update", "clear", "()V"⟩, 8), (⟨"RouteSpeaker$Update", "isFramed", "()Z"⟩, 8), (⟨"RouteSpeaker$Update", "attributeFault", "(III)I"⟩, 8), (⟨"RouteSpeaker$Update", "listFault", "(II[I)I"⟩, 8), (⟨"RouteSpeaker$Update", "valueFault", "(II)I"⟩, 8), (⟨"RouteSpeaker$Update", "announcementFault", "(ZI)I"⟩, 8), (⟨"RouteSpeaker$Update", "hasOnlyPrefixes", "()Z"⟩, 8), (⟨"RouteSpeaker$Update", "isFirstOfItsKind", "(I)Z"⟩, 8)]
theorem lw_r2 : ∀ q ∈ lw_privs_2, lw_okq q := List.forall_mem_cons.mpr ⟨lw_p16, List.forall_mem_cons.mpr ⟨lw_p17, List.forall_mem_cons.mpr ⟨lw_p18, List.forall_mem_cons.mpr ⟨lw_p19, List.forall_mem_cons.mpr ⟨lw_p20, List.forall_mem_cons.mpr ⟨lw_p21, List.forall_mem_cons.mpr ⟨lw_p22, List.forall_mem_cons.mpr ⟨lw_p23, List.forall_mem_cons.mpr ⟨lw_p24, List.forall_mem_cons.mpr ⟨lw_p25, List.forall_mem_cons.mpr ⟨lw_p26, List.forall_mem_cons.mpr ⟨lw_p27, List.forall_mem_cons.mpr ⟨lw_p28, List.forall_mem_cons.mpr ⟨lw_p29, List.forall_mem_cons.mpr ⟨lw_p30, List.forall_mem_cons.mpr ⟨lw_p31, fun _ h => absurd h List.not_mem_nil⟩⟩⟩⟩⟩⟩⟩⟩⟩⟩⟩⟩⟩⟩⟩⟩
theorem lw_p32 : lw_okq (⟨"RouteSpeaker$Peer", "takeIn", "(LRouteSpeaker$Update;LRouteSpeaker$Prefixes;)V"⟩, 17) := ⟨⟨by decide +kernel, by decide +kernel⟩, List.mem_of_getElem? (i := 187) (by decide +kernel), List.mem_of_getElem? (i := 789) (by decide +kernel), List.mem_of_getElem? (i := 790) (by decide +kernel)⟩
theorem lw_p33 : lw_okq (⟨"RouteSpeaker$Incoming", "grow", "(ID)V"⟩, 4) := ⟨⟨by decide +kernel, by decide +kernel⟩, List.mem_of_getElem? (i := 229) (by decide +kernel), List.mem_of_getElem? (i := 801) (by decide +kernel), List.mem_of_getElem? (i := 802) (by decide +kernel)⟩
theorem lw_p34 : lw_okq (⟨"RouteSpeakerModel", "tell", "()V"⟩, 41) := ⟨⟨by decide +kernel, by decide +kernel⟩, List.mem_of_getElem? (i := 894) (by decide +kernel), List.mem_of_getElem? (i := 1038) (by decide +kernel), List.mem_of_getElem? (i := 1039) (by decide +kernel)⟩
theorem lw_p35 : lw_okq (⟨"RouteSpeakerModel", "tellOne", "(II)Z"⟩, 41) := ⟨⟨by decide +kernel, by decide +kernel⟩, List.mem_of_getElem? (i := 894) (by decide +kernel), List.mem_of_getElem? (i := 1042) (by decide +kernel), List.mem_of_getElem? (i := 1043) (by decide +kernel)⟩
theorem lw_p36 : lw_okq (⟨"RouteSpeakerModel", "due", "(II)I"⟩, 41) := ⟨⟨by decide +kernel, by decide +kernel⟩, List.mem_of_getElem? (i := 894) (by decide +kernel), List.mem_of_getElem? (i := 1046) (by decide +kernel), List.mem_of_getElem? (i := 1047) (by decide +kernel)⟩
theorem lw_p37 : lw_okq (⟨"RouteSpeakerModel", "bestOf", "(I)I"⟩, 41) := ⟨⟨by decide +kernel, by decide +kernel⟩, List.mem_of_getElem? (i := 894) (by decide +kernel), List.mem_of_getElem? (i := 1050) (by decide +kernel), List.mem_of_getElem? (i := 1051) (by decide +kernel)⟩
theorem lw_p38 : lw_okq (⟨"RouteSpeakerModel", "isBarred", "(I)Z"⟩, 41) := ⟨⟨by decide +kernel, by decide +kernel⟩, List.mem_of_getElem? (i := 894) (by decide +kernel), List.mem_of_getElem? (i := 1054) (by decide +kernel), List.mem_of_getElem? (i := 1055) (by decide +kernel)⟩
theorem lw_p39 : lw_okq (⟨"RouteSpeakerModel", "isRejected", "(II)Z"⟩, 41) := ⟨⟨by decide +kernel, by decide +kernel⟩, List.mem_of_getElem? (i := 894) (by decide +kernel), List.mem_of_getElem? (i := 1058) (by decide +kernel), List.mem_of_getElem? (i := 1059) (by decide +kernel)⟩
theorem lw_p40 : lw_okq (⟨"RouteSpeakerModel", "dropBeaten", "(I)V"⟩, 41) := ⟨⟨by decide +kernel, by decide +kernel⟩, List.mem_of_getElem? (i := 894) (by decide +kernel), List.mem_of_getElem? (i := 1068) (by decide +kernel), List.mem_of_getElem? (i := 1069) (by decide +kernel)⟩
theorem lw_p41 : lw_okq (⟨"RouteSpeakerModel", "isBeaten", "(II)Z"⟩, 41) := ⟨⟨by decide +kernel, by decide +kernel⟩, List.mem_of_getElem? (i := 894) (by decide +kernel), List.mem_of_getElem? (i := 1072) (by decide +kernel), List.mem_of_getElem? (i := 1073) (by decide +kernel)⟩
theorem lw_p42 : lw_okq (⟨"RouteSpeakerModel", "firstOf", "(I)I"⟩, 41) := ⟨⟨by decide +kernel, by decide +kernel⟩, List.mem_of_getElem? (i := 894) (by decide +kernel), List.mem_of_getElem? (i := 1076) (by decide +kernel), List.mem_of_getElem? (i := 1077) (by decide +kernel)⟩
theorem lw_p43 : lw_okq (⟨"RouteSpeakerModel", "keepLeast", "(II)V"⟩, 41) := ⟨⟨by decide +kernel, by decide +kernel⟩, List.mem_of_getElem? (i := 894) (by decide +kernel), List.mem_of_getElem? (i := 1080) (by decide +kernel), List.mem_of_getElem? (i := 1081) (by decide +kernel)⟩
theorem lw_p44 : lw_okq (⟨"RouteSpeakerModel", "worth", "(III)I"⟩, 41) := ⟨⟨by decide +kernel, by decide +kernel⟩, List.mem_of_getElem? (i := 894) (by decide +kernel), List.mem_of_getElem? (i := 1085) (by decide +kernel), List.mem_of_getElem? (i := 1086) (by decide +kernel)⟩
theorem lw_p45 : lw_okq (⟨"RouteSpeakerModel", "valued", "(II)I"⟩, 41) := ⟨⟨by decide +kernel, by decide +kernel⟩, List.mem_of_getElem? (i := 894) (by decide +kernel), List.mem_of_getElem? (i := 1089) (by decide +kernel), List.mem_of_getElem? (i := 1090) (by decide +kernel)⟩
theorem lw_p46 : lw_okq (⟨"RouteSpeakerModel", "isInternal", "(I)Z"⟩, 41) := ⟨⟨by decide +kernel, by decide +kernel⟩, List.mem_of_getElem? (i := 894) (by decide +kernel), List.mem_of_getElem? (i := 1093) (by decide +kernel), List.mem_of_getElem? (i := 1094) (by decide +kernel)⟩
theorem lw_p47 : lw_okq (⟨"RouteSpeakerModel", "dueInternal", "(II)I"⟩, 41) := ⟨⟨by decide +kernel, by decide +kernel⟩, List.mem_of_getElem? (i := 894) (by decide +kernel), List.mem_of_getElem? (i := 1097) (by decide +kernel), List.mem_of_getElem? (i := 1098) (by decide +kernel)⟩
def lw_privs_3 : List (MethodName × Nat) := [(⟨"RouteSpeaker$Peer", "takeIn", "(LRouteSpeaker$Update;LRouteSpeaker$Prefixes;)V"⟩, 17), (⟨"RouteSpeaker$Incoming", "grow", "(ID)V"⟩, 4), (⟨"RouteSpeakerModel", "tell", "()V"⟩, 41), (⟨"RouteSpeakerModel", "tellOne", "(II)Z"⟩, 41), (⟨"RouteSpeakerModel", "due", "(II)I"⟩, 41), (⟨"RouteSpeakerModel", "bestOf", "(I)I"⟩, 41), (⟨"RouteSpeakerModel", "isBarred", "(I)Z"⟩, 41), (⟨"RouteSpeakerModel", "isRejected", "(II)Z"⟩, 41), (⟨"RouteSpeakerModel", "dropBeaten", "(I)V"⟩, 41), (⟨"RouteSpeakerModel", "isBeaten", "(II)Z"⟩, 41), (⟨"RouteSpeakerModel", "firstOf", "(I)I"⟩, 41), (⟨"RouteSpeakerModel", "keepLeast", "(II)V"⟩, 41), (⟨"RouteSpeakerModel", "worth", "(III)I"⟩, 41), (⟨"RouteSpeakerModel", "valued", "(II)I"⟩, 41), (⟨"RouteSpeakerModel", "isInternal", "(I)Z"⟩, 41), (⟨"RouteSpeakerModel", "dueInternal", "(II)I"⟩, 41)]
theorem lw_r3 : ∀ q ∈ lw_privs_3, lw_okq q := List.forall_mem_cons.mpr ⟨lw_p32, List.forall_mem_cons.mpr ⟨lw_p33, List.forall_mem_cons.mpr ⟨lw_p34, List.forall_mem_cons.mpr ⟨lw_p35, List.forall_mem_cons.mpr ⟨lw_p36, List.forall_mem_cons.mpr ⟨lw_p37, List.forall_mem_cons.mpr ⟨lw_p38, List.forall_mem_cons.mpr ⟨lw_p39, List.forall_mem_cons.mpr ⟨lw_p40, List.forall_mem_cons.mpr ⟨lw_p41, List.forall_mem_cons.mpr ⟨lw_p42, List.forall_mem_cons.mpr ⟨lw_p43, List.forall_mem_cons.mpr ⟨lw_p44, List.forall_mem_cons.mpr ⟨lw_p45, List.forall_mem_cons.mpr ⟨lw_p46, List.forall_mem_cons.mpr ⟨lw_p47, fun _ h => absurd h List.not_mem_nil⟩⟩⟩⟩⟩⟩⟩⟩⟩⟩⟩⟩⟩⟩⟩⟩
theorem lw_p48 : lw_okq (⟨"RouteSpeakerModel", "one", "(III)I"⟩, 41) := ⟨⟨by decide +kernel, by decide +kernel⟩, List.mem_of_getElem? (i := 894) (by decide +kernel), List.mem_of_getElem? (i := 1101) (by decide +kernel), List.mem_of_getElem? (i := 1102) (by decide +kernel)⟩
theorem lw_p49 : lw_okq (⟨"RouteSpeakerModel", "want", "(II)V"⟩, 41) := ⟨⟨by decide +kernel, by decide +kernel⟩, List.mem_of_getElem? (i := 894) (by decide +kernel), List.mem_of_getElem? (i := 1105) (by decide +kernel), List.mem_of_getElem? (i := 1106) (by decide +kernel)⟩
theorem lw_p50 : lw_okq (⟨"RouteSpeakerModel", "dueExternal", "(II)I"⟩, 41) := ⟨⟨by decide +kernel, by decide +kernel⟩, List.mem_of_getElem? (i := 894) (by decide +kernel), List.mem_of_getElem? (i := 1109) (by decide +kernel), List.mem_of_getElem? (i := 1110) (by decide +kernel)⟩
theorem lw_p51 : lw_okq (⟨"RouteSpeakerModel", "isTold", "(II)Z"⟩, 41) := ⟨⟨by decide +kernel, by decide +kernel⟩, List.mem_of_getElem? (i := 894) (by decide +kernel), List.mem_of_getElem? (i := 1113) (by decide +kernel), List.mem_of_getElem? (i := 1114) (by decide +kernel)⟩
theorem lw_p52 : lw_okq (⟨"RouteSpeakerModel", "begin", "(I)V"⟩, 41) := ⟨⟨by decide +kernel, by decide +kernel⟩, List.mem_of_getElem? (i := 894) (by decide +kernel), List.mem_of_getElem? (i := 1117) (by decide +kernel), List.mem_of_getElem? (i := 1118) (by decide +kernel)⟩
theorem lw_p53 : lw_okq (⟨"RouteSpeakerModel", "add", "(I)V"⟩, 41) := ⟨⟨by decide +kernel, by decide +kernel⟩, List.mem_of_getElem? (i := 894) (by decide +kernel), List.mem_of_getElem? (i := 1121) (by decide +kernel), List.mem_of_getElem? (i := 1122) (by decide +kernel)⟩
theorem lw_p54 : lw_okq (⟨"RouteSpeakerModel", "send", "(I)Z"⟩, 41) := ⟨⟨by decide +kernel, by decide +kernel⟩, List.mem_of_getElem? (i := 894) (by decide +kernel), List.mem_of_getElem? (i := 1125) (by decide +kernel), List.mem_of_getElem? (i := 1126) (by decide +kernel)⟩
theorem lw_p55 : lw_okq (⟨"RouteSpeakerModel", "close", "(I)V"⟩, 41) := ⟨⟨by decide +kernel, by decide +kernel⟩, List.mem_of_getElem? (i := 894) (by decide +kernel), List.mem_of_getElem? (i := 1129) (by decide +kernel), List.mem_of_getElem? (i := 1130) (by decide +kernel)⟩
theorem lw_p56 : lw_okq (⟨"RouteSpeakerModel", "find", "(II)I"⟩, 41) := ⟨⟨by decide +kernel, by decide +kernel⟩, List.mem_of_getElem? (i := 894) (by decide +kernel), List.mem_of_getElem? (i := 1152) (by decide +kernel), List.mem_of_getElem? (i := 1153) (by decide +kernel)⟩
theorem lw_p57 : lw_okq (⟨"RouteSpeakerModel", "learned", "(II)I"⟩, 41) := ⟨⟨by decide +kernel, by decide +kernel⟩, List.mem_of_getElem? (i := 894) (by decide +kernel), List.mem_of_getElem? (i := 1156) (by decide +kernel), List.mem_of_getElem? (i := 1157) (by decide +kernel)⟩
theorem lw_p58 : lw_okq (⟨"RouteSpeakerModel", "end", "(III)V"⟩, 41) := ⟨⟨by decide +kernel, by decide +kernel⟩, List.mem_of_getElem? (i := 894) (by decide +kernel), List.mem_of_getElem? (i := 1172) (by decide +kernel), List.mem_of_getElem? (i := 1173) (by decide +kernel)⟩
theorem lw_p59 : lw_okq (⟨"RouteSpeakerModel", "come", "(II)V"⟩, 41) := ⟨⟨by decide +kernel, by decide +kernel⟩, List.mem_of_getElem? (i := 894) (by decide +kernel), List.mem_of_getElem? (i := 1181) (by decide +kernel), List.mem_of_getElem? (i := 1182) (by decide +kernel)⟩
theorem lw_p60 : lw_okq (⟨"RouteSpeakerModel", "look", "(III)V"⟩, 41) := ⟨⟨by decide +kernel, by decide +kernel⟩, List.mem_of_getElem? (i := 894) (by decide +kernel), List.mem_of_getElem? (i := 1185) (by decide +kernel), List.mem_of_getElem? (i := 1186) (by decide +kernel)⟩
theorem lw_p61 : lw_okq (⟨"RouteSpeakerModel", "opened", "(III)V"⟩, 41) := ⟨⟨by decide +kernel, by decide +kernel⟩, List.mem_of_getElem? (i := 894) (by decide +kernel), List.mem_of_getElem? (i := 1189) (by decide +kernel), List.mem_of_getElem? (i := 1190) (by decide +kernel)⟩
theorem lw_p62 : lw_okq (⟨"RouteSpeakerModel", "keepAlive", "(I)V"⟩, 41) := ⟨⟨by decide +kernel, by decide +kernel⟩, List.mem_of_getElem? (i := 894) (by decide +kernel), List.mem_of_getElem? (i := 1193) (by decide +kernel), List.mem_of_getElem? (i := 1194) (by decide +kernel)⟩
theorem lw_p63 : lw_okq (⟨"RouteSpeakerModel", "agreed", "(II)V"⟩, 41) := ⟨⟨by decide +kernel, by decide +kernel⟩, List.mem_of_getElem? (i := 894) (by decide +kernel), List.mem_of_getElem? (i := 1197) (by decide +kernel), List.mem_of_getElem? (i := 1198) (by decide +kernel)⟩
def lw_privs_4 : List (MethodName × Nat) := [(⟨"RouteSpeakerModel", "one", "(III)I"⟩, 41), (⟨"RouteSpeakerModel", "want", "(II)V"⟩, 41), (⟨"RouteSpeakerModel", "dueExternal", "(II)I"⟩, 41), (⟨"RouteSpeakerModel", "isTold", "(II)Z"⟩, 41), (⟨"RouteSpeakerModel", "begin", "(I)V"⟩, 41), (⟨"RouteSpeakerModel", "add", "(I)V"⟩, 41), (⟨"RouteSpeakerModel", "send", "(I)Z"⟩, 41), (⟨"RouteSpeakerModel", "close", "(I)V"⟩, 41), (⟨"RouteSpeakerModel", "find", "(II)I"⟩, 41), (⟨"RouteSpeakerModel", "learned", "(II)I"⟩, 41), (⟨"RouteSpeakerModel", "end", "(III)V"⟩, 41), (⟨"RouteSpeakerModel", "come", "(II)V"⟩, 41), (⟨"RouteSpeakerModel", "look", "(III)V"⟩, 41), (⟨"RouteSpeakerModel", "opened", "(III)V"⟩, 41), (⟨"RouteSpeakerModel", "keepAlive", "(I)V"⟩, 41), (⟨"RouteSpeakerModel", "agreed", "(II)V"⟩, 41)]
theorem lw_r4 : ∀ q ∈ lw_privs_4, lw_okq q := List.forall_mem_cons.mpr ⟨lw_p48, List.forall_mem_cons.mpr ⟨lw_p49, List.forall_mem_cons.mpr ⟨lw_p50, List.forall_mem_cons.mpr ⟨lw_p51, List.forall_mem_cons.mpr ⟨lw_p52, List.forall_mem_cons.mpr ⟨lw_p53, List.forall_mem_cons.mpr ⟨lw_p54, List.forall_mem_cons.mpr ⟨lw_p55, List.forall_mem_cons.mpr ⟨lw_p56, List.forall_mem_cons.mpr ⟨lw_p57, List.forall_mem_cons.mpr ⟨lw_p58, List.forall_mem_cons.mpr ⟨lw_p59, List.forall_mem_cons.mpr ⟨lw_p60, List.forall_mem_cons.mpr ⟨lw_p61, List.forall_mem_cons.mpr ⟨lw_p62, List.forall_mem_cons.mpr ⟨lw_p63, fun _ h => absurd h List.not_mem_nil⟩⟩⟩⟩⟩⟩⟩⟩⟩⟩⟩⟩⟩⟩⟩⟩
theorem lw_p64 : lw_okq (⟨"RouteSpeakerModel", "update", "(III)V"⟩, 41) := ⟨⟨by decide +kernel, by decide +kernel⟩, List.mem_of_getElem? (i := 894) (by decide +kernel), List.mem_of_getElem? (i := 1201) (by decide +kernel), List.mem_of_getElem? (i := 1202) (by decide +kernel)⟩
theorem lw_p65 : lw_okq (⟨"RouteSpeakerModel", "badAttributes", "(II)I"⟩, 41) := ⟨⟨by decide +kernel, by decide +kernel⟩, List.mem_of_getElem? (i := 894) (by decide +kernel), List.mem_of_getElem? (i := 1205) (by decide +kernel), List.mem_of_getElem? (i := 1206) (by decide +kernel)⟩
theorem lw_p66 : lw_okq (⟨"RouteSpeakerModel", "badValue", "(III)I"⟩, 41) := ⟨⟨by decide +kernel, by decide +kernel⟩, List.mem_of_getElem? (i := 894) (by decide +kernel), List.mem_of_getElem? (i := 1212) (by decide +kernel), List.mem_of_getElem? (i := 1213) (by decide +kernel)⟩
theorem lw_p67 : lw_okq (⟨"RouteSpeakerModel", "badRoute", "(I)I"⟩, 41) := ⟨⟨by decide +kernel, by decide +kernel⟩, List.mem_of_getElem? (i := 894) (by decide +kernel), List.mem_of_getElem? (i := 1216) (by decide +kernel), List.mem_of_getElem? (i := 1217) (by decide +kernel)⟩
theorem lw_p68 : lw_okq (⟨"RouteSpeakerModel", "fresh", "(II)I"⟩, 41) := ⟨⟨by decide +kernel, by decide +kernel⟩, List.mem_of_getElem? (i := 894) (by decide +kernel), List.mem_of_getElem? (i := 1220) (by decide +kernel), List.mem_of_getElem? (i := 1221) (by decide +kernel)⟩
theorem lw_p69 : lw_okq (⟨"RouteSpeakerModel", "withdraw", "(III)V"⟩, 41) := ⟨⟨by decide +kernel, by decide +kernel⟩, List.mem_of_getElem? (i := 894) (by decide +kernel), List.mem_of_getElem? (i := 1224) (by decide +kernel), List.mem_of_getElem? (i := 1225) (by decide +kernel)⟩
theorem lw_p70 : lw_okq (⟨"RouteSpeakerModel", "grows", "(ID)V"⟩, 41) := ⟨⟨by decide +kernel, by decide +kernel⟩, List.mem_of_getElem? (i := 894) (by decide +kernel), List.mem_of_getElem? (i := 1229) (by decide +kernel), List.mem_of_getElem? (i := 1230) (by decide +kernel)⟩
theorem lw_p71 : lw_okq (⟨"RouteSpeakerModel", "announce", "(III)V"⟩, 41) := ⟨⟨by decide +kernel, by decide +kernel⟩, List.mem_of_getElem? (i := 894) (by decide +kernel), List.mem_of_getElem? (i := 1234) (by decide +kernel), List.mem_of_getElem? (i := 1235) (by decide +kernel)⟩
theorem lw_p72 : lw_okq (⟨"RouteSpeakerModel", "hand", "(Z)V"⟩, 41) := ⟨⟨by decide +kernel, by decide +kernel⟩, List.mem_of_getElem? (i := 894) (by decide +kernel), List.mem_of_getElem? (i := 1238) (by decide +kernel), List.mem_of_getElem? (i := 1239) (by decide +kernel)⟩
theorem lw_p73 : lw_okq (⟨"RouteSpeakerModel", "said", "(II)I"⟩, 41) := ⟨⟨by decide +kernel, by decide +kernel⟩, List.mem_of_getElem? (i := 894) (by decide +kernel), List.mem_of_getElem? (i := 1242) (by decide +kernel), List.mem_of_getElem? (i := 1243) (by decide +kernel)⟩
theorem lw_p74 : lw_okq (⟨"RouteSpeakerModel", "same", "(II)Z"⟩, 41) := ⟨⟨by decide +kernel, by decide +kernel⟩, List.mem_of_getElem? (i := 894) (by decide +kernel), List.mem_of_getElem? (i := 1246) (by decide +kernel), List.mem_of_getElem? (i := 1247) (by decide +kernel)⟩
theorem lw_p75 : lw_okq (⟨"RouteSpeakerModel", "copy", "(II)V"⟩, 41) := ⟨⟨by decide +kernel, by decide +kernel⟩, List.mem_of_getElem? (i := 894) (by decide +kernel), List.mem_of_getElem? (i := 1251) (by decide +kernel), List.mem_of_getElem? (i := 1252) (by decide +kernel)⟩
theorem lw_p76 : lw_okq (⟨"RouteSpeakerModel", "fails", "(I)I"⟩, 41) := ⟨⟨by decide +kernel, by decide +kernel⟩, List.mem_of_getElem? (i := 894) (by decide +kernel), List.mem_of_getElem? (i := 1273) (by decide +kernel), List.mem_of_getElem? (i := 1274) (by decide +kernel)⟩
def lw_privs_5 : List (MethodName × Nat) := [(⟨"RouteSpeakerModel", "update", "(III)V"⟩, 41), (⟨"RouteSpeakerModel", "badAttributes", "(II)I"⟩, 41), (⟨"RouteSpeakerModel", "badValue", "(III)I"⟩, 41), (⟨"RouteSpeakerModel", "badRoute", "(I)I"⟩, 41), (⟨"RouteSpeakerModel", "fresh", "(II)I"⟩, 41), (⟨"RouteSpeakerModel", "withdraw", "(III)V"⟩, 41), (⟨"RouteSpeakerModel", "grows", "(ID)V"⟩, 41), (⟨"RouteSpeakerModel", "announce", "(III)V"⟩, 41), (⟨"RouteSpeakerModel", "hand", "(Z)V"⟩, 41), (⟨"RouteSpeakerModel", "said", "(II)I"⟩, 41), (⟨"RouteSpeakerModel", "same", "(II)Z"⟩, 41), (⟨"RouteSpeakerModel", "copy", "(II)V"⟩, 41), (⟨"RouteSpeakerModel", "fails", "(I)I"⟩, 41)]
theorem lw_r5 : ∀ q ∈ lw_privs_5, lw_okq q := List.forall_mem_cons.mpr ⟨lw_p64, List.forall_mem_cons.mpr ⟨lw_p65, List.forall_mem_cons.mpr ⟨lw_p66, List.forall_mem_cons.mpr ⟨lw_p67, List.forall_mem_cons.mpr ⟨lw_p68, List.forall_mem_cons.mpr ⟨lw_p69, List.forall_mem_cons.mpr ⟨lw_p70, List.forall_mem_cons.mpr ⟨lw_p71, List.forall_mem_cons.mpr ⟨lw_p72, List.forall_mem_cons.mpr ⟨lw_p73, List.forall_mem_cons.mpr ⟨lw_p74, List.forall_mem_cons.mpr ⟨lw_p75, List.forall_mem_cons.mpr ⟨lw_p76, fun _ h => absurd h List.not_mem_nil⟩⟩⟩⟩⟩⟩⟩⟩⟩⟩⟩⟩⟩
def lw_privs : List (MethodName × Nat) := lw_privs_1 ++ (lw_privs_2 ++ (lw_privs_3 ++ (lw_privs_4 ++ (lw_privs_5))))
def lw_tbl : List Cond := k2_sels lw_privs ++ tables_1
theorem lw_privs_ok : ∀ q ∈ lw_privs, lw_okq q := by
  show ∀ q ∈ lw_privs_1 ++ (lw_privs_2 ++ (lw_privs_3 ++ (lw_privs_4 ++ (lw_privs_5)))), lw_okq q
  exact List.forall_mem_append.mpr ⟨lw_r1, List.forall_mem_append.mpr ⟨lw_r2, List.forall_mem_append.mpr ⟨lw_r3, List.forall_mem_append.mpr ⟨lw_r4, lw_r5⟩⟩⟩⟩
-- ===== end of PART A; then your names; then what follows =====
end
section
-- names: classes by their kinds (0: nothing said; 1..11 objects; 20.. arrays), their fields, the tables' words
def rs_cn : Nat → String := fun c => match c with
  | 2 => "RouteSpeaker$Choice"
  | 3 => "RouteSpeaker$Incoming"
  | 4 => "RouteSpeaker$Letter"
  | 5 => "RouteSpeaker$Outbox"
  | 6 => "RouteSpeaker$Peer"
  | 7 => "RouteSpeaker$Prefixes"
  | 8 => "RouteSpeaker$Route"
  | 9 => "RouteSpeaker$Rules"
  | 10 => "RouteSpeaker$Update"
  | 11 => "RouteSpeakerModel"
  | _ => "RouteSpeaker"
def rs_T1 : u_T := fun k => match k with
  | 0 => ("RouteSpeaker", "prefixes", "LRouteSpeaker$Prefixes;", true)
  | 1 => ("RouteSpeaker", "peers", "[LRouteSpeaker$Peer;", true)
  | 2 => ("RouteSpeaker", "own", "LRouteSpeaker$Route;", true)
  | 3 => ("RouteSpeaker", "update", "LRouteSpeaker$Update;", true)
  | 4 => ("RouteSpeaker", "choice", "LRouteSpeaker$Choice;", true)
  | _ => ("RouteSpeaker", "letter", "LRouteSpeaker$Letter;", true)
def rs_y1 : Nat → FieldType := fun k => match k with
  | 0 => .object "RouteSpeaker$Prefixes"
  | 1 => .array (.object "RouteSpeaker$Peer")
  | 2 => .object "RouteSpeaker$Route"
  | 3 => .object "RouteSpeaker$Update"
  | 4 => .object "RouteSpeaker$Choice"
  | _ => .object "RouteSpeaker$Letter"
def rs_r1 : Nat → Nat := fun k => match k with
  | 0 => 7
  | 1 => 24
  | 2 => 8
  | 3 => 10
  | 4 => 2
  | _ => 4
def rs_T2 : u_T := fun k => match k with
  | 0 => ("RouteSpeaker$Choice", "measures", "[[I", true)
  | 1 => ("RouteSpeaker$Choice", "firstNetworks", "[I", true)
  | _ => ("RouteSpeaker$Choice", "left", "[Z", true)
def rs_y2 : Nat → FieldType := fun k => match k with
  | 0 => .array (.array (.int))
  | 1 => .array (.int)
  | _ => .array (.boolean)
def rs_r2 : Nat → Nat := fun k => match k with
  | 0 => 26
  | 1 => 20
  | _ => 21
def rs_T3 : u_T := fun k => match k with
  | 0 => ("RouteSpeaker$Incoming", "routes", "[LRouteSpeaker$Route;", true)
  | 1 => ("RouteSpeaker$Incoming", "damped", "[Z", true)
  | 2 => ("RouteSpeaker$Incoming", "there", "[Z", true)
  | _ => ("RouteSpeaker$Incoming", "penalties", "[D", true)
def rs_y3 : Nat → FieldType := fun k => match k with
  | 0 => .array (.object "RouteSpeaker$Route")
  | 1 => .array (.boolean)
  | 2 => .array (.boolean)
  | _ => .array (.double)
def rs_r3 : Nat → Nat := fun k => match k with
  | 0 => 25
  | 1 => 21
  | 2 => 21
  | _ => 23
def rs_T4 : u_T := fun k => match k with
  | 0 => ("RouteSpeaker$Letter", "bytes", "[I", true)
  | 1 => ("RouteSpeaker$Letter", "size", "I", false)
  | 2 => ("RouteSpeaker$Letter", "length", "I", false)
  | _ => ("RouteSpeaker$Letter", "address", "I", false)
def rs_y4 : Nat → FieldType := fun k => match k with
  | 0 => .array (.int)
  | 1 => .int
  | 2 => .int
  | _ => .int
def rs_r4 : Nat → Nat := fun k => match k with
  | 0 => 20
  | 1 => 0
  | 2 => 0
  | _ => 0
def rs_T5 : u_T := fun k => match k with
  | 0 => ("RouteSpeaker$Outbox", "bytes", "[I", true)
  | 1 => ("RouteSpeaker$Outbox", "first", "I", false)
  | _ => ("RouteSpeaker$Outbox", "count", "I", false)
def rs_y5 : Nat → FieldType := fun k => match k with
  | 0 => .array (.int)
  | 1 => .int
  | _ => .int
def rs_r5 : Nat → Nat := fun k => match k with
  | 0 => 20
  | 1 => 0
  | _ => 0
def rs_T6 : u_T := fun k => match k with
  | 0 => ("RouteSpeaker$Peer", "role", "I", false)
  | 1 => ("RouteSpeaker$Peer", "network", "I", false)
  | 2 => ("RouteSpeaker$Peer", "padding", "I", false)
  | 3 => ("RouteSpeaker$Peer", "muteLength", "I", false)
  | 4 => ("RouteSpeaker$Peer", "muteAddress", "I", false)
  | 5 => ("RouteSpeaker$Peer", "rules", "LRouteSpeaker$Rules;", true)
  | 6 => ("RouteSpeaker$Peer", "state", "I", false)
  | 7 => ("RouteSpeaker$Peer", "holdTimer", "I", false)
  | 8 => ("RouteSpeaker$Peer", "keepTimer", "I", false)
  | 9 => ("RouteSpeaker$Peer", "hold", "I", false)
  | 10 => ("RouteSpeaker$Peer", "id", "I", false)
  | 11 => ("RouteSpeaker$Peer", "come", "I", false)
  | 12 => ("RouteSpeaker$Peer", "inbox", "[I", true)
  | 13 => ("RouteSpeaker$Peer", "outbox", "LRouteSpeaker$Outbox;", true)
  | 14 => ("RouteSpeaker$Peer", "draft", "[I", true)
  | 15 => ("RouteSpeaker$Peer", "incoming", "LRouteSpeaker$Incoming;", true)
  | _ => ("RouteSpeaker$Peer", "told", "[[I", true)
def rs_y6 : Nat → FieldType := fun k => match k with
  | 0 => .int
  | 1 => .int
  | 2 => .int
  | 3 => .int
  | 4 => .int
  | 5 => .object "RouteSpeaker$Rules"
  | 6 => .int
  | 7 => .int
  | 8 => .int
  | 9 => .int
  | 10 => .int
  | 11 => .int
  | 12 => .array (.int)
  | 13 => .object "RouteSpeaker$Outbox"
  | 14 => .array (.int)
  | 15 => .object "RouteSpeaker$Incoming"
  | _ => .array (.array (.int))
def rs_r6 : Nat → Nat := fun k => match k with
  | 0 => 0
  | 1 => 0
  | 2 => 0
  | 3 => 0
  | 4 => 0
  | 5 => 9
  | 6 => 0
  | 7 => 0
  | 8 => 0
  | 9 => 0
  | 10 => 0
  | 11 => 0
  | 12 => 20
  | 13 => 5
  | 14 => 20
  | 15 => 3
  | _ => 26
def rs_T7 : u_T := fun k => match k with
  | 0 => ("RouteSpeaker$Prefixes", "lengths", "[I", true)
  | 1 => ("RouteSpeaker$Prefixes", "addresses", "[I", true)
  | 2 => ("RouteSpeaker$Prefixes", "originated", "[Z", true)
  | _ => ("RouteSpeaker$Prefixes", "count", "I", false)
def rs_y7 : Nat → FieldType := fun k => match k with
  | 0 => .array (.int)
  | 1 => .array (.int)
  | 2 => .array (.boolean)
  | _ => .int
def rs_r7 : Nat → Nat := fun k => match k with
  | 0 => 20
  | 1 => 20
  | 2 => 21
  | _ => 0
def rs_T8 : u_T := fun k => match k with
  | 0 => ("RouteSpeaker$Route", "origin", "I", false)
  | 1 => ("RouteSpeaker$Route", "pathLength", "I", false)
  | 2 => ("RouteSpeaker$Route", "path", "[I", true)
  | 3 => ("RouteSpeaker$Route", "next", "I", false)
  | 4 => ("RouteSpeaker$Route", "metric", "I", false)
  | 5 => ("RouteSpeaker$Route", "preference", "I", false)
  | 6 => ("RouteSpeaker$Route", "source", "I", false)
  | 7 => ("RouteSpeaker$Route", "clusterCount", "I", false)
  | _ => ("RouteSpeaker$Route", "clusters", "[I", true)
def rs_y8 : Nat → FieldType := fun k => match k with
  | 0 => .int
  | 1 => .int
  | 2 => .array (.int)
  | 3 => .int
  | 4 => .int
  | 5 => .int
  | 6 => .int
  | 7 => .int
  | _ => .array (.int)
def rs_r8 : Nat → Nat := fun k => match k with
  | 0 => 0
  | 1 => 0
  | 2 => 20
  | 3 => 0
  | 4 => 0
  | 5 => 0
  | 6 => 0
  | 7 => 0
  | _ => 20
def rs_T9 : u_T := fun k => match k with
  | 0 => ("RouteSpeaker$Rules", "lengths", "[I", true)
  | 1 => ("RouteSpeaker$Rules", "addresses", "[I", true)
  | 2 => ("RouteSpeaker$Rules", "actions", "[I", true)
  | _ => ("RouteSpeaker$Rules", "count", "I", false)
def rs_y9 : Nat → FieldType := fun k => match k with
  | 0 => .array (.int)
  | 1 => .array (.int)
  | 2 => .array (.int)
  | _ => .int
def rs_r9 : Nat → Nat := fun k => match k with
  | 0 => 20
  | 1 => 20
  | 2 => 20
  | _ => 0
def rs_T10 : u_T := fun k => match k with
  | 0 => ("RouteSpeaker$Update", "route", "LRouteSpeaker$Route;", true)
  | 1 => ("RouteSpeaker$Update", "seen", "[Z", true)
  | 2 => ("RouteSpeaker$Update", "message", "[I", false)
  | 3 => ("RouteSpeaker$Update", "size", "I", false)
  | 4 => ("RouteSpeaker$Update", "withdrawn", "I", false)
  | 5 => ("RouteSpeaker$Update", "announced", "I", false)
  | 6 => ("RouteSpeaker$Update", "attributesFrom", "I", false)
  | _ => ("RouteSpeaker$Update", "attributesTo", "I", false)
def rs_y10 : Nat → FieldType := fun k => match k with
  | 0 => .object "RouteSpeaker$Route"
  | 1 => .array (.boolean)
  | 2 => .array (.int)
  | 3 => .int
  | 4 => .int
  | 5 => .int
  | 6 => .int
  | _ => .int
def rs_r10 : Nat → Nat := fun k => match k with
  | 0 => 8
  | 1 => 21
  | 2 => 20
  | 3 => 0
  | 4 => 0
  | 5 => 0
  | 6 => 0
  | _ => 0
def rs_T11 : u_T := fun k => match k with
  | 0 => ("RouteSpeakerModel", "code", "I", false)
  | 1 => ("RouteSpeakerModel", "role", "[I", true)
  | 2 => ("RouteSpeakerModel", "network", "[I", true)
  | 3 => ("RouteSpeakerModel", "state", "[I", true)
  | 4 => ("RouteSpeakerModel", "holdTimer", "[I", true)
  | 5 => ("RouteSpeakerModel", "keepTimer", "[I", true)
  | 6 => ("RouteSpeakerModel", "hold", "[I", true)
  | 7 => ("RouteSpeakerModel", "id", "[I", true)
  | 8 => ("RouteSpeakerModel", "padding", "[I", true)
  | 9 => ("RouteSpeakerModel", "muteLength", "[I", true)
  | 10 => ("RouteSpeakerModel", "muteAddress", "[I", true)
  | 11 => ("RouteSpeakerModel", "rules", "[I", true)
  | 12 => ("RouteSpeakerModel", "ruleLength", "[I", true)
  | 13 => ("RouteSpeakerModel", "ruleAddress", "[I", true)
  | 14 => ("RouteSpeakerModel", "ruleAction", "[I", true)
  | 15 => ("RouteSpeakerModel", "input", "[I", true)
  | 16 => ("RouteSpeakerModel", "inputs", "[I", true)
  | 17 => ("RouteSpeakerModel", "output", "[I", true)
  | 18 => ("RouteSpeakerModel", "outputs", "[I", true)
  | 19 => ("RouteSpeakerModel", "made", "[I", true)
  | 20 => ("RouteSpeakerModel", "makes", "I", false)
  | 21 => ("RouteSpeakerModel", "known", "I", false)
  | 22 => ("RouteSpeakerModel", "lengths", "[I", true)
  | 23 => ("RouteSpeakerModel", "addresses", "[I", true)
  | 24 => ("RouteSpeakerModel", "there", "[Z", true)
  | 25 => ("RouteSpeakerModel", "origin", "[I", true)
  | 26 => ("RouteSpeakerModel", "paths", "[I", true)
  | 27 => ("RouteSpeakerModel", "path", "[I", true)
  | 28 => ("RouteSpeakerModel", "next", "[I", true)
  | 29 => ("RouteSpeakerModel", "metric", "[I", true)
  | 30 => ("RouteSpeakerModel", "preference", "[I", true)
  | 31 => ("RouteSpeakerModel", "source", "[I", true)
  | 32 => ("RouteSpeakerModel", "clusters", "[I", true)
  | 33 => ("RouteSpeakerModel", "cluster", "[I", true)
  | 34 => ("RouteSpeakerModel", "penalty", "[D", true)
  | 35 => ("RouteSpeakerModel", "damped", "[Z", true)
  | 36 => ("RouteSpeakerModel", "told", "[I", true)
  | 37 => ("RouteSpeakerModel", "attributes", "[I", true)
  | 38 => ("RouteSpeakerModel", "wanted", "[I", true)
  | 39 => ("RouteSpeakerModel", "place", "[I", true)
  | _ => ("RouteSpeakerModel", "candidate", "[Z", true)
def rs_y11 : Nat → FieldType := fun k => match k with
  | 0 => .int
  | 1 => .array (.int)
  | 2 => .array (.int)
  | 3 => .array (.int)
  | 4 => .array (.int)
  | 5 => .array (.int)
  | 6 => .array (.int)
  | 7 => .array (.int)
  | 8 => .array (.int)
  | 9 => .array (.int)
  | 10 => .array (.int)
  | 11 => .array (.int)
  | 12 => .array (.int)
  | 13 => .array (.int)
  | 14 => .array (.int)
  | 15 => .array (.int)
  | 16 => .array (.int)
  | 17 => .array (.int)
  | 18 => .array (.int)
  | 19 => .array (.int)
  | 20 => .int
  | 21 => .int
  | 22 => .array (.int)
  | 23 => .array (.int)
  | 24 => .array (.boolean)
  | 25 => .array (.int)
  | 26 => .array (.int)
  | 27 => .array (.int)
  | 28 => .array (.int)
  | 29 => .array (.int)
  | 30 => .array (.int)
  | 31 => .array (.int)
  | 32 => .array (.int)
  | 33 => .array (.int)
  | 34 => .array (.double)
  | 35 => .array (.boolean)
  | 36 => .array (.int)
  | 37 => .array (.int)
  | 38 => .array (.int)
  | 39 => .array (.int)
  | _ => .array (.boolean)
def rs_r11 : Nat → Nat := fun k => match k with
  | 0 => 0
  | 1 => 20
  | 2 => 20
  | 3 => 20
  | 4 => 20
  | 5 => 20
  | 6 => 20
  | 7 => 20
  | 8 => 20
  | 9 => 20
  | 10 => 20
  | 11 => 20
  | 12 => 20
  | 13 => 20
  | 14 => 20
  | 15 => 20
  | 16 => 20
  | 17 => 20
  | 18 => 20
  | 19 => 20
  | 20 => 0
  | 21 => 0
  | 22 => 20
  | 23 => 20
  | 24 => 21
  | 25 => 20
  | 26 => 20
  | 27 => 20
  | 28 => 20
  | 29 => 20
  | 30 => 20
  | 31 => 20
  | 32 => 20
  | 33 => 20
  | 34 => 23
  | 35 => 21
  | 36 => 20
  | 37 => 20
  | 38 => 20
  | 39 => 20
  | _ => 21
def rs_ft : Nat → u_T := fun c => match c with
  | 2 => rs_T2
  | 3 => rs_T3
  | 4 => rs_T4
  | 5 => rs_T5
  | 6 => rs_T6
  | 7 => rs_T7
  | 8 => rs_T8
  | 9 => rs_T9
  | 10 => rs_T10
  | 11 => rs_T11
  | _ => rs_T1
def rs_ty : Nat → Nat → FieldType := fun c => match c with
  | 2 => rs_y2
  | 3 => rs_y3
  | 4 => rs_y4
  | 5 => rs_y5
  | 6 => rs_y6
  | 7 => rs_y7
  | 8 => rs_y8
  | 9 => rs_y9
  | 10 => rs_y10
  | 11 => rs_y11
  | _ => rs_y1
def rs_rf : Nat → Nat → Nat := fun c => match c with
  | 2 => rs_r2
  | 3 => rs_r3
  | 4 => rs_r4
  | 5 => rs_r5
  | 6 => rs_r6
  | 7 => rs_r7
  | 8 => rs_r8
  | 9 => rs_r9
  | 10 => rs_r10
  | 11 => rs_r11
  | _ => rs_r1
def rs_nf : Nat → Nat := fun c => match c with
  | 2 => 3
  | 3 => 4
  | 4 => 4
  | 5 => 3
  | 6 => 17
  | 7 => 4
  | 8 => 9
  | 9 => 4
  | 10 => 8
  | 11 => 41
  | _ => 6
def rs_cl : List vw_C := (List.range 12).map (fun c => (rs_cn c, rs_ft c, rs_nf c))
/-- element type of an array kind; component kind of an array of references -/
def rs_et : Nat → FieldType := fun c => match c with
  | 21 => .boolean
  | 22 => .long
  | 23 => .double
  | 24 => .object "RouteSpeaker$Peer"
  | 25 => .object "RouteSpeaker$Route"
  | 26 => .array (.int)
  | _ => .int
def rs_ae : Nat → Nat := fun c => match c with
  | 24 => 6
  | 25 => 8
  | 26 => 20
  | _ => 0
theorem rs_in {w : Cond} {L : List Cond} (i : Nat) (h : L[i]? = some w) : w ∈ L := List.mem_of_getElem? h
theorem rs_i1 {w : Cond} (h : w ∈ tables_1_1) : w ∈ lw_tbl := List.mem_append_right _ (List.mem_append_left _ h)
theorem rs_i2 {w : Cond} (h : w ∈ tables_1_2) : w ∈ lw_tbl := List.mem_append_right _ (List.mem_append_right _ (List.mem_append_left _ h))
theorem rs_i3 {w : Cond} (h : w ∈ tables_1_3) : w ∈ lw_tbl := List.mem_append_right _ (List.mem_append_right _ (List.mem_append_right _ (List.mem_append_left _ h)))
theorem rs_i4 {w : Cond} (h : w ∈ tables_1_4) : w ∈ lw_tbl := List.mem_append_right _ (List.mem_append_right _ (List.mem_append_right _ (List.mem_append_right _ (List.mem_append_left _ h))))
theorem rs_i5 {w : Cond} (h : w ∈ tables_1_5) : w ∈ lw_tbl := List.mem_append_right _ (List.mem_append_right _ (List.mem_append_right _ (List.mem_append_right _ (List.mem_append_right _ (List.mem_append_left _ h)))))
theorem rs_i6 {w : Cond} (h : w ∈ tables_1_6) : w ∈ lw_tbl := List.mem_append_right _ (List.mem_append_right _ (List.mem_append_right _ (List.mem_append_right _ (List.mem_append_right _ (List.mem_append_right _ h)))))
def rs_W : List Cond := lw_tbl.filter goodWord
theorem rs_f {w : Cond} (h : w ∈ lw_tbl) (g : goodWord w = true) : w ∈ rs_W := List.mem_filter.mpr ⟨h, g⟩
theorem rs_hts {args : Array Value} {s : State} (h : ∀ w ∈ lw_tbl, w.before args s = true) : ∀ w ∈ rs_W, w.before args s = true := fun w hw => h w (List.mem_filter.mp hw).1
def rs_NW : List (String × Nat × MethodName × String) := [("RouteSpeaker$Rules", 25, ⟨"RouteSpeaker", "isWithin", "(IIII)Z"⟩, "RouteSpeaker"), ("RouteSpeaker$Peer", 57, ⟨"RouteSpeaker", "isWithin", "(IIII)Z"⟩, "RouteSpeaker"), ("RouteSpeaker$Peer", 127, ⟨"RouteSpeaker", "isNumber", "(I)Z"⟩, "RouteSpeaker"), ("RouteSpeaker$Update", 111, ⟨"RouteSpeaker", "isNumber", "(I)Z"⟩, "RouteSpeaker"), ("RouteSpeaker$Update", 130, ⟨"RouteSpeaker", "isPrefix", "(II)Z"⟩, "RouteSpeaker")]
theorem tw_0 : (Jvm.Cond.initialized "RouteSpeakerLaw") ∈ rs_W := rs_f (rs_i1 (rs_in 0 (by decide +kernel))) rfl
theorem tw_1 : (Jvm.Cond.initialized "RouteSpeaker") ∈ rs_W := rs_f (rs_i1 (rs_in 1 (by decide +kernel))) rfl
theorem tw_2 : (Jvm.Cond.initialized "RouteSpeaker$Prefixes") ∈ rs_W := rs_f (rs_i1 (rs_in 2 (by decide +kernel))) rfl
theorem tw_3 : (Jvm.Cond.initialized "RouteSpeaker$Route") ∈ rs_W := rs_f (rs_i1 (rs_in 3 (by decide +kernel))) rfl
theorem tw_4 : (Jvm.Cond.initialized "RouteSpeaker$Update") ∈ rs_W := rs_f (rs_i1 (rs_in 4 (by decide +kernel))) rfl
theorem tw_5 : (Jvm.Cond.initialized "RouteSpeaker$Choice") ∈ rs_W := rs_f (rs_i1 (rs_in 5 (by decide +kernel))) rfl
theorem tw_6 : (Jvm.Cond.initialized "RouteSpeaker$Letter") ∈ rs_W := rs_f (rs_i1 (rs_in 6 (by decide +kernel))) rfl
theorem tw_7 : (Jvm.Cond.initialized "RouteSpeaker$Peer") ∈ rs_W := rs_f (rs_i1 (rs_in 7 (by decide +kernel))) rfl
theorem tw_8 : (Jvm.Cond.initialized "RouteSpeaker$Rules") ∈ rs_W := rs_f (rs_i1 (rs_in 8 (by decide +kernel))) rfl
theorem tw_9 : (Jvm.Cond.initialized "RouteSpeaker$Outbox") ∈ rs_W := rs_f (rs_i1 (rs_in 9 (by decide +kernel))) rfl
theorem tw_10 : (Jvm.Cond.initialized "RouteSpeaker$Incoming") ∈ rs_W := rs_f (rs_i1 (rs_in 10 (by decide +kernel))) rfl
theorem tw_11 : (Jvm.Cond.initialized "RouteSpeakerModel") ∈ rs_W := rs_f (rs_i1 (rs_in 11 (by decide +kernel))) rfl
theorem tw_12 : (Jvm.Cond.initialized "java/lang/Throwable") ∈ rs_W := rs_f (rs_i1 (rs_in 12 (by decide +kernel))) rfl
theorem tw_13 : (Jvm.Cond.initialized "java/lang/Exception") ∈ rs_W := rs_f (rs_i1 (rs_in 13 (by decide +kernel))) rfl
theorem tw_14 : (Jvm.Cond.initialized "java/lang/RuntimeException") ∈ rs_W := rs_f (rs_i1 (rs_in 14 (by decide +kernel))) rfl
theorem tw_15 : (Jvm.Cond.initialized "java/lang/IllegalArgumentException") ∈ rs_W := rs_f (rs_i1 (rs_in 15 (by decide +kernel))) rfl
theorem tw_16 : (Jvm.Cond.initialized "java/lang/IllegalStateException") ∈ rs_W := rs_f (rs_i1 (rs_in 16 (by decide +kernel))) rfl
theorem tw_17 : (Jvm.Cond.initialized "java/lang/Math") ∈ rs_W := rs_f (rs_i1 (rs_in 17 (by decide +kernel))) rfl
theorem tw_18 : (Jvm.Cond.initialized "java/lang/System") ∈ rs_W := rs_f (rs_i1 (rs_in 18 (by decide +kernel))) rfl
theorem tw_19 : (Jvm.Cond.initialized "java/util/NoSuchElementException") ∈ rs_W := rs_f (rs_i1 (rs_in 19 (by decide +kernel))) rfl
theorem tw_20 : (Jvm.Cond.classLink "RouteSpeakerLaw" (8 : Nat) "RouteSpeaker") ∈ rs_W := rs_f (rs_i1 (rs_in 20 (by decide +kernel))) rfl
theorem tw_21 : (Jvm.Cond.instantiable "RouteSpeaker" (6 : Nat)) ∈ rs_W := rs_f (rs_i1 (rs_in 21 (by decide +kernel))) rfl
theorem tw_22 : (Jvm.Cond.methodLink "RouteSpeakerLaw" (66 : Nat) ({ cls := "RouteSpeaker", name := "<init>", desc := "()V" } : Jvm.MethodName)) ∈ rs_W := rs_f (rs_i1 (rs_in 22 (by decide +kernel))) rfl
theorem tw_23 : (Jvm.Cond.instanceMethod ({ cls := "RouteSpeaker", name := "<init>", desc := "()V" } : Jvm.MethodName)) ∈ rs_W := rs_f (rs_i1 (rs_in 23 (by decide +kernel))) rfl
theorem tw_24 : (Jvm.Cond.code ({ cls := "RouteSpeaker", name := "<init>", desc := "()V" } : Jvm.MethodName) prog_1_method_1_code (2 : Nat) (Option.none : Option Jvm.ClassFile.FieldType)) ∈ rs_W := rs_f (rs_i1 (rs_in 24 (by decide +kernel))) rfl
theorem tw_25 : (Jvm.Cond.methodLink "RouteSpeaker" (1 : Nat) ({ cls := "java/lang/Object", name := "<init>", desc := "()V" } : Jvm.MethodName)) ∈ rs_W := rs_f (rs_i1 (rs_in 25 (by decide +kernel))) rfl
theorem tw_26 : (Jvm.Cond.instanceMethod ({ cls := "java/lang/Object", name := "<init>", desc := "()V" } : Jvm.MethodName)) ∈ rs_W := rs_f (rs_i1 (rs_in 26 (by decide +kernel))) rfl
theorem tw_27 : (Jvm.Cond.code ({ cls := "java/lang/Object", name := "<init>", desc := "()V" } : Jvm.MethodName) object_method_1_code (1 : Nat) (Option.none : Option Jvm.ClassFile.FieldType)) ∈ rs_W := rs_f (rs_i1 (rs_in 27 (by decide +kernel))) rfl
theorem tw_28 : (Jvm.Cond.classLink "RouteSpeaker" (7 : Nat) "RouteSpeaker$Prefixes") ∈ rs_W := rs_f (rs_i1 (rs_in 28 (by decide +kernel))) rfl
theorem tw_29 : (Jvm.Cond.instantiable "RouteSpeaker$Prefixes" (4 : Nat)) ∈ rs_W := rs_f (rs_i1 (rs_in 29 (by decide +kernel))) rfl
theorem tw_30 : (Jvm.Cond.methodLink "RouteSpeaker" (9 : Nat) ({ cls := "RouteSpeaker$Prefixes", name := "<init>", desc := "()V" } : Jvm.MethodName)) ∈ rs_W := rs_f (rs_i1 (rs_in 30 (by decide +kernel))) rfl
theorem tw_31 : (Jvm.Cond.instanceMethod ({ cls := "RouteSpeaker$Prefixes", name := "<init>", desc := "()V" } : Jvm.MethodName)) ∈ rs_W := rs_f (rs_i1 (rs_in 31 (by decide +kernel))) rfl
theorem tw_32 : (Jvm.Cond.code ({ cls := "RouteSpeaker$Prefixes", name := "<init>", desc := "()V" } : Jvm.MethodName) prog_7_method_1_code (1 : Nat) (Option.none : Option Jvm.ClassFile.FieldType)) ∈ rs_W := rs_f (rs_i1 (rs_in 32 (by decide +kernel))) rfl
theorem tw_33 : (Jvm.Cond.methodLink "RouteSpeaker$Prefixes" (3 : Nat) ({ cls := "java/lang/Object", name := "<init>", desc := "()V" } : Jvm.MethodName)) ∈ rs_W := rs_f (rs_i1 (rs_in 33 (by decide +kernel))) rfl
theorem tw_34 : (Jvm.Cond.fieldLink "RouteSpeaker$Prefixes" (9 : Nat) "RouteSpeaker$Prefixes" "lengths" "[I") ∈ rs_W := rs_f (rs_i1 (rs_in 34 (by decide +kernel))) rfl
theorem tw_35 : (Jvm.Cond.fieldLink "RouteSpeaker" (208 : Nat) "RouteSpeaker$Prefixes" "lengths" "[I") ∈ rs_W := rs_f (rs_i1 (rs_in 35 (by decide +kernel))) rfl
theorem tw_36 : (Jvm.Cond.fieldLink "RouteSpeaker$Prefixes" (15 : Nat) "RouteSpeaker$Prefixes" "addresses" "[I") ∈ rs_W := rs_f (rs_i1 (rs_in 36 (by decide +kernel))) rfl
theorem tw_37 : (Jvm.Cond.fieldLink "RouteSpeaker" (212 : Nat) "RouteSpeaker$Prefixes" "addresses" "[I") ∈ rs_W := rs_f (rs_i1 (rs_in 37 (by decide +kernel))) rfl
theorem tw_38 : (Jvm.Cond.fieldLink "RouteSpeaker$Prefixes" (18 : Nat) "RouteSpeaker$Prefixes" "originated" "[Z") ∈ rs_W := rs_f (rs_i1 (rs_in 38 (by decide +kernel))) rfl
theorem tw_39 : (Jvm.Cond.fieldLink "RouteSpeaker" (113 : Nat) "RouteSpeaker$Prefixes" "originated" "[Z") ∈ rs_W := rs_f (rs_i1 (rs_in 39 (by decide +kernel))) rfl
theorem tw_40 : (Jvm.Cond.fieldLink "RouteSpeaker$Prefixes" (22 : Nat) "RouteSpeaker$Prefixes" "count" "I") ∈ rs_W := rs_f (rs_i1 (rs_in 40 (by decide +kernel))) rfl
theorem tw_41 : (Jvm.Cond.fieldLink "RouteSpeaker$Update" (60 : Nat) "RouteSpeaker$Prefixes" "count" "I") ∈ rs_W := rs_f (rs_i1 (rs_in 41 (by decide +kernel))) rfl
theorem tw_42 : (Jvm.Cond.fieldLink "RouteSpeaker" (207 : Nat) "RouteSpeaker$Prefixes" "count" "I") ∈ rs_W := rs_f (rs_i1 (rs_in 42 (by decide +kernel))) rfl
theorem tw_52 : (Jvm.Cond.arrayClass Jvm.ClassFile.FieldType.int) ∈ rs_W := rs_f (rs_i1 (rs_in 52 (by decide +kernel))) rfl
theorem tw_53 : (Jvm.Cond.arrayClass Jvm.ClassFile.FieldType.boolean) ∈ rs_W := rs_f (rs_i1 (rs_in 53 (by decide +kernel))) rfl
theorem tw_54 : (Jvm.Cond.classLink "RouteSpeaker" (16 : Nat) "RouteSpeaker$Peer") ∈ rs_W := rs_f (rs_i1 (rs_in 54 (by decide +kernel))) rfl
theorem tw_56 : (Jvm.Cond.classLink "RouteSpeaker" (22 : Nat) "RouteSpeaker$Route") ∈ rs_W := rs_f (rs_i1 (rs_in 56 (by decide +kernel))) rfl
theorem tw_57 : (Jvm.Cond.instantiable "RouteSpeaker$Route" (9 : Nat)) ∈ rs_W := rs_f (rs_i1 (rs_in 57 (by decide +kernel))) rfl
theorem tw_58 : (Jvm.Cond.methodLink "RouteSpeaker" (24 : Nat) ({ cls := "RouteSpeaker$Route", name := "<init>", desc := "()V" } : Jvm.MethodName)) ∈ rs_W := rs_f (rs_i1 (rs_in 58 (by decide +kernel))) rfl
theorem tw_59 : (Jvm.Cond.instanceMethod ({ cls := "RouteSpeaker$Route", name := "<init>", desc := "()V" } : Jvm.MethodName)) ∈ rs_W := rs_f (rs_i1 (rs_in 59 (by decide +kernel))) rfl
theorem tw_60 : (Jvm.Cond.code ({ cls := "RouteSpeaker$Route", name := "<init>", desc := "()V" } : Jvm.MethodName) prog_8_method_1_code (1 : Nat) (Option.none : Option Jvm.ClassFile.FieldType)) ∈ rs_W := rs_f (rs_i1 (rs_in 60 (by decide +kernel))) rfl
theorem tw_61 : (Jvm.Cond.methodLink "RouteSpeaker$Route" (3 : Nat) ({ cls := "java/lang/Object", name := "<init>", desc := "()V" } : Jvm.MethodName)) ∈ rs_W := rs_f (rs_i1 (rs_in 61 (by decide +kernel))) rfl
theorem tw_62 : (Jvm.Cond.fieldLink "RouteSpeaker$Route" (25 : Nat) "RouteSpeaker$Route" "origin" "I") ∈ rs_W := rs_f (rs_i1 (rs_in 62 (by decide +kernel))) rfl
theorem tw_63 : (Jvm.Cond.fieldLink "RouteSpeaker$Letter" (34 : Nat) "RouteSpeaker$Route" "origin" "I") ∈ rs_W := rs_f (rs_i1 (rs_in 63 (by decide +kernel))) rfl
theorem tw_64 : (Jvm.Cond.fieldLink "RouteSpeaker$Choice" (34 : Nat) "RouteSpeaker$Route" "origin" "I") ∈ rs_W := rs_f (rs_i1 (rs_in 64 (by decide +kernel))) rfl
theorem tw_65 : (Jvm.Cond.fieldLink "RouteSpeaker$Update" (105 : Nat) "RouteSpeaker$Route" "origin" "I") ∈ rs_W := rs_f (rs_i1 (rs_in 65 (by decide +kernel))) rfl
theorem tw_66 : (Jvm.Cond.fieldLink "RouteSpeaker$Route" (28 : Nat) "RouteSpeaker$Route" "pathLength" "I") ∈ rs_W := rs_f (rs_i1 (rs_in 66 (by decide +kernel))) rfl
theorem tw_67 : (Jvm.Cond.fieldLink "RouteSpeaker$Letter" (22 : Nat) "RouteSpeaker$Route" "pathLength" "I") ∈ rs_W := rs_f (rs_i1 (rs_in 67 (by decide +kernel))) rfl
theorem tw_68 : (Jvm.Cond.fieldLink "RouteSpeaker$Choice" (30 : Nat) "RouteSpeaker$Route" "pathLength" "I") ∈ rs_W := rs_f (rs_i1 (rs_in 68 (by decide +kernel))) rfl
theorem tw_69 : (Jvm.Cond.fieldLink "RouteSpeaker$Update" (86 : Nat) "RouteSpeaker$Route" "pathLength" "I") ∈ rs_W := rs_f (rs_i1 (rs_in 69 (by decide +kernel))) rfl
theorem tw_70 : (Jvm.Cond.fieldLink "RouteSpeaker$Route" (9 : Nat) "RouteSpeaker$Route" "path" "[I") ∈ rs_W := rs_f (rs_i1 (rs_in 70 (by decide +kernel))) rfl
theorem tw_71 : (Jvm.Cond.fieldLink "RouteSpeaker$Letter" (41 : Nat) "RouteSpeaker$Route" "path" "[I") ∈ rs_W := rs_f (rs_i1 (rs_in 71 (by decide +kernel))) rfl
theorem tw_72 : (Jvm.Cond.fieldLink "RouteSpeaker$Update" (89 : Nat) "RouteSpeaker$Route" "path" "[I") ∈ rs_W := rs_f (rs_i1 (rs_in 72 (by decide +kernel))) rfl
theorem tw_73 : (Jvm.Cond.fieldLink "RouteSpeaker" (53 : Nat) "RouteSpeaker$Route" "next" "I") ∈ rs_W := rs_f (rs_i1 (rs_in 73 (by decide +kernel))) rfl
theorem tw_74 : (Jvm.Cond.fieldLink "RouteSpeaker$Route" (31 : Nat) "RouteSpeaker$Route" "next" "I") ∈ rs_W := rs_f (rs_i1 (rs_in 74 (by decide +kernel))) rfl
theorem tw_75 : (Jvm.Cond.fieldLink "RouteSpeaker$Letter" (54 : Nat) "RouteSpeaker$Route" "next" "I") ∈ rs_W := rs_f (rs_i1 (rs_in 75 (by decide +kernel))) rfl
theorem tw_76 : (Jvm.Cond.fieldLink "RouteSpeaker$Update" (108 : Nat) "RouteSpeaker$Route" "next" "I") ∈ rs_W := rs_f (rs_i1 (rs_in 76 (by decide +kernel))) rfl
theorem tw_77 : (Jvm.Cond.fieldLink "RouteSpeaker$Route" (15 : Nat) "RouteSpeaker$Route" "metric" "I") ∈ rs_W := rs_f (rs_i1 (rs_in 77 (by decide +kernel))) rfl
theorem tw_78 : (Jvm.Cond.fieldLink "RouteSpeaker$Choice" (37 : Nat) "RouteSpeaker$Route" "metric" "I") ∈ rs_W := rs_f (rs_i1 (rs_in 78 (by decide +kernel))) rfl
theorem tw_79 : (Jvm.Cond.fieldLink "RouteSpeaker$Letter" (57 : Nat) "RouteSpeaker$Route" "metric" "I") ∈ rs_W := rs_f (rs_i1 (rs_in 79 (by decide +kernel))) rfl
theorem tw_80 : (Jvm.Cond.fieldLink "RouteSpeaker$Update" (114 : Nat) "RouteSpeaker$Route" "metric" "I") ∈ rs_W := rs_f (rs_i1 (rs_in 80 (by decide +kernel))) rfl
theorem tw_81 : (Jvm.Cond.fieldLink "RouteSpeaker$Route" (19 : Nat) "RouteSpeaker$Route" "preference" "I") ∈ rs_W := rs_f (rs_i1 (rs_in 81 (by decide +kernel))) rfl
theorem tw_82 : (Jvm.Cond.fieldLink "RouteSpeaker$Update" (117 : Nat) "RouteSpeaker$Route" "preference" "I") ∈ rs_W := rs_f (rs_i1 (rs_in 82 (by decide +kernel))) rfl
theorem tw_83 : (Jvm.Cond.fieldLink "RouteSpeaker" (226 : Nat) "RouteSpeaker$Route" "preference" "I") ∈ rs_W := rs_f (rs_i1 (rs_in 83 (by decide +kernel))) rfl
theorem tw_84 : (Jvm.Cond.fieldLink "RouteSpeaker$Route" (37 : Nat) "RouteSpeaker$Route" "source" "I") ∈ rs_W := rs_f (rs_i1 (rs_in 84 (by decide +kernel))) rfl
theorem tw_85 : (Jvm.Cond.fieldLink "RouteSpeaker$Update" (120 : Nat) "RouteSpeaker$Route" "source" "I") ∈ rs_W := rs_f (rs_i1 (rs_in 85 (by decide +kernel))) rfl
theorem tw_86 : (Jvm.Cond.fieldLink "RouteSpeaker$Route" (40 : Nat) "RouteSpeaker$Route" "clusterCount" "I") ∈ rs_W := rs_f (rs_i1 (rs_in 86 (by decide +kernel))) rfl
theorem tw_87 : (Jvm.Cond.fieldLink "RouteSpeaker$Choice" (44 : Nat) "RouteSpeaker$Route" "clusterCount" "I") ∈ rs_W := rs_f (rs_i1 (rs_in 87 (by decide +kernel))) rfl
theorem tw_88 : (Jvm.Cond.fieldLink "RouteSpeaker$Letter" (51 : Nat) "RouteSpeaker$Route" "clusterCount" "I") ∈ rs_W := rs_f (rs_i1 (rs_in 88 (by decide +kernel))) rfl
theorem tw_89 : (Jvm.Cond.fieldLink "RouteSpeaker$Update" (96 : Nat) "RouteSpeaker$Route" "clusterCount" "I") ∈ rs_W := rs_f (rs_i1 (rs_in 89 (by decide +kernel))) rfl
theorem tw_90 : (Jvm.Cond.fieldLink "RouteSpeaker$Route" (22 : Nat) "RouteSpeaker$Route" "clusters" "[I") ∈ rs_W := rs_f (rs_i1 (rs_in 90 (by decide +kernel))) rfl
theorem tw_91 : (Jvm.Cond.fieldLink "RouteSpeaker$Letter" (64 : Nat) "RouteSpeaker$Route" "clusters" "[I") ∈ rs_W := rs_f (rs_i1 (rs_in 91 (by decide +kernel))) rfl
theorem tw_92 : (Jvm.Cond.fieldLink "RouteSpeaker$Update" (99 : Nat) "RouteSpeaker$Route" "clusters" "[I") ∈ rs_W := rs_f (rs_i1 (rs_in 92 (by decide +kernel))) rfl
theorem tw_112 : (Jvm.Cond.classLink "RouteSpeaker" (29 : Nat) "RouteSpeaker$Update") ∈ rs_W := rs_f (rs_i1 (rs_in 112 (by decide +kernel))) rfl
theorem tw_113 : (Jvm.Cond.instantiable "RouteSpeaker$Update" (8 : Nat)) ∈ rs_W := rs_f (rs_i1 (rs_in 113 (by decide +kernel))) rfl
theorem tw_114 : (Jvm.Cond.methodLink "RouteSpeaker" (31 : Nat) ({ cls := "RouteSpeaker$Update", name := "<init>", desc := "()V" } : Jvm.MethodName)) ∈ rs_W := rs_f (rs_i1 (rs_in 114 (by decide +kernel))) rfl
theorem tw_115 : (Jvm.Cond.instanceMethod ({ cls := "RouteSpeaker$Update", name := "<init>", desc := "()V" } : Jvm.MethodName)) ∈ rs_W := rs_f (rs_i1 (rs_in 115 (by decide +kernel))) rfl
theorem tw_116 : (Jvm.Cond.code ({ cls := "RouteSpeaker$Update", name := "<init>", desc := "()V" } : Jvm.MethodName) prog_10_method_1_code (1 : Nat) (Option.none : Option Jvm.ClassFile.FieldType)) ∈ rs_W := rs_f (rs_i1 (rs_in 116 (by decide +kernel))) rfl
theorem tw_117 : (Jvm.Cond.methodLink "RouteSpeaker$Update" (3 : Nat) ({ cls := "java/lang/Object", name := "<init>", desc := "()V" } : Jvm.MethodName)) ∈ rs_W := rs_f (rs_i1 (rs_in 117 (by decide +kernel))) rfl
theorem tw_118 : (Jvm.Cond.classLink "RouteSpeaker$Update" (9 : Nat) "RouteSpeaker$Route") ∈ rs_W := rs_f (rs_i1 (rs_in 118 (by decide +kernel))) rfl
theorem tw_119 : (Jvm.Cond.methodLink "RouteSpeaker$Update" (11 : Nat) ({ cls := "RouteSpeaker$Route", name := "<init>", desc := "()V" } : Jvm.MethodName)) ∈ rs_W := rs_f (rs_i1 (rs_in 119 (by decide +kernel))) rfl
theorem tw_120 : (Jvm.Cond.fieldLink "RouteSpeaker$Update" (12 : Nat) "RouteSpeaker$Update" "route" "LRouteSpeaker$Route;") ∈ rs_W := rs_f (rs_i1 (rs_in 120 (by decide +kernel))) rfl
theorem tw_121 : (Jvm.Cond.fieldLink "RouteSpeaker$Peer" (178 : Nat) "RouteSpeaker$Update" "route" "LRouteSpeaker$Route;") ∈ rs_W := rs_f (rs_i1 (rs_in 121 (by decide +kernel))) rfl
theorem tw_122 : (Jvm.Cond.fieldLink "RouteSpeaker$Update" (18 : Nat) "RouteSpeaker$Update" "seen" "[Z") ∈ rs_W := rs_f (rs_i1 (rs_in 122 (by decide +kernel))) rfl
theorem tw_123 : (Jvm.Cond.fieldLink "RouteSpeaker$Update" (22 : Nat) "RouteSpeaker$Update" "message" "[I") ∈ rs_W := rs_f (rs_i1 (rs_in 123 (by decide +kernel))) rfl
theorem tw_124 : (Jvm.Cond.fieldLink "RouteSpeaker$Update" (26 : Nat) "RouteSpeaker$Update" "size" "I") ∈ rs_W := rs_f (rs_i1 (rs_in 124 (by decide +kernel))) rfl
theorem tw_125 : (Jvm.Cond.fieldLink "RouteSpeaker$Update" (78 : Nat) "RouteSpeaker$Update" "withdrawn" "I") ∈ rs_W := rs_f (rs_i1 (rs_in 125 (by decide +kernel))) rfl
theorem tw_126 : (Jvm.Cond.fieldLink "RouteSpeaker$Peer" (154 : Nat) "RouteSpeaker$Update" "withdrawn" "I") ∈ rs_W := rs_f (rs_i1 (rs_in 126 (by decide +kernel))) rfl
theorem tw_127 : (Jvm.Cond.fieldLink "RouteSpeaker$Update" (47 : Nat) "RouteSpeaker$Update" "announced" "I") ∈ rs_W := rs_f (rs_i1 (rs_in 127 (by decide +kernel))) rfl
theorem tw_128 : (Jvm.Cond.fieldLink "RouteSpeaker$Peer" (169 : Nat) "RouteSpeaker$Update" "announced" "I") ∈ rs_W := rs_f (rs_i1 (rs_in 128 (by decide +kernel))) rfl
theorem tw_129 : (Jvm.Cond.fieldLink "RouteSpeaker$Update" (37 : Nat) "RouteSpeaker$Update" "attributesFrom" "I") ∈ rs_W := rs_f (rs_i1 (rs_in 129 (by decide +kernel))) rfl
theorem tw_130 : (Jvm.Cond.fieldLink "RouteSpeaker$Update" (40 : Nat) "RouteSpeaker$Update" "attributesTo" "I") ∈ rs_W := rs_f (rs_i1 (rs_in 130 (by decide +kernel))) rfl
theorem tw_148 : (Jvm.Cond.classLink "RouteSpeaker" (36 : Nat) "RouteSpeaker$Choice") ∈ rs_W := rs_f (rs_i1 (rs_in 148 (by decide +kernel))) rfl
theorem tw_149 : (Jvm.Cond.instantiable "RouteSpeaker$Choice" (3 : Nat)) ∈ rs_W := rs_f (rs_i1 (rs_in 149 (by decide +kernel))) rfl
theorem tw_150 : (Jvm.Cond.methodLink "RouteSpeaker" (38 : Nat) ({ cls := "RouteSpeaker$Choice", name := "<init>", desc := "()V" } : Jvm.MethodName)) ∈ rs_W := rs_f (rs_i1 (rs_in 150 (by decide +kernel))) rfl
theorem tw_151 : (Jvm.Cond.instanceMethod ({ cls := "RouteSpeaker$Choice", name := "<init>", desc := "()V" } : Jvm.MethodName)) ∈ rs_W := rs_f (rs_i1 (rs_in 151 (by decide +kernel))) rfl
theorem tw_152 : (Jvm.Cond.code ({ cls := "RouteSpeaker$Choice", name := "<init>", desc := "()V" } : Jvm.MethodName) prog_2_method_1_code (1 : Nat) (Option.none : Option Jvm.ClassFile.FieldType)) ∈ rs_W := rs_f (rs_i1 (rs_in 152 (by decide +kernel))) rfl
theorem tw_153 : (Jvm.Cond.methodLink "RouteSpeaker$Choice" (3 : Nat) ({ cls := "java/lang/Object", name := "<init>", desc := "()V" } : Jvm.MethodName)) ∈ rs_W := rs_f (rs_i1 (rs_in 153 (by decide +kernel))) rfl
theorem tw_154 : (Jvm.Cond.classLink "RouteSpeaker$Choice" (11 : Nat) "[[I") ∈ rs_W := rs_f (rs_i1 (rs_in 154 (by decide +kernel))) rfl
theorem tw_156 : (Jvm.Cond.fieldLink "RouteSpeaker$Choice" (13 : Nat) "RouteSpeaker$Choice" "measures" "[[I") ∈ rs_W := rs_f (rs_i1 (rs_in 156 (by decide +kernel))) rfl
theorem tw_157 : (Jvm.Cond.fieldLink "RouteSpeaker$Choice" (16 : Nat) "RouteSpeaker$Choice" "firstNetworks" "[I") ∈ rs_W := rs_f (rs_i1 (rs_in 157 (by decide +kernel))) rfl
theorem tw_158 : (Jvm.Cond.fieldLink "RouteSpeaker$Choice" (20 : Nat) "RouteSpeaker$Choice" "left" "[Z") ∈ rs_W := rs_f (rs_i1 (rs_in 158 (by decide +kernel))) rfl
theorem tw_166 : (Jvm.Cond.classLink "RouteSpeaker" (43 : Nat) "RouteSpeaker$Letter") ∈ rs_W := rs_f (rs_i1 (rs_in 166 (by decide +kernel))) rfl
theorem tw_167 : (Jvm.Cond.instantiable "RouteSpeaker$Letter" (4 : Nat)) ∈ rs_W := rs_f (rs_i1 (rs_in 167 (by decide +kernel))) rfl
theorem tw_168 : (Jvm.Cond.methodLink "RouteSpeaker" (45 : Nat) ({ cls := "RouteSpeaker$Letter", name := "<init>", desc := "()V" } : Jvm.MethodName)) ∈ rs_W := rs_f (rs_i1 (rs_in 168 (by decide +kernel))) rfl
theorem tw_169 : (Jvm.Cond.instanceMethod ({ cls := "RouteSpeaker$Letter", name := "<init>", desc := "()V" } : Jvm.MethodName)) ∈ rs_W := rs_f (rs_i1 (rs_in 169 (by decide +kernel))) rfl
theorem tw_170 : (Jvm.Cond.code ({ cls := "RouteSpeaker$Letter", name := "<init>", desc := "()V" } : Jvm.MethodName) prog_4_method_1_code (1 : Nat) (Option.none : Option Jvm.ClassFile.FieldType)) ∈ rs_W := rs_f (rs_i1 (rs_in 170 (by decide +kernel))) rfl
theorem tw_171 : (Jvm.Cond.methodLink "RouteSpeaker$Letter" (3 : Nat) ({ cls := "java/lang/Object", name := "<init>", desc := "()V" } : Jvm.MethodName)) ∈ rs_W := rs_f (rs_i1 (rs_in 171 (by decide +kernel))) rfl
theorem tw_172 : (Jvm.Cond.fieldLink "RouteSpeaker$Letter" (9 : Nat) "RouteSpeaker$Letter" "bytes" "[I") ∈ rs_W := rs_f (rs_i1 (rs_in 172 (by decide +kernel))) rfl
theorem tw_173 : (Jvm.Cond.fieldLink "RouteSpeaker$Peer" (111 : Nat) "RouteSpeaker$Letter" "bytes" "[I") ∈ rs_W := rs_f (rs_i1 (rs_in 173 (by decide +kernel))) rfl
theorem tw_174 : (Jvm.Cond.fieldLink "RouteSpeaker$Letter" (67 : Nat) "RouteSpeaker$Letter" "size" "I") ∈ rs_W := rs_f (rs_i1 (rs_in 174 (by decide +kernel))) rfl
theorem tw_175 : (Jvm.Cond.fieldLink "RouteSpeaker$Peer" (106 : Nat) "RouteSpeaker$Letter" "size" "I") ∈ rs_W := rs_f (rs_i1 (rs_in 175 (by decide +kernel))) rfl
theorem tw_176 : (Jvm.Cond.fieldLink "RouteSpeaker$Letter" (15 : Nat) "RouteSpeaker$Letter" "length" "I") ∈ rs_W := rs_f (rs_i1 (rs_in 176 (by decide +kernel))) rfl
theorem tw_177 : (Jvm.Cond.fieldLink "RouteSpeaker$Letter" (19 : Nat) "RouteSpeaker$Letter" "address" "I") ∈ rs_W := rs_f (rs_i1 (rs_in 177 (by decide +kernel))) rfl
theorem tw_187 : (Jvm.Cond.instantiable "RouteSpeaker$Peer" (17 : Nat)) ∈ rs_W := rs_f (rs_i1 (rs_in 187 (by decide +kernel))) rfl
theorem tw_188 : (Jvm.Cond.methodLink "RouteSpeaker" (50 : Nat) ({ cls := "RouteSpeaker$Peer", name := "<init>", desc := "(I)V" } : Jvm.MethodName)) ∈ rs_W := rs_f (rs_i1 (rs_in 188 (by decide +kernel))) rfl
theorem tw_189 : (Jvm.Cond.instanceMethod ({ cls := "RouteSpeaker$Peer", name := "<init>", desc := "(I)V" } : Jvm.MethodName)) ∈ rs_W := rs_f (rs_i1 (rs_in 189 (by decide +kernel))) rfl
theorem tw_190 : (Jvm.Cond.code ({ cls := "RouteSpeaker$Peer", name := "<init>", desc := "(I)V" } : Jvm.MethodName) prog_6_method_1_code (2 : Nat) (Option.none : Option Jvm.ClassFile.FieldType)) ∈ rs_W := rs_f (rs_i1 (rs_in 190 (by decide +kernel))) rfl
theorem tw_191 : (Jvm.Cond.methodLink "RouteSpeaker$Peer" (3 : Nat) ({ cls := "java/lang/Object", name := "<init>", desc := "()V" } : Jvm.MethodName)) ∈ rs_W := rs_f (rs_i1 (rs_in 191 (by decide +kernel))) rfl
theorem tw_192 : (Jvm.Cond.classLink "RouteSpeaker$Peer" (15 : Nat) "RouteSpeaker$Rules") ∈ rs_W := rs_f (rs_i1 (rs_in 192 (by decide +kernel))) rfl
theorem tw_193 : (Jvm.Cond.instantiable "RouteSpeaker$Rules" (4 : Nat)) ∈ rs_W := rs_f (rs_i1 (rs_in 193 (by decide +kernel))) rfl
theorem tw_194 : (Jvm.Cond.methodLink "RouteSpeaker$Peer" (17 : Nat) ({ cls := "RouteSpeaker$Rules", name := "<init>", desc := "()V" } : Jvm.MethodName)) ∈ rs_W := rs_f (rs_i1 (rs_in 194 (by decide +kernel))) rfl
theorem tw_195 : (Jvm.Cond.instanceMethod ({ cls := "RouteSpeaker$Rules", name := "<init>", desc := "()V" } : Jvm.MethodName)) ∈ rs_W := rs_f (rs_i1 (rs_in 195 (by decide +kernel))) rfl
theorem tw_196 : (Jvm.Cond.code ({ cls := "RouteSpeaker$Rules", name := "<init>", desc := "()V" } : Jvm.MethodName) prog_9_method_1_code (1 : Nat) (Option.none : Option Jvm.ClassFile.FieldType)) ∈ rs_W := rs_f (rs_i1 (rs_in 196 (by decide +kernel))) rfl
theorem tw_197 : (Jvm.Cond.methodLink "RouteSpeaker$Rules" (3 : Nat) ({ cls := "java/lang/Object", name := "<init>", desc := "()V" } : Jvm.MethodName)) ∈ rs_W := rs_f (rs_i1 (rs_in 197 (by decide +kernel))) rfl
theorem tw_198 : (Jvm.Cond.fieldLink "RouteSpeaker$Rules" (9 : Nat) "RouteSpeaker$Rules" "lengths" "[I") ∈ rs_W := rs_f (rs_i1 (rs_in 198 (by decide +kernel))) rfl
theorem tw_199 : (Jvm.Cond.fieldLink "RouteSpeaker$Rules" (15 : Nat) "RouteSpeaker$Rules" "addresses" "[I") ∈ rs_W := rs_f (rs_i1 (rs_in 199 (by decide +kernel))) rfl
theorem tw_200 : (Jvm.Cond.fieldLink "RouteSpeaker$Rules" (18 : Nat) "RouteSpeaker$Rules" "actions" "[I") ∈ rs_W := rs_f (rs_i1 (rs_in 200 (by decide +kernel))) rfl
theorem tw_201 : (Jvm.Cond.fieldLink "RouteSpeaker$Rules" (21 : Nat) "RouteSpeaker$Rules" "count" "I") ∈ rs_W := rs_f (rs_i1 (rs_in 201 (by decide +kernel))) rfl
theorem tw_211 : (Jvm.Cond.classLink "RouteSpeaker$Peer" (26 : Nat) "RouteSpeaker$Outbox") ∈ rs_W := rs_f (rs_i1 (rs_in 211 (by decide +kernel))) rfl
theorem tw_212 : (Jvm.Cond.instantiable "RouteSpeaker$Outbox" (3 : Nat)) ∈ rs_W := rs_f (rs_i1 (rs_in 212 (by decide +kernel))) rfl
theorem tw_213 : (Jvm.Cond.methodLink "RouteSpeaker$Peer" (28 : Nat) ({ cls := "RouteSpeaker$Outbox", name := "<init>", desc := "()V" } : Jvm.MethodName)) ∈ rs_W := rs_f (rs_i1 (rs_in 213 (by decide +kernel))) rfl
theorem tw_214 : (Jvm.Cond.instanceMethod ({ cls := "RouteSpeaker$Outbox", name := "<init>", desc := "()V" } : Jvm.MethodName)) ∈ rs_W := rs_f (rs_i1 (rs_in 214 (by decide +kernel))) rfl
theorem tw_215 : (Jvm.Cond.code ({ cls := "RouteSpeaker$Outbox", name := "<init>", desc := "()V" } : Jvm.MethodName) prog_5_method_1_code (1 : Nat) (Option.none : Option Jvm.ClassFile.FieldType)) ∈ rs_W := rs_f (rs_i1 (rs_in 215 (by decide +kernel))) rfl
theorem tw_216 : (Jvm.Cond.methodLink "RouteSpeaker$Outbox" (3 : Nat) ({ cls := "java/lang/Object", name := "<init>", desc := "()V" } : Jvm.MethodName)) ∈ rs_W := rs_f (rs_i1 (rs_in 216 (by decide +kernel))) rfl
theorem tw_217 : (Jvm.Cond.fieldLink "RouteSpeaker$Outbox" (9 : Nat) "RouteSpeaker$Outbox" "bytes" "[I") ∈ rs_W := rs_f (rs_i1 (rs_in 217 (by decide +kernel))) rfl
theorem tw_218 : (Jvm.Cond.fieldLink "RouteSpeaker$Outbox" (19 : Nat) "RouteSpeaker$Outbox" "first" "I") ∈ rs_W := rs_f (rs_i1 (rs_in 218 (by decide +kernel))) rfl
theorem tw_219 : (Jvm.Cond.fieldLink "RouteSpeaker$Outbox" (15 : Nat) "RouteSpeaker$Outbox" "count" "I") ∈ rs_W := rs_f (rs_i1 (rs_in 219 (by decide +kernel))) rfl
theorem tw_220 : (Jvm.Cond.fieldLink "RouteSpeaker" (177 : Nat) "RouteSpeaker$Outbox" "count" "I") ∈ rs_W := rs_f (rs_i1 (rs_in 220 (by decide +kernel))) rfl
theorem tw_228 : (Jvm.Cond.classLink "RouteSpeaker$Peer" (36 : Nat) "RouteSpeaker$Incoming") ∈ rs_W := rs_f (rs_i1 (rs_in 228 (by decide +kernel))) rfl
theorem tw_229 : (Jvm.Cond.instantiable "RouteSpeaker$Incoming" (4 : Nat)) ∈ rs_W := rs_f (rs_i1 (rs_in 229 (by decide +kernel))) rfl
theorem tw_230 : (Jvm.Cond.methodLink "RouteSpeaker$Peer" (38 : Nat) ({ cls := "RouteSpeaker$Incoming", name := "<init>", desc := "()V" } : Jvm.MethodName)) ∈ rs_W := rs_f (rs_i1 (rs_in 230 (by decide +kernel))) rfl
theorem tw_231 : (Jvm.Cond.instanceMethod ({ cls := "RouteSpeaker$Incoming", name := "<init>", desc := "()V" } : Jvm.MethodName)) ∈ rs_W := rs_f (rs_i1 (rs_in 231 (by decide +kernel))) rfl
theorem tw_232 : (Jvm.Cond.code ({ cls := "RouteSpeaker$Incoming", name := "<init>", desc := "()V" } : Jvm.MethodName) prog_3_method_1_code (2 : Nat) (Option.none : Option Jvm.ClassFile.FieldType)) ∈ rs_W := rs_f (rs_i1 (rs_in 232 (by decide +kernel))) rfl
theorem tw_233 : (Jvm.Cond.methodLink "RouteSpeaker$Incoming" (3 : Nat) ({ cls := "java/lang/Object", name := "<init>", desc := "()V" } : Jvm.MethodName)) ∈ rs_W := rs_f (rs_i1 (rs_in 233 (by decide +kernel))) rfl
theorem tw_234 : (Jvm.Cond.classLink "RouteSpeaker$Incoming" (9 : Nat) "RouteSpeaker$Route") ∈ rs_W := rs_f (rs_i1 (rs_in 234 (by decide +kernel))) rfl
theorem tw_236 : (Jvm.Cond.methodLink "RouteSpeaker$Incoming" (28 : Nat) ({ cls := "RouteSpeaker$Route", name := "<init>", desc := "()V" } : Jvm.MethodName)) ∈ rs_W := rs_f (rs_i1 (rs_in 236 (by decide +kernel))) rfl
theorem tw_237 : (Jvm.Cond.fieldLink "RouteSpeaker$Incoming" (11 : Nat) "RouteSpeaker$Incoming" "routes" "[LRouteSpeaker$Route;") ∈ rs_W := rs_f (rs_i1 (rs_in 237 (by decide +kernel))) rfl
theorem tw_238 : (Jvm.Cond.fieldLink "RouteSpeaker" (219 : Nat) "RouteSpeaker$Incoming" "routes" "[LRouteSpeaker$Route;") ∈ rs_W := rs_f (rs_i1 (rs_in 238 (by decide +kernel))) rfl
theorem tw_239 : (Jvm.Cond.fieldLink "RouteSpeaker$Incoming" (17 : Nat) "RouteSpeaker$Incoming" "damped" "[Z") ∈ rs_W := rs_f (rs_i1 (rs_in 239 (by decide +kernel))) rfl
theorem tw_240 : (Jvm.Cond.fieldLink "RouteSpeaker" (232 : Nat) "RouteSpeaker$Incoming" "damped" "[Z") ∈ rs_W := rs_f (rs_i2 (rs_in 0 (by decide +kernel))) rfl
theorem tw_241 : (Jvm.Cond.fieldLink "RouteSpeaker$Incoming" (21 : Nat) "RouteSpeaker$Incoming" "there" "[Z") ∈ rs_W := rs_f (rs_i2 (rs_in 1 (by decide +kernel))) rfl
theorem tw_242 : (Jvm.Cond.fieldLink "RouteSpeaker$Peer" (123 : Nat) "RouteSpeaker$Incoming" "there" "[Z") ∈ rs_W := rs_f (rs_i2 (rs_in 2 (by decide +kernel))) rfl
theorem tw_243 : (Jvm.Cond.fieldLink "RouteSpeaker$Incoming" (24 : Nat) "RouteSpeaker$Incoming" "penalties" "[D") ∈ rs_W := rs_f (rs_i2 (rs_in 3 (by decide +kernel))) rfl
theorem tw_253 : (Jvm.Cond.arrayClass Jvm.ClassFile.FieldType.double) ∈ rs_W := rs_f (rs_i2 (rs_in 13 (by decide +kernel))) rfl
theorem tw_254 : (Jvm.Cond.classLink "RouteSpeaker$Peer" (43 : Nat) "[[I") ∈ rs_W := rs_f (rs_i2 (rs_in 14 (by decide +kernel))) rfl
theorem tw_255 : (Jvm.Cond.fieldLink "RouteSpeaker" (74 : Nat) "RouteSpeaker$Peer" "role" "I") ∈ rs_W := rs_f (rs_i2 (rs_in 15 (by decide +kernel))) rfl
theorem tw_256 : (Jvm.Cond.fieldLink "RouteSpeaker$Peer" (137 : Nat) "RouteSpeaker$Peer" "role" "I") ∈ rs_W := rs_f (rs_i2 (rs_in 16 (by decide +kernel))) rfl
theorem tw_257 : (Jvm.Cond.fieldLink "RouteSpeaker$Peer" (48 : Nat) "RouteSpeaker$Peer" "network" "I") ∈ rs_W := rs_f (rs_i2 (rs_in 17 (by decide +kernel))) rfl
theorem tw_258 : (Jvm.Cond.fieldLink "RouteSpeaker" (77 : Nat) "RouteSpeaker$Peer" "network" "I") ∈ rs_W := rs_f (rs_i2 (rs_in 18 (by decide +kernel))) rfl
theorem tw_259 : (Jvm.Cond.fieldLink "RouteSpeaker" (100 : Nat) "RouteSpeaker$Peer" "padding" "I") ∈ rs_W := rs_f (rs_i2 (rs_in 19 (by decide +kernel))) rfl
theorem tw_260 : (Jvm.Cond.fieldLink "RouteSpeaker$Peer" (9 : Nat) "RouteSpeaker$Peer" "muteLength" "I") ∈ rs_W := rs_f (rs_i2 (rs_in 20 (by decide +kernel))) rfl
theorem tw_261 : (Jvm.Cond.fieldLink "RouteSpeaker" (103 : Nat) "RouteSpeaker$Peer" "muteLength" "I") ∈ rs_W := rs_f (rs_i2 (rs_in 21 (by decide +kernel))) rfl
theorem tw_262 : (Jvm.Cond.fieldLink "RouteSpeaker$Peer" (54 : Nat) "RouteSpeaker$Peer" "muteAddress" "I") ∈ rs_W := rs_f (rs_i2 (rs_in 22 (by decide +kernel))) rfl
theorem tw_263 : (Jvm.Cond.fieldLink "RouteSpeaker" (106 : Nat) "RouteSpeaker$Peer" "muteAddress" "I") ∈ rs_W := rs_f (rs_i2 (rs_in 23 (by decide +kernel))) rfl
theorem tw_264 : (Jvm.Cond.fieldLink "RouteSpeaker$Peer" (18 : Nat) "RouteSpeaker$Peer" "rules" "LRouteSpeaker$Rules;") ∈ rs_W := rs_f (rs_i2 (rs_in 24 (by decide +kernel))) rfl
theorem tw_265 : (Jvm.Cond.fieldLink "RouteSpeaker" (84 : Nat) "RouteSpeaker$Peer" "rules" "LRouteSpeaker$Rules;") ∈ rs_W := rs_f (rs_i2 (rs_in 25 (by decide +kernel))) rfl
theorem tw_266 : (Jvm.Cond.fieldLink "RouteSpeaker$Peer" (51 : Nat) "RouteSpeaker$Peer" "state" "I") ∈ rs_W := rs_f (rs_i2 (rs_in 26 (by decide +kernel))) rfl
theorem tw_267 : (Jvm.Cond.fieldLink "RouteSpeaker" (162 : Nat) "RouteSpeaker$Peer" "state" "I") ∈ rs_W := rs_f (rs_i2 (rs_in 27 (by decide +kernel))) rfl
theorem tw_268 : (Jvm.Cond.fieldLink "RouteSpeaker$Peer" (61 : Nat) "RouteSpeaker$Peer" "holdTimer" "I") ∈ rs_W := rs_f (rs_i2 (rs_in 28 (by decide +kernel))) rfl
theorem tw_269 : (Jvm.Cond.fieldLink "RouteSpeaker" (165 : Nat) "RouteSpeaker$Peer" "holdTimer" "I") ∈ rs_W := rs_f (rs_i2 (rs_in 29 (by decide +kernel))) rfl
theorem tw_270 : (Jvm.Cond.fieldLink "RouteSpeaker$Peer" (96 : Nat) "RouteSpeaker$Peer" "keepTimer" "I") ∈ rs_W := rs_f (rs_i2 (rs_in 30 (by decide +kernel))) rfl
theorem tw_271 : (Jvm.Cond.fieldLink "RouteSpeaker" (168 : Nat) "RouteSpeaker$Peer" "keepTimer" "I") ∈ rs_W := rs_f (rs_i2 (rs_in 31 (by decide +kernel))) rfl
theorem tw_272 : (Jvm.Cond.fieldLink "RouteSpeaker$Peer" (93 : Nat) "RouteSpeaker$Peer" "hold" "I") ∈ rs_W := rs_f (rs_i2 (rs_in 32 (by decide +kernel))) rfl
theorem tw_273 : (Jvm.Cond.fieldLink "RouteSpeaker" (171 : Nat) "RouteSpeaker$Peer" "hold" "I") ∈ rs_W := rs_f (rs_i2 (rs_in 33 (by decide +kernel))) rfl
theorem tw_274 : (Jvm.Cond.fieldLink "RouteSpeaker" (174 : Nat) "RouteSpeaker$Peer" "id" "I") ∈ rs_W := rs_f (rs_i2 (rs_in 34 (by decide +kernel))) rfl
theorem tw_275 : (Jvm.Cond.fieldLink "RouteSpeaker$Peer" (120 : Nat) "RouteSpeaker$Peer" "id" "I") ∈ rs_W := rs_f (rs_i2 (rs_in 35 (by decide +kernel))) rfl
theorem tw_276 : (Jvm.Cond.fieldLink "RouteSpeaker$Peer" (71 : Nat) "RouteSpeaker$Peer" "come" "I") ∈ rs_W := rs_f (rs_i2 (rs_in 36 (by decide +kernel))) rfl
theorem tw_277 : (Jvm.Cond.fieldLink "RouteSpeaker" (180 : Nat) "RouteSpeaker$Peer" "come" "I") ∈ rs_W := rs_f (rs_i2 (rs_in 37 (by decide +kernel))) rfl
theorem tw_278 : (Jvm.Cond.fieldLink "RouteSpeaker$Peer" (22 : Nat) "RouteSpeaker$Peer" "inbox" "[I") ∈ rs_W := rs_f (rs_i2 (rs_in 38 (by decide +kernel))) rfl
theorem tw_279 : (Jvm.Cond.fieldLink "RouteSpeaker$Peer" (29 : Nat) "RouteSpeaker$Peer" "outbox" "LRouteSpeaker$Outbox;") ∈ rs_W := rs_f (rs_i2 (rs_in 39 (by decide +kernel))) rfl
theorem tw_280 : (Jvm.Cond.fieldLink "RouteSpeaker" (134 : Nat) "RouteSpeaker$Peer" "outbox" "LRouteSpeaker$Outbox;") ∈ rs_W := rs_f (rs_i2 (rs_in 40 (by decide +kernel))) rfl
theorem tw_281 : (Jvm.Cond.fieldLink "RouteSpeaker$Peer" (33 : Nat) "RouteSpeaker$Peer" "draft" "[I") ∈ rs_W := rs_f (rs_i2 (rs_in 41 (by decide +kernel))) rfl
theorem tw_282 : (Jvm.Cond.fieldLink "RouteSpeaker$Peer" (39 : Nat) "RouteSpeaker$Peer" "incoming" "LRouteSpeaker$Incoming;") ∈ rs_W := rs_f (rs_i2 (rs_in 42 (by decide +kernel))) rfl
theorem tw_283 : (Jvm.Cond.fieldLink "RouteSpeaker" (150 : Nat) "RouteSpeaker$Peer" "incoming" "LRouteSpeaker$Incoming;") ∈ rs_W := rs_f (rs_i2 (rs_in 43 (by decide +kernel))) rfl
theorem tw_284 : (Jvm.Cond.fieldLink "RouteSpeaker$Peer" (45 : Nat) "RouteSpeaker$Peer" "told" "[[I") ∈ rs_W := rs_f (rs_i2 (rs_in 44 (by decide +kernel))) rfl
theorem tw_320 : (Jvm.Cond.fieldLink "RouteSpeaker" (10 : Nat) "RouteSpeaker" "prefixes" "LRouteSpeaker$Prefixes;") ∈ rs_W := rs_f (rs_i2 (rs_in 80 (by decide +kernel))) rfl
theorem tw_321 : (Jvm.Cond.fieldLink "RouteSpeaker" (18 : Nat) "RouteSpeaker" "peers" "[LRouteSpeaker$Peer;") ∈ rs_W := rs_f (rs_i2 (rs_in 81 (by decide +kernel))) rfl
theorem tw_322 : (Jvm.Cond.fieldLink "RouteSpeaker" (25 : Nat) "RouteSpeaker" "own" "LRouteSpeaker$Route;") ∈ rs_W := rs_f (rs_i2 (rs_in 82 (by decide +kernel))) rfl
theorem tw_323 : (Jvm.Cond.fieldLink "RouteSpeaker" (32 : Nat) "RouteSpeaker" "update" "LRouteSpeaker$Update;") ∈ rs_W := rs_f (rs_i2 (rs_in 83 (by decide +kernel))) rfl
theorem tw_324 : (Jvm.Cond.fieldLink "RouteSpeaker" (39 : Nat) "RouteSpeaker" "choice" "LRouteSpeaker$Choice;") ∈ rs_W := rs_f (rs_i2 (rs_in 84 (by decide +kernel))) rfl
theorem tw_325 : (Jvm.Cond.fieldLink "RouteSpeaker" (46 : Nat) "RouteSpeaker" "letter" "LRouteSpeaker$Letter;") ∈ rs_W := rs_f (rs_i2 (rs_in 85 (by decide +kernel))) rfl
theorem tw_339 : (Jvm.Cond.methodLink "RouteSpeakerLaw" (114 : Nat) ({ cls := "RouteSpeaker", name := "tick", desc := "()I" } : Jvm.MethodName)) ∈ rs_W := rs_f (rs_i2 (rs_in 99 (by decide +kernel))) rfl
theorem tw_340 : (Jvm.Cond.instanceMethod ({ cls := "RouteSpeaker", name := "tick", desc := "()I" } : Jvm.MethodName)) ∈ rs_W := rs_f (rs_i2 (rs_in 100 (by decide +kernel))) rfl
theorem tw_341 : (Jvm.Cond.selects "RouteSpeaker" ({ cls := "RouteSpeaker", name := "tick", desc := "()I" } : Jvm.MethodName) ({ cls := "RouteSpeaker", name := "tick", desc := "()I" } : Jvm.MethodName)) ∈ rs_W := rs_f (rs_i2 (rs_in 101 (by decide +kernel))) rfl
theorem tw_342 : (Jvm.Cond.code ({ cls := "RouteSpeaker", name := "tick", desc := "()I" } : Jvm.MethodName) prog_1_method_12_code (3 : Nat) (Option.some Jvm.ClassFile.FieldType.int)) ∈ rs_W := rs_f (rs_i2 (rs_in 102 (by decide +kernel))) rfl
theorem tw_343 : (Jvm.Cond.methodLink "RouteSpeaker" (147 : Nat) ({ cls := "RouteSpeaker$Peer", name := "passTime", desc := "()V" } : Jvm.MethodName)) ∈ rs_W := rs_f (rs_i2 (rs_in 103 (by decide +kernel))) rfl
theorem tw_344 : (Jvm.Cond.instanceMethod ({ cls := "RouteSpeaker$Peer", name := "passTime", desc := "()V" } : Jvm.MethodName)) ∈ rs_W := rs_f (rs_i2 (rs_in 104 (by decide +kernel))) rfl
theorem tw_345 : (Jvm.Cond.selects "RouteSpeaker$Peer" ({ cls := "RouteSpeaker$Peer", name := "passTime", desc := "()V" } : Jvm.MethodName) ({ cls := "RouteSpeaker$Peer", name := "passTime", desc := "()V" } : Jvm.MethodName)) ∈ rs_W := rs_f (rs_i2 (rs_in 105 (by decide +kernel))) rfl
theorem tw_346 : (Jvm.Cond.code ({ cls := "RouteSpeaker$Peer", name := "passTime", desc := "()V" } : Jvm.MethodName) prog_6_method_9_code (1 : Nat) (Option.none : Option Jvm.ClassFile.FieldType)) ∈ rs_W := rs_f (rs_i2 (rs_in 106 (by decide +kernel))) rfl
theorem tw_347 : (Jvm.Cond.methodLink "RouteSpeaker$Peer" (74 : Nat) ({ cls := "RouteSpeaker$Peer", name := "end", desc := "(II)V" } : Jvm.MethodName)) ∈ rs_W := rs_f (rs_i2 (rs_in 107 (by decide +kernel))) rfl
theorem tw_348 : (Jvm.Cond.instanceMethod ({ cls := "RouteSpeaker$Peer", name := "end", desc := "(II)V" } : Jvm.MethodName)) ∈ rs_W := rs_f (rs_i2 (rs_in 108 (by decide +kernel))) rfl
theorem tw_349 : (Jvm.Cond.selects "RouteSpeaker$Peer" ({ cls := "RouteSpeaker$Peer", name := "end", desc := "(II)V" } : Jvm.MethodName) ({ cls := "RouteSpeaker$Peer", name := "end", desc := "(II)V" } : Jvm.MethodName)) ∈ rs_W := rs_f (rs_i2 (rs_in 109 (by decide +kernel))) rfl
theorem tw_350 : (Jvm.Cond.code ({ cls := "RouteSpeaker$Peer", name := "end", desc := "(II)V" } : Jvm.MethodName) prog_6_method_6_code (3 : Nat) (Option.none : Option Jvm.ClassFile.FieldType)) ∈ rs_W := rs_f (rs_i2 (rs_in 110 (by decide +kernel))) rfl
theorem tw_351 : (Jvm.Cond.methodLink "RouteSpeaker$Peer" (64 : Nat) ({ cls := "RouteSpeaker$Peer", name := "send", desc := "([II)Z" } : Jvm.MethodName)) ∈ rs_W := rs_f (rs_i2 (rs_in 111 (by decide +kernel))) rfl
theorem tw_353 : (Jvm.Cond.instanceMethod ({ cls := "RouteSpeaker$Peer", name := "send", desc := "([II)Z" } : Jvm.MethodName)) ∈ rs_W := rs_f (rs_i2 (rs_in 113 (by decide +kernel))) rfl
theorem tw_354 : (Jvm.Cond.code ({ cls := "RouteSpeaker$Peer", name := "send", desc := "([II)Z" } : Jvm.MethodName) prog_6_method_13_code (4 : Nat) (Option.some Jvm.ClassFile.FieldType.boolean)) ∈ rs_W := rs_f (rs_i2 (rs_in 114 (by decide +kernel))) rfl
theorem tw_355 : (Jvm.Cond.methodLink "RouteSpeaker$Peer" (117 : Nat) ({ cls := "RouteSpeaker$Outbox", name := "put", desc := "([II)Z" } : Jvm.MethodName)) ∈ rs_W := rs_f (rs_i2 (rs_in 115 (by decide +kernel))) rfl
theorem tw_356 : (Jvm.Cond.instanceMethod ({ cls := "RouteSpeaker$Outbox", name := "put", desc := "([II)Z" } : Jvm.MethodName)) ∈ rs_W := rs_f (rs_i2 (rs_in 116 (by decide +kernel))) rfl
theorem tw_357 : (Jvm.Cond.selects "RouteSpeaker$Outbox" ({ cls := "RouteSpeaker$Outbox", name := "put", desc := "([II)Z" } : Jvm.MethodName) ({ cls := "RouteSpeaker$Outbox", name := "put", desc := "([II)Z" } : Jvm.MethodName)) ∈ rs_W := rs_f (rs_i2 (rs_in 117 (by decide +kernel))) rfl
theorem tw_358 : (Jvm.Cond.code ({ cls := "RouteSpeaker$Outbox", name := "put", desc := "([II)Z" } : Jvm.MethodName) prog_5_method_2_code (4 : Nat) (Option.some Jvm.ClassFile.FieldType.boolean)) ∈ rs_W := rs_f (rs_i2 (rs_in 118 (by decide +kernel))) rfl
theorem tw_359 : (Jvm.Cond.methodLink "RouteSpeaker$Peer" (68 : Nat) ({ cls := "RouteSpeaker$Peer", name := "close", desc := "()V" } : Jvm.MethodName)) ∈ rs_W := rs_f (rs_i2 (rs_in 119 (by decide +kernel))) rfl
theorem tw_361 : (Jvm.Cond.instanceMethod ({ cls := "RouteSpeaker$Peer", name := "close", desc := "()V" } : Jvm.MethodName)) ∈ rs_W := rs_f (rs_i2 (rs_in 121 (by decide +kernel))) rfl
theorem tw_362 : (Jvm.Cond.code ({ cls := "RouteSpeaker$Peer", name := "close", desc := "()V" } : Jvm.MethodName) prog_6_method_15_code (2 : Nat) (Option.none : Option Jvm.ClassFile.FieldType)) ∈ rs_W := rs_f (rs_i2 (rs_in 122 (by decide +kernel))) rfl
theorem tw_363 : (Jvm.Cond.methodLink "RouteSpeaker$Peer" (99 : Nat) ({ cls := "RouteSpeaker$Peer", name := "sendKeepalive", desc := "()V" } : Jvm.MethodName)) ∈ rs_W := rs_f (rs_i2 (rs_in 123 (by decide +kernel))) rfl
theorem tw_365 : (Jvm.Cond.instanceMethod ({ cls := "RouteSpeaker$Peer", name := "sendKeepalive", desc := "()V" } : Jvm.MethodName)) ∈ rs_W := rs_f (rs_i2 (rs_in 125 (by decide +kernel))) rfl
theorem tw_366 : (Jvm.Cond.code ({ cls := "RouteSpeaker$Peer", name := "sendKeepalive", desc := "()V" } : Jvm.MethodName) prog_6_method_14_code (1 : Nat) (Option.none : Option Jvm.ClassFile.FieldType)) ∈ rs_W := rs_f (rs_i2 (rs_in 126 (by decide +kernel))) rfl
theorem tw_367 : (Jvm.Cond.methodLink "RouteSpeaker" (154 : Nat) ({ cls := "RouteSpeaker$Incoming", name := "decay", desc := "()V" } : Jvm.MethodName)) ∈ rs_W := rs_f (rs_i2 (rs_in 127 (by decide +kernel))) rfl
theorem tw_368 : (Jvm.Cond.instanceMethod ({ cls := "RouteSpeaker$Incoming", name := "decay", desc := "()V" } : Jvm.MethodName)) ∈ rs_W := rs_f (rs_i2 (rs_in 128 (by decide +kernel))) rfl
theorem tw_369 : (Jvm.Cond.selects "RouteSpeaker$Incoming" ({ cls := "RouteSpeaker$Incoming", name := "decay", desc := "()V" } : Jvm.MethodName) ({ cls := "RouteSpeaker$Incoming", name := "decay", desc := "()V" } : Jvm.MethodName)) ∈ rs_W := rs_f (rs_i2 (rs_in 129 (by decide +kernel))) rfl
theorem tw_370 : (Jvm.Cond.code ({ cls := "RouteSpeaker$Incoming", name := "decay", desc := "()V" } : Jvm.MethodName) prog_3_method_6_code (2 : Nat) (Option.none : Option Jvm.ClassFile.FieldType)) ∈ rs_W := rs_f (rs_i2 (rs_in 130 (by decide +kernel))) rfl
theorem tw_371 : (Jvm.Cond.constantDouble "RouteSpeaker$Incoming" (49 : Nat) (4606056518893174784 : UInt64)) ∈ rs_W := rs_f (rs_i2 (rs_in 131 (by decide +kernel))) rfl
theorem tw_372 : (Jvm.Cond.constantDouble "RouteSpeaker$Incoming" (51 : Nat) (4649808285585637376 : UInt64)) ∈ rs_W := rs_f (rs_i2 (rs_in 132 (by decide +kernel))) rfl
theorem tw_373 : (Jvm.Cond.methodLink "RouteSpeaker" (94 : Nat) ({ cls := "RouteSpeaker", name := "tellAll", desc := "()V" } : Jvm.MethodName)) ∈ rs_W := rs_f (rs_i2 (rs_in 133 (by decide +kernel))) rfl
theorem tw_375 : (Jvm.Cond.instanceMethod ({ cls := "RouteSpeaker", name := "tellAll", desc := "()V" } : Jvm.MethodName)) ∈ rs_W := rs_f (rs_i2 (rs_in 135 (by decide +kernel))) rfl
theorem tw_376 : (Jvm.Cond.code ({ cls := "RouteSpeaker", name := "tellAll", desc := "()V" } : Jvm.MethodName) prog_1_method_28_code (2 : Nat) (Option.none : Option Jvm.ClassFile.FieldType)) ∈ rs_W := rs_f (rs_i2 (rs_in 136 (by decide +kernel))) rfl
theorem tw_377 : (Jvm.Cond.methodLink "RouteSpeaker" (246 : Nat) ({ cls := "RouteSpeaker", name := "tellRound", desc := "()Z" } : Jvm.MethodName)) ∈ rs_W := rs_f (rs_i2 (rs_in 137 (by decide +kernel))) rfl
theorem tw_379 : (Jvm.Cond.instanceMethod ({ cls := "RouteSpeaker", name := "tellRound", desc := "()Z" } : Jvm.MethodName)) ∈ rs_W := rs_f (rs_i2 (rs_in 139 (by decide +kernel))) rfl
theorem tw_380 : (Jvm.Cond.code ({ cls := "RouteSpeaker", name := "tellRound", desc := "()Z" } : Jvm.MethodName) prog_1_method_29_code (4 : Nat) (Option.some Jvm.ClassFile.FieldType.boolean)) ∈ rs_W := rs_f (rs_i2 (rs_in 140 (by decide +kernel))) rfl
theorem tw_381 : (Jvm.Cond.methodLink "RouteSpeaker" (183 : Nat) ({ cls := "RouteSpeaker", name := "chooseFor", desc := "(I)I" } : Jvm.MethodName)) ∈ rs_W := rs_f (rs_i2 (rs_in 141 (by decide +kernel))) rfl
theorem tw_383 : (Jvm.Cond.instanceMethod ({ cls := "RouteSpeaker", name := "chooseFor", desc := "(I)I" } : Jvm.MethodName)) ∈ rs_W := rs_f (rs_i2 (rs_in 143 (by decide +kernel))) rfl
theorem tw_384 : (Jvm.Cond.code ({ cls := "RouteSpeaker", name := "chooseFor", desc := "(I)I" } : Jvm.MethodName) prog_1_method_27_code (3 : Nat) (Option.some Jvm.ClassFile.FieldType.int)) ∈ rs_W := rs_f (rs_i2 (rs_in 144 (by decide +kernel))) rfl
theorem tw_385 : (Jvm.Cond.methodLink "RouteSpeaker" (235 : Nat) ({ cls := "RouteSpeaker$Choice", name := "clear", desc := "()V" } : Jvm.MethodName)) ∈ rs_W := rs_f (rs_i2 (rs_in 145 (by decide +kernel))) rfl
theorem tw_386 : (Jvm.Cond.instanceMethod ({ cls := "RouteSpeaker$Choice", name := "clear", desc := "()V" } : Jvm.MethodName)) ∈ rs_W := rs_f (rs_i2 (rs_in 146 (by decide +kernel))) rfl
theorem tw_387 : (Jvm.Cond.selects "RouteSpeaker$Choice" ({ cls := "RouteSpeaker$Choice", name := "clear", desc := "()V" } : Jvm.MethodName) ({ cls := "RouteSpeaker$Choice", name := "clear", desc := "()V" } : Jvm.MethodName)) ∈ rs_W := rs_f (rs_i2 (rs_in 147 (by decide +kernel))) rfl
theorem tw_388 : (Jvm.Cond.code ({ cls := "RouteSpeaker$Choice", name := "clear", desc := "()V" } : Jvm.MethodName) prog_2_method_2_code (2 : Nat) (Option.none : Option Jvm.ClassFile.FieldType)) ∈ rs_W := rs_f (rs_i2 (rs_in 148 (by decide +kernel))) rfl
theorem tw_389 : (Jvm.Cond.methodLink "RouteSpeaker" (197 : Nat) ({ cls := "RouteSpeaker$Incoming", name := "has", desc := "(I)Z" } : Jvm.MethodName)) ∈ rs_W := rs_f (rs_i2 (rs_in 149 (by decide +kernel))) rfl
theorem tw_390 : (Jvm.Cond.instanceMethod ({ cls := "RouteSpeaker$Incoming", name := "has", desc := "(I)Z" } : Jvm.MethodName)) ∈ rs_W := rs_f (rs_i2 (rs_in 150 (by decide +kernel))) rfl
theorem tw_391 : (Jvm.Cond.selects "RouteSpeaker$Incoming" ({ cls := "RouteSpeaker$Incoming", name := "has", desc := "(I)Z" } : Jvm.MethodName) ({ cls := "RouteSpeaker$Incoming", name := "has", desc := "(I)Z" } : Jvm.MethodName)) ∈ rs_W := rs_f (rs_i2 (rs_in 151 (by decide +kernel))) rfl
theorem tw_392 : (Jvm.Cond.code ({ cls := "RouteSpeaker$Incoming", name := "has", desc := "(I)Z" } : Jvm.MethodName) prog_3_method_2_code (2 : Nat) (Option.some Jvm.ClassFile.FieldType.boolean)) ∈ rs_W := rs_f (rs_i2 (rs_in 152 (by decide +kernel))) rfl
theorem tw_393 : (Jvm.Cond.methodLink "RouteSpeaker" (200 : Nat) ({ cls := "RouteSpeaker", name := "flawsOf", desc := "(II)I" } : Jvm.MethodName)) ∈ rs_W := rs_f (rs_i2 (rs_in 153 (by decide +kernel))) rfl
theorem tw_395 : (Jvm.Cond.instanceMethod ({ cls := "RouteSpeaker", name := "flawsOf", desc := "(II)I" } : Jvm.MethodName)) ∈ rs_W := rs_f (rs_i2 (rs_in 155 (by decide +kernel))) rfl
theorem tw_396 : (Jvm.Cond.code ({ cls := "RouteSpeaker", name := "flawsOf", desc := "(II)I" } : Jvm.MethodName) prog_1_method_25_code (4 : Nat) (Option.some Jvm.ClassFile.FieldType.int)) ∈ rs_W := rs_f (rs_i2 (rs_in 156 (by decide +kernel))) rfl
theorem tw_397 : (Jvm.Cond.methodLink "RouteSpeaker" (229 : Nat) ({ cls := "RouteSpeaker$Route", name := "isBarred", desc := "()Z" } : Jvm.MethodName)) ∈ rs_W := rs_f (rs_i2 (rs_in 157 (by decide +kernel))) rfl
theorem tw_398 : (Jvm.Cond.instanceMethod ({ cls := "RouteSpeaker$Route", name := "isBarred", desc := "()Z" } : Jvm.MethodName)) ∈ rs_W := rs_f (rs_i2 (rs_in 158 (by decide +kernel))) rfl
theorem tw_399 : (Jvm.Cond.selects "RouteSpeaker$Route" ({ cls := "RouteSpeaker$Route", name := "isBarred", desc := "()Z" } : Jvm.MethodName) ({ cls := "RouteSpeaker$Route", name := "isBarred", desc := "()Z" } : Jvm.MethodName)) ∈ rs_W := rs_f (rs_i2 (rs_in 159 (by decide +kernel))) rfl
theorem tw_400 : (Jvm.Cond.code ({ cls := "RouteSpeaker$Route", name := "isBarred", desc := "()Z" } : Jvm.MethodName) prog_8_method_6_code (1 : Nat) (Option.some Jvm.ClassFile.FieldType.boolean)) ∈ rs_W := rs_f (rs_i2 (rs_in 160 (by decide +kernel))) rfl
theorem tw_401 : (Jvm.Cond.methodLink "RouteSpeaker$Route" (53 : Nat) ({ cls := "RouteSpeaker$Route", name := "startHas", desc := "([III)Z" } : Jvm.MethodName)) ∈ rs_W := rs_f (rs_i2 (rs_in 161 (by decide +kernel))) rfl
theorem tw_402 : (Jvm.Cond.static ({ cls := "RouteSpeaker$Route", name := "startHas", desc := "([III)Z" } : Jvm.MethodName)) ∈ rs_W := rs_f (rs_i2 (rs_in 162 (by decide +kernel))) rfl
theorem tw_403 : (Jvm.Cond.code ({ cls := "RouteSpeaker$Route", name := "startHas", desc := "([III)Z" } : Jvm.MethodName) prog_8_method_12_code (4 : Nat) (Option.some Jvm.ClassFile.FieldType.boolean)) ∈ rs_W := rs_f (rs_i2 (rs_in 163 (by decide +kernel))) rfl
theorem tw_404 : (Jvm.Cond.methodLink "RouteSpeaker" (223 : Nat) ({ cls := "RouteSpeaker$Rules", name := "actionFor", desc := "(II)I" } : Jvm.MethodName)) ∈ rs_W := rs_f (rs_i2 (rs_in 164 (by decide +kernel))) rfl
theorem tw_405 : (Jvm.Cond.instanceMethod ({ cls := "RouteSpeaker$Rules", name := "actionFor", desc := "(II)I" } : Jvm.MethodName)) ∈ rs_W := rs_f (rs_i2 (rs_in 165 (by decide +kernel))) rfl
theorem tw_406 : (Jvm.Cond.selects "RouteSpeaker$Rules" ({ cls := "RouteSpeaker$Rules", name := "actionFor", desc := "(II)I" } : Jvm.MethodName) ({ cls := "RouteSpeaker$Rules", name := "actionFor", desc := "(II)I" } : Jvm.MethodName)) ∈ rs_W := rs_f (rs_i2 (rs_in 166 (by decide +kernel))) rfl
theorem tw_407 : (Jvm.Cond.code ({ cls := "RouteSpeaker$Rules", name := "actionFor", desc := "(II)I" } : Jvm.MethodName) prog_9_method_4_code (4 : Nat) (Option.some Jvm.ClassFile.FieldType.int)) ∈ rs_W := rs_f (rs_i2 (rs_in 167 (by decide +kernel))) rfl
theorem tw_408 : (Jvm.Cond.methodLinkNest "RouteSpeaker$Rules" (25 : Nat) ({ cls := "RouteSpeaker", name := "isWithin", desc := "(IIII)Z" } : Jvm.MethodName) "RouteSpeaker") ∈ lw_tbl := rs_i2 (rs_in 168 (by decide +kernel))
theorem tw_409 : (Jvm.Cond.static ({ cls := "RouteSpeaker", name := "isWithin", desc := "(IIII)Z" } : Jvm.MethodName)) ∈ rs_W := rs_f (rs_i2 (rs_in 169 (by decide +kernel))) rfl
theorem tw_410 : (Jvm.Cond.code ({ cls := "RouteSpeaker", name := "isWithin", desc := "(IIII)Z" } : Jvm.MethodName) prog_1_method_22_code (4 : Nat) (Option.some Jvm.ClassFile.FieldType.boolean)) ∈ rs_W := rs_f (rs_i2 (rs_in 170 (by decide +kernel))) rfl
theorem tw_411 : (Jvm.Cond.methodLink "RouteSpeaker" (187 : Nat) ({ cls := "RouteSpeaker", name := "preferenceOf", desc := "(II)I" } : Jvm.MethodName)) ∈ rs_W := rs_f (rs_i2 (rs_in 171 (by decide +kernel))) rfl
theorem tw_413 : (Jvm.Cond.instanceMethod ({ cls := "RouteSpeaker", name := "preferenceOf", desc := "(II)I" } : Jvm.MethodName)) ∈ rs_W := rs_f (rs_i2 (rs_in 173 (by decide +kernel))) rfl
theorem tw_414 : (Jvm.Cond.code ({ cls := "RouteSpeaker", name := "preferenceOf", desc := "(II)I" } : Jvm.MethodName) prog_1_method_24_code (4 : Nat) (Option.some Jvm.ClassFile.FieldType.int)) ∈ rs_W := rs_f (rs_i2 (rs_in 174 (by decide +kernel))) rfl
theorem tw_415 : (Jvm.Cond.methodLink "RouteSpeaker" (190 : Nat) ({ cls := "RouteSpeaker", name := "routeOf", desc := "(II)LRouteSpeaker$Route;" } : Jvm.MethodName)) ∈ rs_W := rs_f (rs_i2 (rs_in 175 (by decide +kernel))) rfl
theorem tw_417 : (Jvm.Cond.instanceMethod ({ cls := "RouteSpeaker", name := "routeOf", desc := "(II)LRouteSpeaker$Route;" } : Jvm.MethodName)) ∈ rs_W := rs_f (rs_i2 (rs_in 177 (by decide +kernel))) rfl
theorem tw_418 : (Jvm.Cond.code ({ cls := "RouteSpeaker", name := "routeOf", desc := "(II)LRouteSpeaker$Route;" } : Jvm.MethodName) prog_1_method_23_code (3 : Nat) (Option.some (Jvm.ClassFile.FieldType.object "RouteSpeaker$Route"))) ∈ rs_W := rs_f (rs_i2 (rs_in 178 (by decide +kernel))) rfl
theorem tw_419 : (Jvm.Cond.methodLink "RouteSpeaker" (236 : Nat) ({ cls := "RouteSpeaker", name := "isInternal", desc := "(I)Z" } : Jvm.MethodName)) ∈ rs_W := rs_f (rs_i2 (rs_in 179 (by decide +kernel))) rfl
theorem tw_421 : (Jvm.Cond.instanceMethod ({ cls := "RouteSpeaker", name := "isInternal", desc := "(I)Z" } : Jvm.MethodName)) ∈ rs_W := rs_f (rs_i2 (rs_in 181 (by decide +kernel))) rfl
theorem tw_422 : (Jvm.Cond.code ({ cls := "RouteSpeaker", name := "isInternal", desc := "(I)Z" } : Jvm.MethodName) prog_1_method_26_code (2 : Nat) (Option.some Jvm.ClassFile.FieldType.boolean)) ∈ rs_W := rs_f (rs_i2 (rs_in 182 (by decide +kernel))) rfl
theorem tw_423 : (Jvm.Cond.methodLink "RouteSpeaker" (239 : Nat) ({ cls := "RouteSpeaker$Choice", name := "offer", desc := "(ILRouteSpeaker$Route;IZI)V" } : Jvm.MethodName)) ∈ rs_W := rs_f (rs_i2 (rs_in 183 (by decide +kernel))) rfl
theorem tw_424 : (Jvm.Cond.instanceMethod ({ cls := "RouteSpeaker$Choice", name := "offer", desc := "(ILRouteSpeaker$Route;IZI)V" } : Jvm.MethodName)) ∈ rs_W := rs_f (rs_i2 (rs_in 184 (by decide +kernel))) rfl
theorem tw_425 : (Jvm.Cond.selects "RouteSpeaker$Choice" ({ cls := "RouteSpeaker$Choice", name := "offer", desc := "(ILRouteSpeaker$Route;IZI)V" } : Jvm.MethodName) ({ cls := "RouteSpeaker$Choice", name := "offer", desc := "(ILRouteSpeaker$Route;IZI)V" } : Jvm.MethodName)) ∈ rs_W := rs_f (rs_i2 (rs_in 185 (by decide +kernel))) rfl
theorem tw_426 : (Jvm.Cond.code ({ cls := "RouteSpeaker$Choice", name := "offer", desc := "(ILRouteSpeaker$Route;IZI)V" } : Jvm.MethodName) prog_2_method_3_code (6 : Nat) (Option.none : Option Jvm.ClassFile.FieldType)) ∈ rs_W := rs_f (rs_i2 (rs_in 186 (by decide +kernel))) rfl
theorem tw_427 : (Jvm.Cond.methodLink "RouteSpeaker$Choice" (24 : Nat) ({ cls := "RouteSpeaker$Route", name := "firstNetwork", desc := "()I" } : Jvm.MethodName)) ∈ rs_W := rs_f (rs_i2 (rs_in 187 (by decide +kernel))) rfl
theorem tw_428 : (Jvm.Cond.instanceMethod ({ cls := "RouteSpeaker$Route", name := "firstNetwork", desc := "()I" } : Jvm.MethodName)) ∈ rs_W := rs_f (rs_i2 (rs_in 188 (by decide +kernel))) rfl
theorem tw_429 : (Jvm.Cond.selects "RouteSpeaker$Route" ({ cls := "RouteSpeaker$Route", name := "firstNetwork", desc := "()I" } : Jvm.MethodName) ({ cls := "RouteSpeaker$Route", name := "firstNetwork", desc := "()I" } : Jvm.MethodName)) ∈ rs_W := rs_f (rs_i2 (rs_in 189 (by decide +kernel))) rfl
theorem tw_430 : (Jvm.Cond.code ({ cls := "RouteSpeaker$Route", name := "firstNetwork", desc := "()I" } : Jvm.MethodName) prog_8_method_7_code (1 : Nat) (Option.some Jvm.ClassFile.FieldType.int)) ∈ rs_W := rs_f (rs_i2 (rs_in 190 (by decide +kernel))) rfl
theorem tw_431 : (Jvm.Cond.methodLink "RouteSpeaker$Choice" (40 : Nat) ({ cls := "RouteSpeaker$Route", name := "sourceOr", desc := "(I)I" } : Jvm.MethodName)) ∈ rs_W := rs_f (rs_i2 (rs_in 191 (by decide +kernel))) rfl
theorem tw_432 : (Jvm.Cond.instanceMethod ({ cls := "RouteSpeaker$Route", name := "sourceOr", desc := "(I)I" } : Jvm.MethodName)) ∈ rs_W := rs_f (rs_i2 (rs_in 192 (by decide +kernel))) rfl
theorem tw_433 : (Jvm.Cond.selects "RouteSpeaker$Route" ({ cls := "RouteSpeaker$Route", name := "sourceOr", desc := "(I)I" } : Jvm.MethodName) ({ cls := "RouteSpeaker$Route", name := "sourceOr", desc := "(I)I" } : Jvm.MethodName)) ∈ rs_W := rs_f (rs_i2 (rs_in 193 (by decide +kernel))) rfl
theorem tw_434 : (Jvm.Cond.code ({ cls := "RouteSpeaker$Route", name := "sourceOr", desc := "(I)I" } : Jvm.MethodName) prog_8_method_8_code (2 : Nat) (Option.some Jvm.ClassFile.FieldType.int)) ∈ rs_W := rs_f (rs_i2 (rs_in 194 (by decide +kernel))) rfl
theorem tw_435 : (Jvm.Cond.methodLink "RouteSpeaker" (243 : Nat) ({ cls := "RouteSpeaker$Choice", name := "winner", desc := "()I" } : Jvm.MethodName)) ∈ rs_W := rs_f (rs_i2 (rs_in 195 (by decide +kernel))) rfl
theorem tw_436 : (Jvm.Cond.instanceMethod ({ cls := "RouteSpeaker$Choice", name := "winner", desc := "()I" } : Jvm.MethodName)) ∈ rs_W := rs_f (rs_i2 (rs_in 196 (by decide +kernel))) rfl
theorem tw_437 : (Jvm.Cond.selects "RouteSpeaker$Choice" ({ cls := "RouteSpeaker$Choice", name := "winner", desc := "()I" } : Jvm.MethodName) ({ cls := "RouteSpeaker$Choice", name := "winner", desc := "()I" } : Jvm.MethodName)) ∈ rs_W := rs_f (rs_i2 (rs_in 197 (by decide +kernel))) rfl
theorem tw_438 : (Jvm.Cond.code ({ cls := "RouteSpeaker$Choice", name := "winner", desc := "()I" } : Jvm.MethodName) prog_2_method_4_code (2 : Nat) (Option.some Jvm.ClassFile.FieldType.int)) ∈ rs_W := rs_f (rs_i2 (rs_in 198 (by decide +kernel))) rfl
theorem tw_439 : (Jvm.Cond.methodLink "RouteSpeaker$Choice" (47 : Nat) ({ cls := "RouteSpeaker$Choice", name := "dropBeaten", desc := "(I)V" } : Jvm.MethodName)) ∈ rs_W := rs_f (rs_i2 (rs_in 199 (by decide +kernel))) rfl
theorem tw_441 : (Jvm.Cond.instanceMethod ({ cls := "RouteSpeaker$Choice", name := "dropBeaten", desc := "(I)V" } : Jvm.MethodName)) ∈ rs_W := rs_f (rs_i2 (rs_in 201 (by decide +kernel))) rfl
theorem tw_442 : (Jvm.Cond.code ({ cls := "RouteSpeaker$Choice", name := "dropBeaten", desc := "(I)V" } : Jvm.MethodName) prog_2_method_5_code (3 : Nat) (Option.none : Option Jvm.ClassFile.FieldType)) ∈ rs_W := rs_f (rs_i2 (rs_in 202 (by decide +kernel))) rfl
theorem tw_443 : (Jvm.Cond.methodLink "RouteSpeaker$Choice" (51 : Nat) ({ cls := "RouteSpeaker$Choice", name := "isBeaten", desc := "(II)Z" } : Jvm.MethodName)) ∈ rs_W := rs_f (rs_i2 (rs_in 203 (by decide +kernel))) rfl
theorem tw_445 : (Jvm.Cond.instanceMethod ({ cls := "RouteSpeaker$Choice", name := "isBeaten", desc := "(II)Z" } : Jvm.MethodName)) ∈ rs_W := rs_f (rs_i2 (rs_in 205 (by decide +kernel))) rfl
theorem tw_446 : (Jvm.Cond.code ({ cls := "RouteSpeaker$Choice", name := "isBeaten", desc := "(II)Z" } : Jvm.MethodName) prog_2_method_6_code (4 : Nat) (Option.some Jvm.ClassFile.FieldType.boolean)) ∈ rs_W := rs_f (rs_i2 (rs_in 206 (by decide +kernel))) rfl
theorem tw_447 : (Jvm.Cond.methodLink "RouteSpeaker" (249 : Nat) ({ cls := "RouteSpeaker$Letter", name := "setPrefix", desc := "(II)V" } : Jvm.MethodName)) ∈ rs_W := rs_f (rs_i2 (rs_in 207 (by decide +kernel))) rfl
theorem tw_448 : (Jvm.Cond.instanceMethod ({ cls := "RouteSpeaker$Letter", name := "setPrefix", desc := "(II)V" } : Jvm.MethodName)) ∈ rs_W := rs_f (rs_i2 (rs_in 208 (by decide +kernel))) rfl
theorem tw_449 : (Jvm.Cond.selects "RouteSpeaker$Letter" ({ cls := "RouteSpeaker$Letter", name := "setPrefix", desc := "(II)V" } : Jvm.MethodName) ({ cls := "RouteSpeaker$Letter", name := "setPrefix", desc := "(II)V" } : Jvm.MethodName)) ∈ rs_W := rs_f (rs_i2 (rs_in 209 (by decide +kernel))) rfl
theorem tw_450 : (Jvm.Cond.code ({ cls := "RouteSpeaker$Letter", name := "setPrefix", desc := "(II)V" } : Jvm.MethodName) prog_4_method_2_code (3 : Nat) (Option.none : Option Jvm.ClassFile.FieldType)) ∈ rs_W := rs_f (rs_i2 (rs_in 210 (by decide +kernel))) rfl
theorem tw_451 : (Jvm.Cond.methodLink "RouteSpeaker" (159 : Nat) ({ cls := "RouteSpeaker$Peer", name := "isUp", desc := "()Z" } : Jvm.MethodName)) ∈ rs_W := rs_f (rs_i2 (rs_in 211 (by decide +kernel))) rfl
theorem tw_452 : (Jvm.Cond.instanceMethod ({ cls := "RouteSpeaker$Peer", name := "isUp", desc := "()Z" } : Jvm.MethodName)) ∈ rs_W := rs_f (rs_i2 (rs_in 212 (by decide +kernel))) rfl
theorem tw_453 : (Jvm.Cond.selects "RouteSpeaker$Peer" ({ cls := "RouteSpeaker$Peer", name := "isUp", desc := "()Z" } : Jvm.MethodName) ({ cls := "RouteSpeaker$Peer", name := "isUp", desc := "()Z" } : Jvm.MethodName)) ∈ rs_W := rs_f (rs_i2 (rs_in 213 (by decide +kernel))) rfl
theorem tw_454 : (Jvm.Cond.code ({ cls := "RouteSpeaker$Peer", name := "isUp", desc := "()Z" } : Jvm.MethodName) prog_6_method_3_code (1 : Nat) (Option.some Jvm.ClassFile.FieldType.boolean)) ∈ rs_W := rs_f (rs_i2 (rs_in 214 (by decide +kernel))) rfl
theorem tw_455 : (Jvm.Cond.methodLink "RouteSpeaker" (252 : Nat) ({ cls := "RouteSpeaker", name := "tell", desc := "(III)Z" } : Jvm.MethodName)) ∈ rs_W := rs_f (rs_i2 (rs_in 215 (by decide +kernel))) rfl
theorem tw_457 : (Jvm.Cond.instanceMethod ({ cls := "RouteSpeaker", name := "tell", desc := "(III)Z" } : Jvm.MethodName)) ∈ rs_W := rs_f (rs_i2 (rs_in 217 (by decide +kernel))) rfl
theorem tw_458 : (Jvm.Cond.code ({ cls := "RouteSpeaker", name := "tell", desc := "(III)Z" } : Jvm.MethodName) prog_1_method_30_code (6 : Nat) (Option.some Jvm.ClassFile.FieldType.boolean)) ∈ rs_W := rs_f (rs_i2 (rs_in 218 (by decide +kernel))) rfl
theorem tw_459 : (Jvm.Cond.methodLink "RouteSpeaker" (255 : Nat) ({ cls := "RouteSpeaker", name := "isMeantFor", desc := "(III)Z" } : Jvm.MethodName)) ∈ rs_W := rs_f (rs_i2 (rs_in 219 (by decide +kernel))) rfl
theorem tw_461 : (Jvm.Cond.instanceMethod ({ cls := "RouteSpeaker", name := "isMeantFor", desc := "(III)Z" } : Jvm.MethodName)) ∈ rs_W := rs_f (rs_i2 (rs_in 221 (by decide +kernel))) rfl
theorem tw_462 : (Jvm.Cond.code ({ cls := "RouteSpeaker", name := "isMeantFor", desc := "(III)Z" } : Jvm.MethodName) prog_1_method_31_code (4 : Nat) (Option.some Jvm.ClassFile.FieldType.boolean)) ∈ rs_W := rs_f (rs_i2 (rs_in 222 (by decide +kernel))) rfl
theorem tw_463 : (Jvm.Cond.methodLink "RouteSpeaker" (273 : Nat) ({ cls := "RouteSpeaker$Peer", name := "isMuteFor", desc := "(II)Z" } : Jvm.MethodName)) ∈ rs_W := rs_f (rs_i2 (rs_in 223 (by decide +kernel))) rfl
theorem tw_464 : (Jvm.Cond.instanceMethod ({ cls := "RouteSpeaker$Peer", name := "isMuteFor", desc := "(II)Z" } : Jvm.MethodName)) ∈ rs_W := rs_f (rs_i2 (rs_in 224 (by decide +kernel))) rfl
theorem tw_465 : (Jvm.Cond.selects "RouteSpeaker$Peer" ({ cls := "RouteSpeaker$Peer", name := "isMuteFor", desc := "(II)Z" } : Jvm.MethodName) ({ cls := "RouteSpeaker$Peer", name := "isMuteFor", desc := "(II)Z" } : Jvm.MethodName)) ∈ rs_W := rs_f (rs_i2 (rs_in 225 (by decide +kernel))) rfl
theorem tw_466 : (Jvm.Cond.code ({ cls := "RouteSpeaker$Peer", name := "isMuteFor", desc := "(II)Z" } : Jvm.MethodName) prog_6_method_4_code (3 : Nat) (Option.some Jvm.ClassFile.FieldType.boolean)) ∈ rs_W := rs_f (rs_i2 (rs_in 226 (by decide +kernel))) rfl
theorem tw_467 : (Jvm.Cond.methodLinkNest "RouteSpeaker$Peer" (57 : Nat) ({ cls := "RouteSpeaker", name := "isWithin", desc := "(IIII)Z" } : Jvm.MethodName) "RouteSpeaker") ∈ lw_tbl := rs_i2 (rs_in 227 (by decide +kernel))
theorem tw_468 : (Jvm.Cond.methodLink "RouteSpeaker" (258 : Nat) ({ cls := "RouteSpeaker$Letter", name := "writeOutward", desc := "(LRouteSpeaker$Route;I)Z" } : Jvm.MethodName)) ∈ rs_W := rs_f (rs_i2 (rs_in 228 (by decide +kernel))) rfl
theorem tw_469 : (Jvm.Cond.instanceMethod ({ cls := "RouteSpeaker$Letter", name := "writeOutward", desc := "(LRouteSpeaker$Route;I)Z" } : Jvm.MethodName)) ∈ rs_W := rs_f (rs_i2 (rs_in 229 (by decide +kernel))) rfl
theorem tw_470 : (Jvm.Cond.selects "RouteSpeaker$Letter" ({ cls := "RouteSpeaker$Letter", name := "writeOutward", desc := "(LRouteSpeaker$Route;I)Z" } : Jvm.MethodName) ({ cls := "RouteSpeaker$Letter", name := "writeOutward", desc := "(LRouteSpeaker$Route;I)Z" } : Jvm.MethodName)) ∈ rs_W := rs_f (rs_i2 (rs_in 230 (by decide +kernel))) rfl
theorem tw_471 : (Jvm.Cond.code ({ cls := "RouteSpeaker$Letter", name := "writeOutward", desc := "(LRouteSpeaker$Route;I)Z" } : Jvm.MethodName) prog_4_method_3_code (4 : Nat) (Option.some Jvm.ClassFile.FieldType.boolean)) ∈ rs_W := rs_f (rs_i2 (rs_in 231 (by decide +kernel))) rfl
theorem tw_472 : (Jvm.Cond.methodLink "RouteSpeaker$Letter" (27 : Nat) ({ cls := "RouteSpeaker$Letter", name := "begin", desc := "(I)V" } : Jvm.MethodName)) ∈ rs_W := rs_f (rs_i2 (rs_in 232 (by decide +kernel))) rfl
theorem tw_474 : (Jvm.Cond.instanceMethod ({ cls := "RouteSpeaker$Letter", name := "begin", desc := "(I)V" } : Jvm.MethodName)) ∈ rs_W := rs_f (rs_i2 (rs_in 234 (by decide +kernel))) rfl
theorem tw_475 : (Jvm.Cond.code ({ cls := "RouteSpeaker$Letter", name := "begin", desc := "(I)V" } : Jvm.MethodName) prog_4_method_6_code (2 : Nat) (Option.none : Option Jvm.ClassFile.FieldType)) ∈ rs_W := rs_f (rs_i2 (rs_in 235 (by decide +kernel))) rfl
theorem tw_476 : (Jvm.Cond.methodLink "RouteSpeaker$Letter" (31 : Nat) ({ cls := "RouteSpeaker$Letter", name := "add", desc := "(I)V" } : Jvm.MethodName)) ∈ rs_W := rs_f (rs_i2 (rs_in 236 (by decide +kernel))) rfl
theorem tw_478 : (Jvm.Cond.instanceMethod ({ cls := "RouteSpeaker$Letter", name := "add", desc := "(I)V" } : Jvm.MethodName)) ∈ rs_W := rs_f (rs_i2 (rs_in 238 (by decide +kernel))) rfl
theorem tw_479 : (Jvm.Cond.code ({ cls := "RouteSpeaker$Letter", name := "add", desc := "(I)V" } : Jvm.MethodName) prog_4_method_10_code (2 : Nat) (Option.none : Option Jvm.ClassFile.FieldType)) ∈ rs_W := rs_f (rs_i2 (rs_in 239 (by decide +kernel))) rfl
theorem tw_480 : (Jvm.Cond.methodLink "RouteSpeaker$Letter" (37 : Nat) ({ cls := "RouteSpeaker$Letter", name := "addValue", desc := "(II)V" } : Jvm.MethodName)) ∈ rs_W := rs_f (rs_i3 (rs_in 0 (by decide +kernel))) rfl
theorem tw_482 : (Jvm.Cond.instanceMethod ({ cls := "RouteSpeaker$Letter", name := "addValue", desc := "(II)V" } : Jvm.MethodName)) ∈ rs_W := rs_f (rs_i3 (rs_in 2 (by decide +kernel))) rfl
theorem tw_483 : (Jvm.Cond.code ({ cls := "RouteSpeaker$Letter", name := "addValue", desc := "(II)V" } : Jvm.MethodName) prog_4_method_8_code (3 : Nat) (Option.none : Option Jvm.ClassFile.FieldType)) ∈ rs_W := rs_f (rs_i3 (rs_in 3 (by decide +kernel))) rfl
theorem tw_484 : (Jvm.Cond.methodLink "RouteSpeaker$Letter" (44 : Nat) ({ cls := "RouteSpeaker$Letter", name := "addList", desc := "(III[II)V" } : Jvm.MethodName)) ∈ rs_W := rs_f (rs_i3 (rs_in 4 (by decide +kernel))) rfl
theorem tw_486 : (Jvm.Cond.instanceMethod ({ cls := "RouteSpeaker$Letter", name := "addList", desc := "(III[II)V" } : Jvm.MethodName)) ∈ rs_W := rs_f (rs_i3 (rs_in 6 (by decide +kernel))) rfl
theorem tw_487 : (Jvm.Cond.code ({ cls := "RouteSpeaker$Letter", name := "addList", desc := "(III[II)V" } : Jvm.MethodName) prog_4_method_9_code (7 : Nat) (Option.none : Option Jvm.ClassFile.FieldType)) ∈ rs_W := rs_f (rs_i3 (rs_in 7 (by decide +kernel))) rfl
theorem tw_488 : (Jvm.Cond.methodLink "RouteSpeaker$Letter" (48 : Nat) ({ cls := "RouteSpeaker$Letter", name := "endAnnouncement", desc := "()V" } : Jvm.MethodName)) ∈ rs_W := rs_f (rs_i3 (rs_in 8 (by decide +kernel))) rfl
theorem tw_490 : (Jvm.Cond.instanceMethod ({ cls := "RouteSpeaker$Letter", name := "endAnnouncement", desc := "()V" } : Jvm.MethodName)) ∈ rs_W := rs_f (rs_i3 (rs_in 10 (by decide +kernel))) rfl
theorem tw_491 : (Jvm.Cond.code ({ cls := "RouteSpeaker$Letter", name := "endAnnouncement", desc := "()V" } : Jvm.MethodName) prog_4_method_7_code (1 : Nat) (Option.none : Option Jvm.ClassFile.FieldType)) ∈ rs_W := rs_f (rs_i3 (rs_in 11 (by decide +kernel))) rfl
theorem tw_492 : (Jvm.Cond.methodLink "RouteSpeaker" (262 : Nat) ({ cls := "RouteSpeaker$Letter", name := "writeInward", desc := "(LRouteSpeaker$Route;II)Z" } : Jvm.MethodName)) ∈ rs_W := rs_f (rs_i3 (rs_in 12 (by decide +kernel))) rfl
theorem tw_493 : (Jvm.Cond.instanceMethod ({ cls := "RouteSpeaker$Letter", name := "writeInward", desc := "(LRouteSpeaker$Route;II)Z" } : Jvm.MethodName)) ∈ rs_W := rs_f (rs_i3 (rs_in 13 (by decide +kernel))) rfl
theorem tw_494 : (Jvm.Cond.selects "RouteSpeaker$Letter" ({ cls := "RouteSpeaker$Letter", name := "writeInward", desc := "(LRouteSpeaker$Route;II)Z" } : Jvm.MethodName) ({ cls := "RouteSpeaker$Letter", name := "writeInward", desc := "(LRouteSpeaker$Route;II)Z" } : Jvm.MethodName)) ∈ rs_W := rs_f (rs_i3 (rs_in 14 (by decide +kernel))) rfl
theorem tw_495 : (Jvm.Cond.code ({ cls := "RouteSpeaker$Letter", name := "writeInward", desc := "(LRouteSpeaker$Route;II)Z" } : Jvm.MethodName) prog_4_method_4_code (5 : Nat) (Option.some Jvm.ClassFile.FieldType.boolean)) ∈ rs_W := rs_f (rs_i3 (rs_in 15 (by decide +kernel))) rfl
theorem tw_496 : (Jvm.Cond.methodLink "RouteSpeaker$Letter" (60 : Nat) ({ cls := "RouteSpeaker$Route", name := "sourceOr", desc := "(I)I" } : Jvm.MethodName)) ∈ rs_W := rs_f (rs_i3 (rs_in 16 (by decide +kernel))) rfl
theorem tw_497 : (Jvm.Cond.methodLink "RouteSpeaker" (266 : Nat) ({ cls := "RouteSpeaker$Peer", name := "announce", desc := "(ILRouteSpeaker$Letter;)Z" } : Jvm.MethodName)) ∈ rs_W := rs_f (rs_i3 (rs_in 17 (by decide +kernel))) rfl
theorem tw_498 : (Jvm.Cond.instanceMethod ({ cls := "RouteSpeaker$Peer", name := "announce", desc := "(ILRouteSpeaker$Letter;)Z" } : Jvm.MethodName)) ∈ rs_W := rs_f (rs_i3 (rs_in 18 (by decide +kernel))) rfl
theorem tw_499 : (Jvm.Cond.selects "RouteSpeaker$Peer" ({ cls := "RouteSpeaker$Peer", name := "announce", desc := "(ILRouteSpeaker$Letter;)Z" } : Jvm.MethodName) ({ cls := "RouteSpeaker$Peer", name := "announce", desc := "(ILRouteSpeaker$Letter;)Z" } : Jvm.MethodName)) ∈ rs_W := rs_f (rs_i3 (rs_in 19 (by decide +kernel))) rfl
theorem tw_500 : (Jvm.Cond.code ({ cls := "RouteSpeaker$Peer", name := "announce", desc := "(ILRouteSpeaker$Letter;)Z" } : Jvm.MethodName) prog_6_method_10_code (4 : Nat) (Option.some Jvm.ClassFile.FieldType.boolean)) ∈ rs_W := rs_f (rs_i3 (rs_in 20 (by decide +kernel))) rfl
theorem tw_501 : (Jvm.Cond.methodLink "RouteSpeaker$Peer" (102 : Nat) ({ cls := "RouteSpeaker$Peer", name := "isTold", desc := "(ILRouteSpeaker$Letter;)Z" } : Jvm.MethodName)) ∈ rs_W := rs_f (rs_i3 (rs_in 21 (by decide +kernel))) rfl
theorem tw_503 : (Jvm.Cond.instanceMethod ({ cls := "RouteSpeaker$Peer", name := "isTold", desc := "(ILRouteSpeaker$Letter;)Z" } : Jvm.MethodName)) ∈ rs_W := rs_f (rs_i3 (rs_in 23 (by decide +kernel))) rfl
theorem tw_504 : (Jvm.Cond.code ({ cls := "RouteSpeaker$Peer", name := "isTold", desc := "(ILRouteSpeaker$Letter;)Z" } : Jvm.MethodName) prog_6_method_12_code (4 : Nat) (Option.some Jvm.ClassFile.FieldType.boolean)) ∈ rs_W := rs_f (rs_i3 (rs_in 24 (by decide +kernel))) rfl
theorem tw_505 : (Jvm.Cond.methodLink "RouteSpeaker" (270 : Nat) ({ cls := "RouteSpeaker$Peer", name := "withdraw", desc := "(ILRouteSpeaker$Letter;)Z" } : Jvm.MethodName)) ∈ rs_W := rs_f (rs_i3 (rs_in 25 (by decide +kernel))) rfl
theorem tw_506 : (Jvm.Cond.instanceMethod ({ cls := "RouteSpeaker$Peer", name := "withdraw", desc := "(ILRouteSpeaker$Letter;)Z" } : Jvm.MethodName)) ∈ rs_W := rs_f (rs_i3 (rs_in 26 (by decide +kernel))) rfl
theorem tw_507 : (Jvm.Cond.selects "RouteSpeaker$Peer" ({ cls := "RouteSpeaker$Peer", name := "withdraw", desc := "(ILRouteSpeaker$Letter;)Z" } : Jvm.MethodName) ({ cls := "RouteSpeaker$Peer", name := "withdraw", desc := "(ILRouteSpeaker$Letter;)Z" } : Jvm.MethodName)) ∈ rs_W := rs_f (rs_i3 (rs_in 27 (by decide +kernel))) rfl
theorem tw_508 : (Jvm.Cond.code ({ cls := "RouteSpeaker$Peer", name := "withdraw", desc := "(ILRouteSpeaker$Letter;)Z" } : Jvm.MethodName) prog_6_method_11_code (3 : Nat) (Option.some Jvm.ClassFile.FieldType.boolean)) ∈ rs_W := rs_f (rs_i3 (rs_in 28 (by decide +kernel))) rfl
theorem tw_509 : (Jvm.Cond.methodLink "RouteSpeaker$Peer" (114 : Nat) ({ cls := "RouteSpeaker$Letter", name := "writeWithdrawal", desc := "()V" } : Jvm.MethodName)) ∈ rs_W := rs_f (rs_i3 (rs_in 29 (by decide +kernel))) rfl
theorem tw_510 : (Jvm.Cond.instanceMethod ({ cls := "RouteSpeaker$Letter", name := "writeWithdrawal", desc := "()V" } : Jvm.MethodName)) ∈ rs_W := rs_f (rs_i3 (rs_in 30 (by decide +kernel))) rfl
theorem tw_511 : (Jvm.Cond.selects "RouteSpeaker$Letter" ({ cls := "RouteSpeaker$Letter", name := "writeWithdrawal", desc := "()V" } : Jvm.MethodName) ({ cls := "RouteSpeaker$Letter", name := "writeWithdrawal", desc := "()V" } : Jvm.MethodName)) ∈ rs_W := rs_f (rs_i3 (rs_in 31 (by decide +kernel))) rfl
theorem tw_512 : (Jvm.Cond.code ({ cls := "RouteSpeaker$Letter", name := "writeWithdrawal", desc := "()V" } : Jvm.MethodName) prog_4_method_5_code (1 : Nat) (Option.none : Option Jvm.ClassFile.FieldType)) ∈ rs_W := rs_f (rs_i3 (rs_in 32 (by decide +kernel))) rfl
theorem tw_513 : (Jvm.Cond.methodLink "RouteSpeakerLaw" (118 : Nat) ({ cls := "RouteSpeaker", name := "session", desc := "(II)I" } : Jvm.MethodName)) ∈ rs_W := rs_f (rs_i3 (rs_in 33 (by decide +kernel))) rfl
theorem tw_514 : (Jvm.Cond.instanceMethod ({ cls := "RouteSpeaker", name := "session", desc := "(II)I" } : Jvm.MethodName)) ∈ rs_W := rs_f (rs_i3 (rs_in 34 (by decide +kernel))) rfl
theorem tw_515 : (Jvm.Cond.selects "RouteSpeaker" ({ cls := "RouteSpeaker", name := "session", desc := "(II)I" } : Jvm.MethodName) ({ cls := "RouteSpeaker", name := "session", desc := "(II)I" } : Jvm.MethodName)) ∈ rs_W := rs_f (rs_i3 (rs_in 35 (by decide +kernel))) rfl
theorem tw_516 : (Jvm.Cond.code ({ cls := "RouteSpeaker", name := "session", desc := "(II)I" } : Jvm.MethodName) prog_1_method_13_code (4 : Nat) (Option.some Jvm.ClassFile.FieldType.int)) ∈ rs_W := rs_f (rs_i3 (rs_in 36 (by decide +kernel))) rfl
theorem tw_517 : (Jvm.Cond.methodLink "RouteSpeaker" (57 : Nat) ({ cls := "RouteSpeaker", name := "isPeer", desc := "(I)Z" } : Jvm.MethodName)) ∈ rs_W := rs_f (rs_i3 (rs_in 37 (by decide +kernel))) rfl
theorem tw_518 : (Jvm.Cond.static ({ cls := "RouteSpeaker", name := "isPeer", desc := "(I)Z" } : Jvm.MethodName)) ∈ rs_W := rs_f (rs_i3 (rs_in 38 (by decide +kernel))) rfl
theorem tw_519 : (Jvm.Cond.code ({ cls := "RouteSpeaker", name := "isPeer", desc := "(I)Z" } : Jvm.MethodName) prog_1_method_19_code (1 : Nat) (Option.some Jvm.ClassFile.FieldType.boolean)) ∈ rs_W := rs_f (rs_i3 (rs_in 39 (by decide +kernel))) rfl
theorem tw_520 : (Jvm.Cond.methodLink "RouteSpeakerLaw" (137 : Nat) ({ cls := "RouteSpeaker", name := "known", desc := "()I" } : Jvm.MethodName)) ∈ rs_W := rs_f (rs_i3 (rs_in 40 (by decide +kernel))) rfl
theorem tw_521 : (Jvm.Cond.instanceMethod ({ cls := "RouteSpeaker", name := "known", desc := "()I" } : Jvm.MethodName)) ∈ rs_W := rs_f (rs_i3 (rs_in 41 (by decide +kernel))) rfl
theorem tw_522 : (Jvm.Cond.selects "RouteSpeaker" ({ cls := "RouteSpeaker", name := "known", desc := "()I" } : Jvm.MethodName) ({ cls := "RouteSpeaker", name := "known", desc := "()I" } : Jvm.MethodName)) ∈ rs_W := rs_f (rs_i3 (rs_in 42 (by decide +kernel))) rfl
theorem tw_523 : (Jvm.Cond.code ({ cls := "RouteSpeaker", name := "known", desc := "()I" } : Jvm.MethodName) prog_1_method_18_code (1 : Nat) (Option.some Jvm.ClassFile.FieldType.int)) ∈ rs_W := rs_f (rs_i3 (rs_in 43 (by decide +kernel))) rfl
theorem tw_524 : (Jvm.Cond.methodLink "RouteSpeakerLaw" (70 : Nat) ({ cls := "RouteSpeakerLaw", name := "peer", desc := "(LRouteSpeaker;III)I" } : Jvm.MethodName)) ∈ rs_W := rs_f (rs_i3 (rs_in 44 (by decide +kernel))) rfl
theorem tw_525 : (Jvm.Cond.static ({ cls := "RouteSpeakerLaw", name := "peer", desc := "(LRouteSpeaker;III)I" } : Jvm.MethodName)) ∈ rs_W := rs_f (rs_i3 (rs_in 45 (by decide +kernel))) rfl
theorem tw_526 : (Jvm.Cond.codeWith ({ cls := "RouteSpeakerLaw", name := "peer", desc := "(LRouteSpeaker;III)I" } : Jvm.MethodName) method_3_code (5 : Nat) (Option.some Jvm.ClassFile.FieldType.int) [((0 : Nat), (7 : Nat), (10 : Nat), (13 : Nat)), ((0 : Nat), (7 : Nat), (14 : Nat), (15 : Nat))]) ∈ rs_W := rs_f (rs_i3 (rs_in 46 (by decide +kernel))) rfl
theorem tw_527 : (Jvm.Cond.classLink "RouteSpeakerLaw" (13 : Nat) "java/lang/IllegalArgumentException") ∈ rs_W := rs_f (rs_i3 (rs_in 47 (by decide +kernel))) rfl
theorem tw_528 : (Jvm.Cond.classLink "RouteSpeakerLaw" (15 : Nat) "java/lang/IllegalStateException") ∈ rs_W := rs_f (rs_i3 (rs_in 48 (by decide +kernel))) rfl
theorem tw_529 : (Jvm.Cond.methodLink "RouteSpeakerLaw" (7 : Nat) ({ cls := "RouteSpeaker", name := "peer", desc := "(III)V" } : Jvm.MethodName)) ∈ rs_W := rs_f (rs_i3 (rs_in 49 (by decide +kernel))) rfl
theorem tw_530 : (Jvm.Cond.instanceMethod ({ cls := "RouteSpeaker", name := "peer", desc := "(III)V" } : Jvm.MethodName)) ∈ rs_W := rs_f (rs_i3 (rs_in 50 (by decide +kernel))) rfl
theorem tw_531 : (Jvm.Cond.selects "RouteSpeaker" ({ cls := "RouteSpeaker", name := "peer", desc := "(III)V" } : Jvm.MethodName) ({ cls := "RouteSpeaker", name := "peer", desc := "(III)V" } : Jvm.MethodName)) ∈ rs_W := rs_f (rs_i3 (rs_in 51 (by decide +kernel))) rfl
theorem tw_532 : (Jvm.Cond.code ({ cls := "RouteSpeaker", name := "peer", desc := "(III)V" } : Jvm.MethodName) prog_1_method_2_code (5 : Nat) (Option.none : Option Jvm.ClassFile.FieldType)) ∈ rs_W := rs_f (rs_i3 (rs_in 52 (by decide +kernel))) rfl
theorem tw_533 : (Jvm.Cond.classLink "RouteSpeaker" (61 : Nat) "java/lang/IllegalArgumentException") ∈ rs_W := rs_f (rs_i3 (rs_in 53 (by decide +kernel))) rfl
theorem tw_534 : (Jvm.Cond.instantiable "java/lang/IllegalArgumentException" (6 : Nat)) ∈ rs_W := rs_f (rs_i3 (rs_in 54 (by decide +kernel))) rfl
theorem tw_542 : (Jvm.Cond.selects "java/lang/IllegalArgumentException" ({ cls := "java/lang/Throwable", name := "fillInStackTrace", desc := "(I)Ljava/lang/Throwable;" } : Jvm.MethodName) ({ cls := "java/lang/Throwable", name := "fillInStackTrace", desc := "(I)Ljava/lang/Throwable;" } : Jvm.MethodName)) ∈ rs_W := rs_f (rs_i3 (rs_in 62 (by decide +kernel))) rfl
theorem tw_543 : (Jvm.Cond.selects "java/lang/IllegalArgumentException" ({ cls := "java/lang/Throwable", name := "fillInStackTrace", desc := "()Ljava/lang/Throwable;" } : Jvm.MethodName) ({ cls := "java/lang/Throwable", name := "fillInStackTrace", desc := "()Ljava/lang/Throwable;" } : Jvm.MethodName)) ∈ rs_W := rs_f (rs_i3 (rs_in 63 (by decide +kernel))) rfl
theorem tw_554 : (Jvm.Cond.fieldLink "java/lang/Throwable" (198 : Nat) "java/lang/Throwable" "backtrace" "Ljava/lang/Object;") ∈ rs_W := rs_f (rs_i3 (rs_in 74 (by decide +kernel))) rfl
theorem tw_556 : (Jvm.Cond.instanceMethod ({ cls := "java/lang/Throwable", name := "<init>", desc := "()V" } : Jvm.MethodName)) ∈ rs_W := rs_f (rs_i3 (rs_in 76 (by decide +kernel))) rfl
theorem tw_557 : (Jvm.Cond.code ({ cls := "java/lang/Throwable", name := "<init>", desc := "()V" } : Jvm.MethodName) prog_19_method_1_code (1 : Nat) (Option.none : Option Jvm.ClassFile.FieldType)) ∈ rs_W := rs_f (rs_i3 (rs_in 77 (by decide +kernel))) rfl
theorem tw_558 : (Jvm.Cond.methodLink "java/lang/Throwable" (1 : Nat) ({ cls := "java/lang/Object", name := "<init>", desc := "()V" } : Jvm.MethodName)) ∈ rs_W := rs_f (rs_i3 (rs_in 78 (by decide +kernel))) rfl
theorem tw_559 : (Jvm.Cond.fieldLink "java/lang/Throwable" (13 : Nat) "java/lang/Throwable" "UNASSIGNED_STACK" "[Ljava/lang/StackTraceElement;") ∈ rs_W := rs_f (rs_i3 (rs_in 79 (by decide +kernel))) rfl
theorem tw_561 : (Jvm.Cond.fieldLink "java/lang/Throwable" (20 : Nat) "java/lang/Throwable" "SUPPRESSED_SENTINEL" "Ljava/util/List;") ∈ rs_W := rs_f (rs_i3 (rs_in 81 (by decide +kernel))) rfl
theorem tw_563 : (Jvm.Cond.methodLink "java/lang/Throwable" (27 : Nat) ({ cls := "java/lang/Throwable", name := "fillInStackTrace", desc := "()Ljava/lang/Throwable;" } : Jvm.MethodName)) ∈ rs_W := rs_f (rs_i3 (rs_in 83 (by decide +kernel))) rfl
theorem tw_564 : (Jvm.Cond.instanceMethod ({ cls := "java/lang/Throwable", name := "fillInStackTrace", desc := "()Ljava/lang/Throwable;" } : Jvm.MethodName)) ∈ rs_W := rs_f (rs_i3 (rs_in 84 (by decide +kernel))) rfl
theorem tw_565 : (Jvm.Cond.sameMethod "java/lang/Throwable" "java/lang/Throwable" "fillInStackTrace" "()Ljava/lang/Throwable;") ∈ rs_W := rs_f (rs_i3 (rs_in 85 (by decide +kernel))) rfl
theorem tw_566 : (Jvm.Cond.selects "java/lang/IllegalStateException" ({ cls := "java/lang/Throwable", name := "fillInStackTrace", desc := "()Ljava/lang/Throwable;" } : Jvm.MethodName) ({ cls := "java/lang/Throwable", name := "fillInStackTrace", desc := "()Ljava/lang/Throwable;" } : Jvm.MethodName)) ∈ rs_W := rs_f (rs_i3 (rs_in 86 (by decide +kernel))) rfl
theorem tw_567 : (Jvm.Cond.selects "java/util/NoSuchElementException" ({ cls := "java/lang/Throwable", name := "fillInStackTrace", desc := "()Ljava/lang/Throwable;" } : Jvm.MethodName) ({ cls := "java/lang/Throwable", name := "fillInStackTrace", desc := "()Ljava/lang/Throwable;" } : Jvm.MethodName)) ∈ rs_W := rs_f (rs_i3 (rs_in 87 (by decide +kernel))) rfl
theorem tw_568 : (Jvm.Cond.codeSync ({ cls := "java/lang/Throwable", name := "fillInStackTrace", desc := "()Ljava/lang/Throwable;" } : Jvm.MethodName) prog_19_method_18_code (1 : Nat) (Option.some (Jvm.ClassFile.FieldType.object "java/lang/Throwable"))) ∈ rs_W := rs_f (rs_i3 (rs_in 88 (by decide +kernel))) rfl
theorem tw_569 : (Jvm.Cond.methodLink "java/lang/Throwable" (202 : Nat) ({ cls := "java/lang/Throwable", name := "fillInStackTrace", desc := "(I)Ljava/lang/Throwable;" } : Jvm.MethodName)) ∈ rs_W := rs_f (rs_i3 (rs_in 89 (by decide +kernel))) rfl
theorem tw_571 : (Jvm.Cond.instanceMethod ({ cls := "java/lang/Throwable", name := "fillInStackTrace", desc := "(I)Ljava/lang/Throwable;" } : Jvm.MethodName)) ∈ rs_W := rs_f (rs_i3 (rs_in 91 (by decide +kernel))) rfl
theorem tw_572 : (Jvm.Cond.instantiable "java/lang/Throwable" (6 : Nat)) ∈ rs_W := rs_f (rs_i3 (rs_in 92 (by decide +kernel))) rfl
theorem tw_573 : (Jvm.Cond.native ({ cls := "java/lang/Throwable", name := "fillInStackTrace", desc := "(I)Ljava/lang/Throwable;" } : Jvm.MethodName)) ∈ rs_W := rs_f (rs_i3 (rs_in 93 (by decide +kernel))) rfl
theorem tw_574 : (Jvm.Cond.methodLink "RouteSpeaker" (63 : Nat) ({ cls := "java/lang/IllegalArgumentException", name := "<init>", desc := "()V" } : Jvm.MethodName)) ∈ rs_W := rs_f (rs_i3 (rs_in 94 (by decide +kernel))) rfl
theorem tw_575 : (Jvm.Cond.instanceMethod ({ cls := "java/lang/IllegalArgumentException", name := "<init>", desc := "()V" } : Jvm.MethodName)) ∈ rs_W := rs_f (rs_i3 (rs_in 95 (by decide +kernel))) rfl
theorem tw_576 : (Jvm.Cond.code ({ cls := "java/lang/IllegalArgumentException", name := "<init>", desc := "()V" } : Jvm.MethodName) prog_14_method_1_code (1 : Nat) (Option.none : Option Jvm.ClassFile.FieldType)) ∈ rs_W := rs_f (rs_i3 (rs_in 96 (by decide +kernel))) rfl
theorem tw_577 : (Jvm.Cond.methodLink "java/lang/IllegalArgumentException" (1 : Nat) ({ cls := "java/lang/RuntimeException", name := "<init>", desc := "()V" } : Jvm.MethodName)) ∈ rs_W := rs_f (rs_i3 (rs_in 97 (by decide +kernel))) rfl
theorem tw_578 : (Jvm.Cond.instanceMethod ({ cls := "java/lang/RuntimeException", name := "<init>", desc := "()V" } : Jvm.MethodName)) ∈ rs_W := rs_f (rs_i3 (rs_in 98 (by decide +kernel))) rfl
theorem tw_579 : (Jvm.Cond.code ({ cls := "java/lang/RuntimeException", name := "<init>", desc := "()V" } : Jvm.MethodName) prog_17_method_1_code (1 : Nat) (Option.none : Option Jvm.ClassFile.FieldType)) ∈ rs_W := rs_f (rs_i3 (rs_in 99 (by decide +kernel))) rfl
theorem tw_580 : (Jvm.Cond.methodLink "java/lang/RuntimeException" (1 : Nat) ({ cls := "java/lang/Exception", name := "<init>", desc := "()V" } : Jvm.MethodName)) ∈ rs_W := rs_f (rs_i3 (rs_in 100 (by decide +kernel))) rfl
theorem tw_581 : (Jvm.Cond.instanceMethod ({ cls := "java/lang/Exception", name := "<init>", desc := "()V" } : Jvm.MethodName)) ∈ rs_W := rs_f (rs_i3 (rs_in 101 (by decide +kernel))) rfl
theorem tw_582 : (Jvm.Cond.code ({ cls := "java/lang/Exception", name := "<init>", desc := "()V" } : Jvm.MethodName) prog_13_method_1_code (1 : Nat) (Option.none : Option Jvm.ClassFile.FieldType)) ∈ rs_W := rs_f (rs_i3 (rs_in 102 (by decide +kernel))) rfl
theorem tw_583 : (Jvm.Cond.methodLink "java/lang/Exception" (1 : Nat) ({ cls := "java/lang/Throwable", name := "<init>", desc := "()V" } : Jvm.MethodName)) ∈ rs_W := rs_f (rs_i3 (rs_in 103 (by decide +kernel))) rfl
theorem tw_584 : (Jvm.Cond.fieldLink "java/lang/Throwable" (198 : Nat) "java/lang/Throwable" "backtrace" "Ljava/lang/Object;") ∈ rs_W := rs_f (rs_i3 (rs_in 104 (by decide +kernel))) rfl
theorem tw_585 : (Jvm.Cond.fieldLink "java/lang/Throwable" (7 : Nat) "java/lang/Throwable" "cause" "Ljava/lang/Throwable;") ∈ rs_W := rs_f (rs_i3 (rs_in 105 (by decide +kernel))) rfl
theorem tw_586 : (Jvm.Cond.fieldLink "java/lang/Throwable" (17 : Nat) "java/lang/Throwable" "stackTrace" "[Ljava/lang/StackTraceElement;") ∈ rs_W := rs_f (rs_i3 (rs_in 106 (by decide +kernel))) rfl
theorem tw_587 : (Jvm.Cond.fieldLink "java/lang/Throwable" (24 : Nat) "java/lang/Throwable" "suppressedExceptions" "Ljava/util/List;") ∈ rs_W := rs_f (rs_i3 (rs_in 107 (by decide +kernel))) rfl
theorem tw_596 : (Jvm.Cond.methodLink "RouteSpeaker" (64 : Nat) ({ cls := "RouteSpeaker", name := "isNumber", desc := "(I)Z" } : Jvm.MethodName)) ∈ rs_W := rs_f (rs_i3 (rs_in 116 (by decide +kernel))) rfl
theorem tw_597 : (Jvm.Cond.static ({ cls := "RouteSpeaker", name := "isNumber", desc := "(I)Z" } : Jvm.MethodName)) ∈ rs_W := rs_f (rs_i3 (rs_in 117 (by decide +kernel))) rfl
theorem tw_598 : (Jvm.Cond.code ({ cls := "RouteSpeaker", name := "isNumber", desc := "(I)Z" } : Jvm.MethodName) prog_1_method_20_code (1 : Nat) (Option.some Jvm.ClassFile.FieldType.boolean)) ∈ rs_W := rs_f (rs_i3 (rs_in 118 (by decide +kernel))) rfl
theorem tw_599 : (Jvm.Cond.methodLink "RouteSpeaker" (67 : Nat) ({ cls := "RouteSpeaker$Peer", name := "isIdle", desc := "()Z" } : Jvm.MethodName)) ∈ rs_W := rs_f (rs_i3 (rs_in 119 (by decide +kernel))) rfl
theorem tw_600 : (Jvm.Cond.instanceMethod ({ cls := "RouteSpeaker$Peer", name := "isIdle", desc := "()Z" } : Jvm.MethodName)) ∈ rs_W := rs_f (rs_i3 (rs_in 120 (by decide +kernel))) rfl
theorem tw_601 : (Jvm.Cond.selects "RouteSpeaker$Peer" ({ cls := "RouteSpeaker$Peer", name := "isIdle", desc := "()Z" } : Jvm.MethodName) ({ cls := "RouteSpeaker$Peer", name := "isIdle", desc := "()Z" } : Jvm.MethodName)) ∈ rs_W := rs_f (rs_i3 (rs_in 121 (by decide +kernel))) rfl
theorem tw_602 : (Jvm.Cond.code ({ cls := "RouteSpeaker$Peer", name := "isIdle", desc := "()Z" } : Jvm.MethodName) prog_6_method_2_code (1 : Nat) (Option.some Jvm.ClassFile.FieldType.boolean)) ∈ rs_W := rs_f (rs_i3 (rs_in 122 (by decide +kernel))) rfl
theorem tw_603 : (Jvm.Cond.classLink "RouteSpeaker" (71 : Nat) "java/lang/IllegalStateException") ∈ rs_W := rs_f (rs_i3 (rs_in 123 (by decide +kernel))) rfl
theorem tw_604 : (Jvm.Cond.instantiable "java/lang/IllegalStateException" (6 : Nat)) ∈ rs_W := rs_f (rs_i3 (rs_in 124 (by decide +kernel))) rfl
theorem tw_606 : (Jvm.Cond.selects "java/lang/IllegalStateException" ({ cls := "java/lang/Throwable", name := "fillInStackTrace", desc := "(I)Ljava/lang/Throwable;" } : Jvm.MethodName) ({ cls := "java/lang/Throwable", name := "fillInStackTrace", desc := "(I)Ljava/lang/Throwable;" } : Jvm.MethodName)) ∈ rs_W := rs_f (rs_i3 (rs_in 126 (by decide +kernel))) rfl
theorem tw_612 : (Jvm.Cond.methodLink "RouteSpeaker" (73 : Nat) ({ cls := "java/lang/IllegalStateException", name := "<init>", desc := "()V" } : Jvm.MethodName)) ∈ rs_W := rs_f (rs_i3 (rs_in 132 (by decide +kernel))) rfl
theorem tw_613 : (Jvm.Cond.instanceMethod ({ cls := "java/lang/IllegalStateException", name := "<init>", desc := "()V" } : Jvm.MethodName)) ∈ rs_W := rs_f (rs_i3 (rs_in 133 (by decide +kernel))) rfl
theorem tw_614 : (Jvm.Cond.code ({ cls := "java/lang/IllegalStateException", name := "<init>", desc := "()V" } : Jvm.MethodName) prog_15_method_1_code (1 : Nat) (Option.none : Option Jvm.ClassFile.FieldType)) ∈ rs_W := rs_f (rs_i3 (rs_in 134 (by decide +kernel))) rfl
theorem tw_615 : (Jvm.Cond.methodLink "java/lang/IllegalStateException" (1 : Nat) ({ cls := "java/lang/RuntimeException", name := "<init>", desc := "()V" } : Jvm.MethodName)) ∈ rs_W := rs_f (rs_i3 (rs_in 135 (by decide +kernel))) rfl
theorem tw_618 : (Jvm.Cond.methodLink "RouteSpeakerLaw" (80 : Nat) ({ cls := "RouteSpeakerLaw", name := "rule", desc := "(LRouteSpeaker;IIII)I" } : Jvm.MethodName)) ∈ rs_W := rs_f (rs_i3 (rs_in 138 (by decide +kernel))) rfl
theorem tw_619 : (Jvm.Cond.static ({ cls := "RouteSpeakerLaw", name := "rule", desc := "(LRouteSpeaker;IIII)I" } : Jvm.MethodName)) ∈ rs_W := rs_f (rs_i3 (rs_in 139 (by decide +kernel))) rfl
theorem tw_620 : (Jvm.Cond.codeWith ({ cls := "RouteSpeakerLaw", name := "rule", desc := "(LRouteSpeaker;IIII)I" } : Jvm.MethodName) method_4_code (6 : Nat) (Option.some Jvm.ClassFile.FieldType.int) [((0 : Nat), (9 : Nat), (12 : Nat), (13 : Nat)), ((0 : Nat), (9 : Nat), (16 : Nat), (15 : Nat))]) ∈ rs_W := rs_f (rs_i3 (rs_in 140 (by decide +kernel))) rfl
theorem tw_621 : (Jvm.Cond.methodLink "RouteSpeakerLaw" (17 : Nat) ({ cls := "RouteSpeaker", name := "rule", desc := "(IIII)V" } : Jvm.MethodName)) ∈ rs_W := rs_f (rs_i3 (rs_in 141 (by decide +kernel))) rfl
theorem tw_622 : (Jvm.Cond.instanceMethod ({ cls := "RouteSpeaker", name := "rule", desc := "(IIII)V" } : Jvm.MethodName)) ∈ rs_W := rs_f (rs_i3 (rs_in 142 (by decide +kernel))) rfl
theorem tw_623 : (Jvm.Cond.selects "RouteSpeaker" ({ cls := "RouteSpeaker", name := "rule", desc := "(IIII)V" } : Jvm.MethodName) ({ cls := "RouteSpeaker", name := "rule", desc := "(IIII)V" } : Jvm.MethodName)) ∈ rs_W := rs_f (rs_i3 (rs_in 143 (by decide +kernel))) rfl
theorem tw_624 : (Jvm.Cond.code ({ cls := "RouteSpeaker", name := "rule", desc := "(IIII)V" } : Jvm.MethodName) prog_1_method_3_code (5 : Nat) (Option.none : Option Jvm.ClassFile.FieldType)) ∈ rs_W := rs_f (rs_i3 (rs_in 144 (by decide +kernel))) rfl
theorem tw_625 : (Jvm.Cond.methodLink "RouteSpeaker" (80 : Nat) ({ cls := "RouteSpeaker", name := "isPrefix", desc := "(II)Z" } : Jvm.MethodName)) ∈ rs_W := rs_f (rs_i3 (rs_in 145 (by decide +kernel))) rfl
theorem tw_626 : (Jvm.Cond.static ({ cls := "RouteSpeaker", name := "isPrefix", desc := "(II)Z" } : Jvm.MethodName)) ∈ rs_W := rs_f (rs_i3 (rs_in 146 (by decide +kernel))) rfl
theorem tw_627 : (Jvm.Cond.code ({ cls := "RouteSpeaker", name := "isPrefix", desc := "(II)Z" } : Jvm.MethodName) prog_1_method_21_code (2 : Nat) (Option.some Jvm.ClassFile.FieldType.boolean)) ∈ rs_W := rs_f (rs_i3 (rs_in 147 (by decide +kernel))) rfl
theorem tw_628 : (Jvm.Cond.methodLink "RouteSpeaker" (88 : Nat) ({ cls := "RouteSpeaker$Rules", name := "add", desc := "(III)Z" } : Jvm.MethodName)) ∈ rs_W := rs_f (rs_i3 (rs_in 148 (by decide +kernel))) rfl
theorem tw_629 : (Jvm.Cond.instanceMethod ({ cls := "RouteSpeaker$Rules", name := "add", desc := "(III)Z" } : Jvm.MethodName)) ∈ rs_W := rs_f (rs_i3 (rs_in 149 (by decide +kernel))) rfl
theorem tw_630 : (Jvm.Cond.selects "RouteSpeaker$Rules" ({ cls := "RouteSpeaker$Rules", name := "add", desc := "(III)Z" } : Jvm.MethodName) ({ cls := "RouteSpeaker$Rules", name := "add", desc := "(III)Z" } : Jvm.MethodName)) ∈ rs_W := rs_f (rs_i3 (rs_in 150 (by decide +kernel))) rfl
theorem tw_631 : (Jvm.Cond.code ({ cls := "RouteSpeaker$Rules", name := "add", desc := "(III)Z" } : Jvm.MethodName) prog_9_method_2_code (4 : Nat) (Option.some Jvm.ClassFile.FieldType.boolean)) ∈ rs_W := rs_f (rs_i3 (rs_in 151 (by decide +kernel))) rfl
theorem tw_632 : (Jvm.Cond.methodLink "RouteSpeakerLaw" (84 : Nat) ({ cls := "RouteSpeakerLaw", name := "unrule", desc := "(LRouteSpeaker;I)I" } : Jvm.MethodName)) ∈ rs_W := rs_f (rs_i3 (rs_in 152 (by decide +kernel))) rfl
theorem tw_633 : (Jvm.Cond.static ({ cls := "RouteSpeakerLaw", name := "unrule", desc := "(LRouteSpeaker;I)I" } : Jvm.MethodName)) ∈ rs_W := rs_f (rs_i3 (rs_in 153 (by decide +kernel))) rfl
theorem tw_634 : (Jvm.Cond.codeWith ({ cls := "RouteSpeakerLaw", name := "unrule", desc := "(LRouteSpeaker;I)I" } : Jvm.MethodName) method_5_code (3 : Nat) (Option.some Jvm.ClassFile.FieldType.int) [((0 : Nat), (5 : Nat), (8 : Nat), (13 : Nat))]) ∈ rs_W := rs_f (rs_i3 (rs_in 154 (by decide +kernel))) rfl
theorem tw_635 : (Jvm.Cond.methodLink "RouteSpeakerLaw" (21 : Nat) ({ cls := "RouteSpeaker", name := "unrule", desc := "(I)V" } : Jvm.MethodName)) ∈ rs_W := rs_f (rs_i3 (rs_in 155 (by decide +kernel))) rfl
theorem tw_636 : (Jvm.Cond.instanceMethod ({ cls := "RouteSpeaker", name := "unrule", desc := "(I)V" } : Jvm.MethodName)) ∈ rs_W := rs_f (rs_i3 (rs_in 156 (by decide +kernel))) rfl
theorem tw_637 : (Jvm.Cond.selects "RouteSpeaker" ({ cls := "RouteSpeaker", name := "unrule", desc := "(I)V" } : Jvm.MethodName) ({ cls := "RouteSpeaker", name := "unrule", desc := "(I)V" } : Jvm.MethodName)) ∈ rs_W := rs_f (rs_i3 (rs_in 157 (by decide +kernel))) rfl
theorem tw_638 : (Jvm.Cond.code ({ cls := "RouteSpeaker", name := "unrule", desc := "(I)V" } : Jvm.MethodName) prog_1_method_4_code (2 : Nat) (Option.none : Option Jvm.ClassFile.FieldType)) ∈ rs_W := rs_f (rs_i3 (rs_in 158 (by decide +kernel))) rfl
theorem tw_639 : (Jvm.Cond.methodLink "RouteSpeaker" (97 : Nat) ({ cls := "RouteSpeaker$Rules", name := "clear", desc := "()V" } : Jvm.MethodName)) ∈ rs_W := rs_f (rs_i3 (rs_in 159 (by decide +kernel))) rfl
theorem tw_640 : (Jvm.Cond.instanceMethod ({ cls := "RouteSpeaker$Rules", name := "clear", desc := "()V" } : Jvm.MethodName)) ∈ rs_W := rs_f (rs_i3 (rs_in 160 (by decide +kernel))) rfl
theorem tw_641 : (Jvm.Cond.selects "RouteSpeaker$Rules" ({ cls := "RouteSpeaker$Rules", name := "clear", desc := "()V" } : Jvm.MethodName) ({ cls := "RouteSpeaker$Rules", name := "clear", desc := "()V" } : Jvm.MethodName)) ∈ rs_W := rs_f (rs_i3 (rs_in 161 (by decide +kernel))) rfl
theorem tw_642 : (Jvm.Cond.code ({ cls := "RouteSpeaker$Rules", name := "clear", desc := "()V" } : Jvm.MethodName) prog_9_method_3_code (1 : Nat) (Option.none : Option Jvm.ClassFile.FieldType)) ∈ rs_W := rs_f (rs_i3 (rs_in 162 (by decide +kernel))) rfl
theorem tw_643 : (Jvm.Cond.methodLink "RouteSpeakerLaw" (88 : Nat) ({ cls := "RouteSpeakerLaw", name := "outbound", desc := "(LRouteSpeaker;IIII)I" } : Jvm.MethodName)) ∈ rs_W := rs_f (rs_i3 (rs_in 163 (by decide +kernel))) rfl
theorem tw_644 : (Jvm.Cond.static ({ cls := "RouteSpeakerLaw", name := "outbound", desc := "(LRouteSpeaker;IIII)I" } : Jvm.MethodName)) ∈ rs_W := rs_f (rs_i3 (rs_in 164 (by decide +kernel))) rfl
theorem tw_645 : (Jvm.Cond.codeWith ({ cls := "RouteSpeakerLaw", name := "outbound", desc := "(LRouteSpeaker;IIII)I" } : Jvm.MethodName) method_6_code (6 : Nat) (Option.some Jvm.ClassFile.FieldType.int) [((0 : Nat), (9 : Nat), (12 : Nat), (13 : Nat))]) ∈ rs_W := rs_f (rs_i3 (rs_in 165 (by decide +kernel))) rfl
theorem tw_646 : (Jvm.Cond.methodLink "RouteSpeakerLaw" (25 : Nat) ({ cls := "RouteSpeaker", name := "outbound", desc := "(IIII)V" } : Jvm.MethodName)) ∈ rs_W := rs_f (rs_i3 (rs_in 166 (by decide +kernel))) rfl
theorem tw_647 : (Jvm.Cond.instanceMethod ({ cls := "RouteSpeaker", name := "outbound", desc := "(IIII)V" } : Jvm.MethodName)) ∈ rs_W := rs_f (rs_i3 (rs_in 167 (by decide +kernel))) rfl
theorem tw_648 : (Jvm.Cond.selects "RouteSpeaker" ({ cls := "RouteSpeaker", name := "outbound", desc := "(IIII)V" } : Jvm.MethodName) ({ cls := "RouteSpeaker", name := "outbound", desc := "(IIII)V" } : Jvm.MethodName)) ∈ rs_W := rs_f (rs_i3 (rs_in 168 (by decide +kernel))) rfl
theorem tw_649 : (Jvm.Cond.code ({ cls := "RouteSpeaker", name := "outbound", desc := "(IIII)V" } : Jvm.MethodName) prog_1_method_5_code (5 : Nat) (Option.none : Option Jvm.ClassFile.FieldType)) ∈ rs_W := rs_f (rs_i3 (rs_in 169 (by decide +kernel))) rfl
theorem tw_650 : (Jvm.Cond.methodLink "RouteSpeakerLaw" (91 : Nat) ({ cls := "RouteSpeakerLaw", name := "originate", desc := "(LRouteSpeaker;II[J)I" } : Jvm.MethodName)) ∈ rs_W := rs_f (rs_i3 (rs_in 170 (by decide +kernel))) rfl
theorem tw_651 : (Jvm.Cond.static ({ cls := "RouteSpeakerLaw", name := "originate", desc := "(LRouteSpeaker;II[J)I" } : Jvm.MethodName)) ∈ rs_W := rs_f (rs_i3 (rs_in 171 (by decide +kernel))) rfl
theorem tw_652 : (Jvm.Cond.codeWith ({ cls := "RouteSpeakerLaw", name := "originate", desc := "(LRouteSpeaker;II[J)I" } : Jvm.MethodName) method_7_code (5 : Nat) (Option.some Jvm.ClassFile.FieldType.int) [((0 : Nat), (17 : Nat), (20 : Nat), (13 : Nat)), ((0 : Nat), (17 : Nat), (24 : Nat), (15 : Nat))]) ∈ rs_W := rs_f (rs_i3 (rs_in 172 (by decide +kernel))) rfl
theorem tw_653 : (Jvm.Cond.methodLink "RouteSpeakerLaw" (28 : Nat) ({ cls := "RouteSpeaker", name := "originate", desc := "(II)Z" } : Jvm.MethodName)) ∈ rs_W := rs_f (rs_i3 (rs_in 173 (by decide +kernel))) rfl
theorem tw_654 : (Jvm.Cond.instanceMethod ({ cls := "RouteSpeaker", name := "originate", desc := "(II)Z" } : Jvm.MethodName)) ∈ rs_W := rs_f (rs_i3 (rs_in 174 (by decide +kernel))) rfl
theorem tw_655 : (Jvm.Cond.selects "RouteSpeaker" ({ cls := "RouteSpeaker", name := "originate", desc := "(II)Z" } : Jvm.MethodName) ({ cls := "RouteSpeaker", name := "originate", desc := "(II)Z" } : Jvm.MethodName)) ∈ rs_W := rs_f (rs_i3 (rs_in 175 (by decide +kernel))) rfl
theorem tw_656 : (Jvm.Cond.code ({ cls := "RouteSpeaker", name := "originate", desc := "(II)Z" } : Jvm.MethodName) prog_1_method_6_code (4 : Nat) (Option.some Jvm.ClassFile.FieldType.boolean)) ∈ rs_W := rs_f (rs_i3 (rs_in 176 (by decide +kernel))) rfl
theorem tw_657 : (Jvm.Cond.methodLink "RouteSpeaker" (109 : Nat) ({ cls := "RouteSpeaker$Prefixes", name := "learn", desc := "(II)I" } : Jvm.MethodName)) ∈ rs_W := rs_f (rs_i3 (rs_in 177 (by decide +kernel))) rfl
theorem tw_658 : (Jvm.Cond.instanceMethod ({ cls := "RouteSpeaker$Prefixes", name := "learn", desc := "(II)I" } : Jvm.MethodName)) ∈ rs_W := rs_f (rs_i3 (rs_in 178 (by decide +kernel))) rfl
theorem tw_659 : (Jvm.Cond.selects "RouteSpeaker$Prefixes" ({ cls := "RouteSpeaker$Prefixes", name := "learn", desc := "(II)I" } : Jvm.MethodName) ({ cls := "RouteSpeaker$Prefixes", name := "learn", desc := "(II)I" } : Jvm.MethodName)) ∈ rs_W := rs_f (rs_i3 (rs_in 179 (by decide +kernel))) rfl
theorem tw_660 : (Jvm.Cond.code ({ cls := "RouteSpeaker$Prefixes", name := "learn", desc := "(II)I" } : Jvm.MethodName) prog_7_method_3_code (4 : Nat) (Option.some Jvm.ClassFile.FieldType.int)) ∈ rs_W := rs_f (rs_i3 (rs_in 180 (by decide +kernel))) rfl
theorem tw_661 : (Jvm.Cond.methodLink "RouteSpeaker$Prefixes" (26 : Nat) ({ cls := "RouteSpeaker$Prefixes", name := "find", desc := "(II)I" } : Jvm.MethodName)) ∈ rs_W := rs_f (rs_i3 (rs_in 181 (by decide +kernel))) rfl
theorem tw_662 : (Jvm.Cond.instanceMethod ({ cls := "RouteSpeaker$Prefixes", name := "find", desc := "(II)I" } : Jvm.MethodName)) ∈ rs_W := rs_f (rs_i3 (rs_in 182 (by decide +kernel))) rfl
theorem tw_663 : (Jvm.Cond.selects "RouteSpeaker$Prefixes" ({ cls := "RouteSpeaker$Prefixes", name := "find", desc := "(II)I" } : Jvm.MethodName) ({ cls := "RouteSpeaker$Prefixes", name := "find", desc := "(II)I" } : Jvm.MethodName)) ∈ rs_W := rs_f (rs_i3 (rs_in 183 (by decide +kernel))) rfl
theorem tw_664 : (Jvm.Cond.code ({ cls := "RouteSpeaker$Prefixes", name := "find", desc := "(II)I" } : Jvm.MethodName) prog_7_method_2_code (4 : Nat) (Option.some Jvm.ClassFile.FieldType.int)) ∈ rs_W := rs_f (rs_i3 (rs_in 184 (by decide +kernel))) rfl
theorem tw_665 : (Jvm.Cond.methodLink "RouteSpeakerLaw" (95 : Nat) ({ cls := "RouteSpeakerLaw", name := "retract", desc := "(LRouteSpeaker;II[J)I" } : Jvm.MethodName)) ∈ rs_W := rs_f (rs_i3 (rs_in 185 (by decide +kernel))) rfl
theorem tw_666 : (Jvm.Cond.static ({ cls := "RouteSpeakerLaw", name := "retract", desc := "(LRouteSpeaker;II[J)I" } : Jvm.MethodName)) ∈ rs_W := rs_f (rs_i3 (rs_in 186 (by decide +kernel))) rfl
theorem tw_667 : (Jvm.Cond.codeWith ({ cls := "RouteSpeakerLaw", name := "retract", desc := "(LRouteSpeaker;II[J)I" } : Jvm.MethodName) method_8_code (5 : Nat) (Option.some Jvm.ClassFile.FieldType.int) [((0 : Nat), (17 : Nat), (20 : Nat), (13 : Nat))]) ∈ rs_W := rs_f (rs_i3 (rs_in 187 (by decide +kernel))) rfl
theorem tw_668 : (Jvm.Cond.methodLink "RouteSpeakerLaw" (32 : Nat) ({ cls := "RouteSpeaker", name := "retract", desc := "(II)Z" } : Jvm.MethodName)) ∈ rs_W := rs_f (rs_i3 (rs_in 188 (by decide +kernel))) rfl
theorem tw_669 : (Jvm.Cond.instanceMethod ({ cls := "RouteSpeaker", name := "retract", desc := "(II)Z" } : Jvm.MethodName)) ∈ rs_W := rs_f (rs_i3 (rs_in 189 (by decide +kernel))) rfl
theorem tw_670 : (Jvm.Cond.selects "RouteSpeaker" ({ cls := "RouteSpeaker", name := "retract", desc := "(II)Z" } : Jvm.MethodName) ({ cls := "RouteSpeaker", name := "retract", desc := "(II)Z" } : Jvm.MethodName)) ∈ rs_W := rs_f (rs_i3 (rs_in 190 (by decide +kernel))) rfl
theorem tw_671 : (Jvm.Cond.code ({ cls := "RouteSpeaker", name := "retract", desc := "(II)Z" } : Jvm.MethodName) prog_1_method_7_code (4 : Nat) (Option.some Jvm.ClassFile.FieldType.boolean)) ∈ rs_W := rs_f (rs_i3 (rs_in 191 (by decide +kernel))) rfl
theorem tw_672 : (Jvm.Cond.methodLink "RouteSpeaker" (117 : Nat) ({ cls := "RouteSpeaker$Prefixes", name := "find", desc := "(II)I" } : Jvm.MethodName)) ∈ rs_W := rs_f (rs_i3 (rs_in 192 (by decide +kernel))) rfl
theorem tw_673 : (Jvm.Cond.methodLink "RouteSpeakerLaw" (98 : Nat) ({ cls := "RouteSpeakerLaw", name := "start", desc := "(LRouteSpeaker;I[J)I" } : Jvm.MethodName)) ∈ rs_W := rs_f (rs_i3 (rs_in 193 (by decide +kernel))) rfl
theorem tw_674 : (Jvm.Cond.static ({ cls := "RouteSpeakerLaw", name := "start", desc := "(LRouteSpeaker;I[J)I" } : Jvm.MethodName)) ∈ rs_W := rs_f (rs_i3 (rs_in 194 (by decide +kernel))) rfl
theorem tw_675 : (Jvm.Cond.codeWith ({ cls := "RouteSpeakerLaw", name := "start", desc := "(LRouteSpeaker;I[J)I" } : Jvm.MethodName) method_9_code (4 : Nat) (Option.some Jvm.ClassFile.FieldType.int) [((0 : Nat), (16 : Nat), (19 : Nat), (13 : Nat))]) ∈ rs_W := rs_f (rs_i3 (rs_in 195 (by decide +kernel))) rfl
theorem tw_676 : (Jvm.Cond.methodLink "RouteSpeakerLaw" (35 : Nat) ({ cls := "RouteSpeaker", name := "start", desc := "(I)Z" } : Jvm.MethodName)) ∈ rs_W := rs_f (rs_i3 (rs_in 196 (by decide +kernel))) rfl
theorem tw_677 : (Jvm.Cond.instanceMethod ({ cls := "RouteSpeaker", name := "start", desc := "(I)Z" } : Jvm.MethodName)) ∈ rs_W := rs_f (rs_i3 (rs_in 197 (by decide +kernel))) rfl
theorem tw_678 : (Jvm.Cond.selects "RouteSpeaker" ({ cls := "RouteSpeaker", name := "start", desc := "(I)Z" } : Jvm.MethodName) ({ cls := "RouteSpeaker", name := "start", desc := "(I)Z" } : Jvm.MethodName)) ∈ rs_W := rs_f (rs_i3 (rs_in 198 (by decide +kernel))) rfl
theorem tw_679 : (Jvm.Cond.code ({ cls := "RouteSpeaker", name := "start", desc := "(I)Z" } : Jvm.MethodName) prog_1_method_8_code (2 : Nat) (Option.some Jvm.ClassFile.FieldType.boolean)) ∈ rs_W := rs_f (rs_i3 (rs_in 199 (by decide +kernel))) rfl
theorem tw_680 : (Jvm.Cond.methodLink "RouteSpeaker" (120 : Nat) ({ cls := "RouteSpeaker$Peer", name := "open", desc := "()V" } : Jvm.MethodName)) ∈ rs_W := rs_f (rs_i3 (rs_in 200 (by decide +kernel))) rfl
theorem tw_681 : (Jvm.Cond.instanceMethod ({ cls := "RouteSpeaker$Peer", name := "open", desc := "()V" } : Jvm.MethodName)) ∈ rs_W := rs_f (rs_i3 (rs_in 201 (by decide +kernel))) rfl
theorem tw_682 : (Jvm.Cond.selects "RouteSpeaker$Peer" ({ cls := "RouteSpeaker$Peer", name := "open", desc := "()V" } : Jvm.MethodName) ({ cls := "RouteSpeaker$Peer", name := "open", desc := "()V" } : Jvm.MethodName)) ∈ rs_W := rs_f (rs_i3 (rs_in 202 (by decide +kernel))) rfl
theorem tw_683 : (Jvm.Cond.code ({ cls := "RouteSpeaker$Peer", name := "open", desc := "()V" } : Jvm.MethodName) prog_6_method_5_code (1 : Nat) (Option.none : Option Jvm.ClassFile.FieldType)) ∈ rs_W := rs_f (rs_i3 (rs_in 203 (by decide +kernel))) rfl
theorem tw_684 : (Jvm.Cond.methodLink "RouteSpeakerLaw" (102 : Nat) ({ cls := "RouteSpeakerLaw", name := "stop", desc := "(LRouteSpeaker;I[J)I" } : Jvm.MethodName)) ∈ rs_W := rs_f (rs_i3 (rs_in 204 (by decide +kernel))) rfl
theorem tw_685 : (Jvm.Cond.static ({ cls := "RouteSpeakerLaw", name := "stop", desc := "(LRouteSpeaker;I[J)I" } : Jvm.MethodName)) ∈ rs_W := rs_f (rs_i3 (rs_in 205 (by decide +kernel))) rfl
theorem tw_686 : (Jvm.Cond.codeWith ({ cls := "RouteSpeakerLaw", name := "stop", desc := "(LRouteSpeaker;I[J)I" } : Jvm.MethodName) method_10_code (4 : Nat) (Option.some Jvm.ClassFile.FieldType.int) [((0 : Nat), (16 : Nat), (19 : Nat), (13 : Nat))]) ∈ rs_W := rs_f (rs_i3 (rs_in 206 (by decide +kernel))) rfl
theorem tw_687 : (Jvm.Cond.methodLink "RouteSpeakerLaw" (39 : Nat) ({ cls := "RouteSpeaker", name := "stop", desc := "(I)Z" } : Jvm.MethodName)) ∈ rs_W := rs_f (rs_i3 (rs_in 207 (by decide +kernel))) rfl
theorem tw_688 : (Jvm.Cond.instanceMethod ({ cls := "RouteSpeaker", name := "stop", desc := "(I)Z" } : Jvm.MethodName)) ∈ rs_W := rs_f (rs_i3 (rs_in 208 (by decide +kernel))) rfl
theorem tw_689 : (Jvm.Cond.selects "RouteSpeaker" ({ cls := "RouteSpeaker", name := "stop", desc := "(I)Z" } : Jvm.MethodName) ({ cls := "RouteSpeaker", name := "stop", desc := "(I)Z" } : Jvm.MethodName)) ∈ rs_W := rs_f (rs_i3 (rs_in 209 (by decide +kernel))) rfl
theorem tw_690 : (Jvm.Cond.code ({ cls := "RouteSpeaker", name := "stop", desc := "(I)Z" } : Jvm.MethodName) prog_1_method_9_code (2 : Nat) (Option.some Jvm.ClassFile.FieldType.boolean)) ∈ rs_W := rs_f (rs_i3 (rs_in 210 (by decide +kernel))) rfl
theorem tw_691 : (Jvm.Cond.methodLink "RouteSpeaker" (123 : Nat) ({ cls := "RouteSpeaker$Peer", name := "end", desc := "(II)V" } : Jvm.MethodName)) ∈ rs_W := rs_f (rs_i3 (rs_in 211 (by decide +kernel))) rfl
theorem tw_692 : (Jvm.Cond.methodLink "RouteSpeakerLaw" (107 : Nat) ({ cls := "RouteSpeakerLaw", name := "feed", desc := "(LRouteSpeaker;IJI[J)I" } : Jvm.MethodName)) ∈ rs_W := rs_f (rs_i3 (rs_in 212 (by decide +kernel))) rfl
theorem tw_693 : (Jvm.Cond.static ({ cls := "RouteSpeakerLaw", name := "feed", desc := "(LRouteSpeaker;IJI[J)I" } : Jvm.MethodName)) ∈ rs_W := rs_f (rs_i3 (rs_in 213 (by decide +kernel))) rfl
theorem tw_694 : (Jvm.Cond.codeWith ({ cls := "RouteSpeakerLaw", name := "feed", desc := "(LRouteSpeaker;IJI[J)I" } : Jvm.MethodName) method_11_code (7 : Nat) (Option.some Jvm.ClassFile.FieldType.int) [((0 : Nat), (20 : Nat), (23 : Nat), (13 : Nat))]) ∈ rs_W := rs_f (rs_i3 (rs_in 214 (by decide +kernel))) rfl
theorem tw_695 : (Jvm.Cond.methodLink "RouteSpeakerLaw" (42 : Nat) ({ cls := "RouteSpeaker", name := "feed", desc := "(IJI)Z" } : Jvm.MethodName)) ∈ rs_W := rs_f (rs_i3 (rs_in 215 (by decide +kernel))) rfl
theorem tw_696 : (Jvm.Cond.instanceMethod ({ cls := "RouteSpeaker", name := "feed", desc := "(IJI)Z" } : Jvm.MethodName)) ∈ rs_W := rs_f (rs_i3 (rs_in 216 (by decide +kernel))) rfl
theorem tw_697 : (Jvm.Cond.selects "RouteSpeaker" ({ cls := "RouteSpeaker", name := "feed", desc := "(IJI)Z" } : Jvm.MethodName) ({ cls := "RouteSpeaker", name := "feed", desc := "(IJI)Z" } : Jvm.MethodName)) ∈ rs_W := rs_f (rs_i3 (rs_in 217 (by decide +kernel))) rfl
theorem tw_698 : (Jvm.Cond.code ({ cls := "RouteSpeaker", name := "feed", desc := "(IJI)Z" } : Jvm.MethodName) prog_1_method_10_code (7 : Nat) (Option.some Jvm.ClassFile.FieldType.boolean)) ∈ rs_W := rs_f (rs_i3 (rs_in 218 (by decide +kernel))) rfl
theorem tw_699 : (Jvm.Cond.methodLink "RouteSpeaker" (127 : Nat) ({ cls := "RouteSpeaker$Peer", name := "takeByte", desc := "(I)Z" } : Jvm.MethodName)) ∈ rs_W := rs_f (rs_i3 (rs_in 219 (by decide +kernel))) rfl
theorem tw_700 : (Jvm.Cond.instanceMethod ({ cls := "RouteSpeaker$Peer", name := "takeByte", desc := "(I)Z" } : Jvm.MethodName)) ∈ rs_W := rs_f (rs_i3 (rs_in 220 (by decide +kernel))) rfl
theorem tw_701 : (Jvm.Cond.selects "RouteSpeaker$Peer" ({ cls := "RouteSpeaker$Peer", name := "takeByte", desc := "(I)Z" } : Jvm.MethodName) ({ cls := "RouteSpeaker$Peer", name := "takeByte", desc := "(I)Z" } : Jvm.MethodName)) ∈ rs_W := rs_f (rs_i3 (rs_in 221 (by decide +kernel))) rfl
theorem tw_702 : (Jvm.Cond.code ({ cls := "RouteSpeaker$Peer", name := "takeByte", desc := "(I)Z" } : Jvm.MethodName) prog_6_method_7_code (2 : Nat) (Option.some Jvm.ClassFile.FieldType.boolean)) ∈ rs_W := rs_f (rs_i3 (rs_in 222 (by decide +kernel))) rfl
theorem tw_703 : (Jvm.Cond.methodLink "RouteSpeaker" (130 : Nat) ({ cls := "RouteSpeaker$Peer", name := "lookAtMessage", desc := "(LRouteSpeaker$Update;LRouteSpeaker$Prefixes;)V" } : Jvm.MethodName)) ∈ rs_W := rs_f (rs_i3 (rs_in 223 (by decide +kernel))) rfl
theorem tw_704 : (Jvm.Cond.instanceMethod ({ cls := "RouteSpeaker$Peer", name := "lookAtMessage", desc := "(LRouteSpeaker$Update;LRouteSpeaker$Prefixes;)V" } : Jvm.MethodName)) ∈ rs_W := rs_f (rs_i3 (rs_in 224 (by decide +kernel))) rfl
theorem tw_705 : (Jvm.Cond.selects "RouteSpeaker$Peer" ({ cls := "RouteSpeaker$Peer", name := "lookAtMessage", desc := "(LRouteSpeaker$Update;LRouteSpeaker$Prefixes;)V" } : Jvm.MethodName) ({ cls := "RouteSpeaker$Peer", name := "lookAtMessage", desc := "(LRouteSpeaker$Update;LRouteSpeaker$Prefixes;)V" } : Jvm.MethodName)) ∈ rs_W := rs_f (rs_i3 (rs_in 225 (by decide +kernel))) rfl
theorem tw_706 : (Jvm.Cond.code ({ cls := "RouteSpeaker$Peer", name := "lookAtMessage", desc := "(LRouteSpeaker$Update;LRouteSpeaker$Prefixes;)V" } : Jvm.MethodName) prog_6_method_8_code (5 : Nat) (Option.none : Option Jvm.ClassFile.FieldType)) ∈ rs_W := rs_f (rs_i3 (rs_in 226 (by decide +kernel))) rfl
theorem tw_707 : (Jvm.Cond.methodLink "RouteSpeaker$Peer" (78 : Nat) ({ cls := "RouteSpeaker$Peer", name := "isSizeOf", desc := "(II)Z" } : Jvm.MethodName)) ∈ rs_W := rs_f (rs_i3 (rs_in 227 (by decide +kernel))) rfl
theorem tw_708 : (Jvm.Cond.static ({ cls := "RouteSpeaker$Peer", name := "isSizeOf", desc := "(II)Z" } : Jvm.MethodName)) ∈ rs_W := rs_f (rs_i3 (rs_in 228 (by decide +kernel))) rfl
theorem tw_709 : (Jvm.Cond.code ({ cls := "RouteSpeaker$Peer", name := "isSizeOf", desc := "(II)Z" } : Jvm.MethodName) prog_6_method_16_code (2 : Nat) (Option.some Jvm.ClassFile.FieldType.boolean)) ∈ rs_W := rs_f (rs_i3 (rs_in 229 (by decide +kernel))) rfl
theorem tw_710 : (Jvm.Cond.methodLink "RouteSpeaker$Peer" (82 : Nat) ({ cls := "RouteSpeaker$Peer", name := "lookWhenSent", desc := "(I)V" } : Jvm.MethodName)) ∈ rs_W := rs_f (rs_i3 (rs_in 230 (by decide +kernel))) rfl
theorem tw_712 : (Jvm.Cond.instanceMethod ({ cls := "RouteSpeaker$Peer", name := "lookWhenSent", desc := "(I)V" } : Jvm.MethodName)) ∈ rs_W := rs_f (rs_i3 (rs_in 232 (by decide +kernel))) rfl
theorem tw_713 : (Jvm.Cond.code ({ cls := "RouteSpeaker$Peer", name := "lookWhenSent", desc := "(I)V" } : Jvm.MethodName) prog_6_method_17_code (3 : Nat) (Option.none : Option Jvm.ClassFile.FieldType)) ∈ rs_W := rs_f (rs_i3 (rs_in 233 (by decide +kernel))) rfl
theorem tw_714 : (Jvm.Cond.methodLinkNest "RouteSpeaker$Peer" (127 : Nat) ({ cls := "RouteSpeaker", name := "isNumber", desc := "(I)Z" } : Jvm.MethodName) "RouteSpeaker") ∈ lw_tbl := rs_i3 (rs_in 234 (by decide +kernel))
theorem tw_715 : (Jvm.Cond.methodLink "RouteSpeaker$Peer" (131 : Nat) ({ cls := "java/lang/Math", name := "min", desc := "(II)I" } : Jvm.MethodName)) ∈ rs_W := rs_f (rs_i3 (rs_in 235 (by decide +kernel))) rfl
theorem tw_716 : (Jvm.Cond.static ({ cls := "java/lang/Math", name := "min", desc := "(II)I" } : Jvm.MethodName)) ∈ rs_W := rs_f (rs_i3 (rs_in 236 (by decide +kernel))) rfl
theorem tw_717 : (Jvm.Cond.code ({ cls := "java/lang/Math", name := "min", desc := "(II)I" } : Jvm.MethodName) prog_16_method_69_code (2 : Nat) (Option.some Jvm.ClassFile.FieldType.int)) ∈ rs_W := rs_f (rs_i3 (rs_in 237 (by decide +kernel))) rfl
theorem tw_718 : (Jvm.Cond.methodLink "RouteSpeaker$Peer" (86 : Nat) ({ cls := "RouteSpeaker$Peer", name := "lookWhenAgreed", desc := "(I)V" } : Jvm.MethodName)) ∈ rs_W := rs_f (rs_i3 (rs_in 238 (by decide +kernel))) rfl
theorem tw_720 : (Jvm.Cond.instanceMethod ({ cls := "RouteSpeaker$Peer", name := "lookWhenAgreed", desc := "(I)V" } : Jvm.MethodName)) ∈ rs_W := rs_f (rs_i4 (rs_in 0 (by decide +kernel))) rfl
theorem tw_721 : (Jvm.Cond.code ({ cls := "RouteSpeaker$Peer", name := "lookWhenAgreed", desc := "(I)V" } : Jvm.MethodName) prog_6_method_18_code (2 : Nat) (Option.none : Option Jvm.ClassFile.FieldType)) ∈ rs_W := rs_f (rs_i4 (rs_in 1 (by decide +kernel))) rfl
theorem tw_722 : (Jvm.Cond.methodLink "RouteSpeaker$Peer" (89 : Nat) ({ cls := "RouteSpeaker$Peer", name := "lookWhenUp", desc := "(ILRouteSpeaker$Update;LRouteSpeaker$Prefixes;)V" } : Jvm.MethodName)) ∈ rs_W := rs_f (rs_i4 (rs_in 2 (by decide +kernel))) rfl
theorem tw_724 : (Jvm.Cond.instanceMethod ({ cls := "RouteSpeaker$Peer", name := "lookWhenUp", desc := "(ILRouteSpeaker$Update;LRouteSpeaker$Prefixes;)V" } : Jvm.MethodName)) ∈ rs_W := rs_f (rs_i4 (rs_in 4 (by decide +kernel))) rfl
theorem tw_725 : (Jvm.Cond.code ({ cls := "RouteSpeaker$Peer", name := "lookWhenUp", desc := "(ILRouteSpeaker$Update;LRouteSpeaker$Prefixes;)V" } : Jvm.MethodName) prog_6_method_19_code (5 : Nat) (Option.none : Option Jvm.ClassFile.FieldType)) ∈ rs_W := rs_f (rs_i4 (rs_in 5 (by decide +kernel))) rfl
theorem tw_726 : (Jvm.Cond.methodLink "RouteSpeaker$Peer" (140 : Nat) ({ cls := "RouteSpeaker$Update", name := "faultOf", desc := "([IIZI)I" } : Jvm.MethodName)) ∈ rs_W := rs_f (rs_i4 (rs_in 6 (by decide +kernel))) rfl
theorem tw_727 : (Jvm.Cond.instanceMethod ({ cls := "RouteSpeaker$Update", name := "faultOf", desc := "([IIZI)I" } : Jvm.MethodName)) ∈ rs_W := rs_f (rs_i4 (rs_in 7 (by decide +kernel))) rfl
theorem tw_728 : (Jvm.Cond.selects "RouteSpeaker$Update" ({ cls := "RouteSpeaker$Update", name := "faultOf", desc := "([IIZI)I" } : Jvm.MethodName) ({ cls := "RouteSpeaker$Update", name := "faultOf", desc := "([IIZI)I" } : Jvm.MethodName)) ∈ rs_W := rs_f (rs_i4 (rs_in 8 (by decide +kernel))) rfl
theorem tw_729 : (Jvm.Cond.code ({ cls := "RouteSpeaker$Update", name := "faultOf", desc := "([IIZI)I" } : Jvm.MethodName) prog_10_method_2_code (7 : Nat) (Option.some Jvm.ClassFile.FieldType.int)) ∈ rs_W := rs_f (rs_i4 (rs_in 9 (by decide +kernel))) rfl
theorem tw_730 : (Jvm.Cond.methodLink "RouteSpeaker$Update" (30 : Nat) ({ cls := "RouteSpeaker$Update", name := "clear", desc := "()V" } : Jvm.MethodName)) ∈ rs_W := rs_f (rs_i4 (rs_in 10 (by decide +kernel))) rfl
theorem tw_732 : (Jvm.Cond.instanceMethod ({ cls := "RouteSpeaker$Update", name := "clear", desc := "()V" } : Jvm.MethodName)) ∈ rs_W := rs_f (rs_i4 (rs_in 12 (by decide +kernel))) rfl
theorem tw_733 : (Jvm.Cond.code ({ cls := "RouteSpeaker$Update", name := "clear", desc := "()V" } : Jvm.MethodName) prog_10_method_7_code (2 : Nat) (Option.none : Option Jvm.ClassFile.FieldType)) ∈ rs_W := rs_f (rs_i4 (rs_in 13 (by decide +kernel))) rfl
theorem tw_734 : (Jvm.Cond.methodLink "RouteSpeaker$Update" (77 : Nat) ({ cls := "RouteSpeaker$Route", name := "clear", desc := "()V" } : Jvm.MethodName)) ∈ rs_W := rs_f (rs_i4 (rs_in 14 (by decide +kernel))) rfl
theorem tw_735 : (Jvm.Cond.instanceMethod ({ cls := "RouteSpeaker$Route", name := "clear", desc := "()V" } : Jvm.MethodName)) ∈ rs_W := rs_f (rs_i4 (rs_in 15 (by decide +kernel))) rfl
theorem tw_736 : (Jvm.Cond.selects "RouteSpeaker$Route" ({ cls := "RouteSpeaker$Route", name := "clear", desc := "()V" } : Jvm.MethodName) ({ cls := "RouteSpeaker$Route", name := "clear", desc := "()V" } : Jvm.MethodName)) ∈ rs_W := rs_f (rs_i4 (rs_in 16 (by decide +kernel))) rfl
theorem tw_737 : (Jvm.Cond.code ({ cls := "RouteSpeaker$Route", name := "clear", desc := "()V" } : Jvm.MethodName) prog_8_method_2_code (1 : Nat) (Option.none : Option Jvm.ClassFile.FieldType)) ∈ rs_W := rs_f (rs_i4 (rs_in 17 (by decide +kernel))) rfl
theorem tw_738 : (Jvm.Cond.methodLink "RouteSpeaker$Route" (34 : Nat) ({ cls := "RouteSpeaker$Route", name := "dropInner", desc := "()V" } : Jvm.MethodName)) ∈ rs_W := rs_f (rs_i4 (rs_in 18 (by decide +kernel))) rfl
theorem tw_739 : (Jvm.Cond.instanceMethod ({ cls := "RouteSpeaker$Route", name := "dropInner", desc := "()V" } : Jvm.MethodName)) ∈ rs_W := rs_f (rs_i4 (rs_in 19 (by decide +kernel))) rfl
theorem tw_740 : (Jvm.Cond.selects "RouteSpeaker$Route" ({ cls := "RouteSpeaker$Route", name := "dropInner", desc := "()V" } : Jvm.MethodName) ({ cls := "RouteSpeaker$Route", name := "dropInner", desc := "()V" } : Jvm.MethodName)) ∈ rs_W := rs_f (rs_i4 (rs_in 20 (by decide +kernel))) rfl
theorem tw_741 : (Jvm.Cond.code ({ cls := "RouteSpeaker$Route", name := "dropInner", desc := "()V" } : Jvm.MethodName) prog_8_method_3_code (1 : Nat) (Option.none : Option Jvm.ClassFile.FieldType)) ∈ rs_W := rs_f (rs_i4 (rs_in 21 (by decide +kernel))) rfl
theorem tw_742 : (Jvm.Cond.methodLink "RouteSpeaker$Update" (33 : Nat) ({ cls := "RouteSpeaker$Update", name := "isFramed", desc := "()Z" } : Jvm.MethodName)) ∈ rs_W := rs_f (rs_i4 (rs_in 22 (by decide +kernel))) rfl
theorem tw_744 : (Jvm.Cond.instanceMethod ({ cls := "RouteSpeaker$Update", name := "isFramed", desc := "()Z" } : Jvm.MethodName)) ∈ rs_W := rs_f (rs_i4 (rs_in 24 (by decide +kernel))) rfl
theorem tw_745 : (Jvm.Cond.code ({ cls := "RouteSpeaker$Update", name := "isFramed", desc := "()Z" } : Jvm.MethodName) prog_10_method_8_code (3 : Nat) (Option.some Jvm.ClassFile.FieldType.boolean)) ∈ rs_W := rs_f (rs_i4 (rs_in 25 (by decide +kernel))) rfl
theorem tw_746 : (Jvm.Cond.methodLink "RouteSpeaker$Update" (43 : Nat) ({ cls := "RouteSpeaker$Update", name := "attributeFault", desc := "(III)I" } : Jvm.MethodName)) ∈ rs_W := rs_f (rs_i4 (rs_in 26 (by decide +kernel))) rfl
theorem tw_748 : (Jvm.Cond.instanceMethod ({ cls := "RouteSpeaker$Update", name := "attributeFault", desc := "(III)I" } : Jvm.MethodName)) ∈ rs_W := rs_f (rs_i4 (rs_in 28 (by decide +kernel))) rfl
theorem tw_749 : (Jvm.Cond.code ({ cls := "RouteSpeaker$Update", name := "attributeFault", desc := "(III)I" } : Jvm.MethodName) prog_10_method_9_code (4 : Nat) (Option.some Jvm.ClassFile.FieldType.int)) ∈ rs_W := rs_f (rs_i4 (rs_in 29 (by decide +kernel))) rfl
theorem tw_750 : (Jvm.Cond.methodLink "RouteSpeaker$Update" (81 : Nat) ({ cls := "java/lang/Math", name := "min", desc := "(II)I" } : Jvm.MethodName)) ∈ rs_W := rs_f (rs_i4 (rs_in 30 (by decide +kernel))) rfl
theorem tw_751 : (Jvm.Cond.methodLink "RouteSpeaker$Update" (92 : Nat) ({ cls := "RouteSpeaker$Update", name := "listFault", desc := "(II[I)I" } : Jvm.MethodName)) ∈ rs_W := rs_f (rs_i4 (rs_in 31 (by decide +kernel))) rfl
theorem tw_753 : (Jvm.Cond.instanceMethod ({ cls := "RouteSpeaker$Update", name := "listFault", desc := "(II[I)I" } : Jvm.MethodName)) ∈ rs_W := rs_f (rs_i4 (rs_in 33 (by decide +kernel))) rfl
theorem tw_754 : (Jvm.Cond.code ({ cls := "RouteSpeaker$Update", name := "listFault", desc := "(II[I)I" } : Jvm.MethodName) prog_10_method_11_code (6 : Nat) (Option.some Jvm.ClassFile.FieldType.int)) ∈ rs_W := rs_f (rs_i4 (rs_in 34 (by decide +kernel))) rfl
theorem tw_755 : (Jvm.Cond.methodLinkNest "RouteSpeaker$Update" (111 : Nat) ({ cls := "RouteSpeaker", name := "isNumber", desc := "(I)Z" } : Jvm.MethodName) "RouteSpeaker") ∈ lw_tbl := rs_i4 (rs_in 35 (by decide +kernel))
theorem tw_756 : (Jvm.Cond.methodLink "RouteSpeaker$Update" (102 : Nat) ({ cls := "RouteSpeaker$Update", name := "valueFault", desc := "(II)I" } : Jvm.MethodName)) ∈ rs_W := rs_f (rs_i4 (rs_in 36 (by decide +kernel))) rfl
theorem tw_758 : (Jvm.Cond.instanceMethod ({ cls := "RouteSpeaker$Update", name := "valueFault", desc := "(II)I" } : Jvm.MethodName)) ∈ rs_W := rs_f (rs_i4 (rs_in 38 (by decide +kernel))) rfl
theorem tw_759 : (Jvm.Cond.code ({ cls := "RouteSpeaker$Update", name := "valueFault", desc := "(II)I" } : Jvm.MethodName) prog_10_method_10_code (3 : Nat) (Option.some Jvm.ClassFile.FieldType.int)) ∈ rs_W := rs_f (rs_i4 (rs_in 39 (by decide +kernel))) rfl
theorem tw_760 : (Jvm.Cond.methodLink "RouteSpeaker$Update" (50 : Nat) ({ cls := "RouteSpeaker$Update", name := "announcementFault", desc := "(ZI)I" } : Jvm.MethodName)) ∈ rs_W := rs_f (rs_i4 (rs_in 40 (by decide +kernel))) rfl
theorem tw_762 : (Jvm.Cond.instanceMethod ({ cls := "RouteSpeaker$Update", name := "announcementFault", desc := "(ZI)I" } : Jvm.MethodName)) ∈ rs_W := rs_f (rs_i4 (rs_in 42 (by decide +kernel))) rfl
theorem tw_763 : (Jvm.Cond.code ({ cls := "RouteSpeaker$Update", name := "announcementFault", desc := "(ZI)I" } : Jvm.MethodName) prog_10_method_12_code (3 : Nat) (Option.some Jvm.ClassFile.FieldType.int)) ∈ rs_W := rs_f (rs_i4 (rs_in 43 (by decide +kernel))) rfl
theorem tw_764 : (Jvm.Cond.methodLink "RouteSpeaker$Update" (123 : Nat) ({ cls := "RouteSpeaker$Route", name := "firstNetwork", desc := "()I" } : Jvm.MethodName)) ∈ rs_W := rs_f (rs_i4 (rs_in 44 (by decide +kernel))) rfl
theorem tw_765 : (Jvm.Cond.methodLink "RouteSpeaker$Update" (54 : Nat) ({ cls := "RouteSpeaker$Update", name := "hasOnlyPrefixes", desc := "()Z" } : Jvm.MethodName)) ∈ rs_W := rs_f (rs_i4 (rs_in 45 (by decide +kernel))) rfl
theorem tw_767 : (Jvm.Cond.instanceMethod ({ cls := "RouteSpeaker$Update", name := "hasOnlyPrefixes", desc := "()Z" } : Jvm.MethodName)) ∈ rs_W := rs_f (rs_i4 (rs_in 47 (by decide +kernel))) rfl
theorem tw_768 : (Jvm.Cond.code ({ cls := "RouteSpeaker$Update", name := "hasOnlyPrefixes", desc := "()Z" } : Jvm.MethodName) prog_10_method_13_code (4 : Nat) (Option.some Jvm.ClassFile.FieldType.boolean)) ∈ rs_W := rs_f (rs_i4 (rs_in 48 (by decide +kernel))) rfl
theorem tw_769 : (Jvm.Cond.methodLink "RouteSpeaker$Update" (127 : Nat) ({ cls := "RouteSpeaker$Update", name := "withdrawnAt", desc := "(I)I" } : Jvm.MethodName)) ∈ rs_W := rs_f (rs_i4 (rs_in 49 (by decide +kernel))) rfl
theorem tw_770 : (Jvm.Cond.instanceMethod ({ cls := "RouteSpeaker$Update", name := "withdrawnAt", desc := "(I)I" } : Jvm.MethodName)) ∈ rs_W := rs_f (rs_i4 (rs_in 50 (by decide +kernel))) rfl
theorem tw_771 : (Jvm.Cond.selects "RouteSpeaker$Update" ({ cls := "RouteSpeaker$Update", name := "withdrawnAt", desc := "(I)I" } : Jvm.MethodName) ({ cls := "RouteSpeaker$Update", name := "withdrawnAt", desc := "(I)I" } : Jvm.MethodName)) ∈ rs_W := rs_f (rs_i4 (rs_in 51 (by decide +kernel))) rfl
theorem tw_772 : (Jvm.Cond.code ({ cls := "RouteSpeaker$Update", name := "withdrawnAt", desc := "(I)I" } : Jvm.MethodName) prog_10_method_3_code (2 : Nat) (Option.some Jvm.ClassFile.FieldType.int)) ∈ rs_W := rs_f (rs_i4 (rs_in 52 (by decide +kernel))) rfl
theorem tw_773 : (Jvm.Cond.methodLinkNest "RouteSpeaker$Update" (130 : Nat) ({ cls := "RouteSpeaker", name := "isPrefix", desc := "(II)Z" } : Jvm.MethodName) "RouteSpeaker") ∈ lw_tbl := rs_i4 (rs_in 53 (by decide +kernel))
theorem tw_774 : (Jvm.Cond.methodLink "RouteSpeaker$Update" (65 : Nat) ({ cls := "RouteSpeaker$Update", name := "announcedAt", desc := "(I)I" } : Jvm.MethodName)) ∈ rs_W := rs_f (rs_i4 (rs_in 54 (by decide +kernel))) rfl
theorem tw_775 : (Jvm.Cond.instanceMethod ({ cls := "RouteSpeaker$Update", name := "announcedAt", desc := "(I)I" } : Jvm.MethodName)) ∈ rs_W := rs_f (rs_i4 (rs_in 55 (by decide +kernel))) rfl
theorem tw_776 : (Jvm.Cond.selects "RouteSpeaker$Update" ({ cls := "RouteSpeaker$Update", name := "announcedAt", desc := "(I)I" } : Jvm.MethodName) ({ cls := "RouteSpeaker$Update", name := "announcedAt", desc := "(I)I" } : Jvm.MethodName)) ∈ rs_W := rs_f (rs_i4 (rs_in 56 (by decide +kernel))) rfl
theorem tw_777 : (Jvm.Cond.code ({ cls := "RouteSpeaker$Update", name := "announcedAt", desc := "(I)I" } : Jvm.MethodName) prog_10_method_4_code (2 : Nat) (Option.some Jvm.ClassFile.FieldType.int)) ∈ rs_W := rs_f (rs_i4 (rs_in 57 (by decide +kernel))) rfl
theorem tw_778 : (Jvm.Cond.methodLink "RouteSpeaker$Update" (57 : Nat) ({ cls := "RouteSpeaker$Route", name := "dropInner", desc := "()V" } : Jvm.MethodName)) ∈ rs_W := rs_f (rs_i4 (rs_in 58 (by decide +kernel))) rfl
theorem tw_779 : (Jvm.Cond.methodLink "RouteSpeaker$Peer" (146 : Nat) ({ cls := "RouteSpeaker$Update", name := "countKnown", desc := "(LRouteSpeaker$Prefixes;)I" } : Jvm.MethodName)) ∈ rs_W := rs_f (rs_i4 (rs_in 59 (by decide +kernel))) rfl
theorem tw_780 : (Jvm.Cond.instanceMethod ({ cls := "RouteSpeaker$Update", name := "countKnown", desc := "(LRouteSpeaker$Prefixes;)I" } : Jvm.MethodName)) ∈ rs_W := rs_f (rs_i4 (rs_in 60 (by decide +kernel))) rfl
theorem tw_781 : (Jvm.Cond.selects "RouteSpeaker$Update" ({ cls := "RouteSpeaker$Update", name := "countKnown", desc := "(LRouteSpeaker$Prefixes;)I" } : Jvm.MethodName) ({ cls := "RouteSpeaker$Update", name := "countKnown", desc := "(LRouteSpeaker$Prefixes;)I" } : Jvm.MethodName)) ∈ rs_W := rs_f (rs_i4 (rs_in 61 (by decide +kernel))) rfl
theorem tw_782 : (Jvm.Cond.code ({ cls := "RouteSpeaker$Update", name := "countKnown", desc := "(LRouteSpeaker$Prefixes;)I" } : Jvm.MethodName) prog_10_method_5_code (5 : Nat) (Option.some Jvm.ClassFile.FieldType.int)) ∈ rs_W := rs_f (rs_i4 (rs_in 62 (by decide +kernel))) rfl
theorem tw_783 : (Jvm.Cond.methodLink "RouteSpeaker$Update" (69 : Nat) ({ cls := "RouteSpeaker$Prefixes", name := "find", desc := "(II)I" } : Jvm.MethodName)) ∈ rs_W := rs_f (rs_i4 (rs_in 63 (by decide +kernel))) rfl
theorem tw_784 : (Jvm.Cond.methodLink "RouteSpeaker$Update" (73 : Nat) ({ cls := "RouteSpeaker$Update", name := "isFirstOfItsKind", desc := "(I)Z" } : Jvm.MethodName)) ∈ rs_W := rs_f (rs_i4 (rs_in 64 (by decide +kernel))) rfl
theorem tw_786 : (Jvm.Cond.instanceMethod ({ cls := "RouteSpeaker$Update", name := "isFirstOfItsKind", desc := "(I)Z" } : Jvm.MethodName)) ∈ rs_W := rs_f (rs_i4 (rs_in 66 (by decide +kernel))) rfl
theorem tw_787 : (Jvm.Cond.code ({ cls := "RouteSpeaker$Update", name := "isFirstOfItsKind", desc := "(I)Z" } : Jvm.MethodName) prog_10_method_6_code (5 : Nat) (Option.some Jvm.ClassFile.FieldType.boolean)) ∈ rs_W := rs_f (rs_i4 (rs_in 67 (by decide +kernel))) rfl
theorem tw_788 : (Jvm.Cond.methodLink "RouteSpeaker$Peer" (150 : Nat) ({ cls := "RouteSpeaker$Peer", name := "takeIn", desc := "(LRouteSpeaker$Update;LRouteSpeaker$Prefixes;)V" } : Jvm.MethodName)) ∈ rs_W := rs_f (rs_i4 (rs_in 68 (by decide +kernel))) rfl
theorem tw_790 : (Jvm.Cond.instanceMethod ({ cls := "RouteSpeaker$Peer", name := "takeIn", desc := "(LRouteSpeaker$Update;LRouteSpeaker$Prefixes;)V" } : Jvm.MethodName)) ∈ rs_W := rs_f (rs_i4 (rs_in 70 (by decide +kernel))) rfl
theorem tw_791 : (Jvm.Cond.code ({ cls := "RouteSpeaker$Peer", name := "takeIn", desc := "(LRouteSpeaker$Update;LRouteSpeaker$Prefixes;)V" } : Jvm.MethodName) prog_6_method_20_code (5 : Nat) (Option.none : Option Jvm.ClassFile.FieldType)) ∈ rs_W := rs_f (rs_i4 (rs_in 71 (by decide +kernel))) rfl
theorem tw_792 : (Jvm.Cond.methodLink "RouteSpeaker$Peer" (157 : Nat) ({ cls := "RouteSpeaker$Update", name := "withdrawnAt", desc := "(I)I" } : Jvm.MethodName)) ∈ rs_W := rs_f (rs_i4 (rs_in 72 (by decide +kernel))) rfl
theorem tw_793 : (Jvm.Cond.methodLink "RouteSpeaker$Peer" (161 : Nat) ({ cls := "RouteSpeaker$Prefixes", name := "find", desc := "(II)I" } : Jvm.MethodName)) ∈ rs_W := rs_f (rs_i4 (rs_in 73 (by decide +kernel))) rfl
theorem tw_794 : (Jvm.Cond.methodLink "RouteSpeaker$Peer" (166 : Nat) ({ cls := "RouteSpeaker$Incoming", name := "withdraw", desc := "(I)V" } : Jvm.MethodName)) ∈ rs_W := rs_f (rs_i4 (rs_in 74 (by decide +kernel))) rfl
theorem tw_795 : (Jvm.Cond.instanceMethod ({ cls := "RouteSpeaker$Incoming", name := "withdraw", desc := "(I)V" } : Jvm.MethodName)) ∈ rs_W := rs_f (rs_i4 (rs_in 75 (by decide +kernel))) rfl
theorem tw_796 : (Jvm.Cond.selects "RouteSpeaker$Incoming" ({ cls := "RouteSpeaker$Incoming", name := "withdraw", desc := "(I)V" } : Jvm.MethodName) ({ cls := "RouteSpeaker$Incoming", name := "withdraw", desc := "(I)V" } : Jvm.MethodName)) ∈ rs_W := rs_f (rs_i4 (rs_in 76 (by decide +kernel))) rfl
theorem tw_797 : (Jvm.Cond.code ({ cls := "RouteSpeaker$Incoming", name := "withdraw", desc := "(I)V" } : Jvm.MethodName) prog_3_method_4_code (2 : Nat) (Option.none : Option Jvm.ClassFile.FieldType)) ∈ rs_W := rs_f (rs_i4 (rs_in 77 (by decide +kernel))) rfl
theorem tw_798 : (Jvm.Cond.methodLink "RouteSpeaker$Incoming" (29 : Nat) ({ cls := "RouteSpeaker$Incoming", name := "has", desc := "(I)Z" } : Jvm.MethodName)) ∈ rs_W := rs_f (rs_i4 (rs_in 78 (by decide +kernel))) rfl
theorem tw_799 : (Jvm.Cond.constantDouble "RouteSpeaker$Incoming" (33 : Nat) (4652007308841189376 : UInt64)) ∈ rs_W := rs_f (rs_i4 (rs_in 79 (by decide +kernel))) rfl
theorem tw_800 : (Jvm.Cond.methodLink "RouteSpeaker$Incoming" (35 : Nat) ({ cls := "RouteSpeaker$Incoming", name := "grow", desc := "(ID)V" } : Jvm.MethodName)) ∈ rs_W := rs_f (rs_i4 (rs_in 80 (by decide +kernel))) rfl
theorem tw_802 : (Jvm.Cond.instanceMethod ({ cls := "RouteSpeaker$Incoming", name := "grow", desc := "(ID)V" } : Jvm.MethodName)) ∈ rs_W := rs_f (rs_i4 (rs_in 82 (by decide +kernel))) rfl
theorem tw_803 : (Jvm.Cond.code ({ cls := "RouteSpeaker$Incoming", name := "grow", desc := "(ID)V" } : Jvm.MethodName) prog_3_method_7_code (4 : Nat) (Option.none : Option Jvm.ClassFile.FieldType)) ∈ rs_W := rs_f (rs_i4 (rs_in 83 (by decide +kernel))) rfl
theorem tw_804 : (Jvm.Cond.constantDouble "RouteSpeaker$Incoming" (53 : Nat) (4656510908468559872 : UInt64)) ∈ rs_W := rs_f (rs_i4 (rs_in 84 (by decide +kernel))) rfl
theorem tw_805 : (Jvm.Cond.methodLink "RouteSpeaker$Peer" (172 : Nat) ({ cls := "RouteSpeaker$Update", name := "announcedAt", desc := "(I)I" } : Jvm.MethodName)) ∈ rs_W := rs_f (rs_i4 (rs_in 85 (by decide +kernel))) rfl
theorem tw_806 : (Jvm.Cond.methodLink "RouteSpeaker$Peer" (175 : Nat) ({ cls := "RouteSpeaker$Prefixes", name := "learn", desc := "(II)I" } : Jvm.MethodName)) ∈ rs_W := rs_f (rs_i4 (rs_in 86 (by decide +kernel))) rfl
theorem tw_807 : (Jvm.Cond.methodLink "RouteSpeaker$Peer" (182 : Nat) ({ cls := "RouteSpeaker$Incoming", name := "announce", desc := "(ILRouteSpeaker$Route;)V" } : Jvm.MethodName)) ∈ rs_W := rs_f (rs_i4 (rs_in 87 (by decide +kernel))) rfl
theorem tw_808 : (Jvm.Cond.instanceMethod ({ cls := "RouteSpeaker$Incoming", name := "announce", desc := "(ILRouteSpeaker$Route;)V" } : Jvm.MethodName)) ∈ rs_W := rs_f (rs_i4 (rs_in 88 (by decide +kernel))) rfl
theorem tw_809 : (Jvm.Cond.selects "RouteSpeaker$Incoming" ({ cls := "RouteSpeaker$Incoming", name := "announce", desc := "(ILRouteSpeaker$Route;)V" } : Jvm.MethodName) ({ cls := "RouteSpeaker$Incoming", name := "announce", desc := "(ILRouteSpeaker$Route;)V" } : Jvm.MethodName)) ∈ rs_W := rs_f (rs_i4 (rs_in 89 (by decide +kernel))) rfl
theorem tw_810 : (Jvm.Cond.code ({ cls := "RouteSpeaker$Incoming", name := "announce", desc := "(ILRouteSpeaker$Route;)V" } : Jvm.MethodName) prog_3_method_5_code (4 : Nat) (Option.none : Option Jvm.ClassFile.FieldType)) ∈ rs_W := rs_f (rs_i4 (rs_in 90 (by decide +kernel))) rfl
theorem tw_811 : (Jvm.Cond.methodLink "RouteSpeaker$Incoming" (39 : Nat) ({ cls := "RouteSpeaker$Route", name := "isSameAs", desc := "(LRouteSpeaker$Route;)Z" } : Jvm.MethodName)) ∈ rs_W := rs_f (rs_i4 (rs_in 91 (by decide +kernel))) rfl
theorem tw_812 : (Jvm.Cond.instanceMethod ({ cls := "RouteSpeaker$Route", name := "isSameAs", desc := "(LRouteSpeaker$Route;)Z" } : Jvm.MethodName)) ∈ rs_W := rs_f (rs_i4 (rs_in 92 (by decide +kernel))) rfl
theorem tw_813 : (Jvm.Cond.selects "RouteSpeaker$Route" ({ cls := "RouteSpeaker$Route", name := "isSameAs", desc := "(LRouteSpeaker$Route;)Z" } : Jvm.MethodName) ({ cls := "RouteSpeaker$Route", name := "isSameAs", desc := "(LRouteSpeaker$Route;)Z" } : Jvm.MethodName)) ∈ rs_W := rs_f (rs_i4 (rs_in 93 (by decide +kernel))) rfl
theorem tw_814 : (Jvm.Cond.code ({ cls := "RouteSpeaker$Route", name := "isSameAs", desc := "(LRouteSpeaker$Route;)Z" } : Jvm.MethodName) prog_8_method_5_code (2 : Nat) (Option.some Jvm.ClassFile.FieldType.boolean)) ∈ rs_W := rs_f (rs_i4 (rs_in 94 (by decide +kernel))) rfl
theorem tw_815 : (Jvm.Cond.methodLink "RouteSpeaker$Route" (49 : Nat) ({ cls := "RouteSpeaker$Route", name := "startSame", desc := "([I[II)Z" } : Jvm.MethodName)) ∈ rs_W := rs_f (rs_i4 (rs_in 95 (by decide +kernel))) rfl
theorem tw_816 : (Jvm.Cond.static ({ cls := "RouteSpeaker$Route", name := "startSame", desc := "([I[II)Z" } : Jvm.MethodName)) ∈ rs_W := rs_f (rs_i4 (rs_in 96 (by decide +kernel))) rfl
theorem tw_817 : (Jvm.Cond.code ({ cls := "RouteSpeaker$Route", name := "startSame", desc := "([I[II)Z" } : Jvm.MethodName) prog_8_method_11_code (4 : Nat) (Option.some Jvm.ClassFile.FieldType.boolean)) ∈ rs_W := rs_f (rs_i4 (rs_in 97 (by decide +kernel))) rfl
theorem tw_818 : (Jvm.Cond.methodLink "RouteSpeaker$Incoming" (43 : Nat) ({ cls := "RouteSpeaker$Route", name := "copyFrom", desc := "(LRouteSpeaker$Route;)V" } : Jvm.MethodName)) ∈ rs_W := rs_f (rs_i4 (rs_in 98 (by decide +kernel))) rfl
theorem tw_819 : (Jvm.Cond.instanceMethod ({ cls := "RouteSpeaker$Route", name := "copyFrom", desc := "(LRouteSpeaker$Route;)V" } : Jvm.MethodName)) ∈ rs_W := rs_f (rs_i4 (rs_in 99 (by decide +kernel))) rfl
theorem tw_820 : (Jvm.Cond.selects "RouteSpeaker$Route" ({ cls := "RouteSpeaker$Route", name := "copyFrom", desc := "(LRouteSpeaker$Route;)V" } : Jvm.MethodName) ({ cls := "RouteSpeaker$Route", name := "copyFrom", desc := "(LRouteSpeaker$Route;)V" } : Jvm.MethodName)) ∈ rs_W := rs_f (rs_i4 (rs_in 100 (by decide +kernel))) rfl
theorem tw_821 : (Jvm.Cond.code ({ cls := "RouteSpeaker$Route", name := "copyFrom", desc := "(LRouteSpeaker$Route;)V" } : Jvm.MethodName) prog_8_method_4_code (2 : Nat) (Option.none : Option Jvm.ClassFile.FieldType)) ∈ rs_W := rs_f (rs_i4 (rs_in 101 (by decide +kernel))) rfl
theorem tw_822 : (Jvm.Cond.methodLink "RouteSpeaker$Route" (43 : Nat) ({ cls := "java/lang/System", name := "arraycopy", desc := "(Ljava/lang/Object;ILjava/lang/Object;II)V" } : Jvm.MethodName)) ∈ rs_W := rs_f (rs_i4 (rs_in 102 (by decide +kernel))) rfl
theorem tw_823 : (Jvm.Cond.static ({ cls := "java/lang/System", name := "arraycopy", desc := "(Ljava/lang/Object;ILjava/lang/Object;II)V" } : Jvm.MethodName)) ∈ rs_W := rs_f (rs_i4 (rs_in 103 (by decide +kernel))) rfl
theorem tw_824 : (Jvm.Cond.native ({ cls := "java/lang/System", name := "arraycopy", desc := "(Ljava/lang/Object;ILjava/lang/Object;II)V" } : Jvm.MethodName)) ∈ rs_W := rs_f (rs_i4 (rs_in 104 (by decide +kernel))) rfl
theorem tw_825 : (Jvm.Cond.constantDouble "RouteSpeaker$Incoming" (47 : Nat) (4647503709213818880 : UInt64)) ∈ rs_W := rs_f (rs_i4 (rs_in 105 (by decide +kernel))) rfl
theorem tw_826 : (Jvm.Cond.methodLink "RouteSpeakerLaw" (111 : Nat) ({ cls := "RouteSpeakerLaw", name := "take", desc := "(LRouteSpeaker;I[J)I" } : Jvm.MethodName)) ∈ rs_W := rs_f (rs_i4 (rs_in 106 (by decide +kernel))) rfl
theorem tw_827 : (Jvm.Cond.static ({ cls := "RouteSpeakerLaw", name := "take", desc := "(LRouteSpeaker;I[J)I" } : Jvm.MethodName)) ∈ rs_W := rs_f (rs_i4 (rs_in 107 (by decide +kernel))) rfl
theorem tw_828 : (Jvm.Cond.codeWith ({ cls := "RouteSpeakerLaw", name := "take", desc := "(LRouteSpeaker;I[J)I" } : Jvm.MethodName) method_12_code (4 : Nat) (Option.some Jvm.ClassFile.FieldType.int) [((0 : Nat), (9 : Nat), (12 : Nat), (13 : Nat)), ((0 : Nat), (9 : Nat), (15 : Nat), (50 : Nat))]) ∈ rs_W := rs_f (rs_i4 (rs_in 108 (by decide +kernel))) rfl
theorem tw_829 : (Jvm.Cond.classLink "RouteSpeakerLaw" (50 : Nat) "java/util/NoSuchElementException") ∈ rs_W := rs_f (rs_i4 (rs_in 109 (by decide +kernel))) rfl
theorem tw_830 : (Jvm.Cond.methodLink "RouteSpeakerLaw" (46 : Nat) ({ cls := "RouteSpeaker", name := "take", desc := "(I)I" } : Jvm.MethodName)) ∈ rs_W := rs_f (rs_i4 (rs_in 110 (by decide +kernel))) rfl
theorem tw_831 : (Jvm.Cond.instanceMethod ({ cls := "RouteSpeaker", name := "take", desc := "(I)I" } : Jvm.MethodName)) ∈ rs_W := rs_f (rs_i4 (rs_in 111 (by decide +kernel))) rfl
theorem tw_832 : (Jvm.Cond.selects "RouteSpeaker" ({ cls := "RouteSpeaker", name := "take", desc := "(I)I" } : Jvm.MethodName) ({ cls := "RouteSpeaker", name := "take", desc := "(I)I" } : Jvm.MethodName)) ∈ rs_W := rs_f (rs_i4 (rs_in 112 (by decide +kernel))) rfl
theorem tw_833 : (Jvm.Cond.code ({ cls := "RouteSpeaker", name := "take", desc := "(I)I" } : Jvm.MethodName) prog_1_method_11_code (3 : Nat) (Option.some Jvm.ClassFile.FieldType.int)) ∈ rs_W := rs_f (rs_i4 (rs_in 113 (by decide +kernel))) rfl
theorem tw_834 : (Jvm.Cond.methodLink "RouteSpeaker" (138 : Nat) ({ cls := "RouteSpeaker$Outbox", name := "pull", desc := "()I" } : Jvm.MethodName)) ∈ rs_W := rs_f (rs_i4 (rs_in 114 (by decide +kernel))) rfl
theorem tw_835 : (Jvm.Cond.instanceMethod ({ cls := "RouteSpeaker$Outbox", name := "pull", desc := "()I" } : Jvm.MethodName)) ∈ rs_W := rs_f (rs_i4 (rs_in 115 (by decide +kernel))) rfl
theorem tw_836 : (Jvm.Cond.selects "RouteSpeaker$Outbox" ({ cls := "RouteSpeaker$Outbox", name := "pull", desc := "()I" } : Jvm.MethodName) ({ cls := "RouteSpeaker$Outbox", name := "pull", desc := "()I" } : Jvm.MethodName)) ∈ rs_W := rs_f (rs_i4 (rs_in 116 (by decide +kernel))) rfl
theorem tw_837 : (Jvm.Cond.code ({ cls := "RouteSpeaker$Outbox", name := "pull", desc := "()I" } : Jvm.MethodName) prog_5_method_3_code (2 : Nat) (Option.some Jvm.ClassFile.FieldType.int)) ∈ rs_W := rs_f (rs_i4 (rs_in 117 (by decide +kernel))) rfl
theorem tw_838 : (Jvm.Cond.classLink "RouteSpeaker" (144 : Nat) "java/util/NoSuchElementException") ∈ rs_W := rs_f (rs_i4 (rs_in 118 (by decide +kernel))) rfl
theorem tw_839 : (Jvm.Cond.instantiable "java/util/NoSuchElementException" (6 : Nat)) ∈ rs_W := rs_f (rs_i4 (rs_in 119 (by decide +kernel))) rfl
theorem tw_841 : (Jvm.Cond.selects "java/util/NoSuchElementException" ({ cls := "java/lang/Throwable", name := "fillInStackTrace", desc := "(I)Ljava/lang/Throwable;" } : Jvm.MethodName) ({ cls := "java/lang/Throwable", name := "fillInStackTrace", desc := "(I)Ljava/lang/Throwable;" } : Jvm.MethodName)) ∈ rs_W := rs_f (rs_i4 (rs_in 121 (by decide +kernel))) rfl
theorem tw_847 : (Jvm.Cond.methodLink "RouteSpeaker" (146 : Nat) ({ cls := "java/util/NoSuchElementException", name := "<init>", desc := "()V" } : Jvm.MethodName)) ∈ rs_W := rs_f (rs_i4 (rs_in 127 (by decide +kernel))) rfl
theorem tw_848 : (Jvm.Cond.instanceMethod ({ cls := "java/util/NoSuchElementException", name := "<init>", desc := "()V" } : Jvm.MethodName)) ∈ rs_W := rs_f (rs_i4 (rs_in 128 (by decide +kernel))) rfl
theorem tw_849 : (Jvm.Cond.code ({ cls := "java/util/NoSuchElementException", name := "<init>", desc := "()V" } : Jvm.MethodName) prog_20_method_1_code (1 : Nat) (Option.none : Option Jvm.ClassFile.FieldType)) ∈ rs_W := rs_f (rs_i4 (rs_in 129 (by decide +kernel))) rfl
theorem tw_850 : (Jvm.Cond.methodLink "java/util/NoSuchElementException" (1 : Nat) ({ cls := "java/lang/RuntimeException", name := "<init>", desc := "()V" } : Jvm.MethodName)) ∈ rs_W := rs_f (rs_i4 (rs_in 130 (by decide +kernel))) rfl
theorem tw_853 : (Jvm.Cond.methodLink "RouteSpeakerLaw" (123 : Nat) ({ cls := "RouteSpeakerLaw", name := "best", desc := "(LRouteSpeaker;III[J)I" } : Jvm.MethodName)) ∈ rs_W := rs_f (rs_i4 (rs_in 133 (by decide +kernel))) rfl
theorem tw_854 : (Jvm.Cond.static ({ cls := "RouteSpeakerLaw", name := "best", desc := "(LRouteSpeaker;III[J)I" } : Jvm.MethodName)) ∈ rs_W := rs_f (rs_i4 (rs_in 134 (by decide +kernel))) rfl
theorem tw_855 : (Jvm.Cond.codeWith ({ cls := "RouteSpeakerLaw", name := "best", desc := "(LRouteSpeaker;III[J)I" } : Jvm.MethodName) method_13_code (6 : Nat) (Option.some Jvm.ClassFile.FieldType.int) [((0 : Nat), (12 : Nat), (15 : Nat), (13 : Nat)), ((0 : Nat), (12 : Nat), (19 : Nat), (50 : Nat))]) ∈ rs_W := rs_f (rs_i4 (rs_in 135 (by decide +kernel))) rfl
theorem tw_856 : (Jvm.Cond.methodLink "RouteSpeakerLaw" (52 : Nat) ({ cls := "RouteSpeaker", name := "best", desc := "(III)I" } : Jvm.MethodName)) ∈ rs_W := rs_f (rs_i4 (rs_in 136 (by decide +kernel))) rfl
theorem tw_857 : (Jvm.Cond.instanceMethod ({ cls := "RouteSpeaker", name := "best", desc := "(III)I" } : Jvm.MethodName)) ∈ rs_W := rs_f (rs_i4 (rs_in 137 (by decide +kernel))) rfl
theorem tw_858 : (Jvm.Cond.selects "RouteSpeaker" ({ cls := "RouteSpeaker", name := "best", desc := "(III)I" } : Jvm.MethodName) ({ cls := "RouteSpeaker", name := "best", desc := "(III)I" } : Jvm.MethodName)) ∈ rs_W := rs_f (rs_i4 (rs_in 138 (by decide +kernel))) rfl
theorem tw_859 : (Jvm.Cond.code ({ cls := "RouteSpeaker", name := "best", desc := "(III)I" } : Jvm.MethodName) prog_1_method_14_code (6 : Nat) (Option.some Jvm.ClassFile.FieldType.int)) ∈ rs_W := rs_f (rs_i4 (rs_in 139 (by decide +kernel))) rfl
theorem tw_860 : (Jvm.Cond.methodLink "RouteSpeaker" (194 : Nat) ({ cls := "RouteSpeaker$Route", name := "detail", desc := "(I)I" } : Jvm.MethodName)) ∈ rs_W := rs_f (rs_i4 (rs_in 140 (by decide +kernel))) rfl
theorem tw_861 : (Jvm.Cond.instanceMethod ({ cls := "RouteSpeaker$Route", name := "detail", desc := "(I)I" } : Jvm.MethodName)) ∈ rs_W := rs_f (rs_i4 (rs_in 141 (by decide +kernel))) rfl
theorem tw_862 : (Jvm.Cond.selects "RouteSpeaker$Route" ({ cls := "RouteSpeaker$Route", name := "detail", desc := "(I)I" } : Jvm.MethodName) ({ cls := "RouteSpeaker$Route", name := "detail", desc := "(I)I" } : Jvm.MethodName)) ∈ rs_W := rs_f (rs_i4 (rs_in 142 (by decide +kernel))) rfl
theorem tw_863 : (Jvm.Cond.code ({ cls := "RouteSpeaker$Route", name := "detail", desc := "(I)I" } : Jvm.MethodName) prog_8_method_9_code (2 : Nat) (Option.some Jvm.ClassFile.FieldType.int)) ∈ rs_W := rs_f (rs_i4 (rs_in 143 (by decide +kernel))) rfl
theorem tw_864 : (Jvm.Cond.methodLink "RouteSpeaker$Route" (57 : Nat) ({ cls := "RouteSpeaker$Route", name := "itemOf", desc := "([III)I" } : Jvm.MethodName)) ∈ rs_W := rs_f (rs_i4 (rs_in 144 (by decide +kernel))) rfl
theorem tw_865 : (Jvm.Cond.static ({ cls := "RouteSpeaker$Route", name := "itemOf", desc := "([III)I" } : Jvm.MethodName)) ∈ rs_W := rs_f (rs_i4 (rs_in 145 (by decide +kernel))) rfl
theorem tw_866 : (Jvm.Cond.code ({ cls := "RouteSpeaker$Route", name := "itemOf", desc := "([III)I" } : Jvm.MethodName) prog_8_method_10_code (3 : Nat) (Option.some Jvm.ClassFile.FieldType.int)) ∈ rs_W := rs_f (rs_i4 (rs_in 146 (by decide +kernel))) rfl
theorem tw_867 : (Jvm.Cond.methodLink "RouteSpeakerLaw" (127 : Nat) ({ cls := "RouteSpeakerLaw", name := "flaw", desc := "(LRouteSpeaker;III[J)I" } : Jvm.MethodName)) ∈ rs_W := rs_f (rs_i4 (rs_in 147 (by decide +kernel))) rfl
theorem tw_868 : (Jvm.Cond.static ({ cls := "RouteSpeakerLaw", name := "flaw", desc := "(LRouteSpeaker;III[J)I" } : Jvm.MethodName)) ∈ rs_W := rs_f (rs_i4 (rs_in 148 (by decide +kernel))) rfl
theorem tw_869 : (Jvm.Cond.codeWith ({ cls := "RouteSpeakerLaw", name := "flaw", desc := "(LRouteSpeaker;III[J)I" } : Jvm.MethodName) method_14_code (6 : Nat) (Option.some Jvm.ClassFile.FieldType.int) [((0 : Nat), (12 : Nat), (15 : Nat), (13 : Nat)), ((0 : Nat), (12 : Nat), (19 : Nat), (50 : Nat))]) ∈ rs_W := rs_f (rs_i4 (rs_in 149 (by decide +kernel))) rfl
theorem tw_870 : (Jvm.Cond.methodLink "RouteSpeakerLaw" (56 : Nat) ({ cls := "RouteSpeaker", name := "flaw", desc := "(III)I" } : Jvm.MethodName)) ∈ rs_W := rs_f (rs_i4 (rs_in 150 (by decide +kernel))) rfl
theorem tw_871 : (Jvm.Cond.instanceMethod ({ cls := "RouteSpeaker", name := "flaw", desc := "(III)I" } : Jvm.MethodName)) ∈ rs_W := rs_f (rs_i4 (rs_in 151 (by decide +kernel))) rfl
theorem tw_872 : (Jvm.Cond.selects "RouteSpeaker" ({ cls := "RouteSpeaker", name := "flaw", desc := "(III)I" } : Jvm.MethodName) ({ cls := "RouteSpeaker", name := "flaw", desc := "(III)I" } : Jvm.MethodName)) ∈ rs_W := rs_f (rs_i4 (rs_in 152 (by decide +kernel))) rfl
theorem tw_873 : (Jvm.Cond.code ({ cls := "RouteSpeaker", name := "flaw", desc := "(III)I" } : Jvm.MethodName) prog_1_method_15_code (5 : Nat) (Option.some Jvm.ClassFile.FieldType.int)) ∈ rs_W := rs_f (rs_i4 (rs_in 153 (by decide +kernel))) rfl
theorem tw_874 : (Jvm.Cond.methodLink "RouteSpeakerLaw" (130 : Nat) ({ cls := "RouteSpeakerLaw", name := "penalty", desc := "(LRouteSpeaker;III[D)I" } : Jvm.MethodName)) ∈ rs_W := rs_f (rs_i4 (rs_in 154 (by decide +kernel))) rfl
theorem tw_875 : (Jvm.Cond.static ({ cls := "RouteSpeakerLaw", name := "penalty", desc := "(LRouteSpeaker;III[D)I" } : Jvm.MethodName)) ∈ rs_W := rs_f (rs_i4 (rs_in 155 (by decide +kernel))) rfl
theorem tw_876 : (Jvm.Cond.codeWith ({ cls := "RouteSpeakerLaw", name := "penalty", desc := "(LRouteSpeaker;III[D)I" } : Jvm.MethodName) method_15_code (6 : Nat) (Option.some Jvm.ClassFile.FieldType.int) [((0 : Nat), (11 : Nat), (14 : Nat), (13 : Nat))]) ∈ rs_W := rs_f (rs_i4 (rs_in 156 (by decide +kernel))) rfl
theorem tw_877 : (Jvm.Cond.methodLink "RouteSpeakerLaw" (59 : Nat) ({ cls := "RouteSpeaker", name := "penalty", desc := "(III)D" } : Jvm.MethodName)) ∈ rs_W := rs_f (rs_i4 (rs_in 157 (by decide +kernel))) rfl
theorem tw_878 : (Jvm.Cond.instanceMethod ({ cls := "RouteSpeaker", name := "penalty", desc := "(III)D" } : Jvm.MethodName)) ∈ rs_W := rs_f (rs_i4 (rs_in 158 (by decide +kernel))) rfl
theorem tw_879 : (Jvm.Cond.selects "RouteSpeaker" ({ cls := "RouteSpeaker", name := "penalty", desc := "(III)D" } : Jvm.MethodName) ({ cls := "RouteSpeaker", name := "penalty", desc := "(III)D" } : Jvm.MethodName)) ∈ rs_W := rs_f (rs_i4 (rs_in 159 (by decide +kernel))) rfl
theorem tw_880 : (Jvm.Cond.code ({ cls := "RouteSpeaker", name := "penalty", desc := "(III)D" } : Jvm.MethodName) prog_1_method_16_code (4 : Nat) (Option.some Jvm.ClassFile.FieldType.double)) ∈ rs_W := rs_f (rs_i4 (rs_in 160 (by decide +kernel))) rfl
theorem tw_881 : (Jvm.Cond.methodLink "RouteSpeaker" (203 : Nat) ({ cls := "RouteSpeaker$Incoming", name := "penaltyAt", desc := "(I)D" } : Jvm.MethodName)) ∈ rs_W := rs_f (rs_i4 (rs_in 161 (by decide +kernel))) rfl
theorem tw_882 : (Jvm.Cond.instanceMethod ({ cls := "RouteSpeaker$Incoming", name := "penaltyAt", desc := "(I)D" } : Jvm.MethodName)) ∈ rs_W := rs_f (rs_i4 (rs_in 162 (by decide +kernel))) rfl
theorem tw_883 : (Jvm.Cond.selects "RouteSpeaker$Incoming" ({ cls := "RouteSpeaker$Incoming", name := "penaltyAt", desc := "(I)D" } : Jvm.MethodName) ({ cls := "RouteSpeaker$Incoming", name := "penaltyAt", desc := "(I)D" } : Jvm.MethodName)) ∈ rs_W := rs_f (rs_i4 (rs_in 163 (by decide +kernel))) rfl
theorem tw_884 : (Jvm.Cond.code ({ cls := "RouteSpeaker$Incoming", name := "penaltyAt", desc := "(I)D" } : Jvm.MethodName) prog_3_method_3_code (2 : Nat) (Option.some Jvm.ClassFile.FieldType.double)) ∈ rs_W := rs_f (rs_i4 (rs_in 164 (by decide +kernel))) rfl
theorem tw_885 : (Jvm.Cond.methodLink "RouteSpeakerLaw" (134 : Nat) ({ cls := "RouteSpeakerLaw", name := "forward", desc := "(LRouteSpeaker;I[J)I" } : Jvm.MethodName)) ∈ rs_W := rs_f (rs_i4 (rs_in 165 (by decide +kernel))) rfl
theorem tw_886 : (Jvm.Cond.static ({ cls := "RouteSpeakerLaw", name := "forward", desc := "(LRouteSpeaker;I[J)I" } : Jvm.MethodName)) ∈ rs_W := rs_f (rs_i4 (rs_in 166 (by decide +kernel))) rfl
theorem tw_887 : (Jvm.Cond.codeWith ({ cls := "RouteSpeakerLaw", name := "forward", desc := "(LRouteSpeaker;I[J)I" } : Jvm.MethodName) method_16_code (4 : Nat) (Option.some Jvm.ClassFile.FieldType.int) [((0 : Nat), (9 : Nat), (12 : Nat), (13 : Nat)), ((0 : Nat), (9 : Nat), (15 : Nat), (50 : Nat))]) ∈ rs_W := rs_f (rs_i4 (rs_in 167 (by decide +kernel))) rfl
theorem tw_888 : (Jvm.Cond.methodLink "RouteSpeakerLaw" (63 : Nat) ({ cls := "RouteSpeaker", name := "forward", desc := "(I)I" } : Jvm.MethodName)) ∈ rs_W := rs_f (rs_i4 (rs_in 168 (by decide +kernel))) rfl
theorem tw_889 : (Jvm.Cond.instanceMethod ({ cls := "RouteSpeaker", name := "forward", desc := "(I)I" } : Jvm.MethodName)) ∈ rs_W := rs_f (rs_i4 (rs_in 169 (by decide +kernel))) rfl
theorem tw_890 : (Jvm.Cond.selects "RouteSpeaker" ({ cls := "RouteSpeaker", name := "forward", desc := "(I)I" } : Jvm.MethodName) ({ cls := "RouteSpeaker", name := "forward", desc := "(I)I" } : Jvm.MethodName)) ∈ rs_W := rs_f (rs_i4 (rs_in 170 (by decide +kernel))) rfl
theorem tw_891 : (Jvm.Cond.code ({ cls := "RouteSpeaker", name := "forward", desc := "(I)I" } : Jvm.MethodName) prog_1_method_17_code (7 : Nat) (Option.some Jvm.ClassFile.FieldType.int)) ∈ rs_W := rs_f (rs_i4 (rs_in 171 (by decide +kernel))) rfl
theorem tw_892 : (Jvm.Cond.methodLink "RouteSpeaker" (215 : Nat) ({ cls := "RouteSpeaker", name := "isWithin", desc := "(IIII)Z" } : Jvm.MethodName)) ∈ rs_W := rs_f (rs_i4 (rs_in 172 (by decide +kernel))) rfl
theorem tw_893 : (Jvm.Cond.classLink "RouteSpeakerLaw" (67 : Nat) "RouteSpeakerModel") ∈ rs_W := rs_f (rs_i4 (rs_in 173 (by decide +kernel))) rfl
theorem tw_894 : (Jvm.Cond.instantiable "RouteSpeakerModel" (41 : Nat)) ∈ rs_W := rs_f (rs_i4 (rs_in 174 (by decide +kernel))) rfl
theorem tw_895 : (Jvm.Cond.methodLink "RouteSpeakerLaw" (69 : Nat) ({ cls := "RouteSpeakerModel", name := "<init>", desc := "()V" } : Jvm.MethodName)) ∈ rs_W := rs_f (rs_i4 (rs_in 175 (by decide +kernel))) rfl
theorem tw_896 : (Jvm.Cond.instanceMethod ({ cls := "RouteSpeakerModel", name := "<init>", desc := "()V" } : Jvm.MethodName)) ∈ rs_W := rs_f (rs_i4 (rs_in 176 (by decide +kernel))) rfl
theorem tw_897 : (Jvm.Cond.code ({ cls := "RouteSpeakerModel", name := "<init>", desc := "()V" } : Jvm.MethodName) prog_12_method_1_code (2 : Nat) (Option.none : Option Jvm.ClassFile.FieldType)) ∈ rs_W := rs_f (rs_i4 (rs_in 177 (by decide +kernel))) rfl
theorem tw_898 : (Jvm.Cond.methodLink "RouteSpeakerModel" (1 : Nat) ({ cls := "java/lang/Object", name := "<init>", desc := "()V" } : Jvm.MethodName)) ∈ rs_W := rs_f (rs_i4 (rs_in 178 (by decide +kernel))) rfl
theorem tw_899 : (Jvm.Cond.fieldLink "RouteSpeakerModel" (126 : Nat) "RouteSpeakerModel" "code" "I") ∈ rs_W := rs_f (rs_i4 (rs_in 179 (by decide +kernel))) rfl
theorem tw_900 : (Jvm.Cond.fieldLink "RouteSpeakerModel" (7 : Nat) "RouteSpeakerModel" "role" "[I") ∈ rs_W := rs_f (rs_i4 (rs_in 180 (by decide +kernel))) rfl
theorem tw_901 : (Jvm.Cond.fieldLink "RouteSpeakerModel" (13 : Nat) "RouteSpeakerModel" "network" "[I") ∈ rs_W := rs_f (rs_i4 (rs_in 181 (by decide +kernel))) rfl
theorem tw_902 : (Jvm.Cond.fieldLink "RouteSpeakerModel" (16 : Nat) "RouteSpeakerModel" "state" "[I") ∈ rs_W := rs_f (rs_i4 (rs_in 182 (by decide +kernel))) rfl
theorem tw_903 : (Jvm.Cond.fieldLink "RouteSpeakerModel" (19 : Nat) "RouteSpeakerModel" "holdTimer" "[I") ∈ rs_W := rs_f (rs_i4 (rs_in 183 (by decide +kernel))) rfl
theorem tw_904 : (Jvm.Cond.fieldLink "RouteSpeakerModel" (22 : Nat) "RouteSpeakerModel" "keepTimer" "[I") ∈ rs_W := rs_f (rs_i4 (rs_in 184 (by decide +kernel))) rfl
theorem tw_905 : (Jvm.Cond.fieldLink "RouteSpeakerModel" (25 : Nat) "RouteSpeakerModel" "hold" "[I") ∈ rs_W := rs_f (rs_i4 (rs_in 185 (by decide +kernel))) rfl
theorem tw_906 : (Jvm.Cond.fieldLink "RouteSpeakerModel" (28 : Nat) "RouteSpeakerModel" "id" "[I") ∈ rs_W := rs_f (rs_i4 (rs_in 186 (by decide +kernel))) rfl
theorem tw_907 : (Jvm.Cond.fieldLink "RouteSpeakerModel" (31 : Nat) "RouteSpeakerModel" "padding" "[I") ∈ rs_W := rs_f (rs_i4 (rs_in 187 (by decide +kernel))) rfl
theorem tw_908 : (Jvm.Cond.fieldLink "RouteSpeakerModel" (34 : Nat) "RouteSpeakerModel" "muteLength" "[I") ∈ rs_W := rs_f (rs_i4 (rs_in 188 (by decide +kernel))) rfl
theorem tw_909 : (Jvm.Cond.fieldLink "RouteSpeakerModel" (37 : Nat) "RouteSpeakerModel" "muteAddress" "[I") ∈ rs_W := rs_f (rs_i4 (rs_in 189 (by decide +kernel))) rfl
theorem tw_910 : (Jvm.Cond.fieldLink "RouteSpeakerModel" (40 : Nat) "RouteSpeakerModel" "rules" "[I") ∈ rs_W := rs_f (rs_i4 (rs_in 190 (by decide +kernel))) rfl
theorem tw_911 : (Jvm.Cond.fieldLink "RouteSpeakerModel" (43 : Nat) "RouteSpeakerModel" "ruleLength" "[I") ∈ rs_W := rs_f (rs_i4 (rs_in 191 (by decide +kernel))) rfl
theorem tw_912 : (Jvm.Cond.fieldLink "RouteSpeakerModel" (46 : Nat) "RouteSpeakerModel" "ruleAddress" "[I") ∈ rs_W := rs_f (rs_i4 (rs_in 192 (by decide +kernel))) rfl
theorem tw_913 : (Jvm.Cond.fieldLink "RouteSpeakerModel" (49 : Nat) "RouteSpeakerModel" "ruleAction" "[I") ∈ rs_W := rs_f (rs_i4 (rs_in 193 (by decide +kernel))) rfl
theorem tw_914 : (Jvm.Cond.fieldLink "RouteSpeakerModel" (52 : Nat) "RouteSpeakerModel" "input" "[I") ∈ rs_W := rs_f (rs_i4 (rs_in 194 (by decide +kernel))) rfl
theorem tw_915 : (Jvm.Cond.fieldLink "RouteSpeakerModel" (55 : Nat) "RouteSpeakerModel" "inputs" "[I") ∈ rs_W := rs_f (rs_i4 (rs_in 195 (by decide +kernel))) rfl
theorem tw_916 : (Jvm.Cond.fieldLink "RouteSpeakerModel" (58 : Nat) "RouteSpeakerModel" "output" "[I") ∈ rs_W := rs_f (rs_i4 (rs_in 196 (by decide +kernel))) rfl
theorem tw_917 : (Jvm.Cond.fieldLink "RouteSpeakerModel" (61 : Nat) "RouteSpeakerModel" "outputs" "[I") ∈ rs_W := rs_f (rs_i4 (rs_in 197 (by decide +kernel))) rfl
theorem tw_918 : (Jvm.Cond.fieldLink "RouteSpeakerModel" (64 : Nat) "RouteSpeakerModel" "made" "[I") ∈ rs_W := rs_f (rs_i4 (rs_in 198 (by decide +kernel))) rfl
theorem tw_919 : (Jvm.Cond.fieldLink "RouteSpeakerModel" (141 : Nat) "RouteSpeakerModel" "makes" "I") ∈ rs_W := rs_f (rs_i4 (rs_in 199 (by decide +kernel))) rfl
theorem tw_920 : (Jvm.Cond.fieldLink "RouteSpeakerModel" (134 : Nat) "RouteSpeakerModel" "known" "I") ∈ rs_W := rs_f (rs_i4 (rs_in 200 (by decide +kernel))) rfl
theorem tw_921 : (Jvm.Cond.fieldLink "RouteSpeakerModel" (67 : Nat) "RouteSpeakerModel" "lengths" "[I") ∈ rs_W := rs_f (rs_i4 (rs_in 201 (by decide +kernel))) rfl
theorem tw_922 : (Jvm.Cond.fieldLink "RouteSpeakerModel" (70 : Nat) "RouteSpeakerModel" "addresses" "[I") ∈ rs_W := rs_f (rs_i4 (rs_in 202 (by decide +kernel))) rfl
theorem tw_923 : (Jvm.Cond.fieldLink "RouteSpeakerModel" (73 : Nat) "RouteSpeakerModel" "there" "[Z") ∈ rs_W := rs_f (rs_i4 (rs_in 203 (by decide +kernel))) rfl
theorem tw_924 : (Jvm.Cond.fieldLink "RouteSpeakerModel" (77 : Nat) "RouteSpeakerModel" "origin" "[I") ∈ rs_W := rs_f (rs_i4 (rs_in 204 (by decide +kernel))) rfl
theorem tw_925 : (Jvm.Cond.fieldLink "RouteSpeakerModel" (80 : Nat) "RouteSpeakerModel" "paths" "[I") ∈ rs_W := rs_f (rs_i4 (rs_in 205 (by decide +kernel))) rfl
theorem tw_926 : (Jvm.Cond.fieldLink "RouteSpeakerModel" (83 : Nat) "RouteSpeakerModel" "path" "[I") ∈ rs_W := rs_f (rs_i4 (rs_in 206 (by decide +kernel))) rfl
theorem tw_927 : (Jvm.Cond.fieldLink "RouteSpeakerModel" (86 : Nat) "RouteSpeakerModel" "next" "[I") ∈ rs_W := rs_f (rs_i4 (rs_in 207 (by decide +kernel))) rfl
theorem tw_928 : (Jvm.Cond.fieldLink "RouteSpeakerModel" (89 : Nat) "RouteSpeakerModel" "metric" "[I") ∈ rs_W := rs_f (rs_i4 (rs_in 208 (by decide +kernel))) rfl
theorem tw_929 : (Jvm.Cond.fieldLink "RouteSpeakerModel" (92 : Nat) "RouteSpeakerModel" "preference" "[I") ∈ rs_W := rs_f (rs_i4 (rs_in 209 (by decide +kernel))) rfl
theorem tw_930 : (Jvm.Cond.fieldLink "RouteSpeakerModel" (95 : Nat) "RouteSpeakerModel" "source" "[I") ∈ rs_W := rs_f (rs_i4 (rs_in 210 (by decide +kernel))) rfl
theorem tw_931 : (Jvm.Cond.fieldLink "RouteSpeakerModel" (98 : Nat) "RouteSpeakerModel" "clusters" "[I") ∈ rs_W := rs_f (rs_i4 (rs_in 211 (by decide +kernel))) rfl
theorem tw_932 : (Jvm.Cond.fieldLink "RouteSpeakerModel" (101 : Nat) "RouteSpeakerModel" "cluster" "[I") ∈ rs_W := rs_f (rs_i4 (rs_in 212 (by decide +kernel))) rfl
theorem tw_933 : (Jvm.Cond.fieldLink "RouteSpeakerModel" (104 : Nat) "RouteSpeakerModel" "penalty" "[D") ∈ rs_W := rs_f (rs_i4 (rs_in 213 (by decide +kernel))) rfl
theorem tw_934 : (Jvm.Cond.fieldLink "RouteSpeakerModel" (108 : Nat) "RouteSpeakerModel" "damped" "[Z") ∈ rs_W := rs_f (rs_i4 (rs_in 214 (by decide +kernel))) rfl
theorem tw_935 : (Jvm.Cond.fieldLink "RouteSpeakerModel" (111 : Nat) "RouteSpeakerModel" "told" "[I") ∈ rs_W := rs_f (rs_i4 (rs_in 215 (by decide +kernel))) rfl
theorem tw_936 : (Jvm.Cond.fieldLink "RouteSpeakerModel" (114 : Nat) "RouteSpeakerModel" "attributes" "[I") ∈ rs_W := rs_f (rs_i4 (rs_in 216 (by decide +kernel))) rfl
theorem tw_937 : (Jvm.Cond.fieldLink "RouteSpeakerModel" (117 : Nat) "RouteSpeakerModel" "wanted" "[I") ∈ rs_W := rs_f (rs_i4 (rs_in 217 (by decide +kernel))) rfl
theorem tw_938 : (Jvm.Cond.fieldLink "RouteSpeakerModel" (120 : Nat) "RouteSpeakerModel" "place" "[I") ∈ rs_W := rs_f (rs_i4 (rs_in 218 (by decide +kernel))) rfl
theorem tw_939 : (Jvm.Cond.fieldLink "RouteSpeakerModel" (123 : Nat) "RouteSpeakerModel" "candidate" "[Z") ∈ rs_W := rs_f (rs_i4 (rs_in 219 (by decide +kernel))) rfl
theorem tw_1023 : (Jvm.Cond.methodLink "RouteSpeakerLaw" (76 : Nat) ({ cls := "RouteSpeakerModel", name := "thrown", desc := "()I" } : Jvm.MethodName)) ∈ rs_W := rs_f (rs_i5 (rs_in 63 (by decide +kernel))) rfl
theorem tw_1024 : (Jvm.Cond.instanceMethod ({ cls := "RouteSpeakerModel", name := "thrown", desc := "()I" } : Jvm.MethodName)) ∈ rs_W := rs_f (rs_i5 (rs_in 64 (by decide +kernel))) rfl
theorem tw_1025 : (Jvm.Cond.selects "RouteSpeakerModel" ({ cls := "RouteSpeakerModel", name := "thrown", desc := "()I" } : Jvm.MethodName) ({ cls := "RouteSpeakerModel", name := "thrown", desc := "()I" } : Jvm.MethodName)) ∈ rs_W := rs_f (rs_i5 (rs_in 65 (by decide +kernel))) rfl
theorem tw_1026 : (Jvm.Cond.code ({ cls := "RouteSpeakerModel", name := "thrown", desc := "()I" } : Jvm.MethodName) prog_12_method_2_code (1 : Nat) (Option.some Jvm.ClassFile.FieldType.int)) ∈ rs_W := rs_f (rs_i5 (rs_in 66 (by decide +kernel))) rfl
theorem tw_1027 : (Jvm.Cond.methodLink "RouteSpeakerLaw" (75 : Nat) ({ cls := "RouteSpeakerModel", name := "peer", desc := "(III)V" } : Jvm.MethodName)) ∈ rs_W := rs_f (rs_i5 (rs_in 67 (by decide +kernel))) rfl
theorem tw_1028 : (Jvm.Cond.instanceMethod ({ cls := "RouteSpeakerModel", name := "peer", desc := "(III)V" } : Jvm.MethodName)) ∈ rs_W := rs_f (rs_i5 (rs_in 68 (by decide +kernel))) rfl
theorem tw_1029 : (Jvm.Cond.selects "RouteSpeakerModel" ({ cls := "RouteSpeakerModel", name := "peer", desc := "(III)V" } : Jvm.MethodName) ({ cls := "RouteSpeakerModel", name := "peer", desc := "(III)V" } : Jvm.MethodName)) ∈ rs_W := rs_f (rs_i5 (rs_in 69 (by decide +kernel))) rfl
theorem tw_1030 : (Jvm.Cond.code ({ cls := "RouteSpeakerModel", name := "peer", desc := "(III)V" } : Jvm.MethodName) prog_12_method_17_code (5 : Nat) (Option.none : Option Jvm.ClassFile.FieldType)) ∈ rs_W := rs_f (rs_i5 (rs_in 70 (by decide +kernel))) rfl
theorem tw_1031 : (Jvm.Cond.methodLink "RouteSpeakerModel" (158 : Nat) ({ cls := "RouteSpeakerModel", name := "isPeer", desc := "(I)Z" } : Jvm.MethodName)) ∈ rs_W := rs_f (rs_i5 (rs_in 71 (by decide +kernel))) rfl
theorem tw_1032 : (Jvm.Cond.static ({ cls := "RouteSpeakerModel", name := "isPeer", desc := "(I)Z" } : Jvm.MethodName)) ∈ rs_W := rs_f (rs_i5 (rs_in 72 (by decide +kernel))) rfl
theorem tw_1033 : (Jvm.Cond.code ({ cls := "RouteSpeakerModel", name := "isPeer", desc := "(I)Z" } : Jvm.MethodName) prog_12_method_4_code (1 : Nat) (Option.some Jvm.ClassFile.FieldType.boolean)) ∈ rs_W := rs_f (rs_i5 (rs_in 73 (by decide +kernel))) rfl
theorem tw_1034 : (Jvm.Cond.methodLink "RouteSpeakerModel" (161 : Nat) ({ cls := "RouteSpeakerModel", name := "isNumber", desc := "(I)Z" } : Jvm.MethodName)) ∈ rs_W := rs_f (rs_i5 (rs_in 74 (by decide +kernel))) rfl
theorem tw_1035 : (Jvm.Cond.static ({ cls := "RouteSpeakerModel", name := "isNumber", desc := "(I)Z" } : Jvm.MethodName)) ∈ rs_W := rs_f (rs_i5 (rs_in 75 (by decide +kernel))) rfl
theorem tw_1036 : (Jvm.Cond.code ({ cls := "RouteSpeakerModel", name := "isNumber", desc := "(I)Z" } : Jvm.MethodName) prog_12_method_5_code (1 : Nat) (Option.some Jvm.ClassFile.FieldType.boolean)) ∈ rs_W := rs_f (rs_i5 (rs_in 76 (by decide +kernel))) rfl
theorem tw_1037 : (Jvm.Cond.methodLink "RouteSpeakerModel" (164 : Nat) ({ cls := "RouteSpeakerModel", name := "tell", desc := "()V" } : Jvm.MethodName)) ∈ rs_W := rs_f (rs_i5 (rs_in 77 (by decide +kernel))) rfl
theorem tw_1039 : (Jvm.Cond.instanceMethod ({ cls := "RouteSpeakerModel", name := "tell", desc := "()V" } : Jvm.MethodName)) ∈ rs_W := rs_f (rs_i5 (rs_in 79 (by decide +kernel))) rfl
theorem tw_1040 : (Jvm.Cond.code ({ cls := "RouteSpeakerModel", name := "tell", desc := "()V" } : Jvm.MethodName) prog_12_method_61_code (3 : Nat) (Option.none : Option Jvm.ClassFile.FieldType)) ∈ rs_W := rs_f (rs_i5 (rs_in 80 (by decide +kernel))) rfl
theorem tw_1041 : (Jvm.Cond.methodLink "RouteSpeakerModel" (301 : Nat) ({ cls := "RouteSpeakerModel", name := "tellOne", desc := "(II)Z" } : Jvm.MethodName)) ∈ rs_W := rs_f (rs_i5 (rs_in 81 (by decide +kernel))) rfl
theorem tw_1043 : (Jvm.Cond.instanceMethod ({ cls := "RouteSpeakerModel", name := "tellOne", desc := "(II)Z" } : Jvm.MethodName)) ∈ rs_W := rs_f (rs_i5 (rs_in 83 (by decide +kernel))) rfl
theorem tw_1044 : (Jvm.Cond.code ({ cls := "RouteSpeakerModel", name := "tellOne", desc := "(II)Z" } : Jvm.MethodName) prog_12_method_60_code (6 : Nat) (Option.some Jvm.ClassFile.FieldType.boolean)) ∈ rs_W := rs_f (rs_i5 (rs_in 84 (by decide +kernel))) rfl
theorem tw_1045 : (Jvm.Cond.methodLink "RouteSpeakerModel" (295 : Nat) ({ cls := "RouteSpeakerModel", name := "due", desc := "(II)I" } : Jvm.MethodName)) ∈ rs_W := rs_f (rs_i5 (rs_in 85 (by decide +kernel))) rfl
theorem tw_1047 : (Jvm.Cond.instanceMethod ({ cls := "RouteSpeakerModel", name := "due", desc := "(II)I" } : Jvm.MethodName)) ∈ rs_W := rs_f (rs_i5 (rs_in 87 (by decide +kernel))) rfl
theorem tw_1048 : (Jvm.Cond.code ({ cls := "RouteSpeakerModel", name := "due", desc := "(II)I" } : Jvm.MethodName) prog_12_method_56_code (4 : Nat) (Option.some Jvm.ClassFile.FieldType.int)) ∈ rs_W := rs_f (rs_i5 (rs_in 88 (by decide +kernel))) rfl
theorem tw_1049 : (Jvm.Cond.methodLink "RouteSpeakerModel" (283 : Nat) ({ cls := "RouteSpeakerModel", name := "bestOf", desc := "(I)I" } : Jvm.MethodName)) ∈ rs_W := rs_f (rs_i5 (rs_in 89 (by decide +kernel))) rfl
theorem tw_1051 : (Jvm.Cond.instanceMethod ({ cls := "RouteSpeakerModel", name := "bestOf", desc := "(I)I" } : Jvm.MethodName)) ∈ rs_W := rs_f (rs_i5 (rs_in 91 (by decide +kernel))) rfl
theorem tw_1052 : (Jvm.Cond.code ({ cls := "RouteSpeakerModel", name := "bestOf", desc := "(I)I" } : Jvm.MethodName) prog_12_method_53_code (4 : Nat) (Option.some Jvm.ClassFile.FieldType.int)) ∈ rs_W := rs_f (rs_i5 (rs_in 92 (by decide +kernel))) rfl
theorem tw_1053 : (Jvm.Cond.methodLink "RouteSpeakerModel" (268 : Nat) ({ cls := "RouteSpeakerModel", name := "isBarred", desc := "(I)Z" } : Jvm.MethodName)) ∈ rs_W := rs_f (rs_i5 (rs_in 93 (by decide +kernel))) rfl
theorem tw_1055 : (Jvm.Cond.instanceMethod ({ cls := "RouteSpeakerModel", name := "isBarred", desc := "(I)Z" } : Jvm.MethodName)) ∈ rs_W := rs_f (rs_i5 (rs_in 95 (by decide +kernel))) rfl
theorem tw_1056 : (Jvm.Cond.code ({ cls := "RouteSpeakerModel", name := "isBarred", desc := "(I)Z" } : Jvm.MethodName) prog_12_method_45_code (4 : Nat) (Option.some Jvm.ClassFile.FieldType.boolean)) ∈ rs_W := rs_f (rs_i5 (rs_in 96 (by decide +kernel))) rfl
theorem tw_1057 : (Jvm.Cond.methodLink "RouteSpeakerModel" (271 : Nat) ({ cls := "RouteSpeakerModel", name := "isRejected", desc := "(II)Z" } : Jvm.MethodName)) ∈ rs_W := rs_f (rs_i5 (rs_in 97 (by decide +kernel))) rfl
theorem tw_1059 : (Jvm.Cond.instanceMethod ({ cls := "RouteSpeakerModel", name := "isRejected", desc := "(II)Z" } : Jvm.MethodName)) ∈ rs_W := rs_f (rs_i5 (rs_in 99 (by decide +kernel))) rfl
theorem tw_1060 : (Jvm.Cond.code ({ cls := "RouteSpeakerModel", name := "isRejected", desc := "(II)Z" } : Jvm.MethodName) prog_12_method_47_code (4 : Nat) (Option.some Jvm.ClassFile.FieldType.boolean)) ∈ rs_W := rs_f (rs_i5 (rs_in 100 (by decide +kernel))) rfl
theorem tw_1061 : (Jvm.Cond.methodLink "RouteSpeakerModel" (251 : Nat) ({ cls := "RouteSpeakerModel", name := "isWithin", desc := "(IIII)Z" } : Jvm.MethodName)) ∈ rs_W := rs_f (rs_i5 (rs_in 101 (by decide +kernel))) rfl
theorem tw_1062 : (Jvm.Cond.static ({ cls := "RouteSpeakerModel", name := "isWithin", desc := "(IIII)Z" } : Jvm.MethodName)) ∈ rs_W := rs_f (rs_i5 (rs_in 102 (by decide +kernel))) rfl
theorem tw_1063 : (Jvm.Cond.code ({ cls := "RouteSpeakerModel", name := "isWithin", desc := "(IIII)Z" } : Jvm.MethodName) prog_12_method_8_code (4 : Nat) (Option.some Jvm.ClassFile.FieldType.boolean)) ∈ rs_W := rs_f (rs_i5 (rs_in 103 (by decide +kernel))) rfl
theorem tw_1064 : (Jvm.Cond.methodLink "RouteSpeakerModel" (130 : Nat) ({ cls := "RouteSpeakerModel", name := "maskOf", desc := "(I)I" } : Jvm.MethodName)) ∈ rs_W := rs_f (rs_i5 (rs_in 104 (by decide +kernel))) rfl
theorem tw_1065 : (Jvm.Cond.static ({ cls := "RouteSpeakerModel", name := "maskOf", desc := "(I)I" } : Jvm.MethodName)) ∈ rs_W := rs_f (rs_i5 (rs_in 105 (by decide +kernel))) rfl
theorem tw_1066 : (Jvm.Cond.code ({ cls := "RouteSpeakerModel", name := "maskOf", desc := "(I)I" } : Jvm.MethodName) prog_12_method_6_code (1 : Nat) (Option.some Jvm.ClassFile.FieldType.int)) ∈ rs_W := rs_f (rs_i5 (rs_in 106 (by decide +kernel))) rfl
theorem tw_1067 : (Jvm.Cond.methodLink "RouteSpeakerModel" (274 : Nat) ({ cls := "RouteSpeakerModel", name := "dropBeaten", desc := "(I)V" } : Jvm.MethodName)) ∈ rs_W := rs_f (rs_i5 (rs_in 107 (by decide +kernel))) rfl
theorem tw_1069 : (Jvm.Cond.instanceMethod ({ cls := "RouteSpeakerModel", name := "dropBeaten", desc := "(I)V" } : Jvm.MethodName)) ∈ rs_W := rs_f (rs_i5 (rs_in 109 (by decide +kernel))) rfl
theorem tw_1070 : (Jvm.Cond.code ({ cls := "RouteSpeakerModel", name := "dropBeaten", desc := "(I)V" } : Jvm.MethodName) prog_12_method_52_code (4 : Nat) (Option.none : Option Jvm.ClassFile.FieldType)) ∈ rs_W := rs_f (rs_i5 (rs_in 110 (by decide +kernel))) rfl
theorem tw_1071 : (Jvm.Cond.methodLink "RouteSpeakerModel" (265 : Nat) ({ cls := "RouteSpeakerModel", name := "isBeaten", desc := "(II)Z" } : Jvm.MethodName)) ∈ rs_W := rs_f (rs_i5 (rs_in 111 (by decide +kernel))) rfl
theorem tw_1073 : (Jvm.Cond.instanceMethod ({ cls := "RouteSpeakerModel", name := "isBeaten", desc := "(II)Z" } : Jvm.MethodName)) ∈ rs_W := rs_f (rs_i5 (rs_in 113 (by decide +kernel))) rfl
theorem tw_1074 : (Jvm.Cond.code ({ cls := "RouteSpeakerModel", name := "isBeaten", desc := "(II)Z" } : Jvm.MethodName) prog_12_method_51_code (7 : Nat) (Option.some Jvm.ClassFile.FieldType.boolean)) ∈ rs_W := rs_f (rs_i5 (rs_in 114 (by decide +kernel))) rfl
theorem tw_1075 : (Jvm.Cond.methodLink "RouteSpeakerModel" (262 : Nat) ({ cls := "RouteSpeakerModel", name := "firstOf", desc := "(I)I" } : Jvm.MethodName)) ∈ rs_W := rs_f (rs_i5 (rs_in 115 (by decide +kernel))) rfl
theorem tw_1077 : (Jvm.Cond.instanceMethod ({ cls := "RouteSpeakerModel", name := "firstOf", desc := "(I)I" } : Jvm.MethodName)) ∈ rs_W := rs_f (rs_i5 (rs_in 117 (by decide +kernel))) rfl
theorem tw_1078 : (Jvm.Cond.code ({ cls := "RouteSpeakerModel", name := "firstOf", desc := "(I)I" } : Jvm.MethodName) prog_12_method_50_code (2 : Nat) (Option.some Jvm.ClassFile.FieldType.int)) ∈ rs_W := rs_f (rs_i5 (rs_in 118 (by decide +kernel))) rfl
theorem tw_1079 : (Jvm.Cond.methodLink "RouteSpeakerModel" (277 : Nat) ({ cls := "RouteSpeakerModel", name := "keepLeast", desc := "(II)V" } : Jvm.MethodName)) ∈ rs_W := rs_f (rs_i5 (rs_in 119 (by decide +kernel))) rfl
theorem tw_1081 : (Jvm.Cond.instanceMethod ({ cls := "RouteSpeakerModel", name := "keepLeast", desc := "(II)V" } : Jvm.MethodName)) ∈ rs_W := rs_f (rs_i5 (rs_in 121 (by decide +kernel))) rfl
theorem tw_1082 : (Jvm.Cond.code ({ cls := "RouteSpeakerModel", name := "keepLeast", desc := "(II)V" } : Jvm.MethodName) prog_12_method_49_code (6 : Nat) (Option.none : Option Jvm.ClassFile.FieldType)) ∈ rs_W := rs_f (rs_i5 (rs_in 122 (by decide +kernel))) rfl
theorem tw_1083 : (Jvm.Cond.constant "RouteSpeakerModel" (258 : Nat) (2147483647 : Int32)) ∈ rs_W := rs_f (rs_i5 (rs_in 123 (by decide +kernel))) rfl
theorem tw_1084 : (Jvm.Cond.methodLink "RouteSpeakerModel" (259 : Nat) ({ cls := "RouteSpeakerModel", name := "worth", desc := "(III)I" } : Jvm.MethodName)) ∈ rs_W := rs_f (rs_i5 (rs_in 124 (by decide +kernel))) rfl
theorem tw_1086 : (Jvm.Cond.instanceMethod ({ cls := "RouteSpeakerModel", name := "worth", desc := "(III)I" } : Jvm.MethodName)) ∈ rs_W := rs_f (rs_i5 (rs_in 126 (by decide +kernel))) rfl
theorem tw_1087 : (Jvm.Cond.code ({ cls := "RouteSpeakerModel", name := "worth", desc := "(III)I" } : Jvm.MethodName) prog_12_method_48_code (5 : Nat) (Option.some Jvm.ClassFile.FieldType.int)) ∈ rs_W := rs_f (rs_i5 (rs_in 127 (by decide +kernel))) rfl
theorem tw_1088 : (Jvm.Cond.methodLink "RouteSpeakerModel" (255 : Nat) ({ cls := "RouteSpeakerModel", name := "valued", desc := "(II)I" } : Jvm.MethodName)) ∈ rs_W := rs_f (rs_i5 (rs_in 128 (by decide +kernel))) rfl
theorem tw_1090 : (Jvm.Cond.instanceMethod ({ cls := "RouteSpeakerModel", name := "valued", desc := "(II)I" } : Jvm.MethodName)) ∈ rs_W := rs_f (rs_i5 (rs_in 130 (by decide +kernel))) rfl
theorem tw_1091 : (Jvm.Cond.code ({ cls := "RouteSpeakerModel", name := "valued", desc := "(II)I" } : Jvm.MethodName) prog_12_method_46_code (4 : Nat) (Option.some Jvm.ClassFile.FieldType.int)) ∈ rs_W := rs_f (rs_i5 (rs_in 131 (by decide +kernel))) rfl
theorem tw_1092 : (Jvm.Cond.methodLink "RouteSpeakerModel" (225 : Nat) ({ cls := "RouteSpeakerModel", name := "isInternal", desc := "(I)Z" } : Jvm.MethodName)) ∈ rs_W := rs_f (rs_i5 (rs_in 132 (by decide +kernel))) rfl
theorem tw_1094 : (Jvm.Cond.instanceMethod ({ cls := "RouteSpeakerModel", name := "isInternal", desc := "(I)Z" } : Jvm.MethodName)) ∈ rs_W := rs_f (rs_i5 (rs_in 134 (by decide +kernel))) rfl
theorem tw_1095 : (Jvm.Cond.code ({ cls := "RouteSpeakerModel", name := "isInternal", desc := "(I)Z" } : Jvm.MethodName) prog_12_method_31_code (2 : Nat) (Option.some Jvm.ClassFile.FieldType.boolean)) ∈ rs_W := rs_f (rs_i5 (rs_in 135 (by decide +kernel))) rfl
theorem tw_1096 : (Jvm.Cond.methodLink "RouteSpeakerModel" (286 : Nat) ({ cls := "RouteSpeakerModel", name := "dueInternal", desc := "(II)I" } : Jvm.MethodName)) ∈ rs_W := rs_f (rs_i5 (rs_in 136 (by decide +kernel))) rfl
theorem tw_1098 : (Jvm.Cond.instanceMethod ({ cls := "RouteSpeakerModel", name := "dueInternal", desc := "(II)I" } : Jvm.MethodName)) ∈ rs_W := rs_f (rs_i5 (rs_in 138 (by decide +kernel))) rfl
theorem tw_1099 : (Jvm.Cond.code ({ cls := "RouteSpeakerModel", name := "dueInternal", desc := "(II)I" } : Jvm.MethodName) prog_12_method_58_code (7 : Nat) (Option.some Jvm.ClassFile.FieldType.int)) ∈ rs_W := rs_f (rs_i5 (rs_in 139 (by decide +kernel))) rfl
theorem tw_1100 : (Jvm.Cond.methodLink "RouteSpeakerModel" (292 : Nat) ({ cls := "RouteSpeakerModel", name := "one", desc := "(III)I" } : Jvm.MethodName)) ∈ rs_W := rs_f (rs_i5 (rs_in 140 (by decide +kernel))) rfl
theorem tw_1102 : (Jvm.Cond.instanceMethod ({ cls := "RouteSpeakerModel", name := "one", desc := "(III)I" } : Jvm.MethodName)) ∈ rs_W := rs_f (rs_i5 (rs_in 142 (by decide +kernel))) rfl
theorem tw_1103 : (Jvm.Cond.code ({ cls := "RouteSpeakerModel", name := "one", desc := "(III)I" } : Jvm.MethodName) prog_12_method_55_code (4 : Nat) (Option.some Jvm.ClassFile.FieldType.int)) ∈ rs_W := rs_f (rs_i5 (rs_in 143 (by decide +kernel))) rfl
theorem tw_1104 : (Jvm.Cond.methodLink "RouteSpeakerModel" (280 : Nat) ({ cls := "RouteSpeakerModel", name := "want", desc := "(II)V" } : Jvm.MethodName)) ∈ rs_W := rs_f (rs_i5 (rs_in 144 (by decide +kernel))) rfl
theorem tw_1106 : (Jvm.Cond.instanceMethod ({ cls := "RouteSpeakerModel", name := "want", desc := "(II)V" } : Jvm.MethodName)) ∈ rs_W := rs_f (rs_i5 (rs_in 146 (by decide +kernel))) rfl
theorem tw_1107 : (Jvm.Cond.code ({ cls := "RouteSpeakerModel", name := "want", desc := "(II)V" } : Jvm.MethodName) prog_12_method_54_code (3 : Nat) (Option.none : Option Jvm.ClassFile.FieldType)) ∈ rs_W := rs_f (rs_i5 (rs_in 147 (by decide +kernel))) rfl
theorem tw_1108 : (Jvm.Cond.methodLink "RouteSpeakerModel" (289 : Nat) ({ cls := "RouteSpeakerModel", name := "dueExternal", desc := "(II)I" } : Jvm.MethodName)) ∈ rs_W := rs_f (rs_i5 (rs_in 148 (by decide +kernel))) rfl
theorem tw_1110 : (Jvm.Cond.instanceMethod ({ cls := "RouteSpeakerModel", name := "dueExternal", desc := "(II)I" } : Jvm.MethodName)) ∈ rs_W := rs_f (rs_i5 (rs_in 150 (by decide +kernel))) rfl
theorem tw_1111 : (Jvm.Cond.code ({ cls := "RouteSpeakerModel", name := "dueExternal", desc := "(II)I" } : Jvm.MethodName) prog_12_method_57_code (6 : Nat) (Option.some Jvm.ClassFile.FieldType.int)) ∈ rs_W := rs_f (rs_i5 (rs_in 151 (by decide +kernel))) rfl
theorem tw_1112 : (Jvm.Cond.methodLink "RouteSpeakerModel" (298 : Nat) ({ cls := "RouteSpeakerModel", name := "isTold", desc := "(II)Z" } : Jvm.MethodName)) ∈ rs_W := rs_f (rs_i5 (rs_in 152 (by decide +kernel))) rfl
theorem tw_1114 : (Jvm.Cond.instanceMethod ({ cls := "RouteSpeakerModel", name := "isTold", desc := "(II)Z" } : Jvm.MethodName)) ∈ rs_W := rs_f (rs_i5 (rs_in 154 (by decide +kernel))) rfl
theorem tw_1115 : (Jvm.Cond.code ({ cls := "RouteSpeakerModel", name := "isTold", desc := "(II)Z" } : Jvm.MethodName) prog_12_method_59_code (5 : Nat) (Option.some Jvm.ClassFile.FieldType.boolean)) ∈ rs_W := rs_f (rs_i5 (rs_in 155 (by decide +kernel))) rfl
theorem tw_1116 : (Jvm.Cond.methodLink "RouteSpeakerModel" (148 : Nat) ({ cls := "RouteSpeakerModel", name := "begin", desc := "(I)V" } : Jvm.MethodName)) ∈ rs_W := rs_f (rs_i5 (rs_in 156 (by decide +kernel))) rfl
theorem tw_1118 : (Jvm.Cond.instanceMethod ({ cls := "RouteSpeakerModel", name := "begin", desc := "(I)V" } : Jvm.MethodName)) ∈ rs_W := rs_f (rs_i5 (rs_in 158 (by decide +kernel))) rfl
theorem tw_1119 : (Jvm.Cond.code ({ cls := "RouteSpeakerModel", name := "begin", desc := "(I)V" } : Jvm.MethodName) prog_12_method_11_code (2 : Nat) (Option.none : Option Jvm.ClassFile.FieldType)) ∈ rs_W := rs_f (rs_i5 (rs_in 159 (by decide +kernel))) rfl
theorem tw_1120 : (Jvm.Cond.methodLink "RouteSpeakerModel" (151 : Nat) ({ cls := "RouteSpeakerModel", name := "add", desc := "(I)V" } : Jvm.MethodName)) ∈ rs_W := rs_f (rs_i5 (rs_in 160 (by decide +kernel))) rfl
theorem tw_1122 : (Jvm.Cond.instanceMethod ({ cls := "RouteSpeakerModel", name := "add", desc := "(I)V" } : Jvm.MethodName)) ∈ rs_W := rs_f (rs_i5 (rs_in 162 (by decide +kernel))) rfl
theorem tw_1123 : (Jvm.Cond.code ({ cls := "RouteSpeakerModel", name := "add", desc := "(I)V" } : Jvm.MethodName) prog_12_method_12_code (2 : Nat) (Option.none : Option Jvm.ClassFile.FieldType)) ∈ rs_W := rs_f (rs_i5 (rs_in 163 (by decide +kernel))) rfl
theorem tw_1124 : (Jvm.Cond.methodLink "RouteSpeakerModel" (154 : Nat) ({ cls := "RouteSpeakerModel", name := "send", desc := "(I)Z" } : Jvm.MethodName)) ∈ rs_W := rs_f (rs_i5 (rs_in 164 (by decide +kernel))) rfl
theorem tw_1126 : (Jvm.Cond.instanceMethod ({ cls := "RouteSpeakerModel", name := "send", desc := "(I)Z" } : Jvm.MethodName)) ∈ rs_W := rs_f (rs_i5 (rs_in 166 (by decide +kernel))) rfl
theorem tw_1127 : (Jvm.Cond.code ({ cls := "RouteSpeakerModel", name := "send", desc := "(I)Z" } : Jvm.MethodName) prog_12_method_14_code (3 : Nat) (Option.some Jvm.ClassFile.FieldType.boolean)) ∈ rs_W := rs_f (rs_i5 (rs_in 167 (by decide +kernel))) rfl
theorem tw_1128 : (Jvm.Cond.methodLink "RouteSpeakerModel" (144 : Nat) ({ cls := "RouteSpeakerModel", name := "close", desc := "(I)V" } : Jvm.MethodName)) ∈ rs_W := rs_f (rs_i5 (rs_in 168 (by decide +kernel))) rfl
theorem tw_1130 : (Jvm.Cond.instanceMethod ({ cls := "RouteSpeakerModel", name := "close", desc := "(I)V" } : Jvm.MethodName)) ∈ rs_W := rs_f (rs_i5 (rs_in 170 (by decide +kernel))) rfl
theorem tw_1131 : (Jvm.Cond.code ({ cls := "RouteSpeakerModel", name := "close", desc := "(I)V" } : Jvm.MethodName) prog_12_method_13_code (3 : Nat) (Option.none : Option Jvm.ClassFile.FieldType)) ∈ rs_W := rs_f (rs_i5 (rs_in 171 (by decide +kernel))) rfl
theorem tw_1132 : (Jvm.Cond.methodLink "RouteSpeakerLaw" (83 : Nat) ({ cls := "RouteSpeakerModel", name := "rule", desc := "(IIII)V" } : Jvm.MethodName)) ∈ rs_W := rs_f (rs_i5 (rs_in 172 (by decide +kernel))) rfl
theorem tw_1133 : (Jvm.Cond.instanceMethod ({ cls := "RouteSpeakerModel", name := "rule", desc := "(IIII)V" } : Jvm.MethodName)) ∈ rs_W := rs_f (rs_i5 (rs_in 173 (by decide +kernel))) rfl
theorem tw_1134 : (Jvm.Cond.selects "RouteSpeakerModel" ({ cls := "RouteSpeakerModel", name := "rule", desc := "(IIII)V" } : Jvm.MethodName) ({ cls := "RouteSpeakerModel", name := "rule", desc := "(IIII)V" } : Jvm.MethodName)) ∈ rs_W := rs_f (rs_i5 (rs_in 174 (by decide +kernel))) rfl
theorem tw_1135 : (Jvm.Cond.code ({ cls := "RouteSpeakerModel", name := "rule", desc := "(IIII)V" } : Jvm.MethodName) prog_12_method_18_code (7 : Nat) (Option.none : Option Jvm.ClassFile.FieldType)) ∈ rs_W := rs_f (rs_i5 (rs_in 175 (by decide +kernel))) rfl
theorem tw_1136 : (Jvm.Cond.methodLink "RouteSpeakerModel" (167 : Nat) ({ cls := "RouteSpeakerModel", name := "isPrefix", desc := "(II)Z" } : Jvm.MethodName)) ∈ rs_W := rs_f (rs_i5 (rs_in 176 (by decide +kernel))) rfl
theorem tw_1137 : (Jvm.Cond.static ({ cls := "RouteSpeakerModel", name := "isPrefix", desc := "(II)Z" } : Jvm.MethodName)) ∈ rs_W := rs_f (rs_i5 (rs_in 177 (by decide +kernel))) rfl
theorem tw_1138 : (Jvm.Cond.code ({ cls := "RouteSpeakerModel", name := "isPrefix", desc := "(II)Z" } : Jvm.MethodName) prog_12_method_7_code (2 : Nat) (Option.some Jvm.ClassFile.FieldType.boolean)) ∈ rs_W := rs_f (rs_i5 (rs_in 178 (by decide +kernel))) rfl
theorem tw_1139 : (Jvm.Cond.methodLink "RouteSpeakerLaw" (87 : Nat) ({ cls := "RouteSpeakerModel", name := "unrule", desc := "(I)V" } : Jvm.MethodName)) ∈ rs_W := rs_f (rs_i5 (rs_in 179 (by decide +kernel))) rfl
theorem tw_1140 : (Jvm.Cond.instanceMethod ({ cls := "RouteSpeakerModel", name := "unrule", desc := "(I)V" } : Jvm.MethodName)) ∈ rs_W := rs_f (rs_i5 (rs_in 180 (by decide +kernel))) rfl
theorem tw_1141 : (Jvm.Cond.selects "RouteSpeakerModel" ({ cls := "RouteSpeakerModel", name := "unrule", desc := "(I)V" } : Jvm.MethodName) ({ cls := "RouteSpeakerModel", name := "unrule", desc := "(I)V" } : Jvm.MethodName)) ∈ rs_W := rs_f (rs_i5 (rs_in 181 (by decide +kernel))) rfl
theorem tw_1142 : (Jvm.Cond.code ({ cls := "RouteSpeakerModel", name := "unrule", desc := "(I)V" } : Jvm.MethodName) prog_12_method_19_code (2 : Nat) (Option.none : Option Jvm.ClassFile.FieldType)) ∈ rs_W := rs_f (rs_i5 (rs_in 182 (by decide +kernel))) rfl
theorem tw_1143 : (Jvm.Cond.methodLink "RouteSpeakerLaw" (90 : Nat) ({ cls := "RouteSpeakerModel", name := "outbound", desc := "(IIII)V" } : Jvm.MethodName)) ∈ rs_W := rs_f (rs_i5 (rs_in 183 (by decide +kernel))) rfl
theorem tw_1144 : (Jvm.Cond.instanceMethod ({ cls := "RouteSpeakerModel", name := "outbound", desc := "(IIII)V" } : Jvm.MethodName)) ∈ rs_W := rs_f (rs_i5 (rs_in 184 (by decide +kernel))) rfl
theorem tw_1145 : (Jvm.Cond.selects "RouteSpeakerModel" ({ cls := "RouteSpeakerModel", name := "outbound", desc := "(IIII)V" } : Jvm.MethodName) ({ cls := "RouteSpeakerModel", name := "outbound", desc := "(IIII)V" } : Jvm.MethodName)) ∈ rs_W := rs_f (rs_i5 (rs_in 185 (by decide +kernel))) rfl
theorem tw_1146 : (Jvm.Cond.code ({ cls := "RouteSpeakerModel", name := "outbound", desc := "(IIII)V" } : Jvm.MethodName) prog_12_method_20_code (5 : Nat) (Option.none : Option Jvm.ClassFile.FieldType)) ∈ rs_W := rs_f (rs_i5 (rs_in 186 (by decide +kernel))) rfl
theorem tw_1147 : (Jvm.Cond.methodLink "RouteSpeakerLaw" (94 : Nat) ({ cls := "RouteSpeakerModel", name := "originate", desc := "(II)Z" } : Jvm.MethodName)) ∈ rs_W := rs_f (rs_i5 (rs_in 187 (by decide +kernel))) rfl
theorem tw_1148 : (Jvm.Cond.instanceMethod ({ cls := "RouteSpeakerModel", name := "originate", desc := "(II)Z" } : Jvm.MethodName)) ∈ rs_W := rs_f (rs_i5 (rs_in 188 (by decide +kernel))) rfl
theorem tw_1149 : (Jvm.Cond.selects "RouteSpeakerModel" ({ cls := "RouteSpeakerModel", name := "originate", desc := "(II)Z" } : Jvm.MethodName) ({ cls := "RouteSpeakerModel", name := "originate", desc := "(II)Z" } : Jvm.MethodName)) ∈ rs_W := rs_f (rs_i5 (rs_in 189 (by decide +kernel))) rfl
theorem tw_1150 : (Jvm.Cond.code ({ cls := "RouteSpeakerModel", name := "originate", desc := "(II)Z" } : Jvm.MethodName) prog_12_method_21_code (5 : Nat) (Option.some Jvm.ClassFile.FieldType.boolean)) ∈ rs_W := rs_f (rs_i5 (rs_in 190 (by decide +kernel))) rfl
theorem tw_1151 : (Jvm.Cond.methodLink "RouteSpeakerModel" (137 : Nat) ({ cls := "RouteSpeakerModel", name := "find", desc := "(II)I" } : Jvm.MethodName)) ∈ rs_W := rs_f (rs_i5 (rs_in 191 (by decide +kernel))) rfl
theorem tw_1153 : (Jvm.Cond.instanceMethod ({ cls := "RouteSpeakerModel", name := "find", desc := "(II)I" } : Jvm.MethodName)) ∈ rs_W := rs_f (rs_i5 (rs_in 193 (by decide +kernel))) rfl
theorem tw_1154 : (Jvm.Cond.code ({ cls := "RouteSpeakerModel", name := "find", desc := "(II)I" } : Jvm.MethodName) prog_12_method_9_code (4 : Nat) (Option.some Jvm.ClassFile.FieldType.int)) ∈ rs_W := rs_f (rs_i5 (rs_in 194 (by decide +kernel))) rfl
theorem tw_1155 : (Jvm.Cond.methodLink "RouteSpeakerModel" (171 : Nat) ({ cls := "RouteSpeakerModel", name := "learned", desc := "(II)I" } : Jvm.MethodName)) ∈ rs_W := rs_f (rs_i5 (rs_in 195 (by decide +kernel))) rfl
theorem tw_1157 : (Jvm.Cond.instanceMethod ({ cls := "RouteSpeakerModel", name := "learned", desc := "(II)I" } : Jvm.MethodName)) ∈ rs_W := rs_f (rs_i5 (rs_in 197 (by decide +kernel))) rfl
theorem tw_1158 : (Jvm.Cond.code ({ cls := "RouteSpeakerModel", name := "learned", desc := "(II)I" } : Jvm.MethodName) prog_12_method_10_code (4 : Nat) (Option.some Jvm.ClassFile.FieldType.int)) ∈ rs_W := rs_f (rs_i5 (rs_in 198 (by decide +kernel))) rfl
theorem tw_1159 : (Jvm.Cond.methodLink "RouteSpeakerLaw" (97 : Nat) ({ cls := "RouteSpeakerModel", name := "retract", desc := "(II)Z" } : Jvm.MethodName)) ∈ rs_W := rs_f (rs_i5 (rs_in 199 (by decide +kernel))) rfl
theorem tw_1160 : (Jvm.Cond.instanceMethod ({ cls := "RouteSpeakerModel", name := "retract", desc := "(II)Z" } : Jvm.MethodName)) ∈ rs_W := rs_f (rs_i5 (rs_in 200 (by decide +kernel))) rfl
theorem tw_1161 : (Jvm.Cond.selects "RouteSpeakerModel" ({ cls := "RouteSpeakerModel", name := "retract", desc := "(II)Z" } : Jvm.MethodName) ({ cls := "RouteSpeakerModel", name := "retract", desc := "(II)Z" } : Jvm.MethodName)) ∈ rs_W := rs_f (rs_i5 (rs_in 201 (by decide +kernel))) rfl
theorem tw_1162 : (Jvm.Cond.code ({ cls := "RouteSpeakerModel", name := "retract", desc := "(II)Z" } : Jvm.MethodName) prog_12_method_22_code (4 : Nat) (Option.some Jvm.ClassFile.FieldType.boolean)) ∈ rs_W := rs_f (rs_i5 (rs_in 202 (by decide +kernel))) rfl
theorem tw_1163 : (Jvm.Cond.methodLink "RouteSpeakerLaw" (101 : Nat) ({ cls := "RouteSpeakerModel", name := "start", desc := "(I)Z" } : Jvm.MethodName)) ∈ rs_W := rs_f (rs_i5 (rs_in 203 (by decide +kernel))) rfl
theorem tw_1164 : (Jvm.Cond.instanceMethod ({ cls := "RouteSpeakerModel", name := "start", desc := "(I)Z" } : Jvm.MethodName)) ∈ rs_W := rs_f (rs_i5 (rs_in 204 (by decide +kernel))) rfl
theorem tw_1165 : (Jvm.Cond.selects "RouteSpeakerModel" ({ cls := "RouteSpeakerModel", name := "start", desc := "(I)Z" } : Jvm.MethodName) ({ cls := "RouteSpeakerModel", name := "start", desc := "(I)Z" } : Jvm.MethodName)) ∈ rs_W := rs_f (rs_i5 (rs_in 205 (by decide +kernel))) rfl
theorem tw_1166 : (Jvm.Cond.code ({ cls := "RouteSpeakerModel", name := "start", desc := "(I)Z" } : Jvm.MethodName) prog_12_method_23_code (2 : Nat) (Option.some Jvm.ClassFile.FieldType.boolean)) ∈ rs_W := rs_f (rs_i5 (rs_in 206 (by decide +kernel))) rfl
theorem tw_1167 : (Jvm.Cond.methodLink "RouteSpeakerLaw" (104 : Nat) ({ cls := "RouteSpeakerModel", name := "stop", desc := "(I)Z" } : Jvm.MethodName)) ∈ rs_W := rs_f (rs_i5 (rs_in 207 (by decide +kernel))) rfl
theorem tw_1168 : (Jvm.Cond.instanceMethod ({ cls := "RouteSpeakerModel", name := "stop", desc := "(I)Z" } : Jvm.MethodName)) ∈ rs_W := rs_f (rs_i5 (rs_in 208 (by decide +kernel))) rfl
theorem tw_1169 : (Jvm.Cond.selects "RouteSpeakerModel" ({ cls := "RouteSpeakerModel", name := "stop", desc := "(I)Z" } : Jvm.MethodName) ({ cls := "RouteSpeakerModel", name := "stop", desc := "(I)Z" } : Jvm.MethodName)) ∈ rs_W := rs_f (rs_i5 (rs_in 209 (by decide +kernel))) rfl
theorem tw_1170 : (Jvm.Cond.code ({ cls := "RouteSpeakerModel", name := "stop", desc := "(I)Z" } : Jvm.MethodName) prog_12_method_24_code (2 : Nat) (Option.some Jvm.ClassFile.FieldType.boolean)) ∈ rs_W := rs_f (rs_i5 (rs_in 210 (by decide +kernel))) rfl
theorem tw_1171 : (Jvm.Cond.methodLink "RouteSpeakerModel" (174 : Nat) ({ cls := "RouteSpeakerModel", name := "end", desc := "(III)V" } : Jvm.MethodName)) ∈ rs_W := rs_f (rs_i5 (rs_in 211 (by decide +kernel))) rfl
theorem tw_1173 : (Jvm.Cond.instanceMethod ({ cls := "RouteSpeakerModel", name := "end", desc := "(III)V" } : Jvm.MethodName)) ∈ rs_W := rs_f (rs_i5 (rs_in 213 (by decide +kernel))) rfl
theorem tw_1174 : (Jvm.Cond.code ({ cls := "RouteSpeakerModel", name := "end", desc := "(III)V" } : Jvm.MethodName) prog_12_method_15_code (4 : Nat) (Option.none : Option Jvm.ClassFile.FieldType)) ∈ rs_W := rs_f (rs_i5 (rs_in 214 (by decide +kernel))) rfl
theorem tw_1175 : (Jvm.Cond.methodLink "RouteSpeakerLaw" (110 : Nat) ({ cls := "RouteSpeakerModel", name := "feed", desc := "(IJI)Z" } : Jvm.MethodName)) ∈ rs_W := rs_f (rs_i5 (rs_in 215 (by decide +kernel))) rfl
theorem tw_1176 : (Jvm.Cond.instanceMethod ({ cls := "RouteSpeakerModel", name := "feed", desc := "(IJI)Z" } : Jvm.MethodName)) ∈ rs_W := rs_f (rs_i5 (rs_in 216 (by decide +kernel))) rfl
theorem tw_1177 : (Jvm.Cond.selects "RouteSpeakerModel" ({ cls := "RouteSpeakerModel", name := "feed", desc := "(IJI)Z" } : Jvm.MethodName) ({ cls := "RouteSpeakerModel", name := "feed", desc := "(IJI)Z" } : Jvm.MethodName)) ∈ rs_W := rs_f (rs_i5 (rs_in 217 (by decide +kernel))) rfl
theorem tw_1178 : (Jvm.Cond.code ({ cls := "RouteSpeakerModel", name := "feed", desc := "(IJI)Z" } : Jvm.MethodName) prog_12_method_25_code (6 : Nat) (Option.some Jvm.ClassFile.FieldType.boolean)) ∈ rs_W := rs_f (rs_i5 (rs_in 218 (by decide +kernel))) rfl
theorem tw_1179 : (Jvm.Cond.constantLong "RouteSpeakerModel" (178 : Nat) (255 : Int64)) ∈ rs_W := rs_f (rs_i5 (rs_in 219 (by decide +kernel))) rfl
theorem tw_1180 : (Jvm.Cond.methodLink "RouteSpeakerModel" (180 : Nat) ({ cls := "RouteSpeakerModel", name := "come", desc := "(II)V" } : Jvm.MethodName)) ∈ rs_W := rs_f (rs_i5 (rs_in 220 (by decide +kernel))) rfl
theorem tw_1182 : (Jvm.Cond.instanceMethod ({ cls := "RouteSpeakerModel", name := "come", desc := "(II)V" } : Jvm.MethodName)) ∈ rs_W := rs_f (rs_i5 (rs_in 222 (by decide +kernel))) rfl
theorem tw_1183 : (Jvm.Cond.code ({ cls := "RouteSpeakerModel", name := "come", desc := "(II)V" } : Jvm.MethodName) prog_12_method_26_code (3 : Nat) (Option.none : Option Jvm.ClassFile.FieldType)) ∈ rs_W := rs_f (rs_i5 (rs_in 223 (by decide +kernel))) rfl
theorem tw_1184 : (Jvm.Cond.methodLink "RouteSpeakerModel" (184 : Nat) ({ cls := "RouteSpeakerModel", name := "look", desc := "(III)V" } : Jvm.MethodName)) ∈ rs_W := rs_f (rs_i5 (rs_in 224 (by decide +kernel))) rfl
theorem tw_1186 : (Jvm.Cond.instanceMethod ({ cls := "RouteSpeakerModel", name := "look", desc := "(III)V" } : Jvm.MethodName)) ∈ rs_W := rs_f (rs_i5 (rs_in 226 (by decide +kernel))) rfl
theorem tw_1187 : (Jvm.Cond.code ({ cls := "RouteSpeakerModel", name := "look", desc := "(III)V" } : Jvm.MethodName) prog_12_method_27_code (6 : Nat) (Option.none : Option Jvm.ClassFile.FieldType)) ∈ rs_W := rs_f (rs_i5 (rs_in 227 (by decide +kernel))) rfl
theorem tw_1188 : (Jvm.Cond.methodLink "RouteSpeakerModel" (187 : Nat) ({ cls := "RouteSpeakerModel", name := "opened", desc := "(III)V" } : Jvm.MethodName)) ∈ rs_W := rs_f (rs_i5 (rs_in 228 (by decide +kernel))) rfl
theorem tw_1190 : (Jvm.Cond.instanceMethod ({ cls := "RouteSpeakerModel", name := "opened", desc := "(III)V" } : Jvm.MethodName)) ∈ rs_W := rs_f (rs_i5 (rs_in 230 (by decide +kernel))) rfl
theorem tw_1191 : (Jvm.Cond.code ({ cls := "RouteSpeakerModel", name := "opened", desc := "(III)V" } : Jvm.MethodName) prog_12_method_28_code (5 : Nat) (Option.none : Option Jvm.ClassFile.FieldType)) ∈ rs_W := rs_f (rs_i5 (rs_in 231 (by decide +kernel))) rfl
theorem tw_1192 : (Jvm.Cond.methodLink "RouteSpeakerModel" (196 : Nat) ({ cls := "RouteSpeakerModel", name := "keepAlive", desc := "(I)V" } : Jvm.MethodName)) ∈ rs_W := rs_f (rs_i5 (rs_in 232 (by decide +kernel))) rfl
theorem tw_1194 : (Jvm.Cond.instanceMethod ({ cls := "RouteSpeakerModel", name := "keepAlive", desc := "(I)V" } : Jvm.MethodName)) ∈ rs_W := rs_f (rs_i5 (rs_in 234 (by decide +kernel))) rfl
theorem tw_1195 : (Jvm.Cond.code ({ cls := "RouteSpeakerModel", name := "keepAlive", desc := "(I)V" } : Jvm.MethodName) prog_12_method_16_code (2 : Nat) (Option.none : Option Jvm.ClassFile.FieldType)) ∈ rs_W := rs_f (rs_i5 (rs_in 235 (by decide +kernel))) rfl
theorem tw_1196 : (Jvm.Cond.methodLink "RouteSpeakerModel" (190 : Nat) ({ cls := "RouteSpeakerModel", name := "agreed", desc := "(II)V" } : Jvm.MethodName)) ∈ rs_W := rs_f (rs_i5 (rs_in 236 (by decide +kernel))) rfl
theorem tw_1198 : (Jvm.Cond.instanceMethod ({ cls := "RouteSpeakerModel", name := "agreed", desc := "(II)V" } : Jvm.MethodName)) ∈ rs_W := rs_f (rs_i5 (rs_in 238 (by decide +kernel))) rfl
theorem tw_1199 : (Jvm.Cond.code ({ cls := "RouteSpeakerModel", name := "agreed", desc := "(II)V" } : Jvm.MethodName) prog_12_method_29_code (3 : Nat) (Option.none : Option Jvm.ClassFile.FieldType)) ∈ rs_W := rs_f (rs_i5 (rs_in 239 (by decide +kernel))) rfl
theorem tw_1200 : (Jvm.Cond.methodLink "RouteSpeakerModel" (193 : Nat) ({ cls := "RouteSpeakerModel", name := "update", desc := "(III)V" } : Jvm.MethodName)) ∈ rs_W := rs_f (rs_i6 (rs_in 0 (by decide +kernel))) rfl
theorem tw_1202 : (Jvm.Cond.instanceMethod ({ cls := "RouteSpeakerModel", name := "update", desc := "(III)V" } : Jvm.MethodName)) ∈ rs_W := rs_f (rs_i6 (rs_in 2 (by decide +kernel))) rfl
theorem tw_1203 : (Jvm.Cond.code ({ cls := "RouteSpeakerModel", name := "update", desc := "(III)V" } : Jvm.MethodName) prog_12_method_32_code (9 : Nat) (Option.none : Option Jvm.ClassFile.FieldType)) ∈ rs_W := rs_f (rs_i6 (rs_in 3 (by decide +kernel))) rfl
theorem tw_1204 : (Jvm.Cond.methodLink "RouteSpeakerModel" (203 : Nat) ({ cls := "RouteSpeakerModel", name := "badAttributes", desc := "(II)I" } : Jvm.MethodName)) ∈ rs_W := rs_f (rs_i6 (rs_in 4 (by decide +kernel))) rfl
theorem tw_1206 : (Jvm.Cond.instanceMethod ({ cls := "RouteSpeakerModel", name := "badAttributes", desc := "(II)I" } : Jvm.MethodName)) ∈ rs_W := rs_f (rs_i6 (rs_in 6 (by decide +kernel))) rfl
theorem tw_1207 : (Jvm.Cond.code ({ cls := "RouteSpeakerModel", name := "badAttributes", desc := "(II)I" } : Jvm.MethodName) prog_12_method_35_code (7 : Nat) (Option.some Jvm.ClassFile.FieldType.int)) ∈ rs_W := rs_f (rs_i6 (rs_in 7 (by decide +kernel))) rfl
theorem tw_1208 : (Jvm.Cond.methodLink "RouteSpeakerModel" (218 : Nat) ({ cls := "RouteSpeakerModel", name := "isName", desc := "(I)Z" } : Jvm.MethodName)) ∈ rs_W := rs_f (rs_i6 (rs_in 8 (by decide +kernel))) rfl
theorem tw_1209 : (Jvm.Cond.static ({ cls := "RouteSpeakerModel", name := "isName", desc := "(I)Z" } : Jvm.MethodName)) ∈ rs_W := rs_f (rs_i6 (rs_in 9 (by decide +kernel))) rfl
theorem tw_1210 : (Jvm.Cond.code ({ cls := "RouteSpeakerModel", name := "isName", desc := "(I)Z" } : Jvm.MethodName) prog_12_method_34_code (1 : Nat) (Option.some Jvm.ClassFile.FieldType.boolean)) ∈ rs_W := rs_f (rs_i6 (rs_in 10 (by decide +kernel))) rfl
theorem tw_1211 : (Jvm.Cond.methodLink "RouteSpeakerModel" (221 : Nat) ({ cls := "RouteSpeakerModel", name := "badValue", desc := "(III)I" } : Jvm.MethodName)) ∈ rs_W := rs_f (rs_i6 (rs_in 11 (by decide +kernel))) rfl
theorem tw_1213 : (Jvm.Cond.instanceMethod ({ cls := "RouteSpeakerModel", name := "badValue", desc := "(III)I" } : Jvm.MethodName)) ∈ rs_W := rs_f (rs_i6 (rs_in 13 (by decide +kernel))) rfl
theorem tw_1214 : (Jvm.Cond.code ({ cls := "RouteSpeakerModel", name := "badValue", desc := "(III)I" } : Jvm.MethodName) prog_12_method_36_code (6 : Nat) (Option.some Jvm.ClassFile.FieldType.int)) ∈ rs_W := rs_f (rs_i6 (rs_in 14 (by decide +kernel))) rfl
theorem tw_1215 : (Jvm.Cond.methodLink "RouteSpeakerModel" (206 : Nat) ({ cls := "RouteSpeakerModel", name := "badRoute", desc := "(I)I" } : Jvm.MethodName)) ∈ rs_W := rs_f (rs_i6 (rs_in 15 (by decide +kernel))) rfl
theorem tw_1217 : (Jvm.Cond.instanceMethod ({ cls := "RouteSpeakerModel", name := "badRoute", desc := "(I)I" } : Jvm.MethodName)) ∈ rs_W := rs_f (rs_i6 (rs_in 17 (by decide +kernel))) rfl
theorem tw_1218 : (Jvm.Cond.code ({ cls := "RouteSpeakerModel", name := "badRoute", desc := "(I)I" } : Jvm.MethodName) prog_12_method_37_code (3 : Nat) (Option.some Jvm.ClassFile.FieldType.int)) ∈ rs_W := rs_f (rs_i6 (rs_in 18 (by decide +kernel))) rfl
theorem tw_1219 : (Jvm.Cond.methodLink "RouteSpeakerModel" (209 : Nat) ({ cls := "RouteSpeakerModel", name := "fresh", desc := "(II)I" } : Jvm.MethodName)) ∈ rs_W := rs_f (rs_i6 (rs_in 19 (by decide +kernel))) rfl
theorem tw_1221 : (Jvm.Cond.instanceMethod ({ cls := "RouteSpeakerModel", name := "fresh", desc := "(II)I" } : Jvm.MethodName)) ∈ rs_W := rs_f (rs_i6 (rs_in 21 (by decide +kernel))) rfl
theorem tw_1222 : (Jvm.Cond.code ({ cls := "RouteSpeakerModel", name := "fresh", desc := "(II)I" } : Jvm.MethodName) prog_12_method_33_code (7 : Nat) (Option.some Jvm.ClassFile.FieldType.int)) ∈ rs_W := rs_f (rs_i6 (rs_in 22 (by decide +kernel))) rfl
theorem tw_1223 : (Jvm.Cond.methodLink "RouteSpeakerModel" (212 : Nat) ({ cls := "RouteSpeakerModel", name := "withdraw", desc := "(III)V" } : Jvm.MethodName)) ∈ rs_W := rs_f (rs_i6 (rs_in 23 (by decide +kernel))) rfl
theorem tw_1225 : (Jvm.Cond.instanceMethod ({ cls := "RouteSpeakerModel", name := "withdraw", desc := "(III)V" } : Jvm.MethodName)) ∈ rs_W := rs_f (rs_i6 (rs_in 25 (by decide +kernel))) rfl
theorem tw_1226 : (Jvm.Cond.code ({ cls := "RouteSpeakerModel", name := "withdraw", desc := "(III)V" } : Jvm.MethodName) prog_12_method_43_code (5 : Nat) (Option.none : Option Jvm.ClassFile.FieldType)) ∈ rs_W := rs_f (rs_i6 (rs_in 26 (by decide +kernel))) rfl
theorem tw_1227 : (Jvm.Cond.constantDouble "RouteSpeakerModel" (233 : Nat) (4652007308841189376 : UInt64)) ∈ rs_W := rs_f (rs_i6 (rs_in 27 (by decide +kernel))) rfl
theorem tw_1228 : (Jvm.Cond.methodLink "RouteSpeakerModel" (235 : Nat) ({ cls := "RouteSpeakerModel", name := "grows", desc := "(ID)V" } : Jvm.MethodName)) ∈ rs_W := rs_f (rs_i6 (rs_in 28 (by decide +kernel))) rfl
theorem tw_1230 : (Jvm.Cond.instanceMethod ({ cls := "RouteSpeakerModel", name := "grows", desc := "(ID)V" } : Jvm.MethodName)) ∈ rs_W := rs_f (rs_i6 (rs_in 30 (by decide +kernel))) rfl
theorem tw_1231 : (Jvm.Cond.code ({ cls := "RouteSpeakerModel", name := "grows", desc := "(ID)V" } : Jvm.MethodName) prog_12_method_42_code (4 : Nat) (Option.none : Option Jvm.ClassFile.FieldType)) ∈ rs_W := rs_f (rs_i6 (rs_in 31 (by decide +kernel))) rfl
theorem tw_1232 : (Jvm.Cond.constantDouble "RouteSpeakerModel" (231 : Nat) (4656510908468559872 : UInt64)) ∈ rs_W := rs_f (rs_i6 (rs_in 32 (by decide +kernel))) rfl
theorem tw_1233 : (Jvm.Cond.methodLink "RouteSpeakerModel" (215 : Nat) ({ cls := "RouteSpeakerModel", name := "announce", desc := "(III)V" } : Jvm.MethodName)) ∈ rs_W := rs_f (rs_i6 (rs_in 33 (by decide +kernel))) rfl
theorem tw_1235 : (Jvm.Cond.instanceMethod ({ cls := "RouteSpeakerModel", name := "announce", desc := "(III)V" } : Jvm.MethodName)) ∈ rs_W := rs_f (rs_i6 (rs_in 35 (by decide +kernel))) rfl
theorem tw_1236 : (Jvm.Cond.code ({ cls := "RouteSpeakerModel", name := "announce", desc := "(III)V" } : Jvm.MethodName) prog_12_method_44_code (5 : Nat) (Option.none : Option Jvm.ClassFile.FieldType)) ∈ rs_W := rs_f (rs_i6 (rs_in 36 (by decide +kernel))) rfl
theorem tw_1237 : (Jvm.Cond.methodLink "RouteSpeakerModel" (239 : Nat) ({ cls := "RouteSpeakerModel", name := "hand", desc := "(Z)V" } : Jvm.MethodName)) ∈ rs_W := rs_f (rs_i6 (rs_in 37 (by decide +kernel))) rfl
theorem tw_1239 : (Jvm.Cond.instanceMethod ({ cls := "RouteSpeakerModel", name := "hand", desc := "(Z)V" } : Jvm.MethodName)) ∈ rs_W := rs_f (rs_i6 (rs_in 39 (by decide +kernel))) rfl
theorem tw_1240 : (Jvm.Cond.code ({ cls := "RouteSpeakerModel", name := "hand", desc := "(Z)V" } : Jvm.MethodName) prog_12_method_39_code (4 : Nat) (Option.none : Option Jvm.ClassFile.FieldType)) ∈ rs_W := rs_f (rs_i6 (rs_in 40 (by decide +kernel))) rfl
theorem tw_1241 : (Jvm.Cond.methodLink "RouteSpeakerModel" (228 : Nat) ({ cls := "RouteSpeakerModel", name := "said", desc := "(II)I" } : Jvm.MethodName)) ∈ rs_W := rs_f (rs_i6 (rs_in 41 (by decide +kernel))) rfl
theorem tw_1243 : (Jvm.Cond.instanceMethod ({ cls := "RouteSpeakerModel", name := "said", desc := "(II)I" } : Jvm.MethodName)) ∈ rs_W := rs_f (rs_i6 (rs_in 43 (by decide +kernel))) rfl
theorem tw_1244 : (Jvm.Cond.code ({ cls := "RouteSpeakerModel", name := "said", desc := "(II)I" } : Jvm.MethodName) prog_12_method_38_code (3 : Nat) (Option.some Jvm.ClassFile.FieldType.int)) ∈ rs_W := rs_f (rs_i6 (rs_in 44 (by decide +kernel))) rfl
theorem tw_1245 : (Jvm.Cond.methodLink "RouteSpeakerModel" (243 : Nat) ({ cls := "RouteSpeakerModel", name := "same", desc := "(II)Z" } : Jvm.MethodName)) ∈ rs_W := rs_f (rs_i6 (rs_in 45 (by decide +kernel))) rfl
theorem tw_1247 : (Jvm.Cond.instanceMethod ({ cls := "RouteSpeakerModel", name := "same", desc := "(II)Z" } : Jvm.MethodName)) ∈ rs_W := rs_f (rs_i6 (rs_in 47 (by decide +kernel))) rfl
theorem tw_1248 : (Jvm.Cond.code ({ cls := "RouteSpeakerModel", name := "same", desc := "(II)Z" } : Jvm.MethodName) prog_12_method_40_code (5 : Nat) (Option.some Jvm.ClassFile.FieldType.boolean)) ∈ rs_W := rs_f (rs_i6 (rs_in 48 (by decide +kernel))) rfl
theorem tw_1249 : (Jvm.Cond.constantDouble "RouteSpeakerModel" (246 : Nat) (4647503709213818880 : UInt64)) ∈ rs_W := rs_f (rs_i6 (rs_in 49 (by decide +kernel))) rfl
theorem tw_1250 : (Jvm.Cond.methodLink "RouteSpeakerModel" (248 : Nat) ({ cls := "RouteSpeakerModel", name := "copy", desc := "(II)V" } : Jvm.MethodName)) ∈ rs_W := rs_f (rs_i6 (rs_in 50 (by decide +kernel))) rfl
theorem tw_1252 : (Jvm.Cond.instanceMethod ({ cls := "RouteSpeakerModel", name := "copy", desc := "(II)V" } : Jvm.MethodName)) ∈ rs_W := rs_f (rs_i6 (rs_in 52 (by decide +kernel))) rfl
theorem tw_1253 : (Jvm.Cond.code ({ cls := "RouteSpeakerModel", name := "copy", desc := "(II)V" } : Jvm.MethodName) prog_12_method_41_code (4 : Nat) (Option.none : Option Jvm.ClassFile.FieldType)) ∈ rs_W := rs_f (rs_i6 (rs_in 53 (by decide +kernel))) rfl
theorem tw_1254 : (Jvm.Cond.methodLink "RouteSpeakerLaw" (117 : Nat) ({ cls := "RouteSpeakerModel", name := "tick", desc := "()I" } : Jvm.MethodName)) ∈ rs_W := rs_f (rs_i6 (rs_in 54 (by decide +kernel))) rfl
theorem tw_1255 : (Jvm.Cond.instanceMethod ({ cls := "RouteSpeakerModel", name := "tick", desc := "()I" } : Jvm.MethodName)) ∈ rs_W := rs_f (rs_i6 (rs_in 55 (by decide +kernel))) rfl
theorem tw_1256 : (Jvm.Cond.selects "RouteSpeakerModel" ({ cls := "RouteSpeakerModel", name := "tick", desc := "()I" } : Jvm.MethodName) ({ cls := "RouteSpeakerModel", name := "tick", desc := "()I" } : Jvm.MethodName)) ∈ rs_W := rs_f (rs_i6 (rs_in 56 (by decide +kernel))) rfl
theorem tw_1257 : (Jvm.Cond.code ({ cls := "RouteSpeakerModel", name := "tick", desc := "()I" } : Jvm.MethodName) prog_12_method_30_code (3 : Nat) (Option.some Jvm.ClassFile.FieldType.int)) ∈ rs_W := rs_f (rs_i6 (rs_in 57 (by decide +kernel))) rfl
theorem tw_1258 : (Jvm.Cond.constantDouble "RouteSpeakerModel" (199 : Nat) (4606056518893174784 : UInt64)) ∈ rs_W := rs_f (rs_i6 (rs_in 58 (by decide +kernel))) rfl
theorem tw_1259 : (Jvm.Cond.constantDouble "RouteSpeakerModel" (201 : Nat) (4649808285585637376 : UInt64)) ∈ rs_W := rs_f (rs_i6 (rs_in 59 (by decide +kernel))) rfl
theorem tw_1260 : (Jvm.Cond.methodLink "RouteSpeakerLaw" (113 : Nat) ({ cls := "RouteSpeakerModel", name := "take", desc := "(I)I" } : Jvm.MethodName)) ∈ rs_W := rs_f (rs_i6 (rs_in 60 (by decide +kernel))) rfl
theorem tw_1261 : (Jvm.Cond.instanceMethod ({ cls := "RouteSpeakerModel", name := "take", desc := "(I)I" } : Jvm.MethodName)) ∈ rs_W := rs_f (rs_i6 (rs_in 61 (by decide +kernel))) rfl
theorem tw_1262 : (Jvm.Cond.selects "RouteSpeakerModel" ({ cls := "RouteSpeakerModel", name := "take", desc := "(I)I" } : Jvm.MethodName) ({ cls := "RouteSpeakerModel", name := "take", desc := "(I)I" } : Jvm.MethodName)) ∈ rs_W := rs_f (rs_i6 (rs_in 62 (by decide +kernel))) rfl
theorem tw_1263 : (Jvm.Cond.code ({ cls := "RouteSpeakerModel", name := "take", desc := "(I)I" } : Jvm.MethodName) prog_12_method_62_code (4 : Nat) (Option.some Jvm.ClassFile.FieldType.int)) ∈ rs_W := rs_f (rs_i6 (rs_in 63 (by decide +kernel))) rfl
theorem tw_1264 : (Jvm.Cond.methodLink "RouteSpeakerLaw" (122 : Nat) ({ cls := "RouteSpeakerModel", name := "session", desc := "(II)I" } : Jvm.MethodName)) ∈ rs_W := rs_f (rs_i6 (rs_in 64 (by decide +kernel))) rfl
theorem tw_1265 : (Jvm.Cond.instanceMethod ({ cls := "RouteSpeakerModel", name := "session", desc := "(II)I" } : Jvm.MethodName)) ∈ rs_W := rs_f (rs_i6 (rs_in 65 (by decide +kernel))) rfl
theorem tw_1266 : (Jvm.Cond.selects "RouteSpeakerModel" ({ cls := "RouteSpeakerModel", name := "session", desc := "(II)I" } : Jvm.MethodName) ({ cls := "RouteSpeakerModel", name := "session", desc := "(II)I" } : Jvm.MethodName)) ∈ rs_W := rs_f (rs_i6 (rs_in 66 (by decide +kernel))) rfl
theorem tw_1267 : (Jvm.Cond.code ({ cls := "RouteSpeakerModel", name := "session", desc := "(II)I" } : Jvm.MethodName) prog_12_method_63_code (3 : Nat) (Option.some Jvm.ClassFile.FieldType.int)) ∈ rs_W := rs_f (rs_i6 (rs_in 67 (by decide +kernel))) rfl
theorem tw_1268 : (Jvm.Cond.methodLink "RouteSpeakerLaw" (126 : Nat) ({ cls := "RouteSpeakerModel", name := "best", desc := "(III)I" } : Jvm.MethodName)) ∈ rs_W := rs_f (rs_i6 (rs_in 68 (by decide +kernel))) rfl
theorem tw_1269 : (Jvm.Cond.instanceMethod ({ cls := "RouteSpeakerModel", name := "best", desc := "(III)I" } : Jvm.MethodName)) ∈ rs_W := rs_f (rs_i6 (rs_in 69 (by decide +kernel))) rfl
theorem tw_1270 : (Jvm.Cond.selects "RouteSpeakerModel" ({ cls := "RouteSpeakerModel", name := "best", desc := "(III)I" } : Jvm.MethodName) ({ cls := "RouteSpeakerModel", name := "best", desc := "(III)I" } : Jvm.MethodName)) ∈ rs_W := rs_f (rs_i6 (rs_in 70 (by decide +kernel))) rfl
theorem tw_1271 : (Jvm.Cond.code ({ cls := "RouteSpeakerModel", name := "best", desc := "(III)I" } : Jvm.MethodName) prog_12_method_64_code (7 : Nat) (Option.some Jvm.ClassFile.FieldType.int)) ∈ rs_W := rs_f (rs_i6 (rs_in 71 (by decide +kernel))) rfl
theorem tw_1272 : (Jvm.Cond.methodLink "RouteSpeakerModel" (304 : Nat) ({ cls := "RouteSpeakerModel", name := "fails", desc := "(I)I" } : Jvm.MethodName)) ∈ rs_W := rs_f (rs_i6 (rs_in 72 (by decide +kernel))) rfl
theorem tw_1274 : (Jvm.Cond.instanceMethod ({ cls := "RouteSpeakerModel", name := "fails", desc := "(I)I" } : Jvm.MethodName)) ∈ rs_W := rs_f (rs_i6 (rs_in 74 (by decide +kernel))) rfl
theorem tw_1275 : (Jvm.Cond.code ({ cls := "RouteSpeakerModel", name := "fails", desc := "(I)I" } : Jvm.MethodName) prog_12_method_3_code (2 : Nat) (Option.some Jvm.ClassFile.FieldType.int)) ∈ rs_W := rs_f (rs_i6 (rs_in 75 (by decide +kernel))) rfl
theorem tw_1276 : (Jvm.Cond.methodLink "RouteSpeakerLaw" (129 : Nat) ({ cls := "RouteSpeakerModel", name := "flaw", desc := "(III)I" } : Jvm.MethodName)) ∈ rs_W := rs_f (rs_i6 (rs_in 76 (by decide +kernel))) rfl
theorem tw_1277 : (Jvm.Cond.instanceMethod ({ cls := "RouteSpeakerModel", name := "flaw", desc := "(III)I" } : Jvm.MethodName)) ∈ rs_W := rs_f (rs_i6 (rs_in 77 (by decide +kernel))) rfl
theorem tw_1278 : (Jvm.Cond.selects "RouteSpeakerModel" ({ cls := "RouteSpeakerModel", name := "flaw", desc := "(III)I" } : Jvm.MethodName) ({ cls := "RouteSpeakerModel", name := "flaw", desc := "(III)I" } : Jvm.MethodName)) ∈ rs_W := rs_f (rs_i6 (rs_in 78 (by decide +kernel))) rfl
theorem tw_1279 : (Jvm.Cond.code ({ cls := "RouteSpeakerModel", name := "flaw", desc := "(III)I" } : Jvm.MethodName) prog_12_method_65_code (6 : Nat) (Option.some Jvm.ClassFile.FieldType.int)) ∈ rs_W := rs_f (rs_i6 (rs_in 79 (by decide +kernel))) rfl
theorem tw_1280 : (Jvm.Cond.methodLink "RouteSpeakerLaw" (133 : Nat) ({ cls := "RouteSpeakerModel", name := "penalty", desc := "(III)D" } : Jvm.MethodName)) ∈ rs_W := rs_f (rs_i6 (rs_in 80 (by decide +kernel))) rfl
theorem tw_1281 : (Jvm.Cond.instanceMethod ({ cls := "RouteSpeakerModel", name := "penalty", desc := "(III)D" } : Jvm.MethodName)) ∈ rs_W := rs_f (rs_i6 (rs_in 81 (by decide +kernel))) rfl
theorem tw_1282 : (Jvm.Cond.selects "RouteSpeakerModel" ({ cls := "RouteSpeakerModel", name := "penalty", desc := "(III)D" } : Jvm.MethodName) ({ cls := "RouteSpeakerModel", name := "penalty", desc := "(III)D" } : Jvm.MethodName)) ∈ rs_W := rs_f (rs_i6 (rs_in 82 (by decide +kernel))) rfl
theorem tw_1283 : (Jvm.Cond.code ({ cls := "RouteSpeakerModel", name := "penalty", desc := "(III)D" } : Jvm.MethodName) prog_12_method_66_code (5 : Nat) (Option.some Jvm.ClassFile.FieldType.double)) ∈ rs_W := rs_f (rs_i6 (rs_in 83 (by decide +kernel))) rfl
theorem tw_1284 : (Jvm.Cond.methodLink "RouteSpeakerLaw" (136 : Nat) ({ cls := "RouteSpeakerModel", name := "forward", desc := "(I)I" } : Jvm.MethodName)) ∈ rs_W := rs_f (rs_i6 (rs_in 84 (by decide +kernel))) rfl
theorem tw_1285 : (Jvm.Cond.instanceMethod ({ cls := "RouteSpeakerModel", name := "forward", desc := "(I)I" } : Jvm.MethodName)) ∈ rs_W := rs_f (rs_i6 (rs_in 85 (by decide +kernel))) rfl
theorem tw_1286 : (Jvm.Cond.selects "RouteSpeakerModel" ({ cls := "RouteSpeakerModel", name := "forward", desc := "(I)I" } : Jvm.MethodName) ({ cls := "RouteSpeakerModel", name := "forward", desc := "(I)I" } : Jvm.MethodName)) ∈ rs_W := rs_f (rs_i6 (rs_in 86 (by decide +kernel))) rfl
theorem tw_1287 : (Jvm.Cond.code ({ cls := "RouteSpeakerModel", name := "forward", desc := "(I)I" } : Jvm.MethodName) prog_12_method_67_code (5 : Nat) (Option.some Jvm.ClassFile.FieldType.int)) ∈ rs_W := rs_f (rs_i6 (rs_in 87 (by decide +kernel))) rfl
theorem tw_1288 : (Jvm.Cond.methodLink "RouteSpeakerLaw" (140 : Nat) ({ cls := "RouteSpeakerModel", name := "known", desc := "()I" } : Jvm.MethodName)) ∈ rs_W := rs_f (rs_i6 (rs_in 88 (by decide +kernel))) rfl
theorem tw_1289 : (Jvm.Cond.instanceMethod ({ cls := "RouteSpeakerModel", name := "known", desc := "()I" } : Jvm.MethodName)) ∈ rs_W := rs_f (rs_i6 (rs_in 89 (by decide +kernel))) rfl
theorem tw_1290 : (Jvm.Cond.selects "RouteSpeakerModel" ({ cls := "RouteSpeakerModel", name := "known", desc := "()I" } : Jvm.MethodName) ({ cls := "RouteSpeakerModel", name := "known", desc := "()I" } : Jvm.MethodName)) ∈ rs_W := rs_f (rs_i6 (rs_in 90 (by decide +kernel))) rfl
theorem tw_1291 : (Jvm.Cond.code ({ cls := "RouteSpeakerModel", name := "known", desc := "()I" } : Jvm.MethodName) prog_12_method_68_code (1 : Nat) (Option.some Jvm.ClassFile.FieldType.int)) ∈ rs_W := rs_f (rs_i6 (rs_in 91 (by decide +kernel))) rfl
theorem tw_1292 : (Jvm.Cond.constantLong "RouteSpeakerLaw" (105 : Nat) (4294967295 : Int64)) ∈ rs_W := rs_f (rs_i6 (rs_in 92 (by decide +kernel))) rfl
theorem tw_1293 : (Jvm.Cond.arrayClass Jvm.ClassFile.FieldType.long) ∈ rs_W := rs_f (rs_i6 (rs_in 93 (by decide +kernel))) rfl
theorem tw_1294 : (Jvm.Cond.sameMethod "java/lang/Throwable" "java/lang/Throwable" "fillInStackTrace" "(I)Ljava/lang/Throwable;") ∈ rs_W := rs_f (rs_i6 (rs_in 94 (by decide +kernel))) rfl
theorem ts_0 : Cond.selects "RouteSpeaker$Peer" (⟨"RouteSpeaker$Peer", "send", "([II)Z"⟩ : MethodName) (⟨"RouteSpeaker$Peer", "send", "([II)Z"⟩ : MethodName) ∈ rs_W := rs_f (List.mem_append_left _ (rs_in 0 (by decide +kernel))) rfl
theorem ts_1 : Cond.selects "RouteSpeaker$Peer" (⟨"RouteSpeaker$Peer", "close", "()V"⟩ : MethodName) (⟨"RouteSpeaker$Peer", "close", "()V"⟩ : MethodName) ∈ rs_W := rs_f (List.mem_append_left _ (rs_in 1 (by decide +kernel))) rfl
theorem ts_2 : Cond.selects "RouteSpeaker$Peer" (⟨"RouteSpeaker$Peer", "sendKeepalive", "()V"⟩ : MethodName) (⟨"RouteSpeaker$Peer", "sendKeepalive", "()V"⟩ : MethodName) ∈ rs_W := rs_f (List.mem_append_left _ (rs_in 2 (by decide +kernel))) rfl
theorem ts_3 : Cond.selects "RouteSpeaker" (⟨"RouteSpeaker", "tellAll", "()V"⟩ : MethodName) (⟨"RouteSpeaker", "tellAll", "()V"⟩ : MethodName) ∈ rs_W := rs_f (List.mem_append_left _ (rs_in 3 (by decide +kernel))) rfl
theorem ts_4 : Cond.selects "RouteSpeaker" (⟨"RouteSpeaker", "tellRound", "()Z"⟩ : MethodName) (⟨"RouteSpeaker", "tellRound", "()Z"⟩ : MethodName) ∈ rs_W := rs_f (List.mem_append_left _ (rs_in 4 (by decide +kernel))) rfl
theorem ts_5 : Cond.selects "RouteSpeaker" (⟨"RouteSpeaker", "chooseFor", "(I)I"⟩ : MethodName) (⟨"RouteSpeaker", "chooseFor", "(I)I"⟩ : MethodName) ∈ rs_W := rs_f (List.mem_append_left _ (rs_in 5 (by decide +kernel))) rfl
theorem ts_6 : Cond.selects "RouteSpeaker" (⟨"RouteSpeaker", "flawsOf", "(II)I"⟩ : MethodName) (⟨"RouteSpeaker", "flawsOf", "(II)I"⟩ : MethodName) ∈ rs_W := rs_f (List.mem_append_left _ (rs_in 6 (by decide +kernel))) rfl
theorem ts_7 : Cond.selects "RouteSpeaker" (⟨"RouteSpeaker", "preferenceOf", "(II)I"⟩ : MethodName) (⟨"RouteSpeaker", "preferenceOf", "(II)I"⟩ : MethodName) ∈ rs_W := rs_f (List.mem_append_left _ (rs_in 7 (by decide +kernel))) rfl
theorem ts_8 : Cond.selects "RouteSpeaker" (⟨"RouteSpeaker", "routeOf", "(II)LRouteSpeaker$Route;"⟩ : MethodName) (⟨"RouteSpeaker", "routeOf", "(II)LRouteSpeaker$Route;"⟩ : MethodName) ∈ rs_W := rs_f (List.mem_append_left _ (rs_in 8 (by decide +kernel))) rfl
theorem ts_9 : Cond.selects "RouteSpeaker" (⟨"RouteSpeaker", "isInternal", "(I)Z"⟩ : MethodName) (⟨"RouteSpeaker", "isInternal", "(I)Z"⟩ : MethodName) ∈ rs_W := rs_f (List.mem_append_left _ (rs_in 9 (by decide +kernel))) rfl
theorem ts_10 : Cond.selects "RouteSpeaker$Choice" (⟨"RouteSpeaker$Choice", "dropBeaten", "(I)V"⟩ : MethodName) (⟨"RouteSpeaker$Choice", "dropBeaten", "(I)V"⟩ : MethodName) ∈ rs_W := rs_f (List.mem_append_left _ (rs_in 10 (by decide +kernel))) rfl
theorem ts_11 : Cond.selects "RouteSpeaker$Choice" (⟨"RouteSpeaker$Choice", "isBeaten", "(II)Z"⟩ : MethodName) (⟨"RouteSpeaker$Choice", "isBeaten", "(II)Z"⟩ : MethodName) ∈ rs_W := rs_f (List.mem_append_left _ (rs_in 11 (by decide +kernel))) rfl
theorem ts_12 : Cond.selects "RouteSpeaker" (⟨"RouteSpeaker", "tell", "(III)Z"⟩ : MethodName) (⟨"RouteSpeaker", "tell", "(III)Z"⟩ : MethodName) ∈ rs_W := rs_f (List.mem_append_left _ (rs_in 12 (by decide +kernel))) rfl
theorem ts_13 : Cond.selects "RouteSpeaker" (⟨"RouteSpeaker", "isMeantFor", "(III)Z"⟩ : MethodName) (⟨"RouteSpeaker", "isMeantFor", "(III)Z"⟩ : MethodName) ∈ rs_W := rs_f (List.mem_append_left _ (rs_in 13 (by decide +kernel))) rfl
theorem ts_14 : Cond.selects "RouteSpeaker$Letter" (⟨"RouteSpeaker$Letter", "begin", "(I)V"⟩ : MethodName) (⟨"RouteSpeaker$Letter", "begin", "(I)V"⟩ : MethodName) ∈ rs_W := rs_f (List.mem_append_left _ (rs_in 14 (by decide +kernel))) rfl
theorem ts_15 : Cond.selects "RouteSpeaker$Letter" (⟨"RouteSpeaker$Letter", "add", "(I)V"⟩ : MethodName) (⟨"RouteSpeaker$Letter", "add", "(I)V"⟩ : MethodName) ∈ rs_W := rs_f (List.mem_append_left _ (rs_in 15 (by decide +kernel))) rfl
theorem ts_16 : Cond.selects "RouteSpeaker$Letter" (⟨"RouteSpeaker$Letter", "addValue", "(II)V"⟩ : MethodName) (⟨"RouteSpeaker$Letter", "addValue", "(II)V"⟩ : MethodName) ∈ rs_W := rs_f (List.mem_append_left _ (rs_in 16 (by decide +kernel))) rfl
theorem ts_17 : Cond.selects "RouteSpeaker$Letter" (⟨"RouteSpeaker$Letter", "addList", "(III[II)V"⟩ : MethodName) (⟨"RouteSpeaker$Letter", "addList", "(III[II)V"⟩ : MethodName) ∈ rs_W := rs_f (List.mem_append_left _ (rs_in 17 (by decide +kernel))) rfl
theorem ts_18 : Cond.selects "RouteSpeaker$Letter" (⟨"RouteSpeaker$Letter", "endAnnouncement", "()V"⟩ : MethodName) (⟨"RouteSpeaker$Letter", "endAnnouncement", "()V"⟩ : MethodName) ∈ rs_W := rs_f (List.mem_append_left _ (rs_in 18 (by decide +kernel))) rfl
theorem ts_19 : Cond.selects "RouteSpeaker$Peer" (⟨"RouteSpeaker$Peer", "isTold", "(ILRouteSpeaker$Letter;)Z"⟩ : MethodName) (⟨"RouteSpeaker$Peer", "isTold", "(ILRouteSpeaker$Letter;)Z"⟩ : MethodName) ∈ rs_W := rs_f (List.mem_append_left _ (rs_in 19 (by decide +kernel))) rfl
theorem ts_20 : Cond.selects "java/lang/Throwable" (⟨"java/lang/Throwable", "fillInStackTrace", "(I)Ljava/lang/Throwable;"⟩ : MethodName) (⟨"java/lang/Throwable", "fillInStackTrace", "(I)Ljava/lang/Throwable;"⟩ : MethodName) ∈ rs_W := rs_f (List.mem_append_left _ (rs_in 20 (by decide +kernel))) rfl
theorem ts_21 : Cond.selects "RouteSpeaker$Peer" (⟨"RouteSpeaker$Peer", "lookWhenSent", "(I)V"⟩ : MethodName) (⟨"RouteSpeaker$Peer", "lookWhenSent", "(I)V"⟩ : MethodName) ∈ rs_W := rs_f (List.mem_append_left _ (rs_in 21 (by decide +kernel))) rfl
theorem ts_22 : Cond.selects "RouteSpeaker$Peer" (⟨"RouteSpeaker$Peer", "lookWhenAgreed", "(I)V"⟩ : MethodName) (⟨"RouteSpeaker$Peer", "lookWhenAgreed", "(I)V"⟩ : MethodName) ∈ rs_W := rs_f (List.mem_append_left _ (rs_in 22 (by decide +kernel))) rfl
theorem ts_23 : Cond.selects "RouteSpeaker$Peer" (⟨"RouteSpeaker$Peer", "lookWhenUp", "(ILRouteSpeaker$Update;LRouteSpeaker$Prefixes;)V"⟩ : MethodName) (⟨"RouteSpeaker$Peer", "lookWhenUp", "(ILRouteSpeaker$Update;LRouteSpeaker$Prefixes;)V"⟩ : MethodName) ∈ rs_W := rs_f (List.mem_append_left _ (rs_in 23 (by decide +kernel))) rfl
theorem ts_24 : Cond.selects "RouteSpeaker$Update" (⟨"RouteSpeaker$Update", "clear", "()V"⟩ : MethodName) (⟨"RouteSpeaker$Update", "clear", "()V"⟩ : MethodName) ∈ rs_W := rs_f (List.mem_append_left _ (rs_in 24 (by decide +kernel))) rfl
theorem ts_25 : Cond.selects "RouteSpeaker$Update" (⟨"RouteSpeaker$Update", "isFramed", "()Z"⟩ : MethodName) (⟨"RouteSpeaker$Update", "isFramed", "()Z"⟩ : MethodName) ∈ rs_W := rs_f (List.mem_append_left _ (rs_in 25 (by decide +kernel))) rfl
theorem ts_26 : Cond.selects "RouteSpeaker$Update" (⟨"RouteSpeaker$Update", "attributeFault", "(III)I"⟩ : MethodName) (⟨"RouteSpeaker$Update", "attributeFault", "(III)I"⟩ : MethodName) ∈ rs_W := rs_f (List.mem_append_left _ (rs_in 26 (by decide +kernel))) rfl
theorem ts_27 : Cond.selects "RouteSpeaker$Update" (⟨"RouteSpeaker$Update", "listFault", "(II[I)I"⟩ : MethodName) (⟨"RouteSpeaker$Update", "listFault", "(II[I)I"⟩ : MethodName) ∈ rs_W := rs_f (List.mem_append_left _ (rs_in 27 (by decide +kernel))) rfl
theorem ts_28 : Cond.selects "RouteSpeaker$Update" (⟨"RouteSpeaker$Update", "valueFault", "(II)I"⟩ : MethodName) (⟨"RouteSpeaker$Update", "valueFault", "(II)I"⟩ : MethodName) ∈ rs_W := rs_f (List.mem_append_left _ (rs_in 28 (by decide +kernel))) rfl
theorem ts_29 : Cond.selects "RouteSpeaker$Update" (⟨"RouteSpeaker$Update", "announcementFault", "(ZI)I"⟩ : MethodName) (⟨"RouteSpeaker$Update", "announcementFault", "(ZI)I"⟩ : MethodName) ∈ rs_W := rs_f (List.mem_append_left _ (rs_in 29 (by decide +kernel))) rfl
theorem ts_30 : Cond.selects "RouteSpeaker$Update" (⟨"RouteSpeaker$Update", "hasOnlyPrefixes", "()Z"⟩ : MethodName) (⟨"RouteSpeaker$Update", "hasOnlyPrefixes", "()Z"⟩ : MethodName) ∈ rs_W := rs_f (List.mem_append_left _ (rs_in 30 (by decide +kernel))) rfl
theorem ts_31 : Cond.selects "RouteSpeaker$Update" (⟨"RouteSpeaker$Update", "isFirstOfItsKind", "(I)Z"⟩ : MethodName) (⟨"RouteSpeaker$Update", "isFirstOfItsKind", "(I)Z"⟩ : MethodName) ∈ rs_W := rs_f (List.mem_append_left _ (rs_in 31 (by decide +kernel))) rfl
theorem ts_32 : Cond.selects "RouteSpeaker$Peer" (⟨"RouteSpeaker$Peer", "takeIn", "(LRouteSpeaker$Update;LRouteSpeaker$Prefixes;)V"⟩ : MethodName) (⟨"RouteSpeaker$Peer", "takeIn", "(LRouteSpeaker$Update;LRouteSpeaker$Prefixes;)V"⟩ : MethodName) ∈ rs_W := rs_f (List.mem_append_left _ (rs_in 32 (by decide +kernel))) rfl
theorem ts_33 : Cond.selects "RouteSpeaker$Incoming" (⟨"RouteSpeaker$Incoming", "grow", "(ID)V"⟩ : MethodName) (⟨"RouteSpeaker$Incoming", "grow", "(ID)V"⟩ : MethodName) ∈ rs_W := rs_f (List.mem_append_left _ (rs_in 33 (by decide +kernel))) rfl
theorem ts_34 : Cond.selects "RouteSpeakerModel" (⟨"RouteSpeakerModel", "tell", "()V"⟩ : MethodName) (⟨"RouteSpeakerModel", "tell", "()V"⟩ : MethodName) ∈ rs_W := rs_f (List.mem_append_left _ (rs_in 34 (by decide +kernel))) rfl
theorem ts_35 : Cond.selects "RouteSpeakerModel" (⟨"RouteSpeakerModel", "tellOne", "(II)Z"⟩ : MethodName) (⟨"RouteSpeakerModel", "tellOne", "(II)Z"⟩ : MethodName) ∈ rs_W := rs_f (List.mem_append_left _ (rs_in 35 (by decide +kernel))) rfl
theorem ts_36 : Cond.selects "RouteSpeakerModel" (⟨"RouteSpeakerModel", "due", "(II)I"⟩ : MethodName) (⟨"RouteSpeakerModel", "due", "(II)I"⟩ : MethodName) ∈ rs_W := rs_f (List.mem_append_left _ (rs_in 36 (by decide +kernel))) rfl
theorem ts_37 : Cond.selects "RouteSpeakerModel" (⟨"RouteSpeakerModel", "bestOf", "(I)I"⟩ : MethodName) (⟨"RouteSpeakerModel", "bestOf", "(I)I"⟩ : MethodName) ∈ rs_W := rs_f (List.mem_append_left _ (rs_in 37 (by decide +kernel))) rfl
theorem ts_38 : Cond.selects "RouteSpeakerModel" (⟨"RouteSpeakerModel", "isBarred", "(I)Z"⟩ : MethodName) (⟨"RouteSpeakerModel", "isBarred", "(I)Z"⟩ : MethodName) ∈ rs_W := rs_f (List.mem_append_left _ (rs_in 38 (by decide +kernel))) rfl
theorem ts_39 : Cond.selects "RouteSpeakerModel" (⟨"RouteSpeakerModel", "isRejected", "(II)Z"⟩ : MethodName) (⟨"RouteSpeakerModel", "isRejected", "(II)Z"⟩ : MethodName) ∈ rs_W := rs_f (List.mem_append_left _ (rs_in 39 (by decide +kernel))) rfl
theorem ts_40 : Cond.selects "RouteSpeakerModel" (⟨"RouteSpeakerModel", "dropBeaten", "(I)V"⟩ : MethodName) (⟨"RouteSpeakerModel", "dropBeaten", "(I)V"⟩ : MethodName) ∈ rs_W := rs_f (List.mem_append_left _ (rs_in 40 (by decide +kernel))) rfl
theorem ts_41 : Cond.selects "RouteSpeakerModel" (⟨"RouteSpeakerModel", "isBeaten", "(II)Z"⟩ : MethodName) (⟨"RouteSpeakerModel", "isBeaten", "(II)Z"⟩ : MethodName) ∈ rs_W := rs_f (List.mem_append_left _ (rs_in 41 (by decide +kernel))) rfl
theorem ts_42 : Cond.selects "RouteSpeakerModel" (⟨"RouteSpeakerModel", "firstOf", "(I)I"⟩ : MethodName) (⟨"RouteSpeakerModel", "firstOf", "(I)I"⟩ : MethodName) ∈ rs_W := rs_f (List.mem_append_left _ (rs_in 42 (by decide +kernel))) rfl
theorem ts_43 : Cond.selects "RouteSpeakerModel" (⟨"RouteSpeakerModel", "keepLeast", "(II)V"⟩ : MethodName) (⟨"RouteSpeakerModel", "keepLeast", "(II)V"⟩ : MethodName) ∈ rs_W := rs_f (List.mem_append_left _ (rs_in 43 (by decide +kernel))) rfl
theorem ts_44 : Cond.selects "RouteSpeakerModel" (⟨"RouteSpeakerModel", "worth", "(III)I"⟩ : MethodName) (⟨"RouteSpeakerModel", "worth", "(III)I"⟩ : MethodName) ∈ rs_W := rs_f (List.mem_append_left _ (rs_in 44 (by decide +kernel))) rfl
theorem ts_45 : Cond.selects "RouteSpeakerModel" (⟨"RouteSpeakerModel", "valued", "(II)I"⟩ : MethodName) (⟨"RouteSpeakerModel", "valued", "(II)I"⟩ : MethodName) ∈ rs_W := rs_f (List.mem_append_left _ (rs_in 45 (by decide +kernel))) rfl
theorem ts_46 : Cond.selects "RouteSpeakerModel" (⟨"RouteSpeakerModel", "isInternal", "(I)Z"⟩ : MethodName) (⟨"RouteSpeakerModel", "isInternal", "(I)Z"⟩ : MethodName) ∈ rs_W := rs_f (List.mem_append_left _ (rs_in 46 (by decide +kernel))) rfl
theorem ts_47 : Cond.selects "RouteSpeakerModel" (⟨"RouteSpeakerModel", "dueInternal", "(II)I"⟩ : MethodName) (⟨"RouteSpeakerModel", "dueInternal", "(II)I"⟩ : MethodName) ∈ rs_W := rs_f (List.mem_append_left _ (rs_in 47 (by decide +kernel))) rfl
theorem ts_48 : Cond.selects "RouteSpeakerModel" (⟨"RouteSpeakerModel", "one", "(III)I"⟩ : MethodName) (⟨"RouteSpeakerModel", "one", "(III)I"⟩ : MethodName) ∈ rs_W := rs_f (List.mem_append_left _ (rs_in 48 (by decide +kernel))) rfl
theorem ts_49 : Cond.selects "RouteSpeakerModel" (⟨"RouteSpeakerModel", "want", "(II)V"⟩ : MethodName) (⟨"RouteSpeakerModel", "want", "(II)V"⟩ : MethodName) ∈ rs_W := rs_f (List.mem_append_left _ (rs_in 49 (by decide +kernel))) rfl
theorem ts_50 : Cond.selects "RouteSpeakerModel" (⟨"RouteSpeakerModel", "dueExternal", "(II)I"⟩ : MethodName) (⟨"RouteSpeakerModel", "dueExternal", "(II)I"⟩ : MethodName) ∈ rs_W := rs_f (List.mem_append_left _ (rs_in 50 (by decide +kernel))) rfl
theorem ts_51 : Cond.selects "RouteSpeakerModel" (⟨"RouteSpeakerModel", "isTold", "(II)Z"⟩ : MethodName) (⟨"RouteSpeakerModel", "isTold", "(II)Z"⟩ : MethodName) ∈ rs_W := rs_f (List.mem_append_left _ (rs_in 51 (by decide +kernel))) rfl
theorem ts_52 : Cond.selects "RouteSpeakerModel" (⟨"RouteSpeakerModel", "begin", "(I)V"⟩ : MethodName) (⟨"RouteSpeakerModel", "begin", "(I)V"⟩ : MethodName) ∈ rs_W := rs_f (List.mem_append_left _ (rs_in 52 (by decide +kernel))) rfl
theorem ts_53 : Cond.selects "RouteSpeakerModel" (⟨"RouteSpeakerModel", "add", "(I)V"⟩ : MethodName) (⟨"RouteSpeakerModel", "add", "(I)V"⟩ : MethodName) ∈ rs_W := rs_f (List.mem_append_left _ (rs_in 53 (by decide +kernel))) rfl
theorem ts_54 : Cond.selects "RouteSpeakerModel" (⟨"RouteSpeakerModel", "send", "(I)Z"⟩ : MethodName) (⟨"RouteSpeakerModel", "send", "(I)Z"⟩ : MethodName) ∈ rs_W := rs_f (List.mem_append_left _ (rs_in 54 (by decide +kernel))) rfl
theorem ts_55 : Cond.selects "RouteSpeakerModel" (⟨"RouteSpeakerModel", "close", "(I)V"⟩ : MethodName) (⟨"RouteSpeakerModel", "close", "(I)V"⟩ : MethodName) ∈ rs_W := rs_f (List.mem_append_left _ (rs_in 55 (by decide +kernel))) rfl
theorem ts_56 : Cond.selects "RouteSpeakerModel" (⟨"RouteSpeakerModel", "find", "(II)I"⟩ : MethodName) (⟨"RouteSpeakerModel", "find", "(II)I"⟩ : MethodName) ∈ rs_W := rs_f (List.mem_append_left _ (rs_in 56 (by decide +kernel))) rfl
theorem ts_57 : Cond.selects "RouteSpeakerModel" (⟨"RouteSpeakerModel", "learned", "(II)I"⟩ : MethodName) (⟨"RouteSpeakerModel", "learned", "(II)I"⟩ : MethodName) ∈ rs_W := rs_f (List.mem_append_left _ (rs_in 57 (by decide +kernel))) rfl
theorem ts_58 : Cond.selects "RouteSpeakerModel" (⟨"RouteSpeakerModel", "end", "(III)V"⟩ : MethodName) (⟨"RouteSpeakerModel", "end", "(III)V"⟩ : MethodName) ∈ rs_W := rs_f (List.mem_append_left _ (rs_in 58 (by decide +kernel))) rfl
theorem ts_59 : Cond.selects "RouteSpeakerModel" (⟨"RouteSpeakerModel", "come", "(II)V"⟩ : MethodName) (⟨"RouteSpeakerModel", "come", "(II)V"⟩ : MethodName) ∈ rs_W := rs_f (List.mem_append_left _ (rs_in 59 (by decide +kernel))) rfl
theorem ts_60 : Cond.selects "RouteSpeakerModel" (⟨"RouteSpeakerModel", "look", "(III)V"⟩ : MethodName) (⟨"RouteSpeakerModel", "look", "(III)V"⟩ : MethodName) ∈ rs_W := rs_f (List.mem_append_left _ (rs_in 60 (by decide +kernel))) rfl
theorem ts_61 : Cond.selects "RouteSpeakerModel" (⟨"RouteSpeakerModel", "opened", "(III)V"⟩ : MethodName) (⟨"RouteSpeakerModel", "opened", "(III)V"⟩ : MethodName) ∈ rs_W := rs_f (List.mem_append_left _ (rs_in 61 (by decide +kernel))) rfl
theorem ts_62 : Cond.selects "RouteSpeakerModel" (⟨"RouteSpeakerModel", "keepAlive", "(I)V"⟩ : MethodName) (⟨"RouteSpeakerModel", "keepAlive", "(I)V"⟩ : MethodName) ∈ rs_W := rs_f (List.mem_append_left _ (rs_in 62 (by decide +kernel))) rfl
theorem ts_63 : Cond.selects "RouteSpeakerModel" (⟨"RouteSpeakerModel", "agreed", "(II)V"⟩ : MethodName) (⟨"RouteSpeakerModel", "agreed", "(II)V"⟩ : MethodName) ∈ rs_W := rs_f (List.mem_append_left _ (rs_in 63 (by decide +kernel))) rfl
theorem ts_64 : Cond.selects "RouteSpeakerModel" (⟨"RouteSpeakerModel", "update", "(III)V"⟩ : MethodName) (⟨"RouteSpeakerModel", "update", "(III)V"⟩ : MethodName) ∈ rs_W := rs_f (List.mem_append_left _ (rs_in 64 (by decide +kernel))) rfl
theorem ts_65 : Cond.selects "RouteSpeakerModel" (⟨"RouteSpeakerModel", "badAttributes", "(II)I"⟩ : MethodName) (⟨"RouteSpeakerModel", "badAttributes", "(II)I"⟩ : MethodName) ∈ rs_W := rs_f (List.mem_append_left _ (rs_in 65 (by decide +kernel))) rfl
theorem ts_66 : Cond.selects "RouteSpeakerModel" (⟨"RouteSpeakerModel", "badValue", "(III)I"⟩ : MethodName) (⟨"RouteSpeakerModel", "badValue", "(III)I"⟩ : MethodName) ∈ rs_W := rs_f (List.mem_append_left _ (rs_in 66 (by decide +kernel))) rfl
theorem ts_67 : Cond.selects "RouteSpeakerModel" (⟨"RouteSpeakerModel", "badRoute", "(I)I"⟩ : MethodName) (⟨"RouteSpeakerModel", "badRoute", "(I)I"⟩ : MethodName) ∈ rs_W := rs_f (List.mem_append_left _ (rs_in 67 (by decide +kernel))) rfl
theorem ts_68 : Cond.selects "RouteSpeakerModel" (⟨"RouteSpeakerModel", "fresh", "(II)I"⟩ : MethodName) (⟨"RouteSpeakerModel", "fresh", "(II)I"⟩ : MethodName) ∈ rs_W := rs_f (List.mem_append_left _ (rs_in 68 (by decide +kernel))) rfl
theorem ts_69 : Cond.selects "RouteSpeakerModel" (⟨"RouteSpeakerModel", "withdraw", "(III)V"⟩ : MethodName) (⟨"RouteSpeakerModel", "withdraw", "(III)V"⟩ : MethodName) ∈ rs_W := rs_f (List.mem_append_left _ (rs_in 69 (by decide +kernel))) rfl
theorem ts_70 : Cond.selects "RouteSpeakerModel" (⟨"RouteSpeakerModel", "grows", "(ID)V"⟩ : MethodName) (⟨"RouteSpeakerModel", "grows", "(ID)V"⟩ : MethodName) ∈ rs_W := rs_f (List.mem_append_left _ (rs_in 70 (by decide +kernel))) rfl
theorem ts_71 : Cond.selects "RouteSpeakerModel" (⟨"RouteSpeakerModel", "announce", "(III)V"⟩ : MethodName) (⟨"RouteSpeakerModel", "announce", "(III)V"⟩ : MethodName) ∈ rs_W := rs_f (List.mem_append_left _ (rs_in 71 (by decide +kernel))) rfl
theorem ts_72 : Cond.selects "RouteSpeakerModel" (⟨"RouteSpeakerModel", "hand", "(Z)V"⟩ : MethodName) (⟨"RouteSpeakerModel", "hand", "(Z)V"⟩ : MethodName) ∈ rs_W := rs_f (List.mem_append_left _ (rs_in 72 (by decide +kernel))) rfl
theorem ts_73 : Cond.selects "RouteSpeakerModel" (⟨"RouteSpeakerModel", "said", "(II)I"⟩ : MethodName) (⟨"RouteSpeakerModel", "said", "(II)I"⟩ : MethodName) ∈ rs_W := rs_f (List.mem_append_left _ (rs_in 73 (by decide +kernel))) rfl
theorem ts_74 : Cond.selects "RouteSpeakerModel" (⟨"RouteSpeakerModel", "same", "(II)Z"⟩ : MethodName) (⟨"RouteSpeakerModel", "same", "(II)Z"⟩ : MethodName) ∈ rs_W := rs_f (List.mem_append_left _ (rs_in 74 (by decide +kernel))) rfl
theorem ts_75 : Cond.selects "RouteSpeakerModel" (⟨"RouteSpeakerModel", "copy", "(II)V"⟩ : MethodName) (⟨"RouteSpeakerModel", "copy", "(II)V"⟩ : MethodName) ∈ rs_W := rs_f (List.mem_append_left _ (rs_in 75 (by decide +kernel))) rfl
theorem ts_76 : Cond.selects "RouteSpeakerModel" (⟨"RouteSpeakerModel", "fails", "(I)I"⟩ : MethodName) (⟨"RouteSpeakerModel", "fails", "(I)I"⟩ : MethodName) ∈ rs_W := rs_f (List.mem_append_left _ (rs_in 76 (by decide +kernel))) rfl
end
section
/-! THE MEMORY: what the cells hold that the class, the reference and the law have made: ints, longs, doubles and references, by the number of the cell and the place in it. Reference 0 is null, v is the cell at Bm + v. A shape: how many cells, the kind of each, the length of each array. -/
abbrev rs_Mem : Type := (Nat → Nat → Int32) × (Nat → Nat → Int64) × (Nat → Nat → UInt64) × (Nat → Nat → Nat)
def rs_up {α : Type} (f : Nat → Nat → α) (a k : Nat) (v : α) : Nat → Nat → α := fun b j => if b = a ∧ j = k then v else f b j
def rs_I (σ : rs_Mem) : Nat → Nat → Int32 := σ.1
def rs_L (σ : rs_Mem) : Nat → Nat → Int64 := σ.2.1
def rs_D (σ : rs_Mem) : Nat → Nat → UInt64 := σ.2.2.1
def rs_R (σ : rs_Mem) : Nat → Nat → Nat := σ.2.2.2
def rs_sI (σ : rs_Mem) (a k : Nat) (v : Int32) : rs_Mem := (rs_up σ.1 a k v, σ.2)
def rs_sL (σ : rs_Mem) (a k : Nat) (v : Int64) : rs_Mem := (σ.1, rs_up σ.2.1 a k v, σ.2.2)
def rs_sD (σ : rs_Mem) (a k : Nat) (v : UInt64) : rs_Mem := (σ.1, σ.2.1, rs_up σ.2.2.1 a k v, σ.2.2.2)
def rs_sR (σ : rs_Mem) (a k : Nat) (v : Nat) : rs_Mem := (σ.1, σ.2.1, σ.2.2.1, rs_up σ.2.2.2 a k v)
abbrev rs_Shp : Type := Nat × (Nat → Nat) × (Nat → Nat)
def rs_Ok (S : rs_Shp) (kd v : Nat) : Prop := 0 < v ∧ v ≤ S.1 ∧ S.2.1 v = kd
def rs_rv (Bm r : Nat) : Value := if r = 0 then .null else .ref (Bm + r)
def rs_fv (Bm : Nat) (σ : rs_Mem) (v kd : Nat) (k : Nat) : Value := if rs_rf kd k = 0 then .int (rs_I σ v k) else rs_rv Bm (rs_R σ v k)
def rs_av (Bm : Nat) (σ : rs_Mem) (v kd : Nat) (j : Nat) : Value := if kd = 22 then .long (rs_L σ v j) else if kd = 23 then .double (rs_D σ v j) else if kd ≤ 21 then .int (rs_I σ v j) else rs_rv Bm (rs_R σ v j)
abbrev rs_G : Type := va_G × (Nat → ClassId)
def rs_cell (G : rs_G) (Bm : Nat) (S : rs_Shp) (σ : rs_Mem) (H : Heap) (v : Nat) : Prop :=
  (1 ≤ S.2.1 v → S.2.1 v ≤ 11 → t_OB (Bm + v) (G.1.1 (S.2.1 v)) (rs_nf (S.2.1 v)) (G.1.2 (S.2.1 v)) H (rs_fv Bm σ v (S.2.1 v))) ∧
  (20 ≤ S.2.1 v → S.2.1 v ≤ 26 → H[Bm + v]? = some (arrV (G.2 (S.2.1 v)) (S.2.2 v) (rs_av Bm σ v (S.2.1 v))))
def rs_H (G : rs_G) (Bm : Nat) (S : rs_Shp) (σ : rs_Mem) (H : Heap) : Prop := Bm + S.1 < H.size ∧ ∀ v, 0 < v → v ≤ S.1 → rs_cell G Bm S σ H v
def rs_T (S : rs_Shp) (σ : rs_Mem) : Prop :=
  (∀ kd v k, rs_Ok S kd v → 1 ≤ kd → kd ≤ 11 → k < rs_nf kd → rs_rf kd k ≠ 0 → rs_Ok S (rs_rf kd k) (rs_R σ v k)) ∧
  (∀ kd v j, rs_Ok S kd v → 24 ≤ kd → kd ≤ 26 → j < S.2.2 v → rs_Ok S (rs_ae kd) (rs_R σ v j))
def rs_K (G : rs_G) (U : State) : Prop := va_K G.1 rs_cl [] U ∧ (∀ kd, 20 ≤ kd → kd ≤ 26 → ArrOfT U (G.2 kd) (rs_et kd) ∧ va_RA U (G.2 kd) (rs_et kd)) ∧ ∀ q ∈ rs_NW, va_Nw (.methodLinkNest q.1 q.2.1 q.2.2.1 q.2.2.2) U
def rs_B (G : rs_G) (Bm : Nat) (S : rs_Shp) (σ : rs_Mem) (U : State) : Prop := rs_H G Bm S σ U.heap ∧ rs_T S σ
/-- the places that a method may write -/
def rs_A (Bm : Nat) : Nat → Prop := fun q => Bm < q
theorem rs_K.moved {G : rs_G} {u U : State} (hW : u.WarmedH U.vm) (h : rs_K G u) : rs_K G U :=
  ⟨h.1.moved hW.alike, fun kd a b => ⟨arrOfT_moved hW.alike (h.2.1 kd a b).1, (h.2.1 kd a b).2.moved hW.alike⟩, fun q hq => va_Nw.warmM hW (h.2.2 q hq)⟩
theorem rs_K.same {G : rs_G} {u U : State} (hvm : u.vm = U.vm) (h : rs_K G u) : rs_K G U := by
  have a : u.vm.Alike U.vm := hvm ▸ Vm.Alike.refl u.vm
  exact ⟨h.1.moved a, fun kd a1 b => ⟨arrOfT_moved a (h.2.1 kd a1 b).1, (h.2.1 kd a1 b).2.moved a⟩, fun q hq => va_Nw.same rfl hvm (h.2.2 q hq)⟩
/-- a method's words: its own code, and the tables' -/
def rs_ws (y : MethodName) (bytes : ByteArray) (maxL : Nat) (ret : Option FieldType) : List Cond := .code y bytes maxL ret :: rs_W
def rs_P (G : rs_G) (Bm : Nat) (S : rs_Shp) (σ : rs_Mem) (vs : List Value) : Array Value → State → Prop := va_Pc vs (fun U => rs_B G Bm S σ U ∧ rs_K G U)
def rs_Qi (G : rs_G) (Bm : Nat) (S : rs_Shp) (Q : Int32 → rs_Mem → Prop) : Array Value → State → Outcome → State → Prop := va_Qi Q (rs_B G Bm S) (rs_A Bm)
def rs_Qd (G : rs_G) (Bm : Nat) (S : rs_Shp) (Q : UInt64 → rs_Mem → Prop) : Array Value → State → Outcome → State → Prop := va_Qd Q (rs_B G Bm S) (rs_A Bm)
def rs_Qv (G : rs_G) (Bm : Nat) (S : rs_Shp) (Q : rs_Mem → Prop) : Array Value → State → Outcome → State → Prop := va_Qv Q (rs_B G Bm S) (rs_A Bm)
/-- what a method's body stands on -/
def rs_C (own : String) (cc : ByteArray) (nL : Nat) (ret : Option FieldType) (G : rs_G) (p : Program) (s : State) (m : MethodId) (meth : Method) (c : Code) (args : Array Value) : Prop :=
  p.tables.exec = Jvm.exec ∧ c.code = cc ∧ c.maxLocals = nL ∧ meth.sig.returnType = ret ∧ s.vm.findClass own = some m.cls ∧ (∀ w ∈ rs_W, w.before args s = true) ∧ rs_K G s ∧ meth.locks = false
theorem rs_blind {G : rs_G} {Bm : Nat} {S : rs_Shp} {σ : rs_Mem} {vs : List Value} : FrameBlind (rs_P G Bm S σ vs) := fun a U g mk q => by
  obtain ⟨q0, q1, q3⟩ := q
  exact ⟨q0, q1, rs_K.same (u := U) (U := U.calling g mk a) rfl q3⟩
theorem rs_met {own : String} {cc : ByteArray} {nL : Nat} {ret : Option FieldType} {G : rs_G} {Bm : Nat} {S : rs_Shp} {σ : rs_Mem} {vs : List Value} {Qc : Array Value → State → Outcome → State → Prop} {rm : Room} {y : MethodName} {l : Launch}
    (hy : plainName y.cls = true) (hown : y.cls = own) (hlen : (lg_sl vs).length ≤ nL)
    (body : ∀ (p : Program) (e : Env) (s : State) (m : MethodId) (below : List Frame) (meth : Method) (c : Code) (ls : Array Slot), rs_C own cc nL ret G p s m meth c vs.toArray → lv_has ls nL (lv_args 0 vs) → rs_H G Bm S σ s.heap → rs_T S σ → va_S (rs_A Bm) s.heap s.heap [] →
      W p l e rm s m vs.toArray below meth c s.heap [] 0 0 (MQ below Qc vs.toArray s 0 0 (rs_A Bm)) (F0 m 0 ls [])) : Met l y (rs_ws y cc nL ret) rm (rs_P G Bm S σ vs) Qc 0 0 (rs_A Bm) := by
  refine Met.ofW (cc := cc) (maxL := nL) (ret := ret) hy rfl ?_
  intro p e s m args below meth c s₁ B hml hv
  obtain ⟨rfl, ⟨hH, hT⟩, hK⟩ := hv
  have hts := atoms_spec (ws := rs_ws y cc nL ret) B.pre
  have ho : s.vm.findClass own = some m.cls := by rw [← hown]; exact findClass_of_methodNamed B.named
  have hl := lv_entry vs (n := nL) hlen
  rw [lg_entry_eq]
  exact body p e s m below meth c _ ⟨B.exec, B.bytes, hml, B.returns, ho, fun w hw => hts w (List.mem_cons_of_mem _ hw), hK, B.notSynchronized⟩ hl hH hT va_S.rf
-- what the tables say of the fields
theorem rs_cl_at {kd : Nat} (h2 : kd ≤ 11) : rs_cl[kd]? = some (rs_cn kd, rs_ft kd, rs_nf kd) := by
  have : kd < 12 := by omega
  simp [rs_cl, this]
theorem rs_lays : ∀ kd, 1 ≤ kd → kd ≤ 11 → ∀ w ∈ u_ws (rs_cn kd) (rs_ft kd) (rs_nf kd), w ∈ rs_W := by
  intro kd h1 h2 w hw
  have key : ∀ kd, kd < 12 → ∀ w ∈ u_ws (rs_cn kd) (rs_ft kd) (rs_nf kd), w ∈ rs_W := by decide +kernel
  exact key kd (by omega) w hw
theorem rs_own : ∀ kd, kd < 12 → ∀ k, k < rs_nf kd → (rs_ft kd k).1 = rs_cn kd := by decide +kernel
theorem rs_pd : ∀ kd, kd < 12 → ∀ k, k < rs_nf kd → parseFieldDescriptor (rs_ft kd k).2.2.1 = some (rs_ty kd k) := by decide +kernel
theorem rs_nm : ∀ kd, kd < 12 → ∀ a, a < rs_nf kd → ∀ b, b < rs_nf kd → a ≠ b → (rs_ft kd a).2.1 ≠ (rs_ft kd b).2.1 := by decide +kernel
theorem rs_kty : ∀ kd, kd < 12 → ∀ k, k < rs_nf kd → rs_rf kd k = 0 → rs_ty kd k = .int := by decide +kernel
section RSM
variable {p : Program} {l : Launch} {e : Env} {R : Room} {s : State} {m : MethodId} {args : Array Value} {below : List Frame} {meth : Method} {c : Code} {H : Heap} {locs : List Loc} {cells slots : Nat} {Q : State → Prop}
variable {cc : ByteArray} {pc : Nat} {ls : Array Slot} {rest : List Value} {G : rs_G} {Bm : Nat} {S : rs_Shp} {σ : rs_Mem} {own : String} {nL : Nat} {ret : Option FieldType} {H0 : Heap}
theorem rs_obj (hH : rs_H G Bm S σ H) {kd v : Nat} (hv : rs_Ok S kd v) (h1 : 1 ≤ kd) (h2 : kd ≤ 11) : t_OB (Bm + v) (G.1.1 kd) (rs_nf kd) (G.1.2 kd) H (rs_fv Bm σ v kd) := by
  obtain ⟨a, b, rfl⟩ := hv
  exact (hH.2 v a b).1 h1 h2
theorem rs_arr (hH : rs_H G Bm S σ H) {kd v : Nat} (hv : rs_Ok S kd v) (h1 : 20 ≤ kd) (h2 : kd ≤ 26) : H[Bm + v]? = some (arrV (G.2 kd) (S.2.2 v) (rs_av Bm σ v kd)) := by
  obtain ⟨a, b, rfl⟩ := hv
  exact (hH.2 v a b).2 h1 h2
/-- memories that differ at one cell alone -/
def rs_off (σ σ' : rs_Mem) (v : Nat) : Prop := ∀ u, u ≠ v → ∀ k, rs_I σ' u k = rs_I σ u k ∧ rs_L σ' u k = rs_L σ u k ∧ rs_D σ' u k = rs_D σ u k ∧ rs_R σ' u k = rs_R σ u k
theorem rs_H.put {σ' : rs_Mem} {H1 : Heap} {v : Nat} (hH : rs_H G Bm S σ H) (ho : rs_off σ σ' v) (hz : H1.size = H.size) (hq : ∀ q : Nat, q ≠ Bm + v → H1[q]? = H[q]?) (hv : rs_cell G Bm S σ' H1 v) : rs_H G Bm S σ' H1 := by
  refine ⟨by rw [hz]; exact hH.1, fun u h0 hn => ?_⟩
  by_cases hu : u = v
  · subst hu; exact hv
  · have e1 : ∀ kd, rs_fv Bm σ' u kd = rs_fv Bm σ u kd := fun kd => by
      funext k; unfold rs_fv; rw [(ho u hu k).1, (ho u hu k).2.2.2]
    have e2 : ∀ kd, rs_av Bm σ' u kd = rs_av Bm σ u kd := fun kd => by
      funext k; unfold rs_av; rw [(ho u hu k).1, (ho u hu k).2.1, (ho u hu k).2.2.1, (ho u hu k).2.2.2]
    have hne : Bm + u ≠ Bm + v := by omega
    have h := hH.2 u h0 hn
    refine ⟨fun a b => ?_, fun a b => ?_⟩
    · rw [e1]; exact (h.1 a b).kept (hq _ hne)
    · rw [e2, hq _ hne]; exact h.2 a b
theorem rs_off_I {a k : Nat} {x : Int32} : rs_off σ (rs_sI σ a k x) a := fun u hu j => ⟨by simp [rs_I, rs_sI, rs_up, hu], rfl, rfl, rfl⟩
theorem rs_off_L {a k : Nat} {x : Int64} : rs_off σ (rs_sL σ a k x) a := fun u hu j => ⟨rfl, by simp [rs_L, rs_sL, rs_up, hu], rfl, rfl⟩
theorem rs_off_D {a k : Nat} {x : UInt64} : rs_off σ (rs_sD σ a k x) a := fun u hu j => ⟨rfl, rfl, by simp [rs_D, rs_sD, rs_up, hu], rfl⟩
theorem rs_off_R {a k : Nat} {x : Nat} : rs_off σ (rs_sR σ a k x) a := fun u hu j => ⟨rfl, rfl, rfl, by simp [rs_R, rs_sR, rs_up, hu]⟩
theorem rs_T_I {a k : Nat} {x : Int32} (h : rs_T S σ) : rs_T S (rs_sI σ a k x) := h
theorem rs_T_L {a k : Nat} {x : Int64} (h : rs_T S σ) : rs_T S (rs_sL σ a k x) := h
theorem rs_T_D {a k : Nat} {x : UInt64} (h : rs_T S σ) : rs_T S (rs_sD σ a k x) := h
theorem rs_fld (hts : ∀ w ∈ rs_W, w.before args s = true) (hK : rs_K G s) {kd k : Nat} (h1 : 1 ≤ kd) (h2 : kd ≤ 11) (hk : k < rs_nf kd) :
    ∃ (cC : ClassId) (kC : Class) (cf fi : Nat) (kf : Class) (f : Field), s.vm.findClass (rs_cn kd) = some cC ∧ cC = G.1.1 kd ∧ s.vm.classes[cC]? = some kC ∧ kC.kind = .ordinary ∧ s.fieldFound? (rs_cn kd) (rs_ft kd k).2.1 (rs_ft kd k).2.2.1 = some (cf, kf, fi, f) ∧ f.isStatic = false ∧ f.slot = G.1.2 kd k := by
  obtain ⟨hS, hfc, kC, hkC, hkind⟩ := hK.1.1 kd _ (rs_cl_at h2)
  obtain ⟨cf, kf, fi, f, hi, hsl⟩ := hS k hk
  have hst := (u_facts hfc hkC (u_lays hts (rs_lays kd h1 h2) hk) hi).1
  have e := rs_own kd (by omega) k hk
  dsimp only at hi hfc hkC
  rw [e] at hi
  exact ⟨_, kC, cf, fi, kf, f, hfc, rfl, hkC, hkind, hi, hst, hsl⟩
theorem rs_get (C : rs_C own cc nL ret G p s m meth c args) (hH : rs_H G Bm S σ H) {kd v k index : Nat} (hv : rs_Ok S kd v) (h1 : 1 ≤ kd) (h2 : kd ≤ 11) (hk : k < rs_nf kd)
    (hlink : Cond.fieldLink own index (rs_cn kd) (rs_ft kd k).2.1 (rs_ft kd k).2.2.1 ∈ rs_W) (hdg : decode cc pc = .ok (.getfield index, 3))
    (kk : W p l e R s m args below meth c H locs cells slots Q (F0 m (pc + 3) ls (rs_fv Bm σ v kd k :: rest))) : W p l e R s m args below meth c H locs cells slots Q (F0 m pc ls (.ref (Bm + v) :: rest)) := by
  obtain ⟨hx, hb, -, -, hown, hts, hK, -⟩ := C
  obtain ⟨cell, q1, q2, q3, q4⟩ := rs_obj hH hv h1 h2
  obtain ⟨cC, kC, cf, fi, kf, f, -, -, -, -, hi, hst, hsl⟩ := rs_fld hts hK h1 h2 hk
  exact W.getf hx hb hown (hts _ hlink) hi hst q1 (by rw [q3]; exact fun h => by cases h) (v := rs_fv Bm σ v kd k) (by rw [hsl]; exact q4 k hk) rfl rfl hdg kk
theorem rs_getI (C : rs_C own cc nL ret G p s m meth c args) (hH : rs_H G Bm S σ H) {kd v k index : Nat} (hv : rs_Ok S kd v) (h0 : (1 ≤ kd ∧ kd ≤ 11) ∧ k < rs_nf kd ∧ rs_rf kd k = 0)
    (hlink : Cond.fieldLink own index (rs_cn kd) (rs_ft kd k).2.1 (rs_ft kd k).2.2.1 ∈ rs_W) (hdg : decode cc pc = .ok (.getfield index, 3))
    (kk : W p l e R s m args below meth c H locs cells slots Q (F0 m (pc + 3) ls (.int (rs_I σ v k) :: rest))) : W p l e R s m args below meth c H locs cells slots Q (F0 m pc ls (.ref (Bm + v) :: rest)) := by
  refine rs_get C hH hv h0.1.1 h0.1.2 h0.2.1 hlink hdg ?_
  have e : rs_fv Bm σ v kd k = .int (rs_I σ v k) := if_pos h0.2.2
  rw [e]; exact kk
theorem rs_rv_ok {kd r : Nat} (h : rs_Ok S kd r) : rs_rv Bm r = .ref (Bm + r) := if_neg (by have := h.1; omega)
theorem rs_getR (C : rs_C own cc nL ret G p s m meth c args) (hH : rs_H G Bm S σ H) (hT : rs_T S σ) {kd v k kr index : Nat} (hv : rs_Ok S kd v) (h0 : (1 ≤ kd ∧ kd ≤ 11) ∧ k < rs_nf kd ∧ rs_rf kd k = kr ∧ kr ≠ 0)
    (hlink : Cond.fieldLink own index (rs_cn kd) (rs_ft kd k).2.1 (rs_ft kd k).2.2.1 ∈ rs_W) (hdg : decode cc pc = .ok (.getfield index, 3))
    (kk : rs_Ok S kr (rs_R σ v k) → W p l e R s m args below meth c H locs cells slots Q (F0 m (pc + 3) ls (.ref (Bm + rs_R σ v k) :: rest))) : W p l e R s m args below meth c H locs cells slots Q (F0 m pc ls (.ref (Bm + v) :: rest)) := by
  refine rs_get C hH hv h0.1.1 h0.1.2 h0.2.1 hlink hdg ?_
  obtain ⟨⟨a1, a2⟩, a3, rfl, a5⟩ := h0
  have ok := hT.1 kd v k hv a1 a2 a3 a5
  have e : rs_fv Bm σ v kd k = .ref (Bm + rs_R σ v k) := by unfold rs_fv; rw [if_neg a5]; exact rs_rv_ok ok
  rw [e]; exact kk ok
theorem rs_apart (hts : ∀ w ∈ rs_W, w.before args s = true) (hK : rs_K G s) {kd : Nat} (h1 : 1 ≤ kd) (h2 : kd ≤ 11) : ∀ x y, x < rs_nf kd → y < rs_nf kd → x ≠ y → G.1.2 kd x ≠ G.1.2 kd y :=
  va_apart (own := "") hts (rs_lays kd h1 h2) (rs_ty kd) (fun k hk => rs_pd kd (by omega) k hk) (rs_nm kd (by omega)) hK.1 (rs_cl_at h2)
theorem rs_cell_fld {σ' : rs_Mem} {H1 : Heap} {kd v k : Nat} {w : Value} {cell : Cell} (hv : rs_Ok S kd v) (h2 : kd ≤ 11) (q2 : cell.cls = G.1.1 kd) (q3 : cell.vm = .none) (q4 : ∀ j, j < rs_nf kd → cell.slots[G.1.2 kd j]? = some (rs_fv Bm σ v kd j))
    (hap : ∀ x y, x < rs_nf kd → y < rs_nf kd → x ≠ y → G.1.2 kd x ≠ G.1.2 kd y) (hk : k < rs_nf kd) (e1 : H1[Bm + v]? = some (cell.setSlot (G.1.2 kd k) w)) (hn : ∀ j, j < rs_nf kd → updV (rs_fv Bm σ v kd) k w j = rs_fv Bm σ' v kd j) : rs_cell G Bm S σ' H1 v := by
  obtain ⟨a, b, rfl⟩ := hv
  refine ⟨fun _ _ => t_OB.to (V := updV (rs_fv Bm σ v (S.2.1 v)) k w) ⟨_, e1, q2, q3, t_set q4 hap hk w⟩ hn, fun h _ => by omega⟩
theorem rs_put (C : rs_C own cc nL ret G p s m meth c args) (hH : rs_H G Bm S σ H) (hS : va_S (rs_A Bm) H0 H locs) {kd v k index : Nat} {w : Value} {σ' : rs_Mem} (hv : rs_Ok S kd v) (h1 : 1 ≤ kd) (h2 : kd ≤ 11) (hk : k < rs_nf kd) (hfin : (rs_ft kd k).2.2.2 = false)
    (hn : narrow (rs_ty kd k) w = w) (hfit : fits (rs_ty kd k) w = true) (ho : rs_off σ σ' v) (hw : ∀ j, j < rs_nf kd → updV (rs_fv Bm σ v kd) k w j = rs_fv Bm σ' v kd j)
    (hlink : Cond.fieldLink own index (rs_cn kd) (rs_ft kd k).2.1 (rs_ft kd k).2.2.1 ∈ rs_W) (hdg : decode cc pc = .ok (.putfield index, 3))
    (kk : ∀ (H1 : Heap) (locs1 : List Loc), rs_H G Bm S σ' H1 → va_S (rs_A Bm) H0 H1 locs1 → W p l e R s m args below meth c H1 locs1 cells slots Q (F0 m (pc + 3) ls rest)) : W p l e R s m args below meth c H locs cells slots Q (F0 m pc ls (w :: .ref (Bm + v) :: rest)) := by
  obtain ⟨hx, hb, -, -, hown, hts, hK, -⟩ := C
  obtain ⟨cell, q1, q2, q3, q4⟩ := rs_obj hH hv h1 h2
  obtain ⟨cC, kC, cf, fi, kf, f, hfc, hcC, hkC, hkind, hi, hst, hsl⟩ := rs_fld hts hK h1 h2 hk
  have hlay := hts _ (rs_lays kd h1 h2 _ (u_in_lay hk))
  unfold u_lay at hlay
  rw [if_neg (by rw [hfin]; decide), rs_own kd (by omega) k hk] at hlay
  have h6 := u_store hfc hkC hkind hlay hi (rs_pd kd (by omega) k hk) hn hfit
  refine W.putK hx hb (f := f) ⟨hown, hts _ hlink, ⟨_, _, _, hi⟩, hst⟩ (by rw [q2, ← hcC]; exact h6) q1 q3 (by rw [hsl]; exact k2_hasslot (q4 k hk)) rfl rfl hdg fun H' e1 e2 e3 => ?_
  rw [hsl] at e1 ⊢
  exact kk H' _ (hH.put ho e2 e3 (rs_cell_fld hv h2 q2 q3 q4 (rs_apart hts hK h1 h2) hk e1 hw)) (hS.put e2 e3 (by show Bm < Bm + v; have := hv.1; omega))
theorem rs_fvI {kd v k : Nat} {x : Int32} (h : rs_rf kd k = 0) (j : Nat) : updV (rs_fv Bm σ v kd) k (.int x) j = rs_fv Bm (rs_sI σ v k x) v kd j := by
  unfold updV rs_fv
  by_cases hj : j = k
  · subst hj; simp [h, rs_I, rs_sI, rs_up]
  · rw [if_neg hj]; simp [rs_I, rs_sI, rs_up, hj, rs_R]
theorem rs_fvR {kd v k : Nat} {x : Nat} (h : rs_rf kd k ≠ 0) (hx : x ≠ 0) (j : Nat) : updV (rs_fv Bm σ v kd) k (.ref (Bm + x)) j = rs_fv Bm (rs_sR σ v k x) v kd j := by
  unfold updV rs_fv
  by_cases hj : j = k
  · subst hj; simp [h, rs_R, rs_sR, rs_up, rs_rv, hx]
  · rw [if_neg hj]; simp [rs_I, rs_sR, rs_up, hj, rs_R]
theorem rs_putI (C : rs_C own cc nL ret G p s m meth c args) (hH : rs_H G Bm S σ H) (hT : rs_T S σ) (hS : va_S (rs_A Bm) H0 H locs) {kd v k index : Nat} {x : Int32} (hv : rs_Ok S kd v) (h0 : (1 ≤ kd ∧ kd ≤ 11) ∧ k < rs_nf kd ∧ rs_rf kd k = 0) (hfin : (rs_ft kd k).2.2.2 = false)
    (hlink : Cond.fieldLink own index (rs_cn kd) (rs_ft kd k).2.1 (rs_ft kd k).2.2.1 ∈ rs_W) (hdg : decode cc pc = .ok (.putfield index, 3))
    (kk : ∀ (σ1 : rs_Mem) (H1 : Heap) (locs1 : List Loc), σ1 = rs_sI σ v k x → rs_H G Bm S σ1 H1 → rs_T S σ1 → va_S (rs_A Bm) H0 H1 locs1 → W p l e R s m args below meth c H1 locs1 cells slots Q (F0 m (pc + 3) ls rest)) : W p l e R s m args below meth c H locs cells slots Q (F0 m pc ls (.int x :: .ref (Bm + v) :: rest)) := by
  have ht := rs_kty kd (by omega) k h0.2.1 h0.2.2
  exact rs_put C hH hS hv h0.1.1 h0.1.2 h0.2.1 hfin (by rw [ht]; rfl) (by rw [ht]; rfl) rs_off_I (fun j _ => rs_fvI h0.2.2 j) hlink hdg fun H1 locs1 g1 g2 => kk _ H1 locs1 rfl g1 (rs_T_I hT) g2
theorem rs_putR (C : rs_C own cc nL ret G p s m meth c args) (hH : rs_H G Bm S σ H) (hT : rs_T S σ) (hS : va_S (rs_A Bm) H0 H locs) {kd v k kr index : Nat} {x : Nat} (hv : rs_Ok S kd v) (h0 : (1 ≤ kd ∧ kd ≤ 11) ∧ k < rs_nf kd ∧ rs_rf kd k = kr ∧ kr ≠ 0) (hfin : (rs_ft kd k).2.2.2 = false)
    (hn : narrow (rs_ty kd k) (.ref (Bm + x)) = .ref (Bm + x)) (hfit : fits (rs_ty kd k) (.ref (Bm + x)) = true) (hr : rs_Ok S kr x)
    (hlink : Cond.fieldLink own index (rs_cn kd) (rs_ft kd k).2.1 (rs_ft kd k).2.2.1 ∈ rs_W) (hdg : decode cc pc = .ok (.putfield index, 3))
    (kk : ∀ (σ1 : rs_Mem) (H1 : Heap) (locs1 : List Loc), σ1 = rs_sR σ v k x → rs_H G Bm S σ1 H1 → rs_T S σ1 → va_S (rs_A Bm) H0 H1 locs1 → W p l e R s m args below meth c H1 locs1 cells slots Q (F0 m (pc + 3) ls rest)) : W p l e R s m args below meth c H locs cells slots Q (F0 m pc ls (.ref (Bm + x) :: .ref (Bm + v) :: rest)) := by
  obtain ⟨⟨a1, a2⟩, a3, a4, a5⟩ := h0
  have hx0 : x ≠ 0 := by have := hr.1; omega
  refine rs_put C hH hS hv a1 a2 a3 hfin hn hfit rs_off_R (fun j _ => rs_fvR (by rw [a4]; exact a5) hx0 j) hlink hdg fun H1 locs1 g1 g2 => kk _ H1 locs1 rfl g1 ⟨?_, ?_⟩ g2
  · intro kd' v' k' hv' b1 b2 b3 b4
    by_cases h : v' = v ∧ k' = k
    · obtain ⟨rfl, rfl⟩ := h
      have : kd' = kd := hv'.2.2.symm.trans hv.2.2
      subst this
      rw [a4]
      simpa [rs_R, rs_sR, rs_up] using hr
    · have := hT.1 kd' v' k' hv' b1 b2 b3 b4
      simpa [rs_R, rs_sR, rs_up, h] using this
  · intro kd' v' j hv' b1 b2 b3
    have hne : ¬ (v' = v ∧ j = k) := fun h => by
      obtain ⟨rfl, rfl⟩ := h
      have : kd' = kd := hv'.2.2.symm.trans hv.2.2
      omega
    have := hT.2 kd' v' j hv' b1 b2 b3
    simpa [rs_R, rs_sR, rs_up, hne] using this
theorem rs_topr {r : Nat} (k : ∀ y : Nat, y = r → W p l e R s m args below meth c H locs cells slots Q (F0 m pc ls (.ref (Bm + y) :: rest))) : W p l e R s m args below meth c H locs cells slots Q (F0 m pc ls (.ref (Bm + r) :: rest)) := k r rfl
end RSM
end
section
/-! rows over the memory: arrays, answers, calls -/
theorem rs_good {y : MethodName} {bytes : ByteArray} {maxL : Nat} {ret : Option FieldType} (h : Cond.code y bytes maxL ret ∈ rs_W) : GoodIn rs_W (rs_ws y bytes maxL ret) := by
  intro w hw
  have hm : w ∈ rs_W := by
    rcases List.mem_cons.mp hw with rfl | hw
    · exact h
    · exact hw
  exact ⟨hm, good_of_word (List.mem_filter.mp hm).2⟩
/-- what the tables say of a method that is called -/
def rs_Cal (y : MethodName) (bytes : ByteArray) (maxL : Nat) (ret : Option FieldType) (n : Nat) : Prop :=
  Cond.code y bytes maxL ret ∈ rs_W ∧ Cond.initialized y.cls ∈ rs_W ∧ y.cls ≠ "java/lang/invoke/MethodHandle" ∧ y.cls ≠ "java/lang/invoke/VarHandle" ∧ (parseMethodDescriptor y.desc).map (fun d => d.parameters.length) = some n
def rs_Qr (G : rs_G) (Bm : Nat) (S : rs_Shp) (kd : Nat) (Q : Nat → rs_Mem → Prop) : Array Value → State → Outcome → State → Prop := va_Qr (S := Nat × rs_Mem) (fun u => Q u.1 u.2) (fun u a t => a = Bm + u.1 ∧ rs_Ok S kd u.1 ∧ rs_B G Bm S u.2 t) (rs_A Bm)
section RSR
variable {p : Program} {l : Launch} {e : Env} {R : Room} {s : State} {m : MethodId} {args : Array Value} {below : List Frame} {meth : Method} {c : Code} {H : Heap} {locs : List Loc} {cells slots : Nat} {Q : State → Prop}
variable {cc : ByteArray} {pc : Nat} {ls : Array Slot} {rest st0 : List Value} {G : rs_G} {Bm : Nat} {S : rs_Shp} {σ : rs_Mem} {own : String} {nL : Nat} {ret : Option FieldType} {H0 : Heap}
theorem rs_iald (C : rs_C own cc nL ret G p s m meth c args) (hH : rs_H G Bm S σ H) {v : Nat} (hv : rs_Ok S 20 v) {i : Int32} (hin : vp_in i (S.2.2 v)) (hdg : decode cc pc = .ok (.iaload, 1))
    (kk : W p l e R s m args below meth c H locs cells slots Q (F0 m (pc + 1) ls (.int (rs_I σ v i.toNatClampNeg) :: rest))) : W p l e R s m args below meth c H locs cells slots Q (F0 m pc ls (.int i :: .ref (Bm + v) :: rest)) := by
  obtain ⟨hx, hb, -, -, -, -, hK, -⟩ := C
  have hlt : i.toNatClampNeg < S.2.2 v := Nat.not_le.mp fun q => hin (Or.inr q)
  exact W.iald (v := .int (rs_I σ v i.toNatClampNeg)) hx hb (rs_arr hH hv (by omega) (by omega)) ((hK.2.1 20 (by omega) (by omega)).1 _ _) (fun q => by cases q) (by rw [arrV_size]; exact hin) (by rw [arrV_read _ _ hlt]; rfl) rfl rfl hdg kk
theorem rs_zald (C : rs_C own cc nL ret G p s m meth c args) (hH : rs_H G Bm S σ H) {v : Nat} (hv : rs_Ok S 21 v) {i : Int32} (hin : vp_in i (S.2.2 v)) (hdg : decode cc pc = .ok (.baload, 1))
    (kk : W p l e R s m args below meth c H locs cells slots Q (F0 m (pc + 1) ls (.int (rs_I σ v i.toNatClampNeg) :: rest))) : W p l e R s m args below meth c H locs cells slots Q (F0 m pc ls (.int i :: .ref (Bm + v) :: rest)) := by
  obtain ⟨hx, hb, -, -, -, -, hK, -⟩ := C
  have hlt : i.toNatClampNeg < S.2.2 v := Nat.not_le.mp fun q => hin (Or.inr q)
  exact W.zald (v := .int (rs_I σ v i.toNatClampNeg)) hx hb (rs_arr hH hv (by omega) (by omega)) ((hK.2.1 21 (by omega) (by omega)).1 _ _) (fun q => by cases q) (by rw [arrV_size]; exact hin) (by rw [arrV_read _ _ hlt]; rfl) rfl rfl hdg kk
theorem rs_lald (C : rs_C own cc nL ret G p s m meth c args) (hH : rs_H G Bm S σ H) {v : Nat} (hv : rs_Ok S 22 v) {i : Int32} (hin : vp_in i (S.2.2 v)) (hdg : decode cc pc = .ok (.laload, 1))
    (kk : W p l e R s m args below meth c H locs cells slots Q (F0 m (pc + 1) ls (.long (rs_L σ v i.toNatClampNeg) :: rest))) : W p l e R s m args below meth c H locs cells slots Q (F0 m pc ls (.int i :: .ref (Bm + v) :: rest)) := by
  obtain ⟨hx, hb, -, -, -, -, hK, -⟩ := C
  have hlt : i.toNatClampNeg < S.2.2 v := Nat.not_le.mp fun q => hin (Or.inr q)
  exact W.lald (v := .long (rs_L σ v i.toNatClampNeg)) hx hb (rs_arr hH hv (by omega) (by omega)) ((hK.2.1 22 (by omega) (by omega)).1 _ _) (fun q => by cases q) (by rw [arrV_size]; exact hin) (by rw [arrV_read _ _ hlt]; rfl) rfl rfl hdg kk
theorem rs_dald (C : rs_C own cc nL ret G p s m meth c args) (hH : rs_H G Bm S σ H) {v : Nat} (hv : rs_Ok S 23 v) {i : Int32} (hin : vp_in i (S.2.2 v)) (hdg : decode cc pc = .ok (.daload, 1))
    (kk : W p l e R s m args below meth c H locs cells slots Q (F0 m (pc + 1) ls (.double (rs_D σ v i.toNatClampNeg) :: rest))) : W p l e R s m args below meth c H locs cells slots Q (F0 m pc ls (.int i :: .ref (Bm + v) :: rest)) := by
  obtain ⟨hx, hb, -, -, -, -, hK, -⟩ := C
  have hlt : i.toNatClampNeg < S.2.2 v := Nat.not_le.mp fun q => hin (Or.inr q)
  exact W.dald (v := .double (rs_D σ v i.toNatClampNeg)) hx hb (rs_arr hH hv (by omega) (by omega)) ((hK.2.1 23 (by omega) (by omega)).1 _ _) (fun q => by cases q) (by rw [arrV_size]; exact hin) (by rw [arrV_read _ _ hlt]; rfl) rfl rfl hdg kk
theorem rs_aald (C : rs_C own cc nL ret G p s m meth c args) (hH : rs_H G Bm S σ H) (hT : rs_T S σ) {v kd kr : Nat} (hv : rs_Ok S kd v) (h0 : (24 ≤ kd ∧ kd ≤ 26) ∧ rs_ae kd = kr ∧ (rs_et kd).isReference = true) {i : Int32} (hin : vp_in i (S.2.2 v)) (hdg : decode cc pc = .ok (.aaload, 1))
    (kk : rs_Ok S kr (rs_R σ v i.toNatClampNeg) → W p l e R s m args below meth c H locs cells slots Q (F0 m (pc + 1) ls (.ref (Bm + rs_R σ v i.toNatClampNeg) :: rest))) : W p l e R s m args below meth c H locs cells slots Q (F0 m pc ls (.int i :: .ref (Bm + v) :: rest)) := by
  obtain ⟨hx, hb, -, -, -, -, hK, -⟩ := C
  obtain ⟨⟨h1, h2⟩, rfl, h3⟩ := h0
  have hlt : i.toNatClampNeg < S.2.2 v := Nat.not_le.mp fun q => hin (Or.inr q)
  have ok := hT.2 kd v _ hv h1 h2 hlt
  have ev : rs_av Bm σ v kd i.toNatClampNeg = .ref (Bm + rs_R σ v i.toNatClampNeg) := by
    unfold rs_av
    rw [if_neg (by omega), if_neg (by omega), if_neg (by omega)]
    exact rs_rv_ok ok
  exact W.aald (v := .ref (Bm + rs_R σ v i.toNatClampNeg)) hx hb (rs_arr hH hv (by omega) (by omega)) ((hK.2.1 kd (by omega) (by omega)).1 _ _) h3 (fun q => by cases q) (by rw [arrV_size]; exact hin) (by rw [arrV_read _ _ hlt, ev]) rfl rfl hdg (kk ok)
theorem rs_cell_arr {σ' : rs_Mem} {H1 : Heap} {kd v k : Nat} {w : Value} (hv : rs_Ok S kd v) (h1 : 20 ≤ kd) (e1 : H1[Bm + v]? = some ((arrV (G.2 kd) (S.2.2 v) (rs_av Bm σ v kd)).setSlot k w)) (hn : ∀ j, updV (rs_av Bm σ v kd) k w j = rs_av Bm σ' v kd j) : rs_cell G Bm S σ' H1 v := by
  obtain ⟨a, b, rfl⟩ := hv
  refine ⟨fun _ h => by omega, fun _ _ => ?_⟩
  rw [e1, arrV_store]
  exact congrArg some (congrArg _ (funext hn))
theorem rs_iast (C : rs_C own cc nL ret G p s m meth c args) (hH : rs_H G Bm S σ H) (hT : rs_T S σ) (hS : va_S (rs_A Bm) H0 H locs) {v : Nat} {x : Int32} (hv : rs_Ok S 20 v) {i : Int32} (hin : vp_in i (S.2.2 v)) (hdg : decode cc pc = .ok (.iastore, 1))
    (kk : ∀ (σ1 : rs_Mem) (H1 : Heap) (locs1 : List Loc), σ1 = rs_sI σ v i.toNatClampNeg x → rs_H G Bm S σ1 H1 → rs_T S σ1 → va_S (rs_A Bm) H0 H1 locs1 → W p l e R s m args below meth c H1 locs1 cells slots Q (F0 m (pc + 1) ls rest)) : W p l e R s m args below meth c H locs cells slots Q (F0 m pc ls (.int x :: .int i :: .ref (Bm + v) :: rest)) := by
  obtain ⟨hx, hb, -, -, -, -, hK, -⟩ := C
  refine W.iast hx hb (rs_arr hH hv (by omega) (by omega)) ((hK.2.1 20 (by omega) (by omega)).1 _ _) (fun q => by cases q) (by rw [arrV_size]; exact hin) rfl rfl hdg fun H1 e1 z oq => ?_
  refine kk _ H1 _ rfl (hH.put rs_off_I z oq (rs_cell_arr hv (by omega) e1 fun j => ?_)) (rs_T_I hT) (hS.put z oq (by show Bm < Bm + v; have := hv.1; omega))
  by_cases hj : j = i.toNatClampNeg
  · subst hj; simp [updV, rs_av, rs_I, rs_sI, rs_up]
  · simp [updV, rs_av, rs_I, rs_sI, rs_up, hj]
theorem rs_zast (C : rs_C own cc nL ret G p s m meth c args) (hH : rs_H G Bm S σ H) (hT : rs_T S σ) (hS : va_S (rs_A Bm) H0 H locs) {v : Nat} {x : Int32} (hz : x &&& 1 = x) (hv : rs_Ok S 21 v) {i : Int32} (hin : vp_in i (S.2.2 v)) (hdg : decode cc pc = .ok (.bastore, 1))
    (kk : ∀ (σ1 : rs_Mem) (H1 : Heap) (locs1 : List Loc), σ1 = rs_sI σ v i.toNatClampNeg x → rs_H G Bm S σ1 H1 → rs_T S σ1 → va_S (rs_A Bm) H0 H1 locs1 → W p l e R s m args below meth c H1 locs1 cells slots Q (F0 m (pc + 1) ls rest)) : W p l e R s m args below meth c H locs cells slots Q (F0 m pc ls (.int x :: .int i :: .ref (Bm + v) :: rest)) := by
  obtain ⟨hx, hb, -, -, -, -, hK, -⟩ := C
  refine W.zast hx hb (rs_arr hH hv (by omega) (by omega)) ((hK.2.1 21 (by omega) (by omega)).1 _ _) (fun q => by cases q) (by rw [arrV_size]; exact hin) rfl rfl hdg fun H1 e1 z oq => ?_
  refine kk _ H1 _ rfl (hH.put rs_off_I z oq (rs_cell_arr hv (by omega) e1 fun j => ?_)) (rs_T_I hT) (hS.put z oq (by show Bm < Bm + v; have := hv.1; omega))
  have e : narrow .boolean (.int x) = .int x := congrArg Value.int hz
  rw [e]
  by_cases hj : j = i.toNatClampNeg
  · subst hj; simp [updV, rs_av, rs_I, rs_sI, rs_up]
  · simp [updV, rs_av, rs_I, rs_sI, rs_up, hj]
theorem rs_last (C : rs_C own cc nL ret G p s m meth c args) (hH : rs_H G Bm S σ H) (hT : rs_T S σ) (hS : va_S (rs_A Bm) H0 H locs) {v : Nat} {x : Int64} (hv : rs_Ok S 22 v) {i : Int32} (hin : vp_in i (S.2.2 v)) (hdg : decode cc pc = .ok (.lastore, 1))
    (kk : ∀ (σ1 : rs_Mem) (H1 : Heap) (locs1 : List Loc), σ1 = rs_sL σ v i.toNatClampNeg x → rs_H G Bm S σ1 H1 → rs_T S σ1 → va_S (rs_A Bm) H0 H1 locs1 → W p l e R s m args below meth c H1 locs1 cells slots Q (F0 m (pc + 1) ls rest)) : W p l e R s m args below meth c H locs cells slots Q (F0 m pc ls (.long x :: .int i :: .ref (Bm + v) :: rest)) := by
  obtain ⟨hx, hb, -, -, -, -, hK, -⟩ := C
  refine W.last hx hb (rs_arr hH hv (by omega) (by omega)) ((hK.2.1 22 (by omega) (by omega)).1 _ _) (fun q => by cases q) (by rw [arrV_size]; exact hin) rfl rfl hdg fun H1 e1 z oq => ?_
  refine kk _ H1 _ rfl (hH.put rs_off_L z oq (rs_cell_arr hv (by omega) e1 fun j => ?_)) (rs_T_L hT) (hS.put z oq (by show Bm < Bm + v; have := hv.1; omega))
  by_cases hj : j = i.toNatClampNeg
  · subst hj; simp [updV, rs_av, rs_L, rs_sL, rs_up]
  · simp [updV, rs_av, rs_L, rs_sL, rs_up, hj]
theorem rs_dast (C : rs_C own cc nL ret G p s m meth c args) (hH : rs_H G Bm S σ H) (hT : rs_T S σ) (hS : va_S (rs_A Bm) H0 H locs) {v : Nat} {x : UInt64} (hv : rs_Ok S 23 v) {i : Int32} (hin : vp_in i (S.2.2 v)) (hdg : decode cc pc = .ok (.dastore, 1))
    (kk : ∀ (σ1 : rs_Mem) (H1 : Heap) (locs1 : List Loc), σ1 = rs_sD σ v i.toNatClampNeg x → rs_H G Bm S σ1 H1 → rs_T S σ1 → va_S (rs_A Bm) H0 H1 locs1 → W p l e R s m args below meth c H1 locs1 cells slots Q (F0 m (pc + 1) ls rest)) : W p l e R s m args below meth c H locs cells slots Q (F0 m pc ls (.double x :: .int i :: .ref (Bm + v) :: rest)) := by
  obtain ⟨hx, hb, -, -, -, -, hK, -⟩ := C
  refine W.dast hx hb (rs_arr hH hv (by omega) (by omega)) ((hK.2.1 23 (by omega) (by omega)).1 _ _) (fun q => by cases q) (by rw [arrV_size]; exact hin) rfl rfl hdg fun H1 e1 z oq => ?_
  refine kk _ H1 _ rfl (hH.put rs_off_D z oq (rs_cell_arr hv (by omega) e1 fun j => ?_)) (rs_T_D hT) (hS.put z oq (by show Bm < Bm + v; have := hv.1; omega))
  by_cases hj : j = i.toNatClampNeg
  · subst hj; simp [updV, rs_av, rs_D, rs_sD, rs_up]
  · simp [updV, rs_av, rs_D, rs_sD, rs_up, hj]
theorem rs_alen (C : rs_C own cc nL ret G p s m meth c args) (hH : rs_H G Bm S σ H) {v kd : Nat} (hv : rs_Ok S kd v) (h0 : 20 ≤ kd ∧ kd ≤ 26) (hdg : decode cc pc = .ok (.arraylength, 1))
    (kk : W p l e R s m args below meth c H locs cells slots Q (F0 m (pc + 1) ls (.int (nI (S.2.2 v)) :: rest))) : W p l e R s m args below meth c H locs cells slots Q (F0 m pc ls (.ref (Bm + v) :: rest)) := by
  obtain ⟨hx, hb, -, -, -, -, hK, -⟩ := C
  exact W.alen (n := nI (S.2.2 v)) hx hb (rs_arr hH hv h0.1 h0.2) ((hK.2.1 kd h0.1 h0.2).1 _ _) (by rw [arrV_size]; rfl) rfl rfl hdg kk
-- answers
theorem rs_iret {Q' : Int32 → rs_Mem → Prop} (C : rs_C own cc nL (some .int) G p s m meth c args) (hH : rs_H G Bm S σ H) (hT : rs_T S σ) (hS : va_S (rs_A Bm) s.heap H locs) {v : Int32} (hF : Q' v σ) (hdg : decode cc pc = .ok (.ireturn, 1)) :
    W p l e R s m args below meth c H locs cells slots (MQ below (rs_Qi G Bm S Q') args s cells slots (rs_A Bm)) (F0 m pc ls [.int v]) := by
  obtain ⟨hx, hb, -, hr, -, -, hK, hlk⟩ := C
  exact W.iret hx hb hr (fun t ht hW => ⟨⟨v, σ, rfl, hF, by rw [ht]; exact hH, hT⟩, hS.F ht⟩) hS.2.2 hdg hlk
theorem rs_zret {Q' : Int32 → rs_Mem → Prop} (C : rs_C own cc nL (some .boolean) G p s m meth c args) (hH : rs_H G Bm S σ H) (hT : rs_T S σ) (hS : va_S (rs_A Bm) s.heap H locs) {v : Int32} (hz : v &&& 1 = v) (hF : Q' v σ) (hdg : decode cc pc = .ok (.ireturn, 1)) :
    W p l e R s m args below meth c H locs cells slots (MQ below (rs_Qi G Bm S Q') args s cells slots (rs_A Bm)) (F0 m pc ls [.int v]) := by
  obtain ⟨hx, hb, -, hr, -, -, hK, hlk⟩ := C
  exact W.zret hx hb hr (congrArg Value.int hz) (fun t ht hW => ⟨⟨v, σ, rfl, hF, by rw [ht]; exact hH, hT⟩, hS.F ht⟩) hS.2.2 hdg hlk
theorem rs_vret {Q' : rs_Mem → Prop} (C : rs_C own cc nL none G p s m meth c args) (hH : rs_H G Bm S σ H) (hT : rs_T S σ) (hS : va_S (rs_A Bm) s.heap H locs) (hF : Q' σ) (hdg : decode cc pc = .ok (.return_, 1)) :
    W p l e R s m args below meth c H locs cells slots (MQ below (rs_Qv G Bm S Q') args s cells slots (rs_A Bm)) (F0 m pc ls []) := by
  obtain ⟨hx, hb, -, hr, -, -, hK, hlk⟩ := C
  exact W.vret hx hb hr (fun t ht hW => ⟨⟨σ, rfl, hF, by rw [ht]; exact hH, hT⟩, hS.F ht⟩) hS.2.2 hdg hlk
theorem rs_dret {Q' : UInt64 → rs_Mem → Prop} (C : rs_C own cc nL (some .double) G p s m meth c args) (hH : rs_H G Bm S σ H) (hT : rs_T S σ) (hS : va_S (rs_A Bm) s.heap H locs) {v : UInt64} (hF : Q' v σ) (hdg : decode cc pc = .ok (.dreturn, 1)) :
    W p l e R s m args below meth c H locs cells slots (MQ below (rs_Qd G Bm S Q') args s cells slots (rs_A Bm)) (F0 m pc ls [.double v]) := by
  obtain ⟨hx, hb, -, hr, -, -, hK, hlk⟩ := C
  exact W.dret hx hb hr (fun t ht hW => ⟨⟨v, σ, rfl, hF, by rw [ht]; exact hH, hT⟩, hS.F ht⟩) hS.2.2 hdg hlk
theorem rs_aret {Q' : Nat → rs_Mem → Prop} {kd : Nat} {n : String} (C : rs_C own cc nL (some (.object n)) G p s m meth c args) (hH : rs_H G Bm S σ H) (hT : rs_T S σ) (hS : va_S (rs_A Bm) s.heap H locs) {v : Nat} (hv : rs_Ok S kd v) (hF : Q' v σ) (hdg : decode cc pc = .ok (.areturn, 1)) :
    W p l e R s m args below meth c H locs cells slots (MQ below (rs_Qr G Bm S kd Q') args s cells slots (rs_A Bm)) (F0 m pc ls [.ref (Bm + v)]) := by
  obtain ⟨hx, hb, -, hr, -, -, hK, hlk⟩ := C
  exact W.aret hx hb hr (Or.inl ⟨n, rfl⟩) (Or.inr ⟨_, rfl⟩) (fun t ht hW => ⟨⟨(v, σ), Bm + v, rfl, hF, rfl, hv, by rw [ht]; exact hH, hT⟩, hS.F ht⟩) hS.2.2 hdg hlk
-- calls
theorem rs_runV {y : MethodName} {bytes : ByteArray} {maxL n index kd v : Nat} {rt : Option FieldType} {rm : Room} {As : List Value} {Qc : Array Value → State → Outcome → State → Prop} {lv : List (Nat × Value)}
    (C : rs_C own cc nL ret G p s m meth c args) (hH : rs_H G Bm S σ H) (hT : rs_T S σ) (hl : lv_has ls nL lv) (hM : Met l y (rs_ws y bytes maxL rt) rm (rs_P G Bm S σ (.ref (Bm + v) :: As)) Qc 0 0 (rs_A Bm)) (hc : rs_Cal y bytes maxL rt n)
    (hlink : Cond.methodLink own index y ∈ rs_W) (hinst : Cond.instanceMethod y ∈ rs_W) (hsel : Cond.selects y.cls y y ∈ rs_W) (hv : rs_Ok S kd v) (hkd : y.cls = rs_cn kd ∧ 1 ≤ kd ∧ kd ≤ 11) (hn : As.length = n)
    (hR : (rm.cells = 0 ∧ rm.slots = 0) ∧ (rm.frames + 1 ≤ R.frames ∧ 8 + (maxL + 11) + rm.locals ≤ R.locals) ∧ cells ≤ R.cells ∧ slots ≤ R.slots) (hW : (rest.map fun v => v.category).sum ≤ 8) (hst : st0 = As.reverse ++ .ref (Bm + v) :: rest) (hdg : decode cc pc = .ok (.invokevirtual index, 3)) :
    va_Run p l e R s m args below meth c H locs cells slots 0 0 (F0 m pc ls st0) rest (Qc (Value.ref (Bm + v) :: As).toArray) (rs_A Bm) := by
  obtain ⟨hx, hb, hml, -, hown, hts, hK, -⟩ := C
  obtain ⟨cell, q1, q2, q3, -⟩ := rs_obj hH hv hkd.2.1 hkd.2.2
  have hfc := (hK.1.1 kd _ (rs_cl_at hkd.2.2)).2.1
  refine va_runV (C := y.cls) ⟨hx, hb, hml, hown, hts⟩ hM ⟨callB_of n hts (rs_good hc.1) rfl hR.1.1 hR.1.2 (hts _ hc.2.1) (hts _ hlink) hc.2.2 hR.2.1, hts _ hinst, hts _ hsel⟩ ⟨rs_blind, ⟨cell, q1, by rw [q3]; rfl, by rw [hkd.1, q2]; exact hfc⟩, fun U hU hWm => ⟨rfl, ⟨by rw [hU]; exact hH, hT⟩, hK.moved hWm⟩⟩ rfl hn hl.1 hst (lv_room (rest := st0) hW) hdg hR.2.2
theorem rs_runS {y : MethodName} {bytes : ByteArray} {maxL n index : Nat} {rt : Option FieldType} {rm : Room} {As : List Value} {Qc : Array Value → State → Outcome → State → Prop} {lv : List (Nat × Value)}
    (C : rs_C own cc nL ret G p s m meth c args) (hH : rs_H G Bm S σ H) (hT : rs_T S σ) (hl : lv_has ls nL lv) (hM : Met l y (rs_ws y bytes maxL rt) rm (rs_P G Bm S σ As) Qc 0 0 (rs_A Bm)) (hc : rs_Cal y bytes maxL rt n)
    (hlink : Cond.methodLink own index y ∈ rs_W) (hstat : Cond.static y ∈ rs_W) (hn : As.length = n)
    (hR : (rm.cells = 0 ∧ rm.slots = 0) ∧ (rm.frames + 1 ≤ R.frames ∧ 8 + (maxL + 11) + rm.locals ≤ R.locals) ∧ cells ≤ R.cells ∧ slots ≤ R.slots) (hW : (rest.map fun v => v.category).sum ≤ 8) (hst : st0 = As.reverse ++ rest) (hdg : decode cc pc = .ok (.invokestatic index, 3)) :
    va_Run p l e R s m args below meth c H locs cells slots 0 0 (F0 m pc ls st0) rest (Qc As.toArray) (rs_A Bm) := by
  obtain ⟨hx, hb, hml, -, hown, hts, hK, -⟩ := C
  refine va_runS ⟨hx, hb, hml, hown, hts⟩ hM ⟨callB_of n hts (rs_good hc.1) rfl hR.1.1 hR.1.2 (hts _ hc.2.1) (hts _ hlink) hc.2.2 hR.2.1, hts _ hstat⟩ ⟨rs_blind, fun U hU hWm => ⟨rfl, ⟨by rw [hU]; exact hH, hT⟩, hK.moved hWm⟩⟩ rfl hn hl.1 hst (lv_room (rest := st0) hW) hdg hR.2.2
theorem rs_runSN {y : MethodName} {host : String} {bytes : ByteArray} {maxL n index : Nat} {rt : Option FieldType} {rm : Room} {As : List Value} {Qc : Array Value → State → Outcome → State → Prop} {lv : List (Nat × Value)}
    (C : rs_C own cc nL ret G p s m meth c args) (hH : rs_H G Bm S σ H) (hT : rs_T S σ) (hl : lv_has ls nL lv) (hM : Met l y (rs_ws y bytes maxL rt) rm (rs_P G Bm S σ As) Qc 0 0 (rs_A Bm)) (hc : rs_Cal y bytes maxL rt n)
    (hlink : (own, index, y, host) ∈ rs_NW) (hstat : Cond.static y ∈ rs_W) (hn : As.length = n)
    (hR : (rm.cells = 0 ∧ rm.slots = 0) ∧ (rm.frames + 1 ≤ R.frames ∧ 8 + (maxL + 11) + rm.locals ≤ R.locals) ∧ cells ≤ R.cells ∧ slots ≤ R.slots) (hW : (rest.map fun v => v.category).sum ≤ 8) (hst : st0 = As.reverse ++ rest) (hdg : decode cc pc = .ok (.invokestatic index, 3)) :
    va_Run p l e R s m args below meth c H locs cells slots 0 0 (F0 m pc ls st0) rest (Qc As.toArray) (rs_A Bm) := by
  obtain ⟨hx, hb, hml, -, hown, hts, hK, -⟩ := C
  refine va_runSN (host := host) ⟨hx, hb, hml, hown, hts⟩ hM ⟨va_cnB n hts (rs_good hc.1) rfl hR.1.1 hR.1.2 (hK.2.2 _ hlink) (hts _ hc.2.1) hc.2.2 hR.2.1, hts _ hstat, trivial⟩ ⟨rs_blind, fun U hU hWm => ⟨rfl, ⟨by rw [hU]; exact hH, hT⟩, hK.moved hWm⟩⟩ rfl hn hl.1 hst (lv_room (rest := st0) hW) hdg hR.2.2
theorem rs_ci {Q' : Int32 → rs_Mem → Prop} {a : Array Value} (hr : va_Run p l e R s m args below meth c H locs cells slots 0 0 (F0 m pc ls st0) rest (rs_Qi G Bm S Q' a) (rs_A Bm)) (hS : va_S (rs_A Bm) H0 H locs)
    (kk : ∀ (r : Int32) (σ1 : rs_Mem) (H1 : Heap) (locs1 : List Loc), rs_H G Bm S σ1 H1 → rs_T S σ1 → va_S (rs_A Bm) H0 H1 locs1 → Q' r σ1 → W p l e R s m args below meth c H1 locs1 cells slots Q (F0 m (pc + 3) ls (.int r :: rest))) : W p l e R s m args below meth c H locs cells slots Q (F0 m pc ls st0) :=
  va_calli hr hS (fun _ _ h => h) (fun _ h => h) fun r u t H1 locs1 ht _ hp hB _ _ hS1 => kk r u H1 locs1 (by rw [← ht]; exact hB.1) hB.2 hS1 hp
theorem rs_cd {Q' : UInt64 → rs_Mem → Prop} {a : Array Value} (hr : va_Run p l e R s m args below meth c H locs cells slots 0 0 (F0 m pc ls st0) rest (rs_Qd G Bm S Q' a) (rs_A Bm)) (hS : va_S (rs_A Bm) H0 H locs)
    (kk : ∀ (r : UInt64) (σ1 : rs_Mem) (H1 : Heap) (locs1 : List Loc), rs_H G Bm S σ1 H1 → rs_T S σ1 → va_S (rs_A Bm) H0 H1 locs1 → Q' r σ1 → W p l e R s m args below meth c H1 locs1 cells slots Q (F0 m (pc + 3) ls (.double r :: rest))) : W p l e R s m args below meth c H locs cells slots Q (F0 m pc ls st0) :=
  va_calld hr hS (fun _ _ h => h) (fun _ h => h) fun r u t H1 locs1 ht _ hp hB _ _ hS1 => kk r u H1 locs1 (by rw [← ht]; exact hB.1) hB.2 hS1 hp
theorem rs_cv {Q' : rs_Mem → Prop} {a : Array Value} (hr : va_Run p l e R s m args below meth c H locs cells slots 0 0 (F0 m pc ls st0) rest (rs_Qv G Bm S Q' a) (rs_A Bm)) (hS : va_S (rs_A Bm) H0 H locs)
    (kk : ∀ (σ1 : rs_Mem) (H1 : Heap) (locs1 : List Loc), rs_H G Bm S σ1 H1 → rs_T S σ1 → va_S (rs_A Bm) H0 H1 locs1 → Q' σ1 → W p l e R s m args below meth c H1 locs1 cells slots Q (F0 m (pc + 3) ls rest)) : W p l e R s m args below meth c H locs cells slots Q (F0 m pc ls st0) :=
  va_callv hr hS (fun _ _ h => h) (fun _ h => h) fun u t H1 locs1 ht _ hp hB _ _ hS1 => kk u H1 locs1 (by rw [← ht]; exact hB.1) hB.2 hS1 hp
theorem rs_cr {Q' : Nat → rs_Mem → Prop} {kd : Nat} {a : Array Value} (hr : va_Run p l e R s m args below meth c H locs cells slots 0 0 (F0 m pc ls st0) rest (rs_Qr G Bm S kd Q' a) (rs_A Bm)) (hS : va_S (rs_A Bm) H0 H locs)
    (kk : ∀ (r : Nat) (σ1 : rs_Mem) (H1 : Heap) (locs1 : List Loc), rs_Ok S kd r → rs_H G Bm S σ1 H1 → rs_T S σ1 → va_S (rs_A Bm) H0 H1 locs1 → Q' r σ1 → W p l e R s m args below meth c H1 locs1 cells slots Q (F0 m (pc + 3) ls (.ref (Bm + r) :: rest))) : W p l e R s m args below meth c H locs cells slots Q (F0 m pc ls st0) :=
  va_callr hr hS (fun _ _ h => h) (fun _ h => h) fun u ra t H1 locs1 ht _ hp hB _ _ hS1 => by
    obtain ⟨rfl, hk, hB1, hB2⟩ := hB
    exact kk u.1 u.2 H1 locs1 hk (by rw [← ht]; exact hB1) hB2 hS1 hp
/-- Math.min -/
theorem rs_min (C : rs_C own cc nL ret G p s m meth c args) {lv : List (Nat × Value)} (hl : lv_has ls nL lv) {index : Nat} (hlink : Cond.methodLink own index Lib.Math.min.name ∈ rs_W) (hstat : Cond.static Lib.Math.min.name ∈ rs_W) (hini : Cond.initialized "java/lang/Math" ∈ rs_W) (hcode : Cond.code Lib.Math.min.name Lib.Math.min.code 2 (some .int) ∈ rs_W)
    (hR : 1 ≤ R.frames ∧ (rest.map fun v => v.category).sum + 13 ≤ R.locals ∧ cells ≤ R.cells ∧ slots ≤ R.slots) {x y : Int32} (hdg : decode cc pc = .ok (.invokestatic index, 3))
    (kk : W p l e R s m args below meth c H locs cells slots Q (F0 m (pc + 3) ls (.int (if y < x then y else x) :: rest))) : W p l e R s m args below meth c H locs cells slots Q (F0 m pc ls (.int y :: .int x :: rest)) := by
  obtain ⟨hx, hb, hml, -, hown, hts, hK, -⟩ := C
  exact va_mmin hx hb (by rw [hml]; exact hl.1.symm) hown (hts _ hlink) (hts _ hstat) (hts _ hini) (hts _ hcode) hR.1 hR.2.1 hR.2.2.1 hR.2.2.2 hdg kk
end RSR
end
section
theorem kb_6 : (Int8.ofInt (6)).toInt32 = (6 : Int32) := by decide +kernel
theorem kb_7 : (Int8.ofInt (7)).toInt32 = (7 : Int32) := by decide +kernel
theorem kb_8 : (Int8.ofInt (8)).toInt32 = (8 : Int32) := by decide +kernel
theorem kb_9 : (Int8.ofInt (9)).toInt32 = (9 : Int32) := by decide +kernel
theorem kb_10 : (Int8.ofInt (10)).toInt32 = (10 : Int32) := by decide +kernel
theorem kb_11 : (Int8.ofInt (11)).toInt32 = (11 : Int32) := by decide +kernel
theorem kb_12 : (Int8.ofInt (12)).toInt32 = (12 : Int32) := by decide +kernel
theorem kb_13 : (Int8.ofInt (13)).toInt32 = (13 : Int32) := by decide +kernel
theorem kb_14 : (Int8.ofInt (14)).toInt32 = (14 : Int32) := by decide +kernel
theorem kb_15 : (Int8.ofInt (15)).toInt32 = (15 : Int32) := by decide +kernel
theorem kb_16 : (Int8.ofInt (16)).toInt32 = (16 : Int32) := by decide +kernel
theorem kb_17 : (Int8.ofInt (17)).toInt32 = (17 : Int32) := by decide +kernel
theorem kb_18 : (Int8.ofInt (18)).toInt32 = (18 : Int32) := by decide +kernel
theorem kb_19 : (Int8.ofInt (19)).toInt32 = (19 : Int32) := by decide +kernel
theorem kb_20 : (Int8.ofInt (20)).toInt32 = (20 : Int32) := by decide +kernel
theorem kb_21 : (Int8.ofInt (21)).toInt32 = (21 : Int32) := by decide +kernel
theorem kb_22 : (Int8.ofInt (22)).toInt32 = (22 : Int32) := by decide +kernel
theorem kb_23 : (Int8.ofInt (23)).toInt32 = (23 : Int32) := by decide +kernel
theorem kb_24 : (Int8.ofInt (24)).toInt32 = (24 : Int32) := by decide +kernel
theorem kb_25 : (Int8.ofInt (25)).toInt32 = (25 : Int32) := by decide +kernel
theorem kb_26 : (Int8.ofInt (26)).toInt32 = (26 : Int32) := by decide +kernel
theorem kb_27 : (Int8.ofInt (27)).toInt32 = (27 : Int32) := by decide +kernel
theorem kb_28 : (Int8.ofInt (28)).toInt32 = (28 : Int32) := by decide +kernel
theorem kb_29 : (Int8.ofInt (29)).toInt32 = (29 : Int32) := by decide +kernel
theorem kb_30 : (Int8.ofInt (30)).toInt32 = (30 : Int32) := by decide +kernel
theorem kb_31 : (Int8.ofInt (31)).toInt32 = (31 : Int32) := by decide +kernel
theorem kb_32 : (Int8.ofInt (32)).toInt32 = (32 : Int32) := by decide +kernel
theorem kb_33 : (Int8.ofInt (33)).toInt32 = (33 : Int32) := by decide +kernel
theorem kb_34 : (Int8.ofInt (34)).toInt32 = (34 : Int32) := by decide +kernel
theorem kb_35 : (Int8.ofInt (35)).toInt32 = (35 : Int32) := by decide +kernel
theorem kb_36 : (Int8.ofInt (36)).toInt32 = (36 : Int32) := by decide +kernel
theorem kb_37 : (Int8.ofInt (37)).toInt32 = (37 : Int32) := by decide +kernel
theorem kb_38 : (Int8.ofInt (38)).toInt32 = (38 : Int32) := by decide +kernel
theorem kb_39 : (Int8.ofInt (39)).toInt32 = (39 : Int32) := by decide +kernel
theorem kb_40 : (Int8.ofInt (40)).toInt32 = (40 : Int32) := by decide +kernel
theorem kb_41 : (Int8.ofInt (41)).toInt32 = (41 : Int32) := by decide +kernel
theorem kb_42 : (Int8.ofInt (42)).toInt32 = (42 : Int32) := by decide +kernel
theorem kb_43 : (Int8.ofInt (43)).toInt32 = (43 : Int32) := by decide +kernel
theorem kb_44 : (Int8.ofInt (44)).toInt32 = (44 : Int32) := by decide +kernel
theorem kb_45 : (Int8.ofInt (45)).toInt32 = (45 : Int32) := by decide +kernel
theorem kb_46 : (Int8.ofInt (46)).toInt32 = (46 : Int32) := by decide +kernel
theorem kb_47 : (Int8.ofInt (47)).toInt32 = (47 : Int32) := by decide +kernel
theorem kb_48 : (Int8.ofInt (48)).toInt32 = (48 : Int32) := by decide +kernel
theorem kb_49 : (Int8.ofInt (49)).toInt32 = (49 : Int32) := by decide +kernel
theorem kb_50 : (Int8.ofInt (50)).toInt32 = (50 : Int32) := by decide +kernel
theorem kb_51 : (Int8.ofInt (51)).toInt32 = (51 : Int32) := by decide +kernel
theorem kb_52 : (Int8.ofInt (52)).toInt32 = (52 : Int32) := by decide +kernel
theorem kb_53 : (Int8.ofInt (53)).toInt32 = (53 : Int32) := by decide +kernel
theorem kb_54 : (Int8.ofInt (54)).toInt32 = (54 : Int32) := by decide +kernel
theorem kb_55 : (Int8.ofInt (55)).toInt32 = (55 : Int32) := by decide +kernel
theorem kb_56 : (Int8.ofInt (56)).toInt32 = (56 : Int32) := by decide +kernel
theorem kb_57 : (Int8.ofInt (57)).toInt32 = (57 : Int32) := by decide +kernel
theorem kb_58 : (Int8.ofInt (58)).toInt32 = (58 : Int32) := by decide +kernel
theorem kb_59 : (Int8.ofInt (59)).toInt32 = (59 : Int32) := by decide +kernel
theorem kb_60 : (Int8.ofInt (60)).toInt32 = (60 : Int32) := by decide +kernel
theorem kb_100 : (Int8.ofInt (100)).toInt32 = (100 : Int32) := by decide +kernel
theorem ki_m1 : Int32.ofInt (-1) = (-1 : Int32) := by decide +kernel
theorem ki_0 : Int32.ofInt (0) = (0 : Int32) := by decide +kernel
theorem ki_1 : Int32.ofInt (1) = (1 : Int32) := by decide +kernel
theorem ki_2 : Int32.ofInt (2) = (2 : Int32) := by decide +kernel
theorem ki_3 : Int32.ofInt (3) = (3 : Int32) := by decide +kernel
theorem ki_4 : Int32.ofInt (4) = (4 : Int32) := by decide +kernel
theorem ki_5 : Int32.ofInt (5) = (5 : Int32) := by decide +kernel
theorem ks_100 : (Int16.ofInt (100)).toInt32 = (100 : Int32) := by decide +kernel
theorem ks_128 : (Int16.ofInt (128)).toInt32 = (128 : Int32) := by decide +kernel
theorem ks_200 : (Int16.ofInt (200)).toInt32 = (200 : Int32) := by decide +kernel
theorem ks_250 : (Int16.ofInt (250)).toInt32 = (250 : Int32) := by decide +kernel
theorem ks_255 : (Int16.ofInt (255)).toInt32 = (255 : Int32) := by decide +kernel
theorem fk_1_0 : (1 ≤ 1 ∧ 1 ≤ 11) ∧ 0 < rs_nf 1 ∧ rs_rf 1 0 = 7 ∧ 7 ≠ 0 := by decide
theorem fk_1_1 : (1 ≤ 1 ∧ 1 ≤ 11) ∧ 1 < rs_nf 1 ∧ rs_rf 1 1 = 24 ∧ 24 ≠ 0 := by decide
theorem fk_1_2 : (1 ≤ 1 ∧ 1 ≤ 11) ∧ 2 < rs_nf 1 ∧ rs_rf 1 2 = 8 ∧ 8 ≠ 0 := by decide
theorem fk_1_3 : (1 ≤ 1 ∧ 1 ≤ 11) ∧ 3 < rs_nf 1 ∧ rs_rf 1 3 = 10 ∧ 10 ≠ 0 := by decide
theorem fk_1_4 : (1 ≤ 1 ∧ 1 ≤ 11) ∧ 4 < rs_nf 1 ∧ rs_rf 1 4 = 2 ∧ 2 ≠ 0 := by decide
theorem fk_1_5 : (1 ≤ 1 ∧ 1 ≤ 11) ∧ 5 < rs_nf 1 ∧ rs_rf 1 5 = 4 ∧ 4 ≠ 0 := by decide
theorem fk_2_0 : (1 ≤ 2 ∧ 2 ≤ 11) ∧ 0 < rs_nf 2 ∧ rs_rf 2 0 = 26 ∧ 26 ≠ 0 := by decide
theorem fk_2_1 : (1 ≤ 2 ∧ 2 ≤ 11) ∧ 1 < rs_nf 2 ∧ rs_rf 2 1 = 20 ∧ 20 ≠ 0 := by decide
theorem fk_2_2 : (1 ≤ 2 ∧ 2 ≤ 11) ∧ 2 < rs_nf 2 ∧ rs_rf 2 2 = 21 ∧ 21 ≠ 0 := by decide
theorem fk_3_0 : (1 ≤ 3 ∧ 3 ≤ 11) ∧ 0 < rs_nf 3 ∧ rs_rf 3 0 = 25 ∧ 25 ≠ 0 := by decide
theorem fk_3_1 : (1 ≤ 3 ∧ 3 ≤ 11) ∧ 1 < rs_nf 3 ∧ rs_rf 3 1 = 21 ∧ 21 ≠ 0 := by decide
theorem fk_3_2 : (1 ≤ 3 ∧ 3 ≤ 11) ∧ 2 < rs_nf 3 ∧ rs_rf 3 2 = 21 ∧ 21 ≠ 0 := by decide
theorem fk_3_3 : (1 ≤ 3 ∧ 3 ≤ 11) ∧ 3 < rs_nf 3 ∧ rs_rf 3 3 = 23 ∧ 23 ≠ 0 := by decide
theorem fk_4_0 : (1 ≤ 4 ∧ 4 ≤ 11) ∧ 0 < rs_nf 4 ∧ rs_rf 4 0 = 20 ∧ 20 ≠ 0 := by decide
theorem fk_4_1 : (1 ≤ 4 ∧ 4 ≤ 11) ∧ 1 < rs_nf 4 ∧ rs_rf 4 1 = 0 := by decide
theorem fk_4_2 : (1 ≤ 4 ∧ 4 ≤ 11) ∧ 2 < rs_nf 4 ∧ rs_rf 4 2 = 0 := by decide
theorem fk_4_3 : (1 ≤ 4 ∧ 4 ≤ 11) ∧ 3 < rs_nf 4 ∧ rs_rf 4 3 = 0 := by decide
theorem fk_5_0 : (1 ≤ 5 ∧ 5 ≤ 11) ∧ 0 < rs_nf 5 ∧ rs_rf 5 0 = 20 ∧ 20 ≠ 0 := by decide
theorem fk_5_1 : (1 ≤ 5 ∧ 5 ≤ 11) ∧ 1 < rs_nf 5 ∧ rs_rf 5 1 = 0 := by decide
theorem fk_5_2 : (1 ≤ 5 ∧ 5 ≤ 11) ∧ 2 < rs_nf 5 ∧ rs_rf 5 2 = 0 := by decide
theorem fk_6_0 : (1 ≤ 6 ∧ 6 ≤ 11) ∧ 0 < rs_nf 6 ∧ rs_rf 6 0 = 0 := by decide
theorem fk_6_1 : (1 ≤ 6 ∧ 6 ≤ 11) ∧ 1 < rs_nf 6 ∧ rs_rf 6 1 = 0 := by decide
theorem fk_6_2 : (1 ≤ 6 ∧ 6 ≤ 11) ∧ 2 < rs_nf 6 ∧ rs_rf 6 2 = 0 := by decide
theorem fk_6_3 : (1 ≤ 6 ∧ 6 ≤ 11) ∧ 3 < rs_nf 6 ∧ rs_rf 6 3 = 0 := by decide
theorem fk_6_4 : (1 ≤ 6 ∧ 6 ≤ 11) ∧ 4 < rs_nf 6 ∧ rs_rf 6 4 = 0 := by decide
theorem fk_6_5 : (1 ≤ 6 ∧ 6 ≤ 11) ∧ 5 < rs_nf 6 ∧ rs_rf 6 5 = 9 ∧ 9 ≠ 0 := by decide
theorem fk_6_6 : (1 ≤ 6 ∧ 6 ≤ 11) ∧ 6 < rs_nf 6 ∧ rs_rf 6 6 = 0 := by decide
theorem fk_6_7 : (1 ≤ 6 ∧ 6 ≤ 11) ∧ 7 < rs_nf 6 ∧ rs_rf 6 7 = 0 := by decide
theorem fk_6_8 : (1 ≤ 6 ∧ 6 ≤ 11) ∧ 8 < rs_nf 6 ∧ rs_rf 6 8 = 0 := by decide
theorem fk_6_9 : (1 ≤ 6 ∧ 6 ≤ 11) ∧ 9 < rs_nf 6 ∧ rs_rf 6 9 = 0 := by decide
theorem fk_6_10 : (1 ≤ 6 ∧ 6 ≤ 11) ∧ 10 < rs_nf 6 ∧ rs_rf 6 10 = 0 := by decide
theorem fk_6_11 : (1 ≤ 6 ∧ 6 ≤ 11) ∧ 11 < rs_nf 6 ∧ rs_rf 6 11 = 0 := by decide
theorem fk_6_12 : (1 ≤ 6 ∧ 6 ≤ 11) ∧ 12 < rs_nf 6 ∧ rs_rf 6 12 = 20 ∧ 20 ≠ 0 := by decide
theorem fk_6_13 : (1 ≤ 6 ∧ 6 ≤ 11) ∧ 13 < rs_nf 6 ∧ rs_rf 6 13 = 5 ∧ 5 ≠ 0 := by decide
theorem fk_6_14 : (1 ≤ 6 ∧ 6 ≤ 11) ∧ 14 < rs_nf 6 ∧ rs_rf 6 14 = 20 ∧ 20 ≠ 0 := by decide
theorem fk_6_15 : (1 ≤ 6 ∧ 6 ≤ 11) ∧ 15 < rs_nf 6 ∧ rs_rf 6 15 = 3 ∧ 3 ≠ 0 := by decide
theorem fk_6_16 : (1 ≤ 6 ∧ 6 ≤ 11) ∧ 16 < rs_nf 6 ∧ rs_rf 6 16 = 26 ∧ 26 ≠ 0 := by decide
theorem fk_7_0 : (1 ≤ 7 ∧ 7 ≤ 11) ∧ 0 < rs_nf 7 ∧ rs_rf 7 0 = 20 ∧ 20 ≠ 0 := by decide
theorem fk_7_1 : (1 ≤ 7 ∧ 7 ≤ 11) ∧ 1 < rs_nf 7 ∧ rs_rf 7 1 = 20 ∧ 20 ≠ 0 := by decide
theorem fk_7_2 : (1 ≤ 7 ∧ 7 ≤ 11) ∧ 2 < rs_nf 7 ∧ rs_rf 7 2 = 21 ∧ 21 ≠ 0 := by decide
theorem fk_7_3 : (1 ≤ 7 ∧ 7 ≤ 11) ∧ 3 < rs_nf 7 ∧ rs_rf 7 3 = 0 := by decide
theorem fk_8_0 : (1 ≤ 8 ∧ 8 ≤ 11) ∧ 0 < rs_nf 8 ∧ rs_rf 8 0 = 0 := by decide
theorem fk_8_1 : (1 ≤ 8 ∧ 8 ≤ 11) ∧ 1 < rs_nf 8 ∧ rs_rf 8 1 = 0 := by decide
theorem fk_8_2 : (1 ≤ 8 ∧ 8 ≤ 11) ∧ 2 < rs_nf 8 ∧ rs_rf 8 2 = 20 ∧ 20 ≠ 0 := by decide
theorem fk_8_3 : (1 ≤ 8 ∧ 8 ≤ 11) ∧ 3 < rs_nf 8 ∧ rs_rf 8 3 = 0 := by decide
theorem fk_8_4 : (1 ≤ 8 ∧ 8 ≤ 11) ∧ 4 < rs_nf 8 ∧ rs_rf 8 4 = 0 := by decide
theorem fk_8_5 : (1 ≤ 8 ∧ 8 ≤ 11) ∧ 5 < rs_nf 8 ∧ rs_rf 8 5 = 0 := by decide
theorem fk_8_6 : (1 ≤ 8 ∧ 8 ≤ 11) ∧ 6 < rs_nf 8 ∧ rs_rf 8 6 = 0 := by decide
theorem fk_8_7 : (1 ≤ 8 ∧ 8 ≤ 11) ∧ 7 < rs_nf 8 ∧ rs_rf 8 7 = 0 := by decide
theorem fk_8_8 : (1 ≤ 8 ∧ 8 ≤ 11) ∧ 8 < rs_nf 8 ∧ rs_rf 8 8 = 20 ∧ 20 ≠ 0 := by decide
theorem fk_9_0 : (1 ≤ 9 ∧ 9 ≤ 11) ∧ 0 < rs_nf 9 ∧ rs_rf 9 0 = 20 ∧ 20 ≠ 0 := by decide
theorem fk_9_1 : (1 ≤ 9 ∧ 9 ≤ 11) ∧ 1 < rs_nf 9 ∧ rs_rf 9 1 = 20 ∧ 20 ≠ 0 := by decide
theorem fk_9_2 : (1 ≤ 9 ∧ 9 ≤ 11) ∧ 2 < rs_nf 9 ∧ rs_rf 9 2 = 20 ∧ 20 ≠ 0 := by decide
theorem fk_9_3 : (1 ≤ 9 ∧ 9 ≤ 11) ∧ 3 < rs_nf 9 ∧ rs_rf 9 3 = 0 := by decide
theorem fk_10_0 : (1 ≤ 10 ∧ 10 ≤ 11) ∧ 0 < rs_nf 10 ∧ rs_rf 10 0 = 8 ∧ 8 ≠ 0 := by decide
theorem fk_10_1 : (1 ≤ 10 ∧ 10 ≤ 11) ∧ 1 < rs_nf 10 ∧ rs_rf 10 1 = 21 ∧ 21 ≠ 0 := by decide
theorem fk_10_2 : (1 ≤ 10 ∧ 10 ≤ 11) ∧ 2 < rs_nf 10 ∧ rs_rf 10 2 = 20 ∧ 20 ≠ 0 := by decide
theorem fk_10_3 : (1 ≤ 10 ∧ 10 ≤ 11) ∧ 3 < rs_nf 10 ∧ rs_rf 10 3 = 0 := by decide
theorem fk_10_4 : (1 ≤ 10 ∧ 10 ≤ 11) ∧ 4 < rs_nf 10 ∧ rs_rf 10 4 = 0 := by decide
theorem fk_10_5 : (1 ≤ 10 ∧ 10 ≤ 11) ∧ 5 < rs_nf 10 ∧ rs_rf 10 5 = 0 := by decide
theorem fk_10_6 : (1 ≤ 10 ∧ 10 ≤ 11) ∧ 6 < rs_nf 10 ∧ rs_rf 10 6 = 0 := by decide
theorem fk_10_7 : (1 ≤ 10 ∧ 10 ≤ 11) ∧ 7 < rs_nf 10 ∧ rs_rf 10 7 = 0 := by decide
theorem fk_11_0 : (1 ≤ 11 ∧ 11 ≤ 11) ∧ 0 < rs_nf 11 ∧ rs_rf 11 0 = 0 := by decide
theorem fk_11_1 : (1 ≤ 11 ∧ 11 ≤ 11) ∧ 1 < rs_nf 11 ∧ rs_rf 11 1 = 20 ∧ 20 ≠ 0 := by decide
theorem fk_11_2 : (1 ≤ 11 ∧ 11 ≤ 11) ∧ 2 < rs_nf 11 ∧ rs_rf 11 2 = 20 ∧ 20 ≠ 0 := by decide
theorem fk_11_3 : (1 ≤ 11 ∧ 11 ≤ 11) ∧ 3 < rs_nf 11 ∧ rs_rf 11 3 = 20 ∧ 20 ≠ 0 := by decide
theorem fk_11_4 : (1 ≤ 11 ∧ 11 ≤ 11) ∧ 4 < rs_nf 11 ∧ rs_rf 11 4 = 20 ∧ 20 ≠ 0 := by decide
theorem fk_11_5 : (1 ≤ 11 ∧ 11 ≤ 11) ∧ 5 < rs_nf 11 ∧ rs_rf 11 5 = 20 ∧ 20 ≠ 0 := by decide
theorem fk_11_6 : (1 ≤ 11 ∧ 11 ≤ 11) ∧ 6 < rs_nf 11 ∧ rs_rf 11 6 = 20 ∧ 20 ≠ 0 := by decide
theorem fk_11_7 : (1 ≤ 11 ∧ 11 ≤ 11) ∧ 7 < rs_nf 11 ∧ rs_rf 11 7 = 20 ∧ 20 ≠ 0 := by decide
theorem fk_11_8 : (1 ≤ 11 ∧ 11 ≤ 11) ∧ 8 < rs_nf 11 ∧ rs_rf 11 8 = 20 ∧ 20 ≠ 0 := by decide
theorem fk_11_9 : (1 ≤ 11 ∧ 11 ≤ 11) ∧ 9 < rs_nf 11 ∧ rs_rf 11 9 = 20 ∧ 20 ≠ 0 := by decide
theorem fk_11_10 : (1 ≤ 11 ∧ 11 ≤ 11) ∧ 10 < rs_nf 11 ∧ rs_rf 11 10 = 20 ∧ 20 ≠ 0 := by decide
theorem fk_11_11 : (1 ≤ 11 ∧ 11 ≤ 11) ∧ 11 < rs_nf 11 ∧ rs_rf 11 11 = 20 ∧ 20 ≠ 0 := by decide
theorem fk_11_12 : (1 ≤ 11 ∧ 11 ≤ 11) ∧ 12 < rs_nf 11 ∧ rs_rf 11 12 = 20 ∧ 20 ≠ 0 := by decide
theorem fk_11_13 : (1 ≤ 11 ∧ 11 ≤ 11) ∧ 13 < rs_nf 11 ∧ rs_rf 11 13 = 20 ∧ 20 ≠ 0 := by decide
theorem fk_11_14 : (1 ≤ 11 ∧ 11 ≤ 11) ∧ 14 < rs_nf 11 ∧ rs_rf 11 14 = 20 ∧ 20 ≠ 0 := by decide
theorem fk_11_15 : (1 ≤ 11 ∧ 11 ≤ 11) ∧ 15 < rs_nf 11 ∧ rs_rf 11 15 = 20 ∧ 20 ≠ 0 := by decide
theorem fk_11_16 : (1 ≤ 11 ∧ 11 ≤ 11) ∧ 16 < rs_nf 11 ∧ rs_rf 11 16 = 20 ∧ 20 ≠ 0 := by decide
theorem fk_11_17 : (1 ≤ 11 ∧ 11 ≤ 11) ∧ 17 < rs_nf 11 ∧ rs_rf 11 17 = 20 ∧ 20 ≠ 0 := by decide
theorem fk_11_18 : (1 ≤ 11 ∧ 11 ≤ 11) ∧ 18 < rs_nf 11 ∧ rs_rf 11 18 = 20 ∧ 20 ≠ 0 := by decide
theorem fk_11_19 : (1 ≤ 11 ∧ 11 ≤ 11) ∧ 19 < rs_nf 11 ∧ rs_rf 11 19 = 20 ∧ 20 ≠ 0 := by decide
theorem fk_11_20 : (1 ≤ 11 ∧ 11 ≤ 11) ∧ 20 < rs_nf 11 ∧ rs_rf 11 20 = 0 := by decide
theorem fk_11_21 : (1 ≤ 11 ∧ 11 ≤ 11) ∧ 21 < rs_nf 11 ∧ rs_rf 11 21 = 0 := by decide
theorem fk_11_22 : (1 ≤ 11 ∧ 11 ≤ 11) ∧ 22 < rs_nf 11 ∧ rs_rf 11 22 = 20 ∧ 20 ≠ 0 := by decide
theorem fk_11_23 : (1 ≤ 11 ∧ 11 ≤ 11) ∧ 23 < rs_nf 11 ∧ rs_rf 11 23 = 20 ∧ 20 ≠ 0 := by decide
theorem fk_11_24 : (1 ≤ 11 ∧ 11 ≤ 11) ∧ 24 < rs_nf 11 ∧ rs_rf 11 24 = 21 ∧ 21 ≠ 0 := by decide
theorem fk_11_25 : (1 ≤ 11 ∧ 11 ≤ 11) ∧ 25 < rs_nf 11 ∧ rs_rf 11 25 = 20 ∧ 20 ≠ 0 := by decide
theorem fk_11_26 : (1 ≤ 11 ∧ 11 ≤ 11) ∧ 26 < rs_nf 11 ∧ rs_rf 11 26 = 20 ∧ 20 ≠ 0 := by decide
theorem fk_11_27 : (1 ≤ 11 ∧ 11 ≤ 11) ∧ 27 < rs_nf 11 ∧ rs_rf 11 27 = 20 ∧ 20 ≠ 0 := by decide
theorem fk_11_28 : (1 ≤ 11 ∧ 11 ≤ 11) ∧ 28 < rs_nf 11 ∧ rs_rf 11 28 = 20 ∧ 20 ≠ 0 := by decide
theorem fk_11_29 : (1 ≤ 11 ∧ 11 ≤ 11) ∧ 29 < rs_nf 11 ∧ rs_rf 11 29 = 20 ∧ 20 ≠ 0 := by decide
theorem fk_11_30 : (1 ≤ 11 ∧ 11 ≤ 11) ∧ 30 < rs_nf 11 ∧ rs_rf 11 30 = 20 ∧ 20 ≠ 0 := by decide
theorem fk_11_31 : (1 ≤ 11 ∧ 11 ≤ 11) ∧ 31 < rs_nf 11 ∧ rs_rf 11 31 = 20 ∧ 20 ≠ 0 := by decide
theorem fk_11_32 : (1 ≤ 11 ∧ 11 ≤ 11) ∧ 32 < rs_nf 11 ∧ rs_rf 11 32 = 20 ∧ 20 ≠ 0 := by decide
theorem fk_11_33 : (1 ≤ 11 ∧ 11 ≤ 11) ∧ 33 < rs_nf 11 ∧ rs_rf 11 33 = 20 ∧ 20 ≠ 0 := by decide
theorem fk_11_34 : (1 ≤ 11 ∧ 11 ≤ 11) ∧ 34 < rs_nf 11 ∧ rs_rf 11 34 = 23 ∧ 23 ≠ 0 := by decide
theorem fk_11_35 : (1 ≤ 11 ∧ 11 ≤ 11) ∧ 35 < rs_nf 11 ∧ rs_rf 11 35 = 21 ∧ 21 ≠ 0 := by decide
theorem fk_11_36 : (1 ≤ 11 ∧ 11 ≤ 11) ∧ 36 < rs_nf 11 ∧ rs_rf 11 36 = 20 ∧ 20 ≠ 0 := by decide
theorem fk_11_37 : (1 ≤ 11 ∧ 11 ≤ 11) ∧ 37 < rs_nf 11 ∧ rs_rf 11 37 = 20 ∧ 20 ≠ 0 := by decide
theorem fk_11_38 : (1 ≤ 11 ∧ 11 ≤ 11) ∧ 38 < rs_nf 11 ∧ rs_rf 11 38 = 20 ∧ 20 ≠ 0 := by decide
theorem fk_11_39 : (1 ≤ 11 ∧ 11 ≤ 11) ∧ 39 < rs_nf 11 ∧ rs_rf 11 39 = 20 ∧ 20 ≠ 0 := by decide
theorem fk_11_40 : (1 ≤ 11 ∧ 11 ≤ 11) ∧ 40 < rs_nf 11 ∧ rs_rf 11 40 = 21 ∧ 21 ≠ 0 := by decide
theorem ak_24 : (24 ≤ 24 ∧ 24 ≤ 26) ∧ rs_ae 24 = 6 ∧ (rs_et 24).isReference = true := by decide
theorem ak_25 : (24 ≤ 25 ∧ 25 ≤ 26) ∧ rs_ae 25 = 8 ∧ (rs_et 25).isReference = true := by decide
theorem ak_26 : (24 ≤ 26 ∧ 26 ≤ 26) ∧ rs_ae 26 = 20 ∧ (rs_et 26).isReference = true := by decide
theorem nw_0 : ("RouteSpeaker$Rules", 25, ({ cls := "RouteSpeaker", name := "isWithin", desc := "(IIII)Z" } : Jvm.MethodName), "RouteSpeaker") ∈ rs_NW := List.mem_of_getElem? (i := 0) rfl
theorem nw_1 : ("RouteSpeaker$Peer", 57, ({ cls := "RouteSpeaker", name := "isWithin", desc := "(IIII)Z" } : Jvm.MethodName), "RouteSpeaker") ∈ rs_NW := List.mem_of_getElem? (i := 1) rfl
theorem nw_2 : ("RouteSpeaker$Peer", 127, ({ cls := "RouteSpeaker", name := "isNumber", desc := "(I)Z" } : Jvm.MethodName), "RouteSpeaker") ∈ rs_NW := List.mem_of_getElem? (i := 2) rfl
theorem nw_3 : ("RouteSpeaker$Update", 111, ({ cls := "RouteSpeaker", name := "isNumber", desc := "(I)Z" } : Jvm.MethodName), "RouteSpeaker") ∈ rs_NW := List.mem_of_getElem? (i := 3) rfl
theorem nw_4 : ("RouteSpeaker$Update", 130, ({ cls := "RouteSpeaker", name := "isPrefix", desc := "(II)Z" } : Jvm.MethodName), "RouteSpeaker") ∈ rs_NW := List.mem_of_getElem? (i := 4) rfl
theorem mw_min : Cond.code Lib.Math.min.name Lib.Math.min.code 2 (some .int) ∈ rs_W := tw_717
theorem rs_sw_0_6 (x : Int32) : (x.toInt < 0 ∨ 6 < x.toInt) ∨ x = 0 ∨ x = 1 ∨ x = 2 ∨ x = 3 ∨ x = 4 ∨ x = 5 ∨ x = 6 := by
  by_cases h : x.toInt < 0 ∨ 6 < x.toInt
  · exact Or.inl h
  · refine Or.inr ?_
    have e : x.toInt = 0 ∨ x.toInt = 1 ∨ x.toInt = 2 ∨ x.toInt = 3 ∨ x.toInt = 4 ∨ x.toInt = 5 ∨ x.toInt = 6 := by omega
    rcases e with e | e | e | e | e | e | e
    · exact Or.inl (Int32.toInt_inj.mp (e.trans (by decide +kernel : (0 : Int) = (0 : Int32).toInt)))
    · exact Or.inr (Or.inl (Int32.toInt_inj.mp (e.trans (by decide +kernel : (1 : Int) = (1 : Int32).toInt))))
    · exact Or.inr (Or.inr (Or.inl (Int32.toInt_inj.mp (e.trans (by decide +kernel : (2 : Int) = (2 : Int32).toInt)))))
    · exact Or.inr (Or.inr (Or.inr (Or.inl (Int32.toInt_inj.mp (e.trans (by decide +kernel : (3 : Int) = (3 : Int32).toInt))))))
    · exact Or.inr (Or.inr (Or.inr (Or.inr (Or.inl (Int32.toInt_inj.mp (e.trans (by decide +kernel : (4 : Int) = (4 : Int32).toInt)))))))
    · exact Or.inr (Or.inr (Or.inr (Or.inr (Or.inr (Or.inl (Int32.toInt_inj.mp (e.trans (by decide +kernel : (5 : Int) = (5 : Int32).toInt))))))))
    · exact Or.inr (Or.inr (Or.inr (Or.inr (Or.inr (Or.inr ((Int32.toInt_inj.mp (e.trans (by decide +kernel : (6 : Int) = (6 : Int32).toInt)))))))))
theorem rs_sw_1_3 (x : Int32) : (x.toInt < 1 ∨ 3 < x.toInt) ∨ x = 1 ∨ x = 2 ∨ x = 3 := by
  by_cases h : x.toInt < 1 ∨ 3 < x.toInt
  · exact Or.inl h
  · refine Or.inr ?_
    have e : x.toInt = 1 ∨ x.toInt = 2 ∨ x.toInt = 3 := by omega
    rcases e with e | e | e
    · exact Or.inl (Int32.toInt_inj.mp (e.trans (by decide +kernel : (1 : Int) = (1 : Int32).toInt)))
    · exact Or.inr (Or.inl (Int32.toInt_inj.mp (e.trans (by decide +kernel : (2 : Int) = (2 : Int32).toInt))))
    · exact Or.inr (Or.inr ((Int32.toInt_inj.mp (e.trans (by decide +kernel : (3 : Int) = (3 : Int32).toInt)))))
theorem rs_sw_1_5 (x : Int32) : (x.toInt < 1 ∨ 5 < x.toInt) ∨ x = 1 ∨ x = 2 ∨ x = 3 ∨ x = 4 ∨ x = 5 := by
  by_cases h : x.toInt < 1 ∨ 5 < x.toInt
  · exact Or.inl h
  · refine Or.inr ?_
    have e : x.toInt = 1 ∨ x.toInt = 2 ∨ x.toInt = 3 ∨ x.toInt = 4 ∨ x.toInt = 5 := by omega
    rcases e with e | e | e | e | e
    · exact Or.inl (Int32.toInt_inj.mp (e.trans (by decide +kernel : (1 : Int) = (1 : Int32).toInt)))
    · exact Or.inr (Or.inl (Int32.toInt_inj.mp (e.trans (by decide +kernel : (2 : Int) = (2 : Int32).toInt))))
    · exact Or.inr (Or.inr (Or.inl (Int32.toInt_inj.mp (e.trans (by decide +kernel : (3 : Int) = (3 : Int32).toInt)))))
    · exact Or.inr (Or.inr (Or.inr (Or.inl (Int32.toInt_inj.mp (e.trans (by decide +kernel : (4 : Int) = (4 : Int32).toInt))))))
    · exact Or.inr (Or.inr (Or.inr (Or.inr ((Int32.toInt_inj.mp (e.trans (by decide +kernel : (5 : Int) = (5 : Int32).toInt)))))))
theorem rs_sw_1_10 (x : Int32) : (x.toInt < 1 ∨ 10 < x.toInt) ∨ x = 1 ∨ x = 2 ∨ x = 3 ∨ x = 4 ∨ x = 5 ∨ x = 6 ∨ x = 7 ∨ x = 8 ∨ x = 9 ∨ x = 10 := by
  by_cases h : x.toInt < 1 ∨ 10 < x.toInt
  · exact Or.inl h
  · refine Or.inr ?_
    have e : x.toInt = 1 ∨ x.toInt = 2 ∨ x.toInt = 3 ∨ x.toInt = 4 ∨ x.toInt = 5 ∨ x.toInt = 6 ∨ x.toInt = 7 ∨ x.toInt = 8 ∨ x.toInt = 9 ∨ x.toInt = 10 := by omega
    rcases e with e | e | e | e | e | e | e | e | e | e
    · exact Or.inl (Int32.toInt_inj.mp (e.trans (by decide +kernel : (1 : Int) = (1 : Int32).toInt)))
    · exact Or.inr (Or.inl (Int32.toInt_inj.mp (e.trans (by decide +kernel : (2 : Int) = (2 : Int32).toInt))))
    · exact Or.inr (Or.inr (Or.inl (Int32.toInt_inj.mp (e.trans (by decide +kernel : (3 : Int) = (3 : Int32).toInt)))))
    · exact Or.inr (Or.inr (Or.inr (Or.inl (Int32.toInt_inj.mp (e.trans (by decide +kernel : (4 : Int) = (4 : Int32).toInt))))))
    · exact Or.inr (Or.inr (Or.inr (Or.inr (Or.inl (Int32.toInt_inj.mp (e.trans (by decide +kernel : (5 : Int) = (5 : Int32).toInt)))))))
    · exact Or.inr (Or.inr (Or.inr (Or.inr (Or.inr (Or.inl (Int32.toInt_inj.mp (e.trans (by decide +kernel : (6 : Int) = (6 : Int32).toInt))))))))
    · exact Or.inr (Or.inr (Or.inr (Or.inr (Or.inr (Or.inr (Or.inl (Int32.toInt_inj.mp (e.trans (by decide +kernel : (7 : Int) = (7 : Int32).toInt)))))))))
    · exact Or.inr (Or.inr (Or.inr (Or.inr (Or.inr (Or.inr (Or.inr (Or.inl (Int32.toInt_inj.mp (e.trans (by decide +kernel : (8 : Int) = (8 : Int32).toInt))))))))))
    · exact Or.inr (Or.inr (Or.inr (Or.inr (Or.inr (Or.inr (Or.inr (Or.inr (Or.inl (Int32.toInt_inj.mp (e.trans (by decide +kernel : (9 : Int) = (9 : Int32).toInt)))))))))))
    · exact Or.inr (Or.inr (Or.inr (Or.inr (Or.inr (Or.inr (Or.inr (Or.inr (Or.inr ((Int32.toInt_inj.mp (e.trans (by decide +kernel : (10 : Int) = (10 : Int32).toInt))))))))))))
theorem rs_sw_2_7 (x : Int32) : (x.toInt < 2 ∨ 7 < x.toInt) ∨ x = 2 ∨ x = 3 ∨ x = 4 ∨ x = 5 ∨ x = 6 ∨ x = 7 := by
  by_cases h : x.toInt < 2 ∨ 7 < x.toInt
  · exact Or.inl h
  · refine Or.inr ?_
    have e : x.toInt = 2 ∨ x.toInt = 3 ∨ x.toInt = 4 ∨ x.toInt = 5 ∨ x.toInt = 6 ∨ x.toInt = 7 := by omega
    rcases e with e | e | e | e | e | e
    · exact Or.inl (Int32.toInt_inj.mp (e.trans (by decide +kernel : (2 : Int) = (2 : Int32).toInt)))
    · exact Or.inr (Or.inl (Int32.toInt_inj.mp (e.trans (by decide +kernel : (3 : Int) = (3 : Int32).toInt))))
    · exact Or.inr (Or.inr (Or.inl (Int32.toInt_inj.mp (e.trans (by decide +kernel : (4 : Int) = (4 : Int32).toInt)))))
    · exact Or.inr (Or.inr (Or.inr (Or.inl (Int32.toInt_inj.mp (e.trans (by decide +kernel : (5 : Int) = (5 : Int32).toInt))))))
    · exact Or.inr (Or.inr (Or.inr (Or.inr (Or.inl (Int32.toInt_inj.mp (e.trans (by decide +kernel : (6 : Int) = (6 : Int32).toInt)))))))
    · exact Or.inr (Or.inr (Or.inr (Or.inr (Or.inr ((Int32.toInt_inj.mp (e.trans (by decide +kernel : (7 : Int) = (7 : Int32).toInt))))))))
/-- the memory behind System.arraycopy of the first n ints -/
def rs_cp (σ : rs_Mem) (a b n : Nat) : rs_Mem := (fun u j => if u = b ∧ j < n then σ.1 a j else σ.1 u j, σ.2)
theorem rs_nn (z : Int32) (hz : ¬ z < 0) : z.toInt = (z.toNatClampNeg : Int) := by
  have h0 : (0 : Int) ≤ z.toInt := by
    have := Int32.not_lt.mp hz
    simpa using Int32.le_iff_toInt_le.mp this
  show z.toInt = ((z.toInt.toNat : Nat) : Int)
  omega
theorem rs_copy {p : Program} {l : Launch} {e : Env} {R : Room} {s : State} {m : MethodId} {args : Array Value} {below : List Frame} {meth : Method} {c : Code} {H : Heap} {locs : List Loc} {cells slots : Nat} {Q : State → Prop} {cc : ByteArray} {pc : Nat} {ls : Array Slot} {rest : List Value} {G : rs_G} {Bm : Nat} {S : rs_Shp} {σ : rs_Mem} {own : String} {nL : Nat} {ret : Option FieldType} {H0 : Heap} {lv : List (Nat × Value)}
    (C : rs_C own cc nL ret G p s m meth c args) (hH : rs_H G Bm S σ H) (hT : rs_T S σ) (hS : va_S (rs_A Bm) H0 H locs) (hl : lv_has ls nL lv) {a b index : Nat} (ha : rs_Ok S 20 a) (hb2 : rs_Ok S 20 b) {n : Int32} (g : ¬ n < 0 ∧ n.toNatClampNeg ≤ S.2.2 a ∧ n.toNatClampNeg ≤ S.2.2 b ∧ a ≠ b)
    (hlink : Cond.methodLink own index arraycopyName ∈ rs_W) (hnat : Cond.native arraycopyName ∈ rs_W) (hstat : Cond.static arraycopyName ∈ rs_W) (hini : Cond.initialized "java/lang/System" ∈ rs_W)
    (hR : 1 ≤ R.frames ∧ (rest.map fun v => v.category).sum + (nativeFrameWords "java/lang/System" "arraycopy" 5 + 11) ≤ R.locals) (hdg : decode cc pc = .ok (.invokestatic index, 3))
    (kk : ∀ (σ1 : rs_Mem) (H1 : Heap) (locs1 : List Loc), σ1 = rs_cp σ a b n.toNatClampNeg → rs_H G Bm S σ1 H1 → rs_T S σ1 → va_S (rs_A Bm) H0 H1 locs1 → W p l e R s m args below meth c H1 locs1 cells slots Q (F0 m (pc + 3) ls rest)) : W p l e R s m args below meth c H locs cells slots Q (F0 m pc ls (.int n :: .int 0 :: .ref (Bm + b) :: .int 0 :: .ref (Bm + a) :: rest)) := by
  obtain ⟨hx, hb, hml, -, hown, hts, hK, -⟩ := C
  obtain ⟨g1, g2, g3, g4⟩ := g
  have hca := rs_arr hH ha (by omega) (by omega)
  have hcb := rs_arr hH hb2 (by omega) (by omega)
  have z0 : ¬ (0 : Int32) < 0 := by decide
  have z1 : (0 : Int32).toInt = 0 := by decide
  have z2 : (0 : Int32).toNatClampNeg = 0 := by decide
  intro T hT' X
  obtain ⟨-, k0, hk0, cm0, hkk0⟩ := (hK.2.1 20 (by omega) (by omega)).1 (S.2.2 a) (rs_av Bm σ a 20)
  obtain ⟨-, k1, hk1, cm1, hkk1⟩ := (hK.2.1 20 (by omega) (by omega)).1 (S.2.2 b) (rs_av Bm σ b 20)
  have av : ∀ u, rs_av Bm σ u 20 = fun j => .int (rs_I σ u j) := fun u => by funext j; simp [rs_av]
  obtain ⟨vm', X', step⟩ := X.arraycopy hx hown (hts _ hlink) (hts _ hnat) (hts _ hstat) (hts _ hini) (src := Bm + a) (dst := Bm + b) (cs := arrV (G.2 20) (S.2.2 a) (rs_av Bm σ a 20)) (cd := arrV (G.2 20) (S.2.2 b) (rs_av Bm σ b 20)) (srcPos := 0) (destPos := 0) (n := n) (by rw [hT']; exact hca) (by rw [hT']; exact hcb)
    (fun _ h => by cases h) (fun _ h => by cases h) (fun h => by cases h) (fun h => by cases h) hk0 hk1 hkk0 hkk1 (by decide) z0 z0 g1
    (by rw [z1, rs_nn n g1, arrV_size]; omega) (by rw [z1, rs_nn n g1, arrV_size]; omega)
    (fun vm₁ _ i hi => by
      have e : (arrV (G.2 20) (S.2.2 a) (rs_av Bm σ a 20)).slots.getD ((0 : Int32).toNatClampNeg + i) .null = .int (rs_I σ a i) := by
        rw [z2, Nat.zero_add, Array.getD_eq_getD_getElem?, arrV_read _ _ (by omega), av]
        rfl
      rw [e]
      exact ⟨rfl, trivial⟩)
    (g := F0 m pc ls (.int n :: .int 0 :: .ref (Bm + b) :: .int 0 :: .ref (Bm + a) :: rest)) rfl (by rw [hml]; exact hl.1) (rest := rest) rfl (by rw [hb]; exact hdg) hR.1 (by show 2 * 0 + _ + _ ≤ _; have := hR.2; omega)
  have e1 : copied (arrV (G.2 20) (S.2.2 a) (rs_av Bm σ a 20)) (arrV (G.2 20) (S.2.2 b) (rs_av Bm σ b 20)) 0 0 n = arrV (G.2 20) (S.2.2 b) (fun j => .int (va_cpy (rs_I σ a) (rs_I σ b) (0 : Int32).toNatClampNeg (0 : Int32).toNatClampNeg n.toNatClampNeg j)) := by
    rw [av, av]
    exact va_copied (fun z => .int z) _ _ _ _ (by rw [z2]; omega)
  rw [e1] at X' step
  have hlb : Bm + b < H.size := (Array.getElem?_eq_some_iff.mp hcb).1
  have oq : ∀ (q : Nat) (x : Cell), q ≠ Bm + b → (H.setIfInBounds (Bm + b) x)[q]? = H[q]? := fun q x hq => by simp [Array.getElem?_setIfInBounds, Ne.symm hq]
  have hA : rs_A Bm (Bm + b) := by show Bm < Bm + b; have := hb2.1; omega
  have hT1 : rs_T S (rs_cp σ a b n.toNatClampNeg) := hT
  have hoff : rs_off σ (rs_cp σ a b n.toNatClampNeg) b := fun u hu j => ⟨by simp [rs_I, rs_cp, hu], rfl, rfl, rfl⟩
  have hH1 : rs_H G Bm S (rs_cp σ a b n.toNatClampNeg) (H.setIfInBounds (Bm + b) (arrV (G.2 20) (S.2.2 b) (fun j => .int (va_cpy (rs_I σ a) (rs_I σ b) (0 : Int32).toNatClampNeg (0 : Int32).toNatClampNeg n.toNatClampNeg j)))) := by
    refine hH.put hoff (by simp) (fun q hq => oq q _ hq) ?_
    obtain ⟨p1, p2, p3⟩ := hb2
    refine ⟨fun _ h => by omega, fun _ _ => ?_⟩
    rw [p3]
    have e2 : rs_av Bm (rs_cp σ a b n.toNatClampNeg) b 20 = fun j => .int (va_cpy (rs_I σ a) (rs_I σ b) (0 : Int32).toNatClampNeg (0 : Int32).toNatClampNeg n.toNatClampNeg j) := by
      funext j
      simp [rs_av, rs_I, rs_cp, va_cpy, z2]
    rw [e2]
    simp [Array.getElem?_setIfInBounds, hlb]
  obtain ⟨t, a1, b1⟩ := kk _ _ _ rfl hH1 hT1 ⟨by simp; exact hS.1, fun q g1 g2 => by
      rw [oq q _ (fun e => g2 (by rw [e]; exact hA))]
      exact hS.2.1 q g1 g2, fun q hq => by
      rcases List.mem_append.mp hq with h | h
      · exact hS.2.2 q h
      · obtain ⟨z, -, hz⟩ := List.mem_map.mp h
        rw [← hz]
        exact hA⟩ _ (by rw [← hT']; rfl) X'
  exact ⟨t, step t a1, b1⟩
end
section
/-! RouteSpeaker$Rules.add(III)Z -/
theorem d_Ru_add_0 : decode prog_9_method_2_code 0 = .ok (.aload_n 0, 1) := by decide +kernel
theorem d_Ru_add_1 : decode prog_9_method_2_code 1 = .ok (.getfield 21, 3) := by decide +kernel
theorem d_Ru_add_4 : decode prog_9_method_2_code 4 = .ok (.iconst 3, 1) := by decide +kernel
theorem d_Ru_add_5 : decode prog_9_method_2_code 5 = .ok (.if_icmp .lt (5), 3) := by decide +kernel
theorem d_Ru_add_8 : decode prog_9_method_2_code 8 = .ok (.iconst 0, 1) := by decide +kernel
theorem d_Ru_add_9 : decode prog_9_method_2_code 9 = .ok (.ireturn, 1) := by decide +kernel
theorem d_Ru_add_10 : decode prog_9_method_2_code 10 = .ok (.aload_n 0, 1) := by decide +kernel
theorem d_Ru_add_11 : decode prog_9_method_2_code 11 = .ok (.getfield 9, 3) := by decide +kernel
theorem d_Ru_add_14 : decode prog_9_method_2_code 14 = .ok (.aload_n 0, 1) := by decide +kernel
theorem d_Ru_add_15 : decode prog_9_method_2_code 15 = .ok (.getfield 21, 3) := by decide +kernel
theorem d_Ru_add_18 : decode prog_9_method_2_code 18 = .ok (.iload_n 1, 1) := by decide +kernel
theorem d_Ru_add_19 : decode prog_9_method_2_code 19 = .ok (.iastore, 1) := by decide +kernel
theorem d_Ru_add_20 : decode prog_9_method_2_code 20 = .ok (.aload_n 0, 1) := by decide +kernel
theorem d_Ru_add_21 : decode prog_9_method_2_code 21 = .ok (.getfield 15, 3) := by decide +kernel
theorem d_Ru_add_24 : decode prog_9_method_2_code 24 = .ok (.aload_n 0, 1) := by decide +kernel
theorem d_Ru_add_25 : decode prog_9_method_2_code 25 = .ok (.getfield 21, 3) := by decide +kernel
theorem d_Ru_add_28 : decode prog_9_method_2_code 28 = .ok (.iload_n 2, 1) := by decide +kernel
theorem d_Ru_add_29 : decode prog_9_method_2_code 29 = .ok (.iastore, 1) := by decide +kernel
theorem d_Ru_add_30 : decode prog_9_method_2_code 30 = .ok (.aload_n 0, 1) := by decide +kernel
theorem d_Ru_add_31 : decode prog_9_method_2_code 31 = .ok (.getfield 18, 3) := by decide +kernel
theorem d_Ru_add_34 : decode prog_9_method_2_code 34 = .ok (.aload_n 0, 1) := by decide +kernel
theorem d_Ru_add_35 : decode prog_9_method_2_code 35 = .ok (.getfield 21, 3) := by decide +kernel
theorem d_Ru_add_38 : decode prog_9_method_2_code 38 = .ok (.iload_n 3, 1) := by decide +kernel
theorem d_Ru_add_39 : decode prog_9_method_2_code 39 = .ok (.iastore, 1) := by decide +kernel
theorem d_Ru_add_40 : decode prog_9_method_2_code 40 = .ok (.aload_n 0, 1) := by decide +kernel
theorem d_Ru_add_41 : decode prog_9_method_2_code 41 = .ok (.dup, 1) := by decide +kernel
theorem d_Ru_add_42 : decode prog_9_method_2_code 42 = .ok (.getfield 21, 3) := by decide +kernel
theorem d_Ru_add_45 : decode prog_9_method_2_code 45 = .ok (.iconst 1, 1) := by decide +kernel
theorem d_Ru_add_46 : decode prog_9_method_2_code 46 = .ok (.iadd, 1) := by decide +kernel
theorem d_Ru_add_47 : decode prog_9_method_2_code 47 = .ok (.putfield 21, 3) := by decide +kernel
theorem d_Ru_add_50 : decode prog_9_method_2_code 50 = .ok (.iconst 1, 1) := by decide +kernel
theorem d_Ru_add_51 : decode prog_9_method_2_code 51 = .ok (.ireturn, 1) := by decide +kernel
def F_Ru_add (N : Nat → Nat) (v0 : Nat) (x1 : Int32) (x2 : Int32) (x3 : Int32) (σ : rs_Mem) (Q : Int32 → rs_Mem → Prop) : Prop :=
  (((rs_I σ v0 3) < (3 : Int32) → (vp_in (rs_I σ v0 3) (N (rs_R σ v0 0)) ∧ ∀ σ53 : rs_Mem, σ53 = rs_sI σ (rs_R σ v0 0) (rs_I σ v0 3).toNatClampNeg x1 → (vp_in (rs_I σ53 v0 3) (N (rs_R σ53 v0 1)) ∧ ∀ σ56 : rs_Mem, σ56 = rs_sI σ53 (rs_R σ53 v0 1) (rs_I σ53 v0 3).toNatClampNeg x2 → (vp_in (rs_I σ56 v0 3) (N (rs_R σ56 v0 2)) ∧ ∀ σ59 : rs_Mem, σ59 = rs_sI σ56 (rs_R σ56 v0 2) (rs_I σ56 v0 3).toNatClampNeg x3 → (∀ σ60 : rs_Mem, σ60 = rs_sI σ59 v0 3 ((rs_I σ59 v0 3) + (1 : Int32)) → (Q (1 : Int32) σ60)))))) ∧ (¬ ((rs_I σ v0 3) < (3 : Int32)) → (Q (0 : Int32) σ)))
abbrev y_Ru_add : MethodName := ({ cls := "RouteSpeaker$Rules", name := "add", desc := "(III)Z" } : Jvm.MethodName)
theorem rc_Ru_add : rs_Cal y_Ru_add prog_9_method_2_code 4 (some .boolean) 3 := ⟨tw_631, tw_8, by decide, by decide, by decide +kernel⟩
set_option maxRecDepth 20000 in
theorem J_Ru_add (l : Launch) {G : rs_G} {Bm : Nat} {S : rs_Shp} {v0 : Nat} {x1 : Int32} {x2 : Int32} {x3 : Int32} {σ : rs_Mem} {Q : Int32 → rs_Mem → Prop} (h_v0 : rs_Ok S 9 v0) (hF : F_Ru_add S.2.2 v0 x1 x2 x3 σ Q) :
    Met l y_Ru_add (rs_ws y_Ru_add prog_9_method_2_code 4 (some .boolean)) { frames := 0, cells := 0, slots := 0, locals := 0 } (rs_P G Bm S σ [.ref (Bm + v0), .int x1, .int x2, .int x3]) (rs_Qi G Bm S Q) 0 0 (rs_A Bm) := by
  refine rs_met (own := "RouteSpeaker$Rules") (by decide) rfl (Nat.le_of_ble_eq_true rfl) (fun p e s m below meth c ls C hl hH hT hS => ?_)
  replace hl : lv_has ls 4 [(0, .ref (Bm + v0)), (1, .int x1), (2, .int x2), (3, .int x3)] := hl
  have hx := C.1
  have hb := C.2.1
  unfold F_Ru_add at hF
  refine lv_aload_n hx hb d_Ru_add_0 rfl (lv_at hl 0 rfl) ?_
  refine rs_getI C hH h_v0 fk_9_3 tw_201 d_Ru_add_1 ?_
  refine lv_iconst hx hb d_Ru_add_4 ki_3 ?_
  refine lv_icmp_lt hx hb d_Ru_add_5 (tgt := 10) rfl (fun hc => ?_) (fun hc => ?_)
  · replace hF := hF.1 hc
    refine lv_aload_n hx hb d_Ru_add_10 rfl (lv_at hl 0 rfl) ?_
    refine rs_getR C hH hT h_v0 fk_9_0 tw_198 d_Ru_add_11 (fun h51 => ?_)
    refine lv_aload_n hx hb d_Ru_add_14 rfl (lv_at hl 0 rfl) ?_
    refine rs_getI C hH h_v0 fk_9_3 tw_201 d_Ru_add_15 ?_
    refine lv_iload_n hx hb d_Ru_add_18 rfl (lv_at hl 1 rfl) ?_
    obtain ⟨g52, hF⟩ := hF
    refine rs_iast C hH hT hS h51 g52 d_Ru_add_19 (fun σ53 H locs eσ53 hH hT hS => ?_)
    replace hF := hF σ53 eσ53
    refine lv_aload_n hx hb d_Ru_add_20 rfl (lv_at hl 0 rfl) ?_
    refine rs_getR C hH hT h_v0 fk_9_1 tw_199 d_Ru_add_21 (fun h54 => ?_)
    refine lv_aload_n hx hb d_Ru_add_24 rfl (lv_at hl 0 rfl) ?_
    refine rs_getI C hH h_v0 fk_9_3 tw_201 d_Ru_add_25 ?_
    refine lv_iload_n hx hb d_Ru_add_28 rfl (lv_at hl 2 rfl) ?_
    obtain ⟨g55, hF⟩ := hF
    refine rs_iast C hH hT hS h54 g55 d_Ru_add_29 (fun σ56 H locs eσ56 hH hT hS => ?_)
    replace hF := hF σ56 eσ56
    refine lv_aload_n hx hb d_Ru_add_30 rfl (lv_at hl 0 rfl) ?_
    refine rs_getR C hH hT h_v0 fk_9_2 tw_200 d_Ru_add_31 (fun h57 => ?_)
    refine lv_aload_n hx hb d_Ru_add_34 rfl (lv_at hl 0 rfl) ?_
    refine rs_getI C hH h_v0 fk_9_3 tw_201 d_Ru_add_35 ?_
    refine lv_iload_n hx hb d_Ru_add_38 rfl (lv_at hl 3 rfl) ?_
    obtain ⟨g58, hF⟩ := hF
    refine rs_iast C hH hT hS h57 g58 d_Ru_add_39 (fun σ59 H locs eσ59 hH hT hS => ?_)
    replace hF := hF σ59 eσ59
    refine lv_aload_n hx hb d_Ru_add_40 rfl (lv_at hl 0 rfl) ?_
    refine lv_dup hx hb d_Ru_add_41 rfl ?_
    refine rs_getI C hH h_v0 fk_9_3 tw_201 d_Ru_add_42 ?_
    refine lv_iconst hx hb d_Ru_add_45 ki_1 ?_
    refine lv_iadd hx hb d_Ru_add_46 ?_
    refine rs_putI C hH hT hS h_v0 fk_9_3 rfl tw_201 d_Ru_add_47 (fun σ60 H locs eσ60 hH hT hS => ?_)
    replace hF := hF σ60 eσ60
    refine lv_iconst hx hb d_Ru_add_50 ki_1 ?_
    exact rs_zret C hH hT hS (by decide) hF d_Ru_add_51
  · replace hF := hF.2 hc
    refine lv_iconst hx hb d_Ru_add_8 ki_0 ?_
    exact rs_zret C hH hT hS (by decide) hF d_Ru_add_9
/-! RouteSpeaker.isWithin(IIII)Z -/
theorem d_Sp_isWithin_0 : decode prog_1_method_22_code 0 = .ok (.iload_n 0, 1) := by decide +kernel
theorem d_Sp_isWithin_1 : decode prog_1_method_22_code 1 = .ok (.iload_n 2, 1) := by decide +kernel
theorem d_Sp_isWithin_2 : decode prog_1_method_22_code 2 = .ok (.if_icmp .lt (18), 3) := by decide +kernel
theorem d_Sp_isWithin_5 : decode prog_1_method_22_code 5 = .ok (.iload_n 1, 1) := by decide +kernel
theorem d_Sp_isWithin_6 : decode prog_1_method_22_code 6 = .ok (.iload_n 3, 1) := by decide +kernel
theorem d_Sp_isWithin_7 : decode prog_1_method_22_code 7 = .ok (.ixor, 1) := by decide +kernel
theorem d_Sp_isWithin_8 : decode prog_1_method_22_code 8 = .ok (.sipush (255), 3) := by decide +kernel
theorem d_Sp_isWithin_11 : decode prog_1_method_22_code 11 = .ok (.iload_n 2, 1) := by decide +kernel
theorem d_Sp_isWithin_12 : decode prog_1_method_22_code 12 = .ok (.ishr, 1) := by decide +kernel
theorem d_Sp_isWithin_13 : decode prog_1_method_22_code 13 = .ok (.if_icmp .gt (7), 3) := by decide +kernel
theorem d_Sp_isWithin_16 : decode prog_1_method_22_code 16 = .ok (.iconst 1, 1) := by decide +kernel
theorem d_Sp_isWithin_17 : decode prog_1_method_22_code 17 = .ok (.goto (4), 3) := by decide +kernel
theorem d_Sp_isWithin_20 : decode prog_1_method_22_code 20 = .ok (.iconst 0, 1) := by decide +kernel
theorem d_Sp_isWithin_21 : decode prog_1_method_22_code 21 = .ok (.ireturn, 1) := by decide +kernel
def F_Sp_isWithin (N : Nat → Nat) (x0 : Int32) (x1 : Int32) (x2 : Int32) (x3 : Int32) (σ : rs_Mem) (Q : Int32 → rs_Mem → Prop) : Prop :=
  ((x0 < x2 → (Q (0 : Int32) σ)) ∧ (¬ (x0 < x2) → ((((255 : Int32) >>> (x2 &&& 31)) < (x1 ^^^ x3) → (Q (0 : Int32) σ)) ∧ (¬ (((255 : Int32) >>> (x2 &&& 31)) < (x1 ^^^ x3)) → (Q (1 : Int32) σ)))))
abbrev y_Sp_isWithin : MethodName := ({ cls := "RouteSpeaker", name := "isWithin", desc := "(IIII)Z" } : Jvm.MethodName)
theorem rc_Sp_isWithin : rs_Cal y_Sp_isWithin prog_1_method_22_code 4 (some .boolean) 4 := ⟨tw_410, tw_1, by decide, by decide, by decide +kernel⟩
set_option maxRecDepth 20000 in
theorem J_Sp_isWithin (l : Launch) {G : rs_G} {Bm : Nat} {S : rs_Shp} {x0 : Int32} {x1 : Int32} {x2 : Int32} {x3 : Int32} {σ : rs_Mem} {Q : Int32 → rs_Mem → Prop} (hF : F_Sp_isWithin S.2.2 x0 x1 x2 x3 σ Q) :
    Met l y_Sp_isWithin (rs_ws y_Sp_isWithin prog_1_method_22_code 4 (some .boolean)) { frames := 0, cells := 0, slots := 0, locals := 0 } (rs_P G Bm S σ [.int x0, .int x1, .int x2, .int x3]) (rs_Qi G Bm S Q) 0 0 (rs_A Bm) := by
  refine rs_met (own := "RouteSpeaker") (by decide) rfl (Nat.le_of_ble_eq_true rfl) (fun p e s m below meth c ls C hl hH hT hS => ?_)
  replace hl : lv_has ls 4 [(0, .int x0), (1, .int x1), (2, .int x2), (3, .int x3)] := hl
  have hx := C.1
  have hb := C.2.1
  unfold F_Sp_isWithin at hF
  refine lv_iload_n hx hb d_Sp_isWithin_0 rfl (lv_at hl 0 rfl) ?_
  refine lv_iload_n hx hb d_Sp_isWithin_1 rfl (lv_at hl 2 rfl) ?_
  refine lv_icmp_lt hx hb d_Sp_isWithin_2 (tgt := 20) rfl (fun hc => ?_) (fun hc => ?_)
  · replace hF := hF.1 hc
    refine lv_iconst hx hb d_Sp_isWithin_20 ki_0 ?_
    exact rs_zret C hH hT hS (by decide) hF d_Sp_isWithin_21
  · replace hF := hF.2 hc
    refine lv_iload_n hx hb d_Sp_isWithin_5 rfl (lv_at hl 1 rfl) ?_
    refine lv_iload_n hx hb d_Sp_isWithin_6 rfl (lv_at hl 3 rfl) ?_
    refine lv_ixor hx hb d_Sp_isWithin_7 ?_
    refine lv_sipush hx hb d_Sp_isWithin_8 ks_255 ?_
    refine lv_iload_n hx hb d_Sp_isWithin_11 rfl (lv_at hl 2 rfl) ?_
    refine lv_ishr hx hb d_Sp_isWithin_12 ?_
    refine lv_icmp_gt hx hb d_Sp_isWithin_13 (tgt := 20) rfl (fun hc => ?_) (fun hc => ?_)
    · replace hF := hF.1 hc
      refine lv_iconst hx hb d_Sp_isWithin_20 ki_0 ?_
      exact rs_zret C hH hT hS (by decide) hF d_Sp_isWithin_21
    · replace hF := hF.2 hc
      refine lv_iconst hx hb d_Sp_isWithin_16 ki_1 ?_
      refine lv_goto hx hb d_Sp_isWithin_17 (tgt := 21) rfl ?_
      exact rs_zret C hH hT hS (by decide) hF d_Sp_isWithin_21
/-! RouteSpeaker$Rules.actionFor(II)I -/
theorem d_Ru_actionFor_0 : decode prog_9_method_4_code 0 = .ok (.iconst 0, 1) := by decide +kernel
theorem d_Ru_actionFor_1 : decode prog_9_method_4_code 1 = .ok (.istore_n 3, 1) := by decide +kernel
theorem d_Ru_actionFor_2 : decode prog_9_method_4_code 2 = .ok (.iload_n 3, 1) := by decide +kernel
theorem d_Ru_actionFor_3 : decode prog_9_method_4_code 3 = .ok (.aload_n 0, 1) := by decide +kernel
theorem d_Ru_actionFor_4 : decode prog_9_method_4_code 4 = .ok (.getfield 21, 3) := by decide +kernel
theorem d_Ru_actionFor_7 : decode prog_9_method_4_code 7 = .ok (.if_icmp .ge (36), 3) := by decide +kernel
theorem d_Ru_actionFor_10 : decode prog_9_method_4_code 10 = .ok (.iload_n 1, 1) := by decide +kernel
theorem d_Ru_actionFor_11 : decode prog_9_method_4_code 11 = .ok (.iload_n 2, 1) := by decide +kernel
theorem d_Ru_actionFor_12 : decode prog_9_method_4_code 12 = .ok (.aload_n 0, 1) := by decide +kernel
theorem d_Ru_actionFor_13 : decode prog_9_method_4_code 13 = .ok (.getfield 9, 3) := by decide +kernel
theorem d_Ru_actionFor_16 : decode prog_9_method_4_code 16 = .ok (.iload_n 3, 1) := by decide +kernel
theorem d_Ru_actionFor_17 : decode prog_9_method_4_code 17 = .ok (.iaload, 1) := by decide +kernel
theorem d_Ru_actionFor_18 : decode prog_9_method_4_code 18 = .ok (.aload_n 0, 1) := by decide +kernel
theorem d_Ru_actionFor_19 : decode prog_9_method_4_code 19 = .ok (.getfield 15, 3) := by decide +kernel
theorem d_Ru_actionFor_22 : decode prog_9_method_4_code 22 = .ok (.iload_n 3, 1) := by decide +kernel
theorem d_Ru_actionFor_23 : decode prog_9_method_4_code 23 = .ok (.iaload, 1) := by decide +kernel
theorem d_Ru_actionFor_24 : decode prog_9_method_4_code 24 = .ok (.invokestatic 25, 3) := by decide +kernel
theorem d_Ru_actionFor_27 : decode prog_9_method_4_code 27 = .ok (.ifCond .eq (10), 3) := by decide +kernel
theorem d_Ru_actionFor_30 : decode prog_9_method_4_code 30 = .ok (.aload_n 0, 1) := by decide +kernel
theorem d_Ru_actionFor_31 : decode prog_9_method_4_code 31 = .ok (.getfield 18, 3) := by decide +kernel
theorem d_Ru_actionFor_34 : decode prog_9_method_4_code 34 = .ok (.iload_n 3, 1) := by decide +kernel
theorem d_Ru_actionFor_35 : decode prog_9_method_4_code 35 = .ok (.iaload, 1) := by decide +kernel
theorem d_Ru_actionFor_36 : decode prog_9_method_4_code 36 = .ok (.ireturn, 1) := by decide +kernel
theorem d_Ru_actionFor_37 : decode prog_9_method_4_code 37 = .ok (.iinc 3 (1), 3) := by decide +kernel
theorem d_Ru_actionFor_40 : decode prog_9_method_4_code 40 = .ok (.goto (-38), 3) := by decide +kernel
theorem d_Ru_actionFor_43 : decode prog_9_method_4_code 43 = .ok (.iconst (-1), 1) := by decide +kernel
theorem d_Ru_actionFor_44 : decode prog_9_method_4_code 44 = .ok (.ireturn, 1) := by decide +kernel
def G_Ru_actionFor_2 (N : Nat → Nat) (Q : Int32 → rs_Mem → Prop) (K2 : Nat → Int32 → Int32 → Int32 → rs_Mem → Prop) (v0 : Nat) (x1 : Int32) (x2 : Int32) (x3 : Int32) (σ : rs_Mem) : Prop :=
  (((rs_I σ v0 3) ≤ x3 → (Q (-1 : Int32) σ)) ∧ (¬ ((rs_I σ v0 3) ≤ x3) → (vp_in x3 (N (rs_R σ v0 0)) ∧ (vp_in x3 (N (rs_R σ v0 1)) ∧ (F_Sp_isWithin N x1 x2 (rs_I σ (rs_R σ v0 0) x3.toNatClampNeg) (rs_I σ (rs_R σ v0 1) x3.toNatClampNeg) σ (fun x56 σ55 => ((x56 = 0 → (∀ x57 : Int32, x57 = x3 + (1 : Int32) → (K2 v0 x1 x2 x57 σ55))) ∧ (¬ (x56 = 0) → (vp_in x3 (N (rs_R σ55 v0 2)) ∧ (Q (rs_I σ55 (rs_R σ55 v0 2) x3.toNatClampNeg) σ55))))))))))
noncomputable def L_Ru_actionFor_2 (N : Nat → Nat) (Q : Int32 → rs_Mem → Prop) (n : Nat) : Nat → Int32 → Int32 → Int32 → rs_Mem → Prop := Nat.rec (motive := fun _ => Nat → Int32 → Int32 → Int32 → rs_Mem → Prop) (fun _ _ _ _ _ => False) (fun _ K => G_Ru_actionFor_2 N Q K) n
def F_Ru_actionFor (N : Nat → Nat) (v0 : Nat) (x1 : Int32) (x2 : Int32) (σ : rs_Mem) (Q : Int32 → rs_Mem → Prop) : Prop :=
  (∃ n : Nat, L_Ru_actionFor_2 N Q n v0 x1 x2 (0 : Int32) σ)
set_option maxRecDepth 20000 in
theorem JL_Ru_actionFor_2 {p : Program} {l : Launch} {e : Env} {s : State} {m : MethodId} {args : Array Value} {below : List Frame} {meth : Method} {c : Code} {G : rs_G} {Bm : Nat} {S : rs_Shp} {Q : Int32 → rs_Mem → Prop} (C : rs_C "RouteSpeaker$Rules" prog_9_method_4_code 4 (some .int) G p s m meth c args) : ∀ n : Nat, ∀ (v0 : Nat) (x1 : Int32) (x2 : Int32) (x3 : Int32) (σ : rs_Mem) (H : Heap) (locs : List Loc) (ls : Array Slot), rs_Ok S 9 v0 → rs_H G Bm S σ H → rs_T S σ → va_S (rs_A Bm) s.heap H locs → lv_has ls 4 [(0, .ref (Bm + v0)), (1, .int x1), (2, .int x2), (3, .int x3)] → (L_Ru_actionFor_2 S.2.2 Q n) v0 x1 x2 x3 σ → W p l e { frames := 1, cells := 0, slots := 0, locals := 23 } s m args below meth c H locs 0 0 (MQ below (rs_Qi G Bm S Q) args s 0 0 (rs_A Bm)) (F0 m 2 ls []) := by
  have hx := C.1
  have hb := C.2.1
  intro n
  induction n with
  | zero => intros; rename_i hF; exact hF.elim
  | succ n hK2 =>
    intro v0 x1 x2 x3 σ H locs ls h_v0 hH hT hS hl hF
    replace hF : G_Ru_actionFor_2 S.2.2 Q (L_Ru_actionFor_2 S.2.2 Q n) v0 x1 x2 x3 σ := hF
    unfold G_Ru_actionFor_2 at hF
    refine lv_iload_n hx hb d_Ru_actionFor_2 rfl (lv_at hl 3 rfl) ?_
    refine lv_aload_n hx hb d_Ru_actionFor_3 rfl (lv_at hl 0 rfl) ?_
    refine rs_getI C hH h_v0 fk_9_3 tw_201 d_Ru_actionFor_4 ?_
    refine lv_icmp_ge hx hb d_Ru_actionFor_7 (tgt := 43) rfl (fun hc => ?_) (fun hc => ?_)
    · replace hF := hF.1 hc
      refine lv_iconst hx hb d_Ru_actionFor_43 ki_m1 ?_
      exact rs_iret C hH hT hS hF d_Ru_actionFor_44
    · replace hF := hF.2 hc
      refine lv_iload_n hx hb d_Ru_actionFor_10 rfl (lv_at hl 1 rfl) ?_
      refine lv_iload_n hx hb d_Ru_actionFor_11 rfl (lv_at hl 2 rfl) ?_
      refine lv_aload_n hx hb d_Ru_actionFor_12 rfl (lv_at hl 0 rfl) ?_
      refine rs_getR C hH hT h_v0 fk_9_0 tw_198 d_Ru_actionFor_13 (fun h51 => ?_)
      refine lv_iload_n hx hb d_Ru_actionFor_16 rfl (lv_at hl 3 rfl) ?_
      obtain ⟨g52, hF⟩ := hF
      refine rs_iald C hH h51 g52 d_Ru_actionFor_17 ?_
      refine lv_aload_n hx hb d_Ru_actionFor_18 rfl (lv_at hl 0 rfl) ?_
      refine rs_getR C hH hT h_v0 fk_9_1 tw_199 d_Ru_actionFor_19 (fun h53 => ?_)
      refine lv_iload_n hx hb d_Ru_actionFor_22 rfl (lv_at hl 3 rfl) ?_
      obtain ⟨g54, hF⟩ := hF
      refine rs_iald C hH h53 g54 d_Ru_actionFor_23 ?_
      refine rs_ci (rs_runSN C hH hT hl (J_Sp_isWithin l hF) rc_Sp_isWithin (host := "RouteSpeaker") nw_0 tw_409 rfl ⟨⟨rfl, rfl⟩, by decide, by decide, by decide⟩ (by decide) rfl d_Ru_actionFor_24) hS (fun x56 σ55 H locs hH hT hS hF => ?_)
      refine lv_if_eq hx hb d_Ru_actionFor_27 (tgt := 37) rfl (fun hc => ?_) (fun hc => ?_)
      · replace hF := hF.1 hc
        obtain ⟨x57, ex57⟩ : ∃ z : Int32, z = x3 + (1 : Int32) := ⟨_, rfl⟩
        replace hF := hF x57 ex57
        refine lv_iinc hx hb d_Ru_actionFor_37 hl (k := 3) rfl (v := x57) (by rw [ki_1, ex57]) (by decide) (lv' := [(3, .int x57), (0, .ref (Bm + v0)), (1, .int x1), (2, .int x2)]) rfl (fun ls hl => ?_)
        refine lv_goto hx hb d_Ru_actionFor_40 (tgt := 2) rfl ?_
        exact hK2 v0 x1 x2 x57 σ55 _ _ _ h_v0 hH hT hS (lv_sub hl [1, 2, 3, 0] rfl) hF
      · replace hF := hF.2 hc
        refine lv_aload_n hx hb d_Ru_actionFor_30 rfl (lv_at hl 0 rfl) ?_
        refine rs_getR C hH hT h_v0 fk_9_2 tw_200 d_Ru_actionFor_31 (fun h57 => ?_)
        refine lv_iload_n hx hb d_Ru_actionFor_34 rfl (lv_at hl 3 rfl) ?_
        obtain ⟨g58, hF⟩ := hF
        refine rs_iald C hH h57 g58 d_Ru_actionFor_35 ?_
        exact rs_iret C hH hT hS hF d_Ru_actionFor_36
abbrev y_Ru_actionFor : MethodName := ({ cls := "RouteSpeaker$Rules", name := "actionFor", desc := "(II)I" } : Jvm.MethodName)
theorem rc_Ru_actionFor : rs_Cal y_Ru_actionFor prog_9_method_4_code 4 (some .int) 2 := ⟨tw_407, tw_8, by decide, by decide, by decide +kernel⟩
set_option maxRecDepth 20000 in
theorem J_Ru_actionFor (l : Launch) {G : rs_G} {Bm : Nat} {S : rs_Shp} {v0 : Nat} {x1 : Int32} {x2 : Int32} {σ : rs_Mem} {Q : Int32 → rs_Mem → Prop} (h_v0 : rs_Ok S 9 v0) (hF : F_Ru_actionFor S.2.2 v0 x1 x2 σ Q) :
    Met l y_Ru_actionFor (rs_ws y_Ru_actionFor prog_9_method_4_code 4 (some .int)) { frames := 1, cells := 0, slots := 0, locals := 23 } (rs_P G Bm S σ [.ref (Bm + v0), .int x1, .int x2]) (rs_Qi G Bm S Q) 0 0 (rs_A Bm) := by
  refine rs_met (own := "RouteSpeaker$Rules") (by decide) rfl (Nat.le_of_ble_eq_true rfl) (fun p e s m below meth c ls C hl hH hT hS => ?_)
  replace hl : lv_has ls 4 [(0, .ref (Bm + v0)), (1, .int x1), (2, .int x2)] := hl
  have hx := C.1
  have hb := C.2.1
  unfold F_Ru_actionFor at hF
  refine lv_iconst hx hb d_Ru_actionFor_0 ki_0 ?_
  refine lv_istore_n hx hb d_Ru_actionFor_1 rfl hl (by decide) (lv' := [(3, .int (0 : Int32)), (0, .ref (Bm + v0)), (1, .int x1), (2, .int x2)]) rfl (fun ls hl => ?_)
  obtain ⟨n, hF⟩ := hF
  exact JL_Ru_actionFor_2 C n v0 x1 x2 (0 : Int32) σ _ _ _ h_v0 hH hT hS (lv_sub hl [1, 2, 3, 0] rfl) hF
/-! RouteSpeaker$Rules.clear()V -/
theorem d_Ru_clear_0 : decode prog_9_method_3_code 0 = .ok (.aload_n 0, 1) := by decide +kernel
theorem d_Ru_clear_1 : decode prog_9_method_3_code 1 = .ok (.iconst 0, 1) := by decide +kernel
theorem d_Ru_clear_2 : decode prog_9_method_3_code 2 = .ok (.putfield 21, 3) := by decide +kernel
theorem d_Ru_clear_5 : decode prog_9_method_3_code 5 = .ok (.return_, 1) := by decide +kernel
def F_Ru_clear (N : Nat → Nat) (v0 : Nat) (σ : rs_Mem) (Q : rs_Mem → Prop) : Prop :=
  (∀ σ51 : rs_Mem, σ51 = rs_sI σ v0 3 (0 : Int32) → (Q σ51))
abbrev y_Ru_clear : MethodName := ({ cls := "RouteSpeaker$Rules", name := "clear", desc := "()V" } : Jvm.MethodName)
theorem rc_Ru_clear : rs_Cal y_Ru_clear prog_9_method_3_code 1 none 0 := ⟨tw_642, tw_8, by decide, by decide, by decide +kernel⟩
set_option maxRecDepth 20000 in
theorem J_Ru_clear (l : Launch) {G : rs_G} {Bm : Nat} {S : rs_Shp} {v0 : Nat} {σ : rs_Mem} {Q : rs_Mem → Prop} (h_v0 : rs_Ok S 9 v0) (hF : F_Ru_clear S.2.2 v0 σ Q) :
    Met l y_Ru_clear (rs_ws y_Ru_clear prog_9_method_3_code 1 none) { frames := 0, cells := 0, slots := 0, locals := 0 } (rs_P G Bm S σ [.ref (Bm + v0)]) (rs_Qv G Bm S Q) 0 0 (rs_A Bm) := by
  refine rs_met (own := "RouteSpeaker$Rules") (by decide) rfl (Nat.le_of_ble_eq_true rfl) (fun p e s m below meth c ls C hl hH hT hS => ?_)
  replace hl : lv_has ls 1 [(0, .ref (Bm + v0))] := hl
  have hx := C.1
  have hb := C.2.1
  unfold F_Ru_clear at hF
  refine lv_aload_n hx hb d_Ru_clear_0 rfl (lv_at hl 0 rfl) ?_
  refine lv_iconst hx hb d_Ru_clear_1 ki_0 ?_
  refine rs_putI C hH hT hS h_v0 fk_9_3 rfl tw_201 d_Ru_clear_2 (fun σ51 H locs eσ51 hH hT hS => ?_)
  replace hF := hF σ51 eσ51
  exact rs_vret C hH hT hS hF d_Ru_clear_5
end
