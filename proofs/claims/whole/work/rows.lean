section
-- ===== PART A: goes FIRST, ahead of the names: the tables' words, and 'selects' of the private methods out of them =====
/-- a private method of a class that the tables say can be made, by its rows of tables_1 -/
def lw_okq (q : MethodName × Nat) : Prop := (q.1.cls ≠ "java/lang/invoke/MethodHandle" ∧ q.1.cls ≠ "java/lang/invoke/VarHandle") ∧ Cond.instantiable q.1.cls q.2 ∈ tables_1 ∧ Cond.privateMethod q.1 ∈ tables_1 ∧ Cond.instanceMethod q.1 ∈ tables_1
theorem lw_p0 : lw_okq (⟨"java/lang/Throwable", "fillInStackTrace", "(I)Ljava/lang/Throwable;"⟩, 6) := ⟨⟨by decide +kernel, by decide +kernel⟩, List.mem_of_getElem? (i := 423) (by decide +kernel), List.mem_of_getElem? (i := 421) (by decide +kernel), List.mem_of_getElem? (i := 422) (by decide +kernel)⟩
theorem lw_p1 : lw_okq (⟨"LockMaster$Changes", "newestKept", "()LLockMaster$Canal;"⟩, 3) := ⟨⟨by decide +kernel, by decide +kernel⟩, List.mem_of_getElem? (i := 247) (by decide +kernel), List.mem_of_getElem? (i := 479) (by decide +kernel), List.mem_of_getElem? (i := 480) (by decide +kernel)⟩
theorem lw_p2 : lw_okq (⟨"LockMaster", "refusalOfShips", "(I)I"⟩, 8) := ⟨⟨by decide +kernel, by decide +kernel⟩, List.mem_of_getElem? (i := 25) (by decide +kernel), List.mem_of_getElem? (i := 617) (by decide +kernel), List.mem_of_getElem? (i := 618) (by decide +kernel)⟩
theorem lw_p3 : lw_okq (⟨"LockMaster", "refuseFor", "(I)V"⟩, 8) := ⟨⟨by decide +kernel, by decide +kernel⟩, List.mem_of_getElem? (i := 25) (by decide +kernel), List.mem_of_getElem? (i := 621) (by decide +kernel), List.mem_of_getElem? (i := 622) (by decide +kernel)⟩
theorem lw_p4 : lw_okq (⟨"LockMaster$ArrivalText", "stateBehind", "(II)I"⟩, 7) := ⟨⟨by decide +kernel, by decide +kernel⟩, List.mem_of_getElem? (i := 267) (by decide +kernel), List.mem_of_getElem? (i := 675) (by decide +kernel), List.mem_of_getElem? (i := 676) (by decide +kernel)⟩
theorem lw_p5 : lw_okq (⟨"LockMaster$ArrivalText", "begin", "(Z)I"⟩, 7) := ⟨⟨by decide +kernel, by decide +kernel⟩, List.mem_of_getElem? (i := 267) (by decide +kernel), List.mem_of_getElem? (i := 679) (by decide +kernel), List.mem_of_getElem? (i := 680) (by decide +kernel)⟩
theorem lw_p6 : lw_okq (⟨"LockMaster$ArrivalText", "take", "(LLockMaster$Row;II)I"⟩, 7) := ⟨⟨by decide +kernel, by decide +kernel⟩, List.mem_of_getElem? (i := 267) (by decide +kernel), List.mem_of_getElem? (i := 683) (by decide +kernel), List.mem_of_getElem? (i := 684) (by decide +kernel)⟩
theorem lw_p7 : lw_okq (⟨"LockMaster$ArrivalText", "stateBehindDraught", "(I)I"⟩, 7) := ⟨⟨by decide +kernel, by decide +kernel⟩, List.mem_of_getElem? (i := 267) (by decide +kernel), List.mem_of_getElem? (i := 687) (by decide +kernel), List.mem_of_getElem? (i := 688) (by decide +kernel)⟩
theorem lw_p8 : lw_okq (⟨"LockMaster", "refusalOfJoin", "(II)I"⟩, 8) := ⟨⟨by decide +kernel, by decide +kernel⟩, List.mem_of_getElem? (i := 25) (by decide +kernel), List.mem_of_getElem? (i := 698) (by decide +kernel), List.mem_of_getElem? (i := 699) (by decide +kernel)⟩
theorem lw_p9 : lw_okq (⟨"LockMaster$Fleet", "nameFirst", "(II)V"⟩, 10) := ⟨⟨by decide +kernel, by decide +kernel⟩, List.mem_of_getElem? (i := 130) (by decide +kernel), List.mem_of_getElem? (i := 719) (by decide +kernel), List.mem_of_getElem? (i := 720) (by decide +kernel)⟩
theorem lw_p10 : lw_okq (⟨"LockMaster", "refusalOfPart", "(I)I"⟩, 8) := ⟨⟨by decide +kernel, by decide +kernel⟩, List.mem_of_getElem? (i := 25) (by decide +kernel), List.mem_of_getElem? (i := 731) (by decide +kernel), List.mem_of_getElem? (i := 732) (by decide +kernel)⟩
theorem lw_p11 : lw_okq (⟨"LockMaster$Fleet", "shipAheadOf", "(I)I"⟩, 10) := ⟨⟨by decide +kernel, by decide +kernel⟩, List.mem_of_getElem? (i := 130) (by decide +kernel), List.mem_of_getElem? (i := 739) (by decide +kernel), List.mem_of_getElem? (i := 740) (by decide +kernel)⟩
theorem lw_p12 : lw_okq (⟨"LockMaster$Canal", "convoysAheadOf", "(II)I"⟩, 11) := ⟨⟨by decide +kernel, by decide +kernel⟩, List.mem_of_getElem? (i := 33) (by decide +kernel), List.mem_of_getElem? (i := 803) (by decide +kernel), List.mem_of_getElem? (i := 804) (by decide +kernel)⟩
theorem lw_p13 : lw_okq (⟨"LockMaster$Canal", "comesBefore", "(II)Z"⟩, 11) := ⟨⟨by decide +kernel, by decide +kernel⟩, List.mem_of_getElem? (i := 33) (by decide +kernel), List.mem_of_getElem? (i := 807) (by decide +kernel), List.mem_of_getElem? (i := 808) (by decide +kernel)⟩
theorem lw_p14 : lw_okq (⟨"LockMaster$Canal", "hindranceByRules", "(II)I"⟩, 11) := ⟨⟨by decide +kernel, by decide +kernel⟩, List.mem_of_getElem? (i := 33) (by decide +kernel), List.mem_of_getElem? (i := 842) (by decide +kernel), List.mem_of_getElem? (i := 843) (by decide +kernel)⟩
theorem lw_p15 : lw_okq (⟨"LockMaster$Canal", "canFillForUp", "(I)Z"⟩, 11) := ⟨⟨by decide +kernel, by decide +kernel⟩, List.mem_of_getElem? (i := 33) (by decide +kernel), List.mem_of_getElem? (i := 863) (by decide +kernel), List.mem_of_getElem? (i := 864) (by decide +kernel)⟩
def lw_privs_1 : List (MethodName × Nat) := [(⟨"java/lang/Throwable", "fillInStackTrace", "(I)Ljava/lang/Throwable;"⟩, 6), (⟨"LockMaster$Changes", "newestKept", "()LLockMaster$Canal;"⟩, 3), (⟨"LockMaster", "refusalOfShips", "(I)I"⟩, 8), (⟨"LockMaster", "refuseFor", "(I)V"⟩, 8), (⟨"LockMaster$ArrivalText", "stateBehind", "(II)I"⟩, 7), (⟨"LockMaster$ArrivalText", "begin", "(Z)I"⟩, 7), (⟨"LockMaster$ArrivalText", "take", "(LLockMaster$Row;II)I"⟩, 7), (⟨"LockMaster$ArrivalText", "stateBehindDraught", "(I)I"⟩, 7), (⟨"LockMaster", "refusalOfJoin", "(II)I"⟩, 8), (⟨"LockMaster$Fleet", "nameFirst", "(II)V"⟩, 10), (⟨"LockMaster", "refusalOfPart", "(I)I"⟩, 8), (⟨"LockMaster$Fleet", "shipAheadOf", "(I)I"⟩, 10), (⟨"LockMaster$Canal", "convoysAheadOf", "(II)I"⟩, 11), (⟨"LockMaster$Canal", "comesBefore", "(II)Z"⟩, 11), (⟨"LockMaster$Canal", "hindranceByRules", "(II)I"⟩, 11), (⟨"LockMaster$Canal", "canFillForUp", "(I)Z"⟩, 11)]
theorem lw_r1 : ∀ q ∈ lw_privs_1, lw_okq q := List.forall_mem_cons.mpr ⟨lw_p0, List.forall_mem_cons.mpr ⟨lw_p1, List.forall_mem_cons.mpr ⟨lw_p2, List.forall_mem_cons.mpr ⟨lw_p3, List.forall_mem_cons.mpr ⟨lw_p4, List.forall_mem_cons.mpr ⟨lw_p5, List.forall_mem_cons.mpr ⟨lw_p6, List.forall_mem_cons.mpr ⟨lw_p7, List.forall_mem_cons.mpr ⟨lw_p8, List.forall_mem_cons.mpr ⟨lw_p9, List.forall_mem_cons.mpr ⟨lw_p10, List.forall_mem_cons.mpr ⟨lw_p11, List.forall_mem_cons.mpr ⟨lw_p12, List.forall_mem_cons.mpr ⟨lw_p13, List.forall_mem_cons.mpr ⟨lw_p14, List.forall_mem_cons.mpr ⟨lw_p15, fun _ h => absurd h List.not_mem_nil⟩⟩⟩⟩⟩⟩⟩⟩⟩⟩⟩⟩⟩⟩⟩⟩
theorem lw_p16 : lw_okq (⟨"LockMaster$Canal", "canBeReadyForDown", "(I)Z"⟩, 11) := ⟨⟨by decide +kernel, by decide +kernel⟩, List.mem_of_getElem? (i := 33) (by decide +kernel), List.mem_of_getElem? (i := 875) (by decide +kernel), List.mem_of_getElem? (i := 876) (by decide +kernel)⟩
theorem lw_p17 : lw_okq (⟨"LockMaster$Canal", "takeTurn", "(I)V"⟩, 11) := ⟨⟨by decide +kernel, by decide +kernel⟩, List.mem_of_getElem? (i := 33) (by decide +kernel), List.mem_of_getElem? (i := 895) (by decide +kernel), List.mem_of_getElem? (i := 896) (by decide +kernel)⟩
theorem lw_p18 : lw_okq (⟨"LockMaster$Canal", "chosenConvoy", "(IZ)I"⟩, 11) := ⟨⟨by decide +kernel, by decide +kernel⟩, List.mem_of_getElem? (i := 33) (by decide +kernel), List.mem_of_getElem? (i := 899) (by decide +kernel), List.mem_of_getElem? (i := 900) (by decide +kernel)⟩
theorem lw_p19 : lw_okq (⟨"LockMaster$Canal", "wasLockedNow", "(I)Z"⟩, 11) := ⟨⟨by decide +kernel, by decide +kernel⟩, List.mem_of_getElem? (i := 33) (by decide +kernel), List.mem_of_getElem? (i := 903) (by decide +kernel), List.mem_of_getElem? (i := 904) (by decide +kernel)⟩
theorem lw_p20 : lw_okq (⟨"LockMaster$Canal", "turnChamber", "(I)V"⟩, 11) := ⟨⟨by decide +kernel, by decide +kernel⟩, List.mem_of_getElem? (i := 33) (by decide +kernel), List.mem_of_getElem? (i := 907) (by decide +kernel), List.mem_of_getElem? (i := 908) (by decide +kernel)⟩
theorem lw_p21 : lw_okq (⟨"LockMaster$Canal", "lockRow", "(III)V"⟩, 11) := ⟨⟨by decide +kernel, by decide +kernel⟩, List.mem_of_getElem? (i := 33) (by decide +kernel), List.mem_of_getElem? (i := 928) (by decide +kernel), List.mem_of_getElem? (i := 929) (by decide +kernel)⟩
theorem lw_p22 : lw_okq (⟨"LockMaster$Canal", "moveOn", "(I)V"⟩, 11) := ⟨⟨by decide +kernel, by decide +kernel⟩, List.mem_of_getElem? (i := 33) (by decide +kernel), List.mem_of_getElem? (i := 936) (by decide +kernel), List.mem_of_getElem? (i := 937) (by decide +kernel)⟩
theorem lw_p23 : lw_okq (⟨"LockMasterModel", "raises", "(I)I"⟩, 19) := ⟨⟨by decide +kernel, by decide +kernel⟩, List.mem_of_getElem? (i := 1024) (by decide +kernel), List.mem_of_getElem? (i := 1100) (by decide +kernel), List.mem_of_getElem? (i := 1101) (by decide +kernel)⟩
theorem lw_p24 : lw_okq (⟨"LockMasterModel", "changes", "()V"⟩, 19) := ⟨⟨by decide +kernel, by decide +kernel⟩, List.mem_of_getElem? (i := 1024) (by decide +kernel), List.mem_of_getElem? (i := 1104) (by decide +kernel), List.mem_of_getElem? (i := 1105) (by decide +kernel)⟩
theorem lw_p25 : lw_okq (⟨"LockMasterModel", "isReach", "(I)Z"⟩, 19) := ⟨⟨by decide +kernel, by decide +kernel⟩, List.mem_of_getElem? (i := 1024) (by decide +kernel), List.mem_of_getElem? (i := 1116) (by decide +kernel), List.mem_of_getElem? (i := 1117) (by decide +kernel)⟩
theorem lw_p26 : lw_okq (⟨"LockMasterModel", "level", "(I)I"⟩, 19) := ⟨⟨by decide +kernel, by decide +kernel⟩, List.mem_of_getElem? (i := 1024) (by decide +kernel), List.mem_of_getElem? (i := 1120) (by decide +kernel), List.mem_of_getElem? (i := 1121) (by decide +kernel)⟩
theorem lw_p27 : lw_okq (⟨"LockMasterModel", "water", "(I)I"⟩, 19) := ⟨⟨by decide +kernel, by decide +kernel⟩, List.mem_of_getElem? (i := 1024) (by decide +kernel), List.mem_of_getElem? (i := 1124) (by decide +kernel), List.mem_of_getElem? (i := 1125) (by decide +kernel)⟩
theorem lw_p28 : lw_okq (⟨"LockMasterModel", "dryness", "(I)I"⟩, 19) := ⟨⟨by decide +kernel, by decide +kernel⟩, List.mem_of_getElem? (i := 1024) (by decide +kernel), List.mem_of_getElem? (i := 1128) (by decide +kernel), List.mem_of_getElem? (i := 1129) (by decide +kernel)⟩
theorem lw_p29 : lw_okq (⟨"LockMasterModel", "of", "(II)I"⟩, 19) := ⟨⟨by decide +kernel, by decide +kernel⟩, List.mem_of_getElem? (i := 1024) (by decide +kernel), List.mem_of_getElem? (i := 1132) (by decide +kernel), List.mem_of_getElem? (i := 1133) (by decide +kernel)⟩
theorem lw_p30 : lw_okq (⟨"LockMasterModel", "isLock", "(I)Z"⟩, 19) := ⟨⟨by decide +kernel, by decide +kernel⟩, List.mem_of_getElem? (i := 1024) (by decide +kernel), List.mem_of_getElem? (i := 1140) (by decide +kernel), List.mem_of_getElem? (i := 1141) (by decide +kernel)⟩
theorem lw_p31 : lw_okq (⟨"LockMasterModel", "lockPart", "(II)I"⟩, 19) := ⟨⟨by decide +kernel, by decide +kernel⟩, List.mem_of_getElem? (i := 1024) (by decide +kernel), List.mem_of_getElem? (i := 1144) (by decide +kernel), List.mem_of_getElem? (i := 1145) (by decide +kernel)⟩
def lw_privs_2 : List (MethodName × Nat) := [(⟨"LockMaster$Canal", "canBeReadyForDown", "(I)Z"⟩, 11), (⟨"LockMaster$Canal", "takeTurn", "(I)V"⟩, 11), (⟨"LockMaster$Canal", "chosenConvoy", "(IZ)I"⟩, 11), (⟨"LockMaster$Canal", "wasLockedNow", "(I)Z"⟩, 11), (⟨"LockMaster$Canal", "turnChamber", "(I)V"⟩, 11), (⟨"LockMaster$Canal", "lockRow", "(III)V"⟩, 11), (⟨"LockMaster$Canal", "moveOn", "(I)V"⟩, 11), (⟨"LockMasterModel", "raises", "(I)I"⟩, 19), (⟨"LockMasterModel", "changes", "()V"⟩, 19), (⟨"LockMasterModel", "isReach", "(I)Z"⟩, 19), (⟨"LockMasterModel", "level", "(I)I"⟩, 19), (⟨"LockMasterModel", "water", "(I)I"⟩, 19), (⟨"LockMasterModel", "dryness", "(I)I"⟩, 19), (⟨"LockMasterModel", "of", "(II)I"⟩, 19), (⟨"LockMasterModel", "isLock", "(I)Z"⟩, 19), (⟨"LockMasterModel", "lockPart", "(II)I"⟩, 19)]
theorem lw_r2 : ∀ q ∈ lw_privs_2, lw_okq q := List.forall_mem_cons.mpr ⟨lw_p16, List.forall_mem_cons.mpr ⟨lw_p17, List.forall_mem_cons.mpr ⟨lw_p18, List.forall_mem_cons.mpr ⟨lw_p19, List.forall_mem_cons.mpr ⟨lw_p20, List.forall_mem_cons.mpr ⟨lw_p21, List.forall_mem_cons.mpr ⟨lw_p22, List.forall_mem_cons.mpr ⟨lw_p23, List.forall_mem_cons.mpr ⟨lw_p24, List.forall_mem_cons.mpr ⟨lw_p25, List.forall_mem_cons.mpr ⟨lw_p26, List.forall_mem_cons.mpr ⟨lw_p27, List.forall_mem_cons.mpr ⟨lw_p28, List.forall_mem_cons.mpr ⟨lw_p29, List.forall_mem_cons.mpr ⟨lw_p30, List.forall_mem_cons.mpr ⟨lw_p31, fun _ h => absurd h List.not_mem_nil⟩⟩⟩⟩⟩⟩⟩⟩⟩⟩⟩⟩⟩⟩⟩⟩
theorem lw_p32 : lw_okq (⟨"LockMasterModel", "quarter", "(I)I"⟩, 19) := ⟨⟨by decide +kernel, by decide +kernel⟩, List.mem_of_getElem? (i := 1024) (by decide +kernel), List.mem_of_getElem? (i := 1148) (by decide +kernel), List.mem_of_getElem? (i := 1149) (by decide +kernel)⟩
theorem lw_p33 : lw_okq (⟨"LockMasterModel", "held", "(I)I"⟩, 19) := ⟨⟨by decide +kernel, by decide +kernel⟩, List.mem_of_getElem? (i := 1024) (by decide +kernel), List.mem_of_getElem? (i := 1158) (by decide +kernel), List.mem_of_getElem? (i := 1159) (by decide +kernel)⟩
theorem lw_p34 : lw_okq (⟨"LockMasterModel", "orders", "(I)V"⟩, 19) := ⟨⟨by decide +kernel, by decide +kernel⟩, List.mem_of_getElem? (i := 1024) (by decide +kernel), List.mem_of_getElem? (i := 1162) (by decide +kernel), List.mem_of_getElem? (i := 1163) (by decide +kernel)⟩
theorem lw_p35 : lw_okq (⟨"LockMasterModel", "lockOf", "(I)I"⟩, 19) := ⟨⟨by decide +kernel, by decide +kernel⟩, List.mem_of_getElem? (i := 1024) (by decide +kernel), List.mem_of_getElem? (i := 1166) (by decide +kernel), List.mem_of_getElem? (i := 1167) (by decide +kernel)⟩
theorem lw_p36 : lw_okq (⟨"LockMasterModel", "priorityOf", "(I)I"⟩, 19) := ⟨⟨by decide +kernel, by decide +kernel⟩, List.mem_of_getElem? (i := 1024) (by decide +kernel), List.mem_of_getElem? (i := 1170) (by decide +kernel), List.mem_of_getElem? (i := 1171) (by decide +kernel)⟩
theorem lw_p37 : lw_okq (⟨"LockMasterModel", "waited", "(I)I"⟩, 19) := ⟨⟨by decide +kernel, by decide +kernel⟩, List.mem_of_getElem? (i := 1024) (by decide +kernel), List.mem_of_getElem? (i := 1175) (by decide +kernel), List.mem_of_getElem? (i := 1176) (by decide +kernel)⟩
theorem lw_p38 : lw_okq (⟨"LockMasterModel", "refuses", "(II)I"⟩, 19) := ⟨⟨by decide +kernel, by decide +kernel⟩, List.mem_of_getElem? (i := 1024) (by decide +kernel), List.mem_of_getElem? (i := 1186) (by decide +kernel), List.mem_of_getElem? (i := 1187) (by decide +kernel)⟩
theorem lw_p39 : lw_okq (⟨"LockMasterModel", "newShip", "(IIII)I"⟩, 19) := ⟨⟨by decide +kernel, by decide +kernel⟩, List.mem_of_getElem? (i := 1024) (by decide +kernel), List.mem_of_getElem? (i := 1190) (by decide +kernel), List.mem_of_getElem? (i := 1191) (by decide +kernel)⟩
theorem lw_p40 : lw_okq (⟨"LockMasterModel", "puts", "(III)V"⟩, 19) := ⟨⟨by decide +kernel, by decide +kernel⟩, List.mem_of_getElem? (i := 1024) (by decide +kernel), List.mem_of_getElem? (i := 1194) (by decide +kernel), List.mem_of_getElem? (i := 1195) (by decide +kernel)⟩
theorem lw_p41 : lw_okq (⟨"LockMasterModel", "arrives", "(I)Z"⟩, 19) := ⟨⟨by decide +kernel, by decide +kernel⟩, List.mem_of_getElem? (i := 1024) (by decide +kernel), List.mem_of_getElem? (i := 1206) (by decide +kernel), List.mem_of_getElem? (i := 1207) (by decide +kernel)⟩
theorem lw_p42 : lw_okq (⟨"LockMasterModel", "takes", "(I)Z"⟩, 19) := ⟨⟨by decide +kernel, by decide +kernel⟩, List.mem_of_getElem? (i := 1024) (by decide +kernel), List.mem_of_getElem? (i := 1210) (by decide +kernel), List.mem_of_getElem? (i := 1211) (by decide +kernel)⟩
theorem lw_p43 : lw_okq (⟨"LockMasterModel", "here", "()I"⟩, 19) := ⟨⟨by decide +kernel, by decide +kernel⟩, List.mem_of_getElem? (i := 1024) (by decide +kernel), List.mem_of_getElem? (i := 1214) (by decide +kernel), List.mem_of_getElem? (i := 1215) (by decide +kernel)⟩
theorem lw_p44 : lw_okq (⟨"LockMasterModel", "isShip", "(I)Z"⟩, 19) := ⟨⟨by decide +kernel, by decide +kernel⟩, List.mem_of_getElem? (i := 1024) (by decide +kernel), List.mem_of_getElem? (i := 1226) (by decide +kernel), List.mem_of_getElem? (i := 1227) (by decide +kernel)⟩
theorem lw_p45 : lw_okq (⟨"LockMasterModel", "sizeOf", "(I)I"⟩, 19) := ⟨⟨by decide +kernel, by decide +kernel⟩, List.mem_of_getElem? (i := 1024) (by decide +kernel), List.mem_of_getElem? (i := 1230) (by decide +kernel), List.mem_of_getElem? (i := 1231) (by decide +kernel)⟩
theorem lw_p46 : lw_okq (⟨"LockMasterModel", "shipIn", "(II)I"⟩, 19) := ⟨⟨by decide +kernel, by decide +kernel⟩, List.mem_of_getElem? (i := 1024) (by decide +kernel), List.mem_of_getElem? (i := 1238) (by decide +kernel), List.mem_of_getElem? (i := 1239) (by decide +kernel)⟩
theorem lw_p47 : lw_okq (⟨"LockMasterModel", "rules", "(I)I"⟩, 19) := ⟨⟨by decide +kernel, by decide +kernel⟩, List.mem_of_getElem? (i := 1024) (by decide +kernel), List.mem_of_getElem? (i := 1266) (by decide +kernel), List.mem_of_getElem? (i := 1267) (by decide +kernel)⟩
def lw_privs_3 : List (MethodName × Nat) := [(⟨"LockMasterModel", "quarter", "(I)I"⟩, 19), (⟨"LockMasterModel", "held", "(I)I"⟩, 19), (⟨"LockMasterModel", "orders", "(I)V"⟩, 19), (⟨"LockMasterModel", "lockOf", "(I)I"⟩, 19), (⟨"LockMasterModel", "priorityOf", "(I)I"⟩, 19), (⟨"LockMasterModel", "waited", "(I)I"⟩, 19), (⟨"LockMasterModel", "refuses", "(II)I"⟩, 19), (⟨"LockMasterModel", "newShip", "(IIII)I"⟩, 19), (⟨"LockMasterModel", "puts", "(III)V"⟩, 19), (⟨"LockMasterModel", "arrives", "(I)Z"⟩, 19), (⟨"LockMasterModel", "takes", "(I)Z"⟩, 19), (⟨"LockMasterModel", "here", "()I"⟩, 19), (⟨"LockMasterModel", "isShip", "(I)Z"⟩, 19), (⟨"LockMasterModel", "sizeOf", "(I)I"⟩, 19), (⟨"LockMasterModel", "shipIn", "(II)I"⟩, 19), (⟨"LockMasterModel", "rules", "(I)I"⟩, 19)]
theorem lw_r3 : ∀ q ∈ lw_privs_3, lw_okq q := List.forall_mem_cons.mpr ⟨lw_p32, List.forall_mem_cons.mpr ⟨lw_p33, List.forall_mem_cons.mpr ⟨lw_p34, List.forall_mem_cons.mpr ⟨lw_p35, List.forall_mem_cons.mpr ⟨lw_p36, List.forall_mem_cons.mpr ⟨lw_p37, List.forall_mem_cons.mpr ⟨lw_p38, List.forall_mem_cons.mpr ⟨lw_p39, List.forall_mem_cons.mpr ⟨lw_p40, List.forall_mem_cons.mpr ⟨lw_p41, List.forall_mem_cons.mpr ⟨lw_p42, List.forall_mem_cons.mpr ⟨lw_p43, List.forall_mem_cons.mpr ⟨lw_p44, List.forall_mem_cons.mpr ⟨lw_p45, List.forall_mem_cons.mpr ⟨lw_p46, List.forall_mem_cons.mpr ⟨lw_p47, fun _ h => absurd h List.not_mem_nil⟩⟩⟩⟩⟩⟩⟩⟩⟩⟩⟩⟩⟩⟩⟩⟩
theorem lw_p48 : lw_okq (⟨"LockMasterModel", "rows", "(I)V"⟩, 19) := ⟨⟨by decide +kernel, by decide +kernel⟩, List.mem_of_getElem? (i := 1024) (by decide +kernel), List.mem_of_getElem? (i := 1270) (by decide +kernel), List.mem_of_getElem? (i := 1271) (by decide +kernel)⟩
theorem lw_p49 : lw_okq (⟨"LockMasterModel", "next", "(I)I"⟩, 19) := ⟨⟨by decide +kernel, by decide +kernel⟩, List.mem_of_getElem? (i := 1024) (by decide +kernel), List.mem_of_getElem? (i := 1274) (by decide +kernel), List.mem_of_getElem? (i := 1275) (by decide +kernel)⟩
theorem lw_p50 : lw_okq (⟨"LockMasterModel", "lacks", "(II)I"⟩, 19) := ⟨⟨by decide +kernel, by decide +kernel⟩, List.mem_of_getElem? (i := 1024) (by decide +kernel), List.mem_of_getElem? (i := 1279) (by decide +kernel), List.mem_of_getElem? (i := 1280) (by decide +kernel)⟩
theorem lw_p51 : lw_okq (⟨"LockMasterModel", "ticks", "()V"⟩, 19) := ⟨⟨by decide +kernel, by decide +kernel⟩, List.mem_of_getElem? (i := 1024) (by decide +kernel), List.mem_of_getElem? (i := 1287) (by decide +kernel), List.mem_of_getElem? (i := 1288) (by decide +kernel)⟩
theorem lw_p52 : lw_okq (⟨"LockMasterModel", "works", "(I)V"⟩, 19) := ⟨⟨by decide +kernel, by decide +kernel⟩, List.mem_of_getElem? (i := 1024) (by decide +kernel), List.mem_of_getElem? (i := 1291) (by decide +kernel), List.mem_of_getElem? (i := 1292) (by decide +kernel)⟩
theorem lw_p53 : lw_okq (⟨"LockMasterModel", "wasLocked", "(I)Z"⟩, 19) := ⟨⟨by decide +kernel, by decide +kernel⟩, List.mem_of_getElem? (i := 1024) (by decide +kernel), List.mem_of_getElem? (i := 1295) (by decide +kernel), List.mem_of_getElem? (i := 1296) (by decide +kernel)⟩
theorem lw_p54 : lw_okq (⟨"LockMasterModel", "fills", "(I)Z"⟩, 19) := ⟨⟨by decide +kernel, by decide +kernel⟩, List.mem_of_getElem? (i := 1024) (by decide +kernel), List.mem_of_getElem? (i := 1299) (by decide +kernel), List.mem_of_getElem? (i := 1300) (by decide +kernel)⟩
theorem lw_p55 : lw_okq (⟨"LockMasterModel", "empties", "(I)V"⟩, 19) := ⟨⟨by decide +kernel, by decide +kernel⟩, List.mem_of_getElem? (i := 1024) (by decide +kernel), List.mem_of_getElem? (i := 1303) (by decide +kernel), List.mem_of_getElem? (i := 1304) (by decide +kernel)⟩
theorem lw_p56 : lw_okq (⟨"LockMasterModel", "locks", "(I)V"⟩, 19) := ⟨⟨by decide +kernel, by decide +kernel⟩, List.mem_of_getElem? (i := 1024) (by decide +kernel), List.mem_of_getElem? (i := 1307) (by decide +kernel), List.mem_of_getElem? (i := 1308) (by decide +kernel)⟩
theorem lw_p57 : lw_okq (⟨"LockMasterModel", "splits", "(II)V"⟩, 19) := ⟨⟨by decide +kernel, by decide +kernel⟩, List.mem_of_getElem? (i := 1024) (by decide +kernel), List.mem_of_getElem? (i := 1311) (by decide +kernel), List.mem_of_getElem? (i := 1312) (by decide +kernel)⟩
def lw_privs_4 : List (MethodName × Nat) := [(⟨"LockMasterModel", "rows", "(I)V"⟩, 19), (⟨"LockMasterModel", "next", "(I)I"⟩, 19), (⟨"LockMasterModel", "lacks", "(II)I"⟩, 19), (⟨"LockMasterModel", "ticks", "()V"⟩, 19), (⟨"LockMasterModel", "works", "(I)V"⟩, 19), (⟨"LockMasterModel", "wasLocked", "(I)Z"⟩, 19), (⟨"LockMasterModel", "fills", "(I)Z"⟩, 19), (⟨"LockMasterModel", "empties", "(I)V"⟩, 19), (⟨"LockMasterModel", "locks", "(I)V"⟩, 19), (⟨"LockMasterModel", "splits", "(II)V"⟩, 19)]
theorem lw_r4 : ∀ q ∈ lw_privs_4, lw_okq q := List.forall_mem_cons.mpr ⟨lw_p48, List.forall_mem_cons.mpr ⟨lw_p49, List.forall_mem_cons.mpr ⟨lw_p50, List.forall_mem_cons.mpr ⟨lw_p51, List.forall_mem_cons.mpr ⟨lw_p52, List.forall_mem_cons.mpr ⟨lw_p53, List.forall_mem_cons.mpr ⟨lw_p54, List.forall_mem_cons.mpr ⟨lw_p55, List.forall_mem_cons.mpr ⟨lw_p56, List.forall_mem_cons.mpr ⟨lw_p57, fun _ h => absurd h List.not_mem_nil⟩⟩⟩⟩⟩⟩⟩⟩⟩⟩
def lw_privs : List (MethodName × Nat) := lw_privs_1 ++ (lw_privs_2 ++ (lw_privs_3 ++ (lw_privs_4)))
def lw_tbl : List Cond := k2_sels lw_privs ++ tables_1
theorem lw_privs_ok : ∀ q ∈ lw_privs, lw_okq q := by
  show ∀ q ∈ lw_privs_1 ++ (lw_privs_2 ++ (lw_privs_3 ++ (lw_privs_4))), lw_okq q
  exact List.forall_mem_append.mpr ⟨lw_r1, List.forall_mem_append.mpr ⟨lw_r2, List.forall_mem_append.mpr ⟨lw_r3, lw_r4⟩⟩⟩
/-- the streams that the claim lets the run draw from -/
abbrev lw_cs : List Choice := [Jvm.Choice.named "NaN.bits"]
theorem lw_bits : nanBits ∈ lw_cs := by first | decide | exact List.mem_cons_self | simp [lw_cs, nanBits]
-- ===== end of PART A; then your names; then what follows =====
end
section
/-! ===== BEGIN words of one list among another's, by their places ===== -/
theorem goodIn_r {big : List Cond} (ws : List Cond) (ps : List Nat) (hp : ws = ps.filterMap (fun i => big[i]?)) (h : ws.all goodWord = true) : GoodIn big ws := by
  intro w hw
  have h1 := List.all_eq_true.mp h w hw
  rw [hp] at hw
  obtain ⟨i, -, hi⟩ := List.mem_filterMap.mp hw
  have hm : w ∈ big := by first | exact List.mem_of_getElem? hi | exact List.getElem?_mem hi
  exact ⟨hm, good_of_word h1⟩
theorem goodIn_app {big a b : List Cond} (ha : GoodIn big a) (hb : GoodIn big b) : GoodIn big (a ++ b) := fun w h => (List.mem_append.mp h).elim (ha w) (hb w)
theorem goodIn_ca {big a b : List Cond} {c : Cond} (ha : GoodIn big (c :: a)) (hb : GoodIn big b) : GoodIn big (c :: (a ++ b)) := fun w h => (List.mem_cons.mp h).elim (fun e => ha w (List.mem_cons.mpr (Or.inl e))) (fun h => (List.mem_append.mp h).elim (fun h => ha w (List.mem_cons.mpr (Or.inr h))) (hb w))
theorem goodIn_sub {big ws : List Cond} (hm : ∀ w ∈ ws, w ∈ big) (h : ws.all goodWord = true) : GoodIn big ws := fun w hw => ⟨hm w hw, good_of_word (List.all_eq_true.mp h w hw)⟩
/-! ===== END ===== -/

/-! ===== BEGIN exceptions that leave a method, and their catching by the caller (launches without stack traces) ===== -/
section VXA
/-! The laws vx_back, vx_callV, vx_callS, vx_callSW, vx_throw0, vx_throwS follow proofs of the library, with one case more: JvmDerived/Free/Laws.lean (Back.of_free), Shelf42/LK1.lean (callV, callS), Shelf/KitTraced.lean (throwNew0V, throwNewS). -/
/-- where a method has thrown q: the class by its name, the cell, what was written, the world -/
def vx_T (XC : String → State → State → Prop) (st : State) (q : Addr) (t : State) (mc ms : Nat) (free : Addr → Prop) : Prop :=
  ∃ (E : String) (ce : Cell) (L : List Loc), XC E st t ∧ t.heap[q]? = some ce ∧ ce.vm = .none ∧ st.vm.findClass E = some ce.cls ∧ st.WarmedH t.vm ∧ st.sameButNew ({ t with vm := st.vm } : State) L mc ms ∧ ∀ z ∈ L, free z.base
def vx_Q (Qc : Array Value → State → Outcome → State → Prop) (XC : String → State → State → Prop) (mc ms : Nat) (free : Addr → Prop) : Array Value → State → Outcome → State → Prop := fun a st o t =>
  (Qc a st o t ∧ ∃ L, FrameEnd st o t L mc ms ∧ ∀ q ∈ L, free q.base) ∨ ∃ q, o = .threw q ∧ vx_T XC st q t mc ms free
/-- a callee that returns or throws -/
def vx_Met (l : Launch) (y : MethodName) (ws : List Cond) (rm : Room) (Pc : Array Value → State → Prop) (Qc : Array Value → State → Outcome → State → Prop) (XC : String → State → State → Prop) (mc ms : Nat) (free : Addr → Prop) : Prop :=
  MetFree l y (headSpec ws rm) Pc (fun _ _ _ _ _ => True) (vx_Q Qc XC mc ms free)
def vx_Post (XC : String → State → State → Prop) (mc ms : Nat) (free : Addr → Prop) : Pt → Array Value → Addr → Pt → Prop := fun A a q B =>
  ∃ (g : JFrame) (mk : MethodId) (t : State) (L : List Loc) (E : String) (ce : Cell), B.U.heap = t.heap ∧ B.U.vm = t.vm ∧ XC E (A.U.calling g mk a) t ∧ t.heap[q]? = some ce ∧ ce.vm = .none ∧ A.U.vm.findClass E = some ce.cls ∧ B.locs = A.locs ++ L ∧ (∀ z ∈ L, free z.base) ∧ B.cells = A.cells + mc ∧ B.slots = A.slots + ms
def vx_Back (l : Launch) (R : Room) (p : Program) (e : Env) (below : List Frame) (s : State) (sargs : Array Value) (y : MethodName) (len W9 : Nat)
    (Pre : Pt → Array Value → Prop) (Post : Pt → Array Value → Option Value → Pt → Prop) (PostX : Pt → Array Value → Addr → Pt → Prop) : Prop :=
  ∀ (m : MethodId) (meth : Method) (c : Code) (A : Pt) (g : JFrame) (ig : Instr) (mk : MethodId) (a : Array Value),
    Stand p l e R s m sargs below meth c A.U A.locs A.cells A.slots → g.method = m → g.locals.size = c.maxLocals → decode c.code g.pc = .ok (ig, len) →
    2 * g.monitorRoom + (g.stack.map fun v => v.category).sum ≤ W9 → A.U.methodNamed? y = some mk → Pre A a →
    (∃ (v : Option Value) (B : Pt), Stand p l e R s m sargs below meth c B.U B.locs B.cells B.slots ∧ Post A a v B ∧
      Steps p.tables e below (doInvoke e (A.U.setTop g) [] mk a).1 (B.U.setTop { g with pc := g.pc + len, stack := v.toList ++ g.stack })) ∨
    (∃ (q : Addr) (B : Pt), Stand p l e R s m sargs below meth c B.U B.locs B.cells B.slots ∧ PostX A a q B ∧
      Steps p.tables e below (doInvoke e (A.U.setTop g) [] mk a).1 ((B.U.setTop g).pushFrame (.throwing q)))
section Payer
variable {l : Launch} {R : Room} {p : Program} {e : Env} {below : List Frame} {s : State} {sargs : Array Value} {y : MethodName} {len W9 : Nat}
theorem vx_back {ws : List Cond} {rm : Room} {Pc : Array Value → State → Prop} {Qc : Array Value → State → Outcome → State → Prop} {XC : String → State → State → Prop} {mc ms : Nat} {free : Addr → Prop} {bytes : ByteArray} {maxL : Nat} {ret : Option FieldType}
    (hM : vx_Met l y ws rm Pc Qc XC mc ms free) (hblind : FrameBlind Pc) (hrc : rm.cells = mc) (hrs : rm.slots = ms)
    (hframes : rm.frames + 1 ≤ R.frames) (hlocals : W9 + (maxL + 11) + rm.locals ≤ R.locals)
    (hws : ∀ w ∈ ws, ∀ a' U, s.WarmedH U.vm → w.before a' U = true) (hcode : Cond.code y bytes maxL ret ∈ ws) (hinit : ∀ a' U, s.WarmedH U.vm → (Cond.initialized y.cls).before a' U = true) :
    vx_Back l R p e below s sargs y len W9 (PreOf R mc ms Pc) (PostOf Qc mc ms free) (vx_Post XC mc ms free) := by
  intro m meth c A g ig mk a X hg hsize hdg hW hn hp
  have h1 : (headSpec ws rm).pre.before a A.U = true := atoms_intro fun w hw => hws w hw _ _ X.warmed
  have h2 : (Cond.code y bytes maxL ret).before a A.U = true := hws _ hcode _ _ X.warmed
  have h3 : (Cond.initialized y.cls).before a A.U = true := hinit _ _ X.warmed
  have h4 : A.cells + (headSpec ws rm).room.cells ≤ R.cells := by rw [show (headSpec ws rm).room.cells = mc from hrc]; exact hp.1
  have h5 : A.slots + (headSpec ws rm).room.slots ≤ R.slots := by rw [show (headSpec ws rm).room.slots = ms from hrs]; exact hp.2.1
  have hPc : Pc a (A.U.calling g mk a) := hblind _ _ _ _ hp.2.2
  obtain ⟨U, Ls, c0, s0⟩ := A
  dsimp only [Pt.U, Pt.locs, Pt.cells, Pt.slots] at h1 h2 h3 h4 h5 X hn hPc ⊢
  obtain ⟨methY, cY, hmY, hcY, -, hlY, -, -, -, -⟩ := Cond.code_spec hn h2
  obtain ⟨kY, hkY, -⟩ := className_of_methodNamed hn
  have hinitY : kY.init = .initialized := Cond.initialized_spec (findClass_of_methodNamed hn) hkY h3
  have h : At U g.method c below := by rw [hg]; exact X.here
  have hlocals9 : W9 + (maxL + 11) + (headSpec ws rm).room.locals ≤ R.locals := hlocals
  have happ : (headSpec ws rm).appliesLoose y e.platform (U.calling g mk a) = true :=
    Spec.appliesLoose_calling (g := g) h hdg hn hkY hinitY
      (X.room_calling (g := g) (R' := (headSpec ws rm).room) hsize hmY hcY hframes (by rw [hlY]; omega) h4 h5) h1
  obtain ⟨mid, hmid⟩ := h.above
  have hfr : (U.setTop g).frames = (.java g :: mid) ++ below := by rw [State.frames_setTop' g h.top, hmid]; rfl
  obtain ⟨o, s₂, hsteps, -, hend, hq⟩ := Steps.callFree hM p X.admits X.cas X.clock (acts := []) hfr happ hPc trivial
  have hq' : vx_Q Qc XC mc ms free a (U.calling g mk a) o s₂ := hq
  rw [State.frames_setTop' g h.top] at hend
  obtain ⟨g₀, hg0⟩ := Option.isSome_iff_exists.mp h.top
  obtain ⟨r, hr⟩ := State.topJava?_eq_some.mp hg0
  have hr' : (({ U with heap := s₂.heap, slotsUsed := s₂.slotsUsed } : State).setVm s₂.vm).frames = .java g₀ :: r := hr
  rcases hq' with ⟨hqc, L, hfe, hL⟩ | ⟨q, rfl, E, ce, L, hx, hce, hcv, hcl, hW₂, hsm, hL⟩
  · obtain ⟨⟨v, rfl⟩, hW₂, e2, q2, q3, q4, q5, q6⟩ := id hfe
    have e3 : s₂ = ({ (U.calling g mk a).setFrames s₂.frames with heap := s₂.heap, slotsUsed := s₂.slotsUsed } : State).setVm s₂.vm := by
      have : s₂ = ({ s₂ with vm := (U.calling g mk a).vm } : State).setVm s₂.vm := rfl
      rw [e2] at this
      exact this
    obtain ⟨c₂, i₂, len₂, hc₂, hd₂, hf₂⟩ := hend
    have hW' : U.WarmedH s₂.vm := hW₂
    have hcc : c₂ = c := by
      have h1 : s₂.code? g.method = U.code? g.method := by
        rw [State.code?_eq, State.code?_eq, hW'.alike.method?]
      exact Option.some.inj (hc₂.symm.trans (h1.trans h.code))
    subst hcc
    have hlen : len₂ = len := by rw [hdg] at hd₂; cases hd₂; rfl
    subst hlen
    have hs₂ : s₂ = (({ U with heap := s₂.heap, slotsUsed := s₂.slotsUsed } : State).setVm s₂.vm).setTop { g with pc := g.pc + len₂, stack := v.toList ++ g.stack } := by
      refine e3.trans ?_
      rw [hf₂, State.calling_eq h.top, State.setFrames_setFrames, State.setTop_of_frames _ hr', hr]
      rfl
    have hsame : U.sameButNew ({ U with heap := s₂.heap, slotsUsed := s₂.slotsUsed } : State) L mc ms := by
      refine ⟨?_, q2, q3, q4, q5, q6⟩
      obtain ⟨t, ht, -⟩ := State.frames_cons hr
      show ({ U with heap := s₂.heap, slotsUsed := s₂.slotsUsed } : State) = { U.setFrames U.frames with heap := s₂.heap, slotsUsed := s₂.slotsUsed }
      rw [State.setFrames_self ht]
    subst hg
    refine Or.inl ⟨v, ⟨(({ U with heap := s₂.heap, slotsUsed := s₂.slotsUsed } : State).setVm s₂.vm), Ls ++ L, c0 + mc, s0 + ms⟩,
      ⟨X.admits, X.cas, X.clock, X.frames, X.room, X.hears, X.method, X.code, (X.here.setHeapUsed s₂.heap s₂.slotsUsed).setVm hW'.alike, X.tail, State.WarmedH.trans X.warmed hW', X.limits, X.bytes, X.same.trans (hsame.setVm s.vm)⟩,
      ⟨g, mk, s₂, L, rfl, rfl, hqc, rfl, hL, rfl, rfl⟩, ?_⟩
    show Steps p.tables e below _ ((({ U with heap := s₂.heap, slotsUsed := s₂.slotsUsed } : State).setVm s₂.vm).setTop { g with pc := g.pc + len₂, stack := v.toList ++ g.stack })
    rw [← hs₂]
    exact hsteps
  · obtain ⟨e2, q2, q3, q4, q5, q6⟩ := id hsm
    have e3 : s₂ = ({ (U.calling g mk a).setFrames s₂.frames with heap := s₂.heap, slotsUsed := s₂.slotsUsed } : State).setVm s₂.vm := by
      have : s₂ = ({ s₂ with vm := (U.calling g mk a).vm } : State).setVm s₂.vm := rfl
      rw [e2] at this
      exact this
    have hf₂ : s₂.frames = .throwing q :: .java g :: U.frames.tail := hend
    have hW' : U.WarmedH s₂.vm := hW₂
    have hs₂ : s₂ = ((({ U with heap := s₂.heap, slotsUsed := s₂.slotsUsed } : State).setVm s₂.vm).setTop g).pushFrame (.throwing q) := by
      refine e3.trans ?_
      rw [hf₂, State.calling_eq h.top, State.setFrames_setFrames, State.pushFrame, State.frames_setTop _ hr', State.setTop_of_frames _ hr', State.setFrames_setFrames, hr]
      rfl
    have hsame : U.sameButNew ({ U with heap := s₂.heap, slotsUsed := s₂.slotsUsed } : State) L mc ms := by
      refine ⟨?_, q2, q3, q4, q5, q6⟩
      obtain ⟨t, ht, -⟩ := State.frames_cons hr
      show ({ U with heap := s₂.heap, slotsUsed := s₂.slotsUsed } : State) = { U.setFrames U.frames with heap := s₂.heap, slotsUsed := s₂.slotsUsed }
      rw [State.setFrames_self ht]
    subst hg
    refine Or.inr ⟨q, ⟨(({ U with heap := s₂.heap, slotsUsed := s₂.slotsUsed } : State).setVm s₂.vm), Ls ++ L, c0 + mc, s0 + ms⟩,
      ⟨X.admits, X.cas, X.clock, X.frames, X.room, X.hears, X.method, X.code, (X.here.setHeapUsed s₂.heap s₂.slotsUsed).setVm hW'.alike, X.tail, State.WarmedH.trans X.warmed hW', X.limits, X.bytes, X.same.trans (hsame.setVm s.vm)⟩,
      ⟨g, mk, s₂, L, E, ce, rfl, rfl, hx, hce, hcv, hcl, rfl, hL, rfl, rfl⟩, ?_⟩
    show Steps p.tables e below _ (((({ U with heap := s₂.heap, slotsUsed := s₂.slotsUsed } : State).setVm s₂.vm).setTop g).pushFrame (.throwing q))
    rw [← hs₂]
    exact hsteps
end Payer
section Calls
variable {p : Program} {l : Launch} {e : Env} {R : Room} {s : State} {m : MethodId} {args : Array Value} {below : List Frame} {meth : Method} {c : Code} {T : State} {locs : List Loc} {cells slots : Nat}
theorem vx_callV (X : Stand p l e R s m args below meth c T locs cells slots) (hexec : p.tables.exec = Jvm.exec) {own C : String} {index : Nat} {y : MethodName} {bytes : ByteArray} {maxL : Nat} {ret : Option FieldType}
    (hown : s.vm.findClass own = some m.cls) (hlink : (Cond.methodLink own index y).before args s = true) (hinst : (Cond.instanceMethod y).before args s = true) (hsel : (Cond.selects C y y).before args s = true)
    (hcode : (Cond.code y bytes maxL ret).before args s = true) (hy : y.cls ≠ "java/lang/invoke/MethodHandle" ∧ y.cls ≠ "java/lang/invoke/VarHandle")
    {W9 : Nat} {Pre : Pt → Array Value → Prop} {Post : Pt → Array Value → Option Value → Pt → Prop} {PostX : Pt → Array Value → Addr → Pt → Prop} (hK : vx_Back l R p e below s args y 3 W9 Pre Post PostX)
    {b : Addr} {cellB : Cell} (hcell : T.heap[b]? = some cellB) (hobj : cellB.vm.isStatics = false) (hcls : s.vm.findClass C = some cellB.cls)
    {g : JFrame} (hg : g.method = m) (hsize : g.locals.size = c.maxLocals) {argsL rest : List Value} (hlen : ∀ sig, parseMethodDescriptor y.desc = some sig → argsL.length = sig.parameters.length)
    (hstack : g.stack = argsL.reverse ++ .ref b :: rest) (hW : 2 * g.monitorRoom + (rest.map fun v => v.category).sum ≤ W9) (hdg : decode c.code g.pc = .ok (.invokevirtual index, 3))
    (hpre : ∀ vm₁, s.WarmedH vm₁ → Pre ⟨T.setVm vm₁, locs, cells, slots⟩ (Value.ref b :: argsL).toArray) :
    (∃ (v : Option Value) (vm₁ : Vm) (B : Pt), s.WarmedH vm₁ ∧ Stand p l e R s m args below meth c B.U B.locs B.cells B.slots ∧ Post ⟨T.setVm vm₁, locs, cells, slots⟩ (Value.ref b :: argsL).toArray v B ∧
      ∀ target, Steps p.tables e below (B.U.setTop { g with pc := g.pc + 3, stack := v.toList ++ rest }) target → Steps p.tables e below (T.setTop g) target) ∨
    (∃ (q : Addr) (vm₁ : Vm) (B : Pt), s.WarmedH vm₁ ∧ Stand p l e R s m args below meth c B.U B.locs B.cells B.slots ∧ PostX ⟨T.setVm vm₁, locs, cells, slots⟩ (Value.ref b :: argsL).toArray q B ∧
      Steps p.tables e below (T.setTop g) ((B.U.setTop { g with stack := rest }).pushFrame (.throwing q))) := by
  obtain ⟨mk, methM, hnamed, hmethM, hstM, habM⟩ := Cond.instanceMethod_spec hinst
  obtain ⟨methM', cM, hmethM', -, -, -, -, -, -, hsigM⟩ := Cond.code_spec hnamed hcode
  cases hmethM.symm.trans hmethM'
  obtain ⟨c2, r2, m2, q1, q2, q3, q4, kP, hkP, hkPi⟩ := Cond.selects_spec hsel
  cases hcls.symm.trans q1
  cases (State.methodFound?_of_named hnamed hy).symm.trans q2
  cases hnamed.symm.trans q3
  have hselP : selectMethod e.platform s.vm cellB.cls mk = .method mk := by rw [Launch.admits_selectMethod X.admits]; exact q4
  obtain ⟨vm₁, X₁, hstep₁⟩ := X.invokevirtual hexec hown hlink hnamed hmethM hstM hkP hkPi hy (a := b) (cell := cellB) hcell
    (fun z h => by rw [h] at hobj; cases hobj) hselP hmethM habM hkP hkPi (g := g) hg (argsL := argsL) (rest := rest) (hlen _ hsigM) hstack hdg
  rcases hK m meth c ⟨T.setVm vm₁, locs, cells, slots⟩ { g with stack := rest } (.invokevirtual index) mk (Value.ref b :: argsL).toArray X₁ hg hsize hdg hW (X₁.named hnamed) (hpre vm₁ X₁.warmed) with ⟨v, B, X', hpost, hsteps⟩ | ⟨q, B, X', hpost, hsteps⟩
  · exact Or.inl ⟨v, vm₁, B, X₁.warmed, X', hpost, fun target h => hstep₁ _ fun acts => by rw [doInvoke_state]; exact hsteps.trans h⟩
  · exact Or.inr ⟨q, vm₁, B, X₁.warmed, X', hpost, hstep₁ _ fun acts => by rw [doInvoke_state]; exact hsteps⟩
theorem vx_callS (X : Stand p l e R s m args below meth c T locs cells slots) (hexec : p.tables.exec = Jvm.exec) {own : String} {index : Nat} {y : MethodName} {bytes : ByteArray} {maxL : Nat} {ret : Option FieldType}
    (hown : s.vm.findClass own = some m.cls) (hlink : (Cond.methodLink own index y).before args s = true) (hstat : (Cond.static y).before args s = true) (hinit : (Cond.initialized y.cls).before args s = true)
    (hcode : (Cond.code y bytes maxL ret).before args s = true) (hy : y.cls ≠ "java/lang/invoke/MethodHandle" ∧ y.cls ≠ "java/lang/invoke/VarHandle")
    {W9 : Nat} {Pre : Pt → Array Value → Prop} {Post : Pt → Array Value → Option Value → Pt → Prop} {PostX : Pt → Array Value → Addr → Pt → Prop} (hK : vx_Back l R p e below s args y 3 W9 Pre Post PostX)
    {g : JFrame} (hg : g.method = m) (hsize : g.locals.size = c.maxLocals) {argsL rest : List Value} (hlen : ∀ sig, parseMethodDescriptor y.desc = some sig → argsL.length = sig.parameters.length)
    (hstack : g.stack = argsL.reverse ++ rest) (hW : 2 * g.monitorRoom + (rest.map fun v => v.category).sum ≤ W9) (hdg : decode c.code g.pc = .ok (.invokestatic index, 3))
    (hpre : ∀ vm₁, s.WarmedH vm₁ → Pre ⟨T.setVm vm₁, locs, cells, slots⟩ argsL.toArray) :
    (∃ (v : Option Value) (vm₁ : Vm) (B : Pt), s.WarmedH vm₁ ∧ Stand p l e R s m args below meth c B.U B.locs B.cells B.slots ∧ Post ⟨T.setVm vm₁, locs, cells, slots⟩ argsL.toArray v B ∧
      ∀ target, Steps p.tables e below (B.U.setTop { g with pc := g.pc + 3, stack := v.toList ++ rest }) target → Steps p.tables e below (T.setTop g) target) ∨
    (∃ (q : Addr) (vm₁ : Vm) (B : Pt), s.WarmedH vm₁ ∧ Stand p l e R s m args below meth c B.U B.locs B.cells B.slots ∧ PostX ⟨T.setVm vm₁, locs, cells, slots⟩ argsL.toArray q B ∧
      Steps p.tables e below (T.setTop g) ((B.U.setTop { g with stack := rest }).pushFrame (.throwing q))) := by
  obtain ⟨mk, hnamed⟩ := Cond.code_named hcode
  obtain ⟨methM, cM, hmethM, -, -, -, -, -, -, hsigM⟩ := Cond.code_spec hnamed hcode
  have hstatic : methM.isStatic = true := Cond.static_spec hnamed hmethM hstat
  obtain ⟨kP, hkP, -⟩ := className_of_methodNamed hnamed
  have hinitP : kP.init = .initialized := Cond.initialized_spec (findClass_of_methodNamed hnamed) hkP hinit
  obtain ⟨vm₁, X₁, hstep₁⟩ := X.invokestatic hexec hown hlink hnamed hmethM hstatic hkP hinitP hy (g := g) hg (argsL := argsL) (rest := rest) (hlen _ hsigM) hstack hdg
  rcases hK m meth c ⟨T.setVm vm₁, locs, cells, slots⟩ { g with stack := rest } (.invokestatic index) mk argsL.toArray X₁ hg hsize hdg hW (X₁.named hnamed) (hpre vm₁ X₁.warmed) with ⟨v, B, X', hpost, hsteps⟩ | ⟨q, B, X', hpost, hsteps⟩
  · exact Or.inl ⟨v, vm₁, B, X₁.warmed, X', hpost, fun target h => hstep₁ _ fun acts => by rw [doInvoke_state]; exact hsteps.trans h⟩
  · exact Or.inr ⟨q, vm₁, B, X₁.warmed, X', hpost, hstep₁ _ fun acts => by rw [doInvoke_state]; exact hsteps⟩
end Calls
theorem vx_cls {s : State} {T : State} {vm₁ : Vm} {E : String} {k : ClassId} (hW : s.WarmedH vm₁) (h : (T.setVm vm₁).vm.findClass E = some k) : s.vm.findClass E = some k := by
  have h1 : vm₁.findClass E = some k := h
  rw [hW.alike.findClass] at h1
  exact h1
/-- the method's frame g, with q thrown over it -/
def vx_W (p : Program) (l : Launch) (e : Env) (R : Room) (s : State) (m : MethodId) (args : Array Value) (below : List Frame) (meth : Method) (c : Code) (H : Heap) (locs : List Loc) (cells slots : Nat) (Q : State → Prop) (g : JFrame) (q : Addr) : Prop :=
  ∀ T : State, T.heap = H → Stand p l e R s m args below meth c T locs cells slots → ∃ t, Steps p.tables e below ((T.setTop g).pushFrame (.throwing q)) t ∧ Q t
def vx_Run (p : Program) (l : Launch) (e : Env) (R : Room) (s : State) (m : MethodId) (args : Array Value) (below : List Frame) (meth : Method) (c : Code) (H : Heap) (locs : List Loc) (cells slots mc ms : Nat) (g : JFrame) (rest : List Value) (Qa : State → Outcome → State → Prop) (XC : String → State → State → Prop) (free : Addr → Prop) : Prop :=
  ∀ T : State, T.heap = H → Stand p l e R s m args below meth c T locs cells slots →
    (∃ (v : Option Value) (st₀ t T' : State) (L : List Loc), st₀.heap = H ∧ Stand p l e R s m args below meth c T' (locs ++ L) (cells + mc) (slots + ms) ∧ (∀ q ∈ L, free q.base) ∧ T'.heap = t.heap ∧ T'.vm = t.vm ∧ Qa st₀ (.returned v) t ∧
      Goes p e below T g T' { g with pc := g.pc + 3, stack := v.toList ++ rest }) ∨
    (∃ (q : Addr) (st₀ t T' : State) (L : List Loc) (E : String) (ce : Cell), st₀.heap = H ∧ Stand p l e R s m args below meth c T' (locs ++ L) (cells + mc) (slots + ms) ∧ (∀ z ∈ L, free z.base) ∧ T'.heap = t.heap ∧ T'.vm = t.vm ∧ XC E st₀ t ∧ t.heap[q]? = some ce ∧ ce.vm = .none ∧ s.vm.findClass E = some ce.cls ∧
      Steps p.tables e below (T.setTop g) ((T'.setTop { g with stack := rest }).pushFrame (.throwing q)))
def vx_X {S : Type} (px : S → Prop) (B : String → S → State → Prop) (A : Nat → Prop) : String → State → State → Prop := fun E st t => ∃ u : S, px u ∧ B E u t ∧ va_F A st t
section Runs
variable {p : Program} {l : Launch} {e : Env} {R : Room} {s : State} {m : MethodId} {args : Array Value} {below : List Frame} {meth : Method} {c : Code} {H : Heap} {locs : List Loc} {cells slots : Nat}
variable {y : MethodName} {bytes cc : ByteArray} {maxL nL mc ms n index : Nat} {ret : Option FieldType} {ws : List Cond} {rm : Room} {Pc : Array Value → State → Prop} {Qc : Array Value → State → Outcome → State → Prop} {XC : String → State → State → Prop} {free : Addr → Prop} {Ts : List Cond} {own C : String} {b : Addr} {As rest : List Value} {g : JFrame}
theorem vx_callBack (cb : CallB R s args own index y bytes maxL ret ws rm mc ms n) (hM : vx_Met l y ws rm Pc Qc XC mc ms free) (hbl : FrameBlind Pc) : vx_Back l R p e below s args y 3 8 (PreOf R mc ms Pc) (PostOf Qc mc ms free) (vx_Post XC mc ms free) := by
  obtain ⟨hrc, hrs, hfr, hlo, hws, hcw, -, hini, -⟩ := cb
  exact vx_back (bytes := bytes) (maxL := maxL) (ret := ret) hM hbl hrc hrs hfr hlo hws hcw (fun a' U hW => word_at hW (Or.inl (by first | rfl | simp [Cond.onTables, Cond.keeps, Cond.steady])) hini)
theorem vx_runV (S : CallFix p m c cc nL s args Ts own) (hM : vx_Met l y ws rm Pc Qc XC mc ms free) (cw : CallW R s args own C index y bytes maxL ret ws rm mc ms n) (hp : PreV s H C b Pc As)
    (hg : g.method = m) (hn : As.length = n) (hsize : g.locals.size = nL) (hstack : g.stack = As.reverse ++ .ref b :: rest) (hW : 2 * g.monitorRoom + (rest.map fun v => v.category).sum ≤ 8) (hdg : decode cc g.pc = .ok (.invokevirtual index, 3)) (hf : cells + mc ≤ R.cells ∧ slots + ms ≤ R.slots) :
    vx_Run p l e R s m args below meth c H locs cells slots mc ms g rest (Qc (Value.ref b :: As).toArray) XC free := by
  have hK : vx_Back l R p e below s args y 3 8 (PreOf R mc ms Pc) (PostOf Qc mc ms free) (vx_Post XC mc ms free) := vx_callBack cw.1 hM hp.1
  obtain ⟨⟨-, -, -, -, -, -, hcode, -, hy, hlen, hl⟩, hin, hse⟩ := cw
  obtain ⟨hx, hb, hml, ho, -⟩ := S
  obtain ⟨-, ⟨cellB, hcB, hoB, hclB⟩, hPc⟩ := hp
  intro T hT X
  rcases vx_callV X hx (C := C) (bytes := bytes) (maxL := maxL) (ret := ret) ho hl hin hse hcode hy hK (by rw [hT]; exact hcB) hoB hclB hg (hsize.trans hml.symm) (argsL := As) (rest := rest) (fun sig h => hn.trans (hlen sig h)) hstack hW (by rw [hb]; exact hdg)
    (fun vm₁ hW₁ => ⟨hf.1, hf.2, hPc (T.setVm vm₁) hT hW₁⟩) with ⟨v, vm₁, ⟨U', l2, c2, s2⟩, hW₁, X', ⟨g', mk, t, L, e1, e2, hq, h1, hL, h2, h3⟩, st⟩ | ⟨q, vm₁, ⟨U', l2, c2, s2⟩, hW₁, X', ⟨g', mk, t, L, E, ce, e1, e2, hq, hce, hcv, hcl, h1, hL, h2, h3⟩, st⟩
  · dsimp only [Pt.U, Pt.locs, Pt.cells, Pt.slots] at X' e1 e2 h1 h2 h3 st
    subst h1; subst h2; subst h3
    exact Or.inl ⟨v, (T.setVm vm₁).calling g' mk (Value.ref b :: As).toArray, t, U', L, hT, X', hL, e1, e2, hq, st⟩
  · dsimp only [Pt.U, Pt.locs, Pt.cells, Pt.slots] at X' e1 e2 h1 h2 h3 st hcl
    subst h1; subst h2; subst h3
    exact Or.inr ⟨q, (T.setVm vm₁).calling g' mk (Value.ref b :: As).toArray, t, U', L, E, ce, hT, X', hL, e1, e2, hq, hce, hcv, vx_cls hW₁ hcl, st⟩
theorem vx_runS (S : CallFix p m c cc nL s args Ts own) (hM : vx_Met l y ws rm Pc Qc XC mc ms free) (cw : CallB R s args own index y bytes maxL ret ws rm mc ms n ∧ (Cond.static y).before args s = true) (hp : PreS s H Pc As)
    (hg : g.method = m) (hn : As.length = n) (hsize : g.locals.size = nL) (hstack : g.stack = As.reverse ++ rest) (hW : 2 * g.monitorRoom + (rest.map fun v => v.category).sum ≤ 8) (hdg : decode cc g.pc = .ok (.invokestatic index, 3)) (hf : cells + mc ≤ R.cells ∧ slots + ms ≤ R.slots) :
    vx_Run p l e R s m args below meth c H locs cells slots mc ms g rest (Qc As.toArray) XC free := by
  have hK : vx_Back l R p e below s args y 3 8 (PreOf R mc ms Pc) (PostOf Qc mc ms free) (vx_Post XC mc ms free) := vx_callBack cw.1 hM hp.1
  obtain ⟨⟨-, -, -, -, -, -, hcode, hini, hy, hlen, hl⟩, hstt⟩ := cw
  obtain ⟨hx, hb, hml, ho, -⟩ := S
  intro T hT X
  rcases vx_callS X hx (bytes := bytes) (maxL := maxL) (ret := ret) ho hl hstt hini hcode hy hK hg (hsize.trans hml.symm) (argsL := As) (rest := rest) (fun sig h => hn.trans (hlen sig h)) hstack hW (by rw [hb]; exact hdg)
    (fun vm₁ hW₁ => ⟨hf.1, hf.2, hp.2 (T.setVm vm₁) hT hW₁⟩) with ⟨v, vm₁, ⟨U', l2, c2, s2⟩, hW₁, X', ⟨g', mk, t, L, e1, e2, hq, h1, hL, h2, h3⟩, st⟩ | ⟨q, vm₁, ⟨U', l2, c2, s2⟩, hW₁, X', ⟨g', mk, t, L, E, ce, e1, e2, hq, hce, hcv, hcl, h1, hL, h2, h3⟩, st⟩
  · dsimp only [Pt.U, Pt.locs, Pt.cells, Pt.slots] at X' e1 e2 h1 h2 h3 st
    subst h1; subst h2; subst h3
    exact Or.inl ⟨v, (T.setVm vm₁).calling g' mk As.toArray, t, U', L, hT, X', hL, e1, e2, hq, st⟩
  · dsimp only [Pt.U, Pt.locs, Pt.cells, Pt.slots] at X' e1 e2 h1 h2 h3 st hcl
    subst h1; subst h2; subst h3
    exact Or.inr ⟨q, (T.setVm vm₁).calling g' mk As.toArray, t, U', L, E, ce, hT, X', hL, e1, e2, hq, hce, hcv, vx_cls hW₁ hcl, st⟩
end Runs
section Rows
variable {p : Program} {l : Launch} {e : Env} {R : Room} {s : State} {m : MethodId} {args : Array Value} {below : List Frame} {meth : Method} {c : Code} {H : Heap} {locs : List Loc} {cells slots : Nat} {Q : State → Prop}
variable {mc ms : Nat} {free : Addr → Prop} {A0 A1 : Nat → Prop} {H0 : Heap} {a : Array Value} {pc : Nat} {ls : Array Slot} {st0 rest : List Value}
theorem vx_keep {st₀ t T' : State} {L : List Loc} (h0 : st₀.heap = H) (e1 : T'.heap = t.heap) (hS : va_S A0 H0 H locs) (hA : ∀ q, q < H.size → A1 q → A0 q) (hf : ∀ q, free q → A0 q) (hL : ∀ q ∈ L, free q.base) (hF : va_F A1 st₀ t) :
    H.size ≤ T'.heap.size ∧ (∀ q : Nat, q < H.size → ¬ A1 q → T'.heap[q]? = H[q]?) ∧ va_S A0 H0 T'.heap (locs ++ L) := by
  obtain ⟨hz, hk⟩ := hF
  rw [h0] at hz hk
  exact ⟨by rw [e1]; exact hz, fun q h1 h2 => by rw [e1]; exact hk q h1 h2,
    ⟨Nat.le_trans hS.1 (by rw [e1]; exact hz), fun q h1 h2 => by rw [e1, hk q (Nat.lt_of_lt_of_le h1 hS.1) (fun z => h2 (hA q (Nat.lt_of_lt_of_le h1 hS.1) z))]; exact hS.2.1 q h1 h2, fun q hq => by
      rcases List.mem_append.mp hq with h | h
      · exact hS.2.2 q h
      · exact hf _ (hL q h)⟩⟩
theorem vx_calli {S SX : Type} {post : Int32 → S → Prop} {px : SX → Prop} {B : S → State → Prop} {BX : String → SX → State → Prop} {AX : Nat → Prop} (hr : vx_Run p l e R s m args below meth c H locs cells slots mc ms (F0 m pc ls st0) rest (va_Qi post B A1 a) (vx_X px BX AX) free) (hS : va_S A0 H0 H locs) (hA : ∀ q, q < H.size → A1 q → A0 q) (hf : ∀ q, free q → A0 q) (hAX : ∀ q, q < H.size → AX q → A0 q)
    (kx : ∀ (E : String) (ce : Cell) (q9 : Addr) (u : SX) (t : State) (H1 : Heap) (locs1 : List Loc), t.heap = H1 → s.vm.Alike t.vm → px u → BX E u t → H.size ≤ H1.size → (∀ q : Nat, q < H.size → ¬ AX q → H1[q]? = H[q]?) → va_S A0 H0 H1 locs1 → H1[q9]? = some ce → ce.vm = .none → s.vm.findClass E = some ce.cls → vx_W p l e R s m args below meth c H1 locs1 (cells + mc) (slots + ms) Q (F0 m pc ls rest) q9)
    (kk : ∀ (r : Int32) (u : S) (t : State) (H1 : Heap) (locs1 : List Loc), t.heap = H1 → s.vm.Alike t.vm → post r u → B u t → H.size ≤ H1.size → (∀ q : Nat, q < H.size → ¬ A1 q → H1[q]? = H[q]?) → va_S A0 H0 H1 locs1 → W p l e R s m args below meth c H1 locs1 (cells + mc) (slots + ms) Q (F0 m (pc + 3) ls (.int r :: rest))) : W p l e R s m args below meth c H locs cells slots Q (F0 m pc ls st0) := by
  intro T hT X
  rcases hr T hT X with ⟨v, st₀, t, T', L, h0, X', hL, e1, e2, ⟨⟨r, u, hv, hp, hb⟩, hF⟩, st⟩ | ⟨q, st₀, t, T', L, E, ce, h0, X', hL, e1, e2, ⟨u, hp, hb, hF⟩, hce, hcv, hcl, st⟩
  · cases hv
    obtain ⟨k1, k2, k3⟩ := vx_keep h0 e1 hS hA hf hL hF
    obtain ⟨t2, a1, b1⟩ := kk r u t T'.heap (locs ++ L) e1.symm (by rw [← e2]; exact X'.warmed.alike) hp hb k1 k2 k3 T' rfl X'
    exact ⟨t2, st t2 a1, b1⟩
  · obtain ⟨k1, k2, k3⟩ := vx_keep h0 e1 hS hAX hf hL hF
    obtain ⟨t2, a1, b1⟩ := kx E ce q u t T'.heap (locs ++ L) e1.symm (by rw [← e2]; exact X'.warmed.alike) hp hb k1 k2 k3 (by rw [e1]; exact hce) hcv hcl T' rfl X'
    exact ⟨t2, st.trans a1, b1⟩
theorem vx_calll {S SX : Type} {post : Int64 → S → Prop} {px : SX → Prop} {B : S → State → Prop} {BX : String → SX → State → Prop} {AX : Nat → Prop} (hr : vx_Run p l e R s m args below meth c H locs cells slots mc ms (F0 m pc ls st0) rest (va_Ql post B A1 a) (vx_X px BX AX) free) (hS : va_S A0 H0 H locs) (hA : ∀ q, q < H.size → A1 q → A0 q) (hf : ∀ q, free q → A0 q) (hAX : ∀ q, q < H.size → AX q → A0 q)
    (kx : ∀ (E : String) (ce : Cell) (q9 : Addr) (u : SX) (t : State) (H1 : Heap) (locs1 : List Loc), t.heap = H1 → s.vm.Alike t.vm → px u → BX E u t → H.size ≤ H1.size → (∀ q : Nat, q < H.size → ¬ AX q → H1[q]? = H[q]?) → va_S A0 H0 H1 locs1 → H1[q9]? = some ce → ce.vm = .none → s.vm.findClass E = some ce.cls → vx_W p l e R s m args below meth c H1 locs1 (cells + mc) (slots + ms) Q (F0 m pc ls rest) q9)
    (kk : ∀ (r : Int64) (u : S) (t : State) (H1 : Heap) (locs1 : List Loc), t.heap = H1 → s.vm.Alike t.vm → post r u → B u t → H.size ≤ H1.size → (∀ q : Nat, q < H.size → ¬ A1 q → H1[q]? = H[q]?) → va_S A0 H0 H1 locs1 → W p l e R s m args below meth c H1 locs1 (cells + mc) (slots + ms) Q (F0 m (pc + 3) ls (.long r :: rest))) : W p l e R s m args below meth c H locs cells slots Q (F0 m pc ls st0) := by
  intro T hT X
  rcases hr T hT X with ⟨v, st₀, t, T', L, h0, X', hL, e1, e2, ⟨⟨r, u, hv, hp, hb⟩, hF⟩, st⟩ | ⟨q, st₀, t, T', L, E, ce, h0, X', hL, e1, e2, ⟨u, hp, hb, hF⟩, hce, hcv, hcl, st⟩
  · cases hv
    obtain ⟨k1, k2, k3⟩ := vx_keep h0 e1 hS hA hf hL hF
    obtain ⟨t2, a1, b1⟩ := kk r u t T'.heap (locs ++ L) e1.symm (by rw [← e2]; exact X'.warmed.alike) hp hb k1 k2 k3 T' rfl X'
    exact ⟨t2, st t2 a1, b1⟩
  · obtain ⟨k1, k2, k3⟩ := vx_keep h0 e1 hS hAX hf hL hF
    obtain ⟨t2, a1, b1⟩ := kx E ce q u t T'.heap (locs ++ L) e1.symm (by rw [← e2]; exact X'.warmed.alike) hp hb k1 k2 k3 (by rw [e1]; exact hce) hcv hcl T' rfl X'
    exact ⟨t2, st.trans a1, b1⟩
theorem vx_callf {S SX : Type} {post : UInt32 → S → Prop} {px : SX → Prop} {B : S → State → Prop} {BX : String → SX → State → Prop} {AX : Nat → Prop} (hr : vx_Run p l e R s m args below meth c H locs cells slots mc ms (F0 m pc ls st0) rest (va_Qf post B A1 a) (vx_X px BX AX) free) (hS : va_S A0 H0 H locs) (hA : ∀ q, q < H.size → A1 q → A0 q) (hf : ∀ q, free q → A0 q) (hAX : ∀ q, q < H.size → AX q → A0 q)
    (kx : ∀ (E : String) (ce : Cell) (q9 : Addr) (u : SX) (t : State) (H1 : Heap) (locs1 : List Loc), t.heap = H1 → s.vm.Alike t.vm → px u → BX E u t → H.size ≤ H1.size → (∀ q : Nat, q < H.size → ¬ AX q → H1[q]? = H[q]?) → va_S A0 H0 H1 locs1 → H1[q9]? = some ce → ce.vm = .none → s.vm.findClass E = some ce.cls → vx_W p l e R s m args below meth c H1 locs1 (cells + mc) (slots + ms) Q (F0 m pc ls rest) q9)
    (kk : ∀ (r : UInt32) (u : S) (t : State) (H1 : Heap) (locs1 : List Loc), t.heap = H1 → s.vm.Alike t.vm → post r u → B u t → H.size ≤ H1.size → (∀ q : Nat, q < H.size → ¬ A1 q → H1[q]? = H[q]?) → va_S A0 H0 H1 locs1 → W p l e R s m args below meth c H1 locs1 (cells + mc) (slots + ms) Q (F0 m (pc + 3) ls (.float r :: rest))) : W p l e R s m args below meth c H locs cells slots Q (F0 m pc ls st0) := by
  intro T hT X
  rcases hr T hT X with ⟨v, st₀, t, T', L, h0, X', hL, e1, e2, ⟨⟨r, u, hv, hp, hb⟩, hF⟩, st⟩ | ⟨q, st₀, t, T', L, E, ce, h0, X', hL, e1, e2, ⟨u, hp, hb, hF⟩, hce, hcv, hcl, st⟩
  · cases hv
    obtain ⟨k1, k2, k3⟩ := vx_keep h0 e1 hS hA hf hL hF
    obtain ⟨t2, a1, b1⟩ := kk r u t T'.heap (locs ++ L) e1.symm (by rw [← e2]; exact X'.warmed.alike) hp hb k1 k2 k3 T' rfl X'
    exact ⟨t2, st t2 a1, b1⟩
  · obtain ⟨k1, k2, k3⟩ := vx_keep h0 e1 hS hAX hf hL hF
    obtain ⟨t2, a1, b1⟩ := kx E ce q u t T'.heap (locs ++ L) e1.symm (by rw [← e2]; exact X'.warmed.alike) hp hb k1 k2 k3 (by rw [e1]; exact hce) hcv hcl T' rfl X'
    exact ⟨t2, st.trans a1, b1⟩
theorem vx_calld {S SX : Type} {post : UInt64 → S → Prop} {px : SX → Prop} {B : S → State → Prop} {BX : String → SX → State → Prop} {AX : Nat → Prop} (hr : vx_Run p l e R s m args below meth c H locs cells slots mc ms (F0 m pc ls st0) rest (va_Qd post B A1 a) (vx_X px BX AX) free) (hS : va_S A0 H0 H locs) (hA : ∀ q, q < H.size → A1 q → A0 q) (hf : ∀ q, free q → A0 q) (hAX : ∀ q, q < H.size → AX q → A0 q)
    (kx : ∀ (E : String) (ce : Cell) (q9 : Addr) (u : SX) (t : State) (H1 : Heap) (locs1 : List Loc), t.heap = H1 → s.vm.Alike t.vm → px u → BX E u t → H.size ≤ H1.size → (∀ q : Nat, q < H.size → ¬ AX q → H1[q]? = H[q]?) → va_S A0 H0 H1 locs1 → H1[q9]? = some ce → ce.vm = .none → s.vm.findClass E = some ce.cls → vx_W p l e R s m args below meth c H1 locs1 (cells + mc) (slots + ms) Q (F0 m pc ls rest) q9)
    (kk : ∀ (r : UInt64) (u : S) (t : State) (H1 : Heap) (locs1 : List Loc), t.heap = H1 → s.vm.Alike t.vm → post r u → B u t → H.size ≤ H1.size → (∀ q : Nat, q < H.size → ¬ A1 q → H1[q]? = H[q]?) → va_S A0 H0 H1 locs1 → W p l e R s m args below meth c H1 locs1 (cells + mc) (slots + ms) Q (F0 m (pc + 3) ls (.double r :: rest))) : W p l e R s m args below meth c H locs cells slots Q (F0 m pc ls st0) := by
  intro T hT X
  rcases hr T hT X with ⟨v, st₀, t, T', L, h0, X', hL, e1, e2, ⟨⟨r, u, hv, hp, hb⟩, hF⟩, st⟩ | ⟨q, st₀, t, T', L, E, ce, h0, X', hL, e1, e2, ⟨u, hp, hb, hF⟩, hce, hcv, hcl, st⟩
  · cases hv
    obtain ⟨k1, k2, k3⟩ := vx_keep h0 e1 hS hA hf hL hF
    obtain ⟨t2, a1, b1⟩ := kk r u t T'.heap (locs ++ L) e1.symm (by rw [← e2]; exact X'.warmed.alike) hp hb k1 k2 k3 T' rfl X'
    exact ⟨t2, st t2 a1, b1⟩
  · obtain ⟨k1, k2, k3⟩ := vx_keep h0 e1 hS hAX hf hL hF
    obtain ⟨t2, a1, b1⟩ := kx E ce q u t T'.heap (locs ++ L) e1.symm (by rw [← e2]; exact X'.warmed.alike) hp hb k1 k2 k3 (by rw [e1]; exact hce) hcv hcl T' rfl X'
    exact ⟨t2, st.trans a1, b1⟩
theorem vx_callv {S SX : Type} {post : S → Prop} {px : SX → Prop} {B : S → State → Prop} {BX : String → SX → State → Prop} {AX : Nat → Prop} (hr : vx_Run p l e R s m args below meth c H locs cells slots mc ms (F0 m pc ls st0) rest (va_Qv post B A1 a) (vx_X px BX AX) free) (hS : va_S A0 H0 H locs) (hA : ∀ q, q < H.size → A1 q → A0 q) (hf : ∀ q, free q → A0 q) (hAX : ∀ q, q < H.size → AX q → A0 q)
    (kx : ∀ (E : String) (ce : Cell) (q9 : Addr) (u : SX) (t : State) (H1 : Heap) (locs1 : List Loc), t.heap = H1 → s.vm.Alike t.vm → px u → BX E u t → H.size ≤ H1.size → (∀ q : Nat, q < H.size → ¬ AX q → H1[q]? = H[q]?) → va_S A0 H0 H1 locs1 → H1[q9]? = some ce → ce.vm = .none → s.vm.findClass E = some ce.cls → vx_W p l e R s m args below meth c H1 locs1 (cells + mc) (slots + ms) Q (F0 m pc ls rest) q9)
    (kk : ∀ (u : S) (t : State) (H1 : Heap) (locs1 : List Loc), t.heap = H1 → s.vm.Alike t.vm → post u → B u t → H.size ≤ H1.size → (∀ q : Nat, q < H.size → ¬ A1 q → H1[q]? = H[q]?) → va_S A0 H0 H1 locs1 → W p l e R s m args below meth c H1 locs1 (cells + mc) (slots + ms) Q (F0 m (pc + 3) ls (rest))) : W p l e R s m args below meth c H locs cells slots Q (F0 m pc ls st0) := by
  intro T hT X
  rcases hr T hT X with ⟨v, st₀, t, T', L, h0, X', hL, e1, e2, ⟨⟨u, hv, hp, hb⟩, hF⟩, st⟩ | ⟨q, st₀, t, T', L, E, ce, h0, X', hL, e1, e2, ⟨u, hp, hb, hF⟩, hce, hcv, hcl, st⟩
  · cases hv
    obtain ⟨k1, k2, k3⟩ := vx_keep h0 e1 hS hA hf hL hF
    obtain ⟨t2, a1, b1⟩ := kk u t T'.heap (locs ++ L) e1.symm (by rw [← e2]; exact X'.warmed.alike) hp hb k1 k2 k3 T' rfl X'
    exact ⟨t2, st t2 a1, b1⟩
  · obtain ⟨k1, k2, k3⟩ := vx_keep h0 e1 hS hAX hf hL hF
    obtain ⟨t2, a1, b1⟩ := kx E ce q u t T'.heap (locs ++ L) e1.symm (by rw [← e2]; exact X'.warmed.alike) hp hb k1 k2 k3 (by rw [e1]; exact hce) hcv hcl T' rfl X'
    exact ⟨t2, st.trans a1, b1⟩
/-- caught by the row x of this method's table; the rows ahead don't take it -/
theorem vx_catch {own name : String} {E : String} {ce : Cell} {q : Addr} (hown : s.vm.findClass own = some m.cls) (pre : List ExceptionTableEntry) (x : ExceptionTableEntry) (suf : List ExceptionTableEntry) (hsplit : c.exceptionTable.toList = pre ++ x :: suf)
    (hpass : ∀ z ∈ pre, covers z pc = false ∨ (z.catchType ≠ 0 ∧ ∃ nm : String, (Cond.classLink own z.catchType nm).before args s = true ∧ va_Nc E nm s)) (hx : covers x pc = true) (h0 : x.catchType ≠ 0)
    (hlink : (Cond.classLink own x.catchType name).before args s = true) (hcast : (Cond.castable E name).before args s = true) (hcell : H[q]? = some ce) (hv : ce.vm = .none) (hcl : s.vm.findClass E = some ce.cls)
    (kk : W p l e R s m args below meth c H locs cells slots Q (F0 m x.handlerPc ls [.ref q])) : vx_W p l e R s m args below meth c H locs cells slots Q (F0 m pc ls rest) q := by
  intro T hT X
  have hpl : e.platform.magicAccessors = ({} : Platform).magicAccessors := by rw [X.admits.platform]
  obtain ⟨c3, c4, hc3, hc4, hasg⟩ := Cond.castable_spec hcast
  cases Option.some.inj (hc3.symm.trans hcl)
  obtain ⟨c5, hc5, hcl5⟩ := Cond.classLink_spec hown hlink e.platform hpl
  cases Option.some.inj (hc4.symm.trans hc5)
  obtain ⟨vm', X', st⟩ := X.thenCaughtThrough q (g := F0 m pc ls rest) rfl (Steps.refl _) (by rw [hT]; exact hcell) (by rw [hv]; rfl) (by obtain ⟨k9, h9, -⟩ := Vm.findClass_spec hcl; exact ⟨k9, h9⟩) pre x suf hsplit
    (fun z hz => by
      rcases hpass z hz with h | ⟨hz0, nm, hl1, hn1⟩
      · exact Or.inl h
      · obtain ⟨c6, hc6, hcl6⟩ := Cond.classLink_spec hown hl1 e.platform hpl
        obtain ⟨a8, b8, h1, h2, h3⟩ := hn1
        cases Option.some.inj (h1.symm.trans hcl)
        cases Option.some.inj (h2.symm.trans hc6)
        exact Or.inr ⟨hz0, _, hcl6, h3⟩) hx (Or.inr ⟨h0, c4, hcl5, hasg⟩)
  obtain ⟨t, a1, b1⟩ := kk (T.setVm vm') hT X'
  exact ⟨t, st.trans a1, b1⟩
end Rows
section Ends
variable {p : Program} {l : Launch} {e : Env} {R : Room} {s : State} {m : MethodId} {args : Array Value} {below : List Frame} {meth : Method} {c : Code} {H : Heap} {locs : List Loc} {cells slots : Nat} {Q : State → Prop}
variable {mc ms : Nat} {free : Addr → Prop} {A0 A1 : Nat → Prop} {H0 : Heap} {a : Array Value} {ls : Array Slot} {st0 rest : List Value}
variable {Qc : Array Value → State → Outcome → State → Prop} {XC : String → State → State → Prop}
/-- what a body that may throw owes at its end -/
def vx_MQ (below : List Frame) (Qc : Array Value → State → Outcome → State → Prop) (XC : String → State → State → Prop) (a : Array Value) (s : State) (mc ms : Nat) (free : Addr → Prop) : State → Prop := fun t =>
  ∃ o, t.status = .running ∧ Ended t below o ∧ vx_Q Qc XC mc ms free a s o t
theorem vx_ret {g : JFrame} {mc ms : Nat} (k : W p l e R s m args below meth c H locs cells slots (MQ below Qc args s mc ms free) g) : W p l e R s m args below meth c H locs cells slots (vx_MQ below Qc XC args s mc ms free) g := by
  intro T hT X
  obtain ⟨t, a1, o, b1, b2, b3, b4⟩ := k T hT X
  exact ⟨t, a1, o, b1, b2, Or.inl ⟨b3, b4⟩⟩
/-- not caught here: it goes on to the caller -/
theorem vx_widen {g : JFrame} {q : Addr} {k n : Nat} (h1 : cells ≤ k) (h2 : slots ≤ n) (kk : vx_W p l e R s m args below meth c H locs k n Q g q) : vx_W p l e R s m args below meth c H locs cells slots Q g q := fun T hT X => kk T hT (stand_widen X h1 h2)
theorem vx_out {pc : Nat} {E : String} {ce : Cell} {q : Addr} {mc ms : Nat} (hout : ∀ x ∈ c.exceptionTable.toList, covers x pc = false) (hlocks : meth.locks = false) (hcell : H[q]? = some ce) (hv : ce.vm = .none) (hcl : s.vm.findClass E = some ce.cls)
    (hx : ∀ t : State, t.heap = H → s.vm.Alike t.vm → XC E s t) (hf : ∀ z ∈ locs, free z.base) (hc : cells ≤ mc) (hs : slots ≤ ms) :
    vx_W p l e R s m args below meth c H locs cells slots (vx_MQ below Qc XC args s mc ms free) (F0 m pc ls rest) q := by
  intro T hT X
  obtain ⟨st1, hrun, hend, hW, hsm⟩ := X.leaveThrown q (g := F0 m pc ls rest) rfl rfl rfl hout hlocks
  have hcell9 : (T.setFrames (.throwing q :: below)).heap[q]? = some ce := by
    show T.heap[q]? = some ce
    rw [hT]; exact hcell
  exact ⟨_, st1, .threw q, hrun, hend, Or.inr ⟨q, rfl, E, ce, locs, hx _ hT hW.alike, hcell9, hv, hcl, hW, hsm.mono hc hs, hf⟩⟩
theorem vx_frame {U : State} {k n : Nat} (h : s.sameButNew ({ U with vm := s.vm } : State) locs k n) : s.heap.size ≤ U.heap.size ∧ ∀ q : Nat, q < s.heap.size → (∀ z ∈ locs, z.base ≠ q) → U.heap[q]? = s.heap[q]? := by
  obtain ⟨-, h2, -, -, -, h6⟩ := h
  refine ⟨h2, fun q hq hz => ?_⟩
  obtain ⟨c9, e1, e2, e3, e4⟩ := h6 q _ (Array.getElem?_eq_getElem hq)
  have hs : c9.slots = (s.heap[q]).slots := Array.ext_getElem? fun i => e4 i fun hm => hz _ hm rfl
  have h9 : c9 = s.heap[q] := by
    rw [hs] at e2
    exact e2
  have e5 : U.heap[q]? = some c9 := e1
  rw [e5, h9, Array.getElem?_eq_getElem hq]
/-- the words of a throw but the four that speak of the heap -/
def vx_no (w : Cond) : Bool := decide (w ≠ .isRef (.static Bundle.tN "UNASSIGNED_STACK" Bundle.steD)) && decide (w ≠ .isRef (.static Bundle.tN "SUPPRESSED_SENTINEL" Bundle.listD)) && decide (w ≠ .laysStatic Bundle.tN "UNASSIGNED_STACK" Bundle.steD) && decide (w ≠ .laysStatic Bundle.tN "SUPPRESSED_SENTINEL" Bundle.listD)
def vx_at0 (own : String) (ic : Nat) (X : String) (names : List String) : List Cond := (Bundle.ownAtoms0 own ic X names).filter vx_no
def vx_atS (own : String) (ic : Nat) (X : String) (names : List String) : List Cond := (Bundle.ownAtoms own ic X names).filter vx_no
/-- a word that the tables alone decide, or a good one -/
def vx_ot (w : Cond) : Bool := w.onTables || goodWord w
theorem vx_ot_at {args a' : Array Value} {s U : State} {w : Cond} (hW : s.WarmedH U.vm) (hvm : s.vm = U.vm) (hg : vx_ot w = true) (h : w.before args s = true) : w.before a' U = true := by
  simp only [vx_ot, Bool.or_eq_true] at hg
  rcases hg with hg | hg
  · exact va_tabs hg hvm h
  · exact word_at hW (good_of_word hg) h
/-- a list's words: the good ones out of the method's own list, the others by premises of their own -/
theorem vx_hat {args : Array Value} {s : State} {L B : List Cond} (h1 : ∀ w ∈ L.filter goodWord, w.before args s = true) (h2 : ∀ w ∈ L.filter (fun w => !goodWord w), w ∈ B) (h3 : ∀ w ∈ B, w.before args s = true) : ∀ w ∈ L, w.before args s = true := by
  intro w hw
  by_cases g : goodWord w = true
  · exact h1 w (List.mem_filter.mpr ⟨hw, g⟩)
  · refine h3 w (h2 w (List.mem_filter.mpr ⟨hw, ?_⟩))
    show (!goodWord w) = true
    cases hgw : goodWord w
    · rfl
    · exact absurd hgw g
theorem vx_c {args : Array Value} {s : State} {w : Cond} {B : List Cond} (h : w.before args s = true) (t : ∀ w ∈ B, w.before args s = true) : ∀ w' ∈ w :: B, w'.before args s = true := fun w' h' => (List.mem_cons.mp h').elim (fun e => by rw [e]; exact h) (t w')
theorem vx_n {args : Array Value} {s : State} : ∀ w ∈ ([] : List Cond), w.before args s = true := fun _ h => nomatch h
theorem vx_own {args : Array Value} {s : State} {L : List Cond} (h1 : ∀ w ∈ L.filter vx_no, w.before args s = true)
    (hU : (Cond.isRef (.static Bundle.tN "UNASSIGNED_STACK" Bundle.steD)).before args s = true) (hN : (Cond.isRef (.static Bundle.tN "SUPPRESSED_SENTINEL" Bundle.listD)).before args s = true)
    (lU : (Cond.laysStatic Bundle.tN "UNASSIGNED_STACK" Bundle.steD).before args s = true) (lN : (Cond.laysStatic Bundle.tN "SUPPRESSED_SENTINEL" Bundle.listD).before args s = true) : ∀ w ∈ L, w.before args s = true := by
  intro w hw
  by_cases e1 : w = .isRef (.static Bundle.tN "UNASSIGNED_STACK" Bundle.steD)
  · rw [e1]; exact hU
  · by_cases e2 : w = .isRef (.static Bundle.tN "SUPPRESSED_SENTINEL" Bundle.listD)
    · rw [e2]; exact hN
    · by_cases e3 : w = .laysStatic Bundle.tN "UNASSIGNED_STACK" Bundle.steD
      · rw [e3]; exact lU
      · by_cases e4 : w = .laysStatic Bundle.tN "SUPPRESSED_SENTINEL" Bundle.listD
        · rw [e4]; exact lN
        · exact h1 w (List.mem_filter.mpr ⟨hw, by unfold vx_no; rw [decide_eq_true e1, decide_eq_true e2, decide_eq_true e3, decide_eq_true e4]; rfl⟩)
/-- where a static field lies, its class's statics cell in H -/
def vx_L (C n d : String) (A : Nat → Prop) (U : State) (H : Heap) : Prop := ∃ (c : ClassId) (k : Class) (i : Nat) (f : Field) (a : Nat) (cell : Cell), U.vm.findClass C = some c ∧ U.fieldFound? C n d = some (c, k, i, f) ∧ f.isStatic = true ∧ k.statics = some a ∧ H[a]? = some cell ∧ cell.vm.isStatics = true ∧ cell.cls = c ∧ f.slot < cell.slots.size ∧ k.staticTypes[f.slot]? = some f.type ∧ ¬ A a
theorem vx_L.moved {C n d : String} {A : Nat → Prop} {u U : State} {H : Heap} (hvm : u.vm.Alike U.vm) (h : vx_L C n d A u H) : vx_L C n d A U H := by
  obtain ⟨c, k, i, f, a, cell, h1, h2, h3, h4, h5, h6, h7, h8, h9, h10⟩ := h
  obtain ⟨k', hi', he⟩ := State.fieldFound?_setVm hvm h2
  exact ⟨c, k', i, f, a, cell, by rw [hvm.findClass]; exact h1, hi', h3, by rw [he]; exact h4, h5, h6, h7, h8, by rw [he]; exact h9, h10⟩
theorem vx_L.kept {C n d : String} {A : Nat → Prop} {U : State} {H H1 : Heap} (h : vx_L C n d A U H) (hq : ∀ a : Nat, a < H.size → ¬ A a → H1[a]? = H[a]?) : vx_L C n d A U H1 := by
  obtain ⟨c, k, i, f, a, cell, h1, h2, h3, h4, h5, h6, h7, h8, h9, h10⟩ := h
  exact ⟨c, k, i, f, a, cell, h1, h2, h3, h4, by rw [hq a (Array.getElem?_eq_some_iff.mp h5).1 h10]; exact h5, h6, h7, h8, h9, h10⟩
theorem vx_L.narrow {C n d : String} {A B : Nat → Prop} {U : State} {H : Heap} (h : vx_L C n d A U H) (hAB : ∀ q, B q → A q) : vx_L C n d B U H := by
  obtain ⟨c, k, i, f, a, cell, h1, h2, h3, h4, h5, h6, h7, h8, h9, h10⟩ := h
  exact ⟨c, k, i, f, a, cell, h1, h2, h3, h4, h5, h6, h7, h8, h9, fun z => h10 (hAB _ z)⟩
theorem vx_L.word {C n d : String} {A : Nat → Prop} {s : State} {args : Array Value} (h : vx_L C n d A s s.heap) : (Cond.laysStatic C n d).before args s = true := by
  obtain ⟨c, k, i, f, a, cell, h1, h2, h3, h4, h5, h6, h7, h8, h9, -⟩ := h
  show (Cond.laysStatic C n d).holds args s none s [] = true
  exact Cond.laysStatic_of h1 h2 h3 h4 h5 h6 h7 h8 h9
/-- .. and what it holds: null or some reference -/
def vx_Zq (C n d : String) (A : Nat → Prop) (U : State) (H : Heap) : Prop := va_Zq C n d A U H ∧ vx_L C n d A U H
theorem vx_Zq.moved {C n d : String} {A : Nat → Prop} {u U : State} {H : Heap} (hvm : u.vm.Alike U.vm) (h : vx_Zq C n d A u H) : vx_Zq C n d A U H := ⟨va_Zq.moved hvm h.1, vx_L.moved hvm h.2⟩
theorem vx_Zq.kept {C n d : String} {A : Nat → Prop} {U : State} {H H1 : Heap} (h : vx_Zq C n d A U H) (hq : ∀ a : Nat, a < H.size → ¬ A a → H1[a]? = H[a]?) : vx_Zq C n d A U H1 := ⟨va_Zq.kept h.1 hq, vx_L.kept h.2 hq⟩
theorem vx_Zq.narrow {C n d : String} {A B : Nat → Prop} {U : State} {H : Heap} (h : vx_Zq C n d A U H) (hAB : ∀ q, B q → A q) : vx_Zq C n d B U H := ⟨va_Zq.narrow h.1 hAB, vx_L.narrow h.2 hAB⟩
theorem vx_Zqof {args : Array Value} {s : State} {C n d : String} {A : Nat → Prop} (hl : (Cond.laysStatic C n d).before args s = true) (hini : (Cond.initialized C).before args s = true) (h : (Cond.isRef (.static C n d)).before args s = true) (hA : ∀ a : Nat, a < s.heap.size → ¬ A a) : vx_Zq C n d A s s.heap := by
  refine ⟨va_Zqof hl hini h hA, ?_⟩
  obtain ⟨c, k, i, f, a, cell, h1, h2, h3, h4, h5, h6, h7, h8, h9⟩ := Cond.laysStatic_spec hl
  exact ⟨c, k, i, f, a, cell, h1, h2, h3, h4, h5, h6, h7, h8, h9, hA a (Array.getElem?_eq_some_iff.mp h5).1⟩
theorem vx_isRef {C n d : String} {v : Value} {A : Nat → Prop} {s : State} {args : Array Value} (h : va_Z C n d v A s s.heap) (hv : v.isRef = true) : (Cond.isRef (.static C n d)).before args s = true := by
  obtain ⟨cf, kf, fi, f, a, cell, h1, h2, h3, h4, h5, h6, h7, -⟩ := h
  have he : (Term.static C n d).eval args s none [] s = some v := by
    simp [Term.eval, State.fieldNamed?, h1, h2, h4, h5, h6, h7]
  simp only [Cond.before, Cond.holds, Cond.value, he]
  cases v <;> simp_all [Value.isRef]
theorem vx_isRefq {C n d : String} {A : Nat → Prop} {s : State} {args : Array Value} (h : va_Zq C n d A s s.heap) : (Cond.isRef (.static C n d)).before args s = true := by
  rcases h with h | ⟨t, h⟩
  · exact vx_isRef h rfl
  · exact vx_isRef h rfl
/-- the same frame, seen from here: as if the method were called anew in this heap -/
theorem vx_rebase {T : State} (X : Stand p l e R s m args below meth c T locs cells slots) {R' : Room} (hf : R'.frames ≤ R.frames) (hl : R'.locals ≤ R.locals) (hc : cells + R'.cells ≤ R.cells) (hs : slots + R'.slots ≤ R.slots) :
    Stand p l e R' ((T.setVm s.vm).setFrames (.invoking m args :: below)) m args below meth c T [] 0 0 := by
  have htop : (T.setVm s.vm).topJava?.isSome := X.here.top
  have hF : ((T.setVm s.vm).setFrames (.invoking m args :: below)).frames = .invoking m args :: below := State.frames_setFrames _ (State.cur_lt_of_top htop)
  obtain ⟨g₀, hg0⟩ := Option.isSome_iff_exists.mp htop
  obtain ⟨r, hr⟩ := State.topJava?_eq_some.mp hg0
  have hl9 : e.platform.stackLimits (T.setVm s.vm).me = e.platform.stackLimits s.me := X.limits
  have hb9 : (T.setVm s.vm).me.stackBytes = s.me.stackBytes := X.bytes
  refine ⟨X.admits, X.cas, X.clock, hF, ?_, X.hears, X.method, X.code, X.here, X.tail, X.warmed, ?_, ?_, ?_⟩
  · have h := X.room
    have hU : ((T.setVm s.vm).setFrames (.invoking m args :: below)).localsInUse = s.localsInUse := by
      rw [State.localsInUse_invoking hF (meth := meth) (c := c) X.method X.code, State.localsInUse_invoking X.frames X.method X.code]
    simp only [State.hasRoom, Bool.and_eq_true, decide_eq_true_eq] at h ⊢
    obtain ⟨⟨⟨⟨h1, h2, h3, h4, h5, h6⟩, h7⟩, h8⟩, h9⟩ := h
    rw [X.frames, List.length_cons] at h2 h3
    have q1 := X.heapSize
    have q2 := X.used
    simp only [hF, hU, List.length_cons, State.stackLimits_setFrames, State.stackBytes_setFrames, hl9, hb9]
    refine ⟨⟨⟨⟨by omega, by omega, by omega, by omega, by omega, h6⟩, ?_⟩, ?_⟩, X.book⟩
    · show T.heap.size + R'.cells ≤ e.platform.maxCells
      omega
    · show T.slotsUsed + R'.slots ≤ e.platform.maxSlots
      omega
  · rw [State.stackLimits_setFrames]; rfl
  · rw [State.stackBytes_setFrames]; rfl
  · refine ⟨?_, Nat.le_refl _, Nat.le_refl _, ?_, ?_, fun a c9 h9 => ⟨c9, h9, rfl, rfl, fun _ _ => rfl⟩⟩
    · obtain ⟨t, ht, -⟩ := State.frames_cons hr
      show T.setVm s.vm = { ((T.setVm s.vm).setFrames (.invoking m args :: below)).setFrames (T.setVm s.vm).frames with heap := T.heap, slotsUsed := T.slotsUsed }
      rw [State.setFrames_setFrames, State.setFrames_self ht]
      rfl
    · show T.slotsUsed = T.slotsUsed + ((T.heap.toList.drop T.heap.size).map (·.slots.size)).sum
      rw [List.drop_eq_nil_of_le (Nat.le_of_eq Array.length_toList)]
      rfl
    · show ((T.heap.toList.drop T.heap.size).map (·.slots.size)).sum ≤ 0
      rw [List.drop_eq_nil_of_le (Nat.le_of_eq Array.length_toList)]
      exact Nat.le_refl _
/-- 'throw new E()': new; dup; invokespecial; athrow -/
theorem vx_throw0 {cc : ByteArray} {pc : Nat} (hexec : p.tables.exec = Jvm.exec) (hb : c.code = cc) (hl : l.stackTraces = false) {own cls : String} {names : List String} {ik ic mc ms : Nat} {A : Nat → Prop}
    (hown : s.vm.findClass own = some m.cls) (hcls : Bundle.fit cls = true) (hnames : ∀ n ∈ names, Bundle.fit n = true)
    (hk : (Cond.classLink own ik cls).before args s = true) (hini : (Cond.initialized cls).before args s = true) (hat : ∀ w ∈ vx_at0 own ic cls names, w.before args s = true)
    (hgood : ∀ w ∈ Cond.classLink own ik cls :: Cond.initialized cls :: vx_at0 own ic cls names, vx_ot w = true)
    (hU : vx_Zq Bundle.tN "UNASSIGNED_STACK" Bundle.steD A s s.heap) (hN : vx_Zq Bundle.tN "SUPPRESSED_SENTINEL" Bundle.listD A s s.heap) (hS : va_S A s.heap H locs) (hsize : ls.size = c.maxLocals)
    (d0 : decode cc pc = .ok (.new ik, 3)) (d3 : decode cc (pc + 3) = .ok (.dup, 1)) (d4 : decode cc (pc + 4) = .ok (.invokespecial ic, 3)) (d7 : decode cc (pc + 7) = .ok (.athrow, 1))
    (hout : ∀ x ∈ c.exceptionTable.toList, covers x (pc + 7) = false)
    (hRframes : names.length + 3 < R.frames) (hRlocals : (rest.map fun v => v.category).sum + (13 * (names.length + 1) + 42) ≤ R.locals) (hRcells : cells + 1 ≤ R.cells) (hRslots : slots + 6 ≤ R.slots) (hlocks : meth.locks = false)
    (hx : ∀ t : State, s.vm.Alike t.vm → H.size ≤ t.heap.size → (∀ q : Nat, q < H.size → t.heap[q]? = H[q]?) → XC cls s t)
    (hf : ∀ z ∈ locs, free z.base) (hc : cells + 1 ≤ mc) (hs : slots + 6 ≤ ms) :
    W p l e R s m args below meth c H locs cells slots (vx_MQ below Qc XC args s mc ms free) (F0 m pc ls rest) := by
  intro T hT X
  have htr : e.platform.stackTraces = false := (show e.platform.stackTraces = l.stackTraces by rw [X.admits.platform]).trans hl
  have Y := vx_rebase X (R' := { frames := R.frames, locals := R.locals, cells := 1, slots := 6 }) (Nat.le_refl _) (Nat.le_refl _) hRcells hRslots
  obtain ⟨s', hA⟩ : ∃ z, z = (T.setVm s.vm).setFrames (.invoking m args :: below) := ⟨_, rfl⟩
  rw [← hA] at Y
  have hvm : s'.vm = s.vm := by rw [hA]; rfl
  have hhp : s'.heap = H := by rw [hA]; exact hT
  have hW0 : s.WarmedH s'.vm := by rw [hvm]; exact State.WarmedH.refl s
  have hat' : ∀ w ∈ vx_at0 own ic cls names, w.before args s' = true := fun w hw => vx_ot_at hW0 hvm.symm (hgood w (List.mem_cons_of_mem _ (List.mem_cons_of_mem _ hw))) (hat w hw)
  have hk' : (Cond.classLink own ik cls).before args s' = true := vx_ot_at hW0 hvm.symm (hgood _ List.mem_cons_self) hk
  have hini' : (Cond.initialized cls).before args s' = true := vx_ot_at hW0 hvm.symm (hgood _ (List.mem_cons_of_mem _ List.mem_cons_self)) hini
  have hU' : vx_Zq Bundle.tN "UNASSIGNED_STACK" Bundle.steD A s' s'.heap := by rw [hhp]; exact vx_Zq.moved hW0.alike (hU.kept hS.2.1)
  have hN' : vx_Zq Bundle.tN "SUPPRESSED_SENTINEL" Bundle.listD A s' s'.heap := by rw [hhp]; exact vx_Zq.moved hW0.alike (hN.kept hS.2.1)
  have h : ∀ w ∈ Bundle.ownAtoms0 own ic cls names, w.before args s' = true := vx_own hat' (vx_isRefq hU'.1) (vx_isRefq hN'.1) hU'.2.word hN'.2.word
  have hown' : s'.vm.findClass own = some m.cls := by rw [hvm]; exact hown
  have hins : (Cond.instantiable cls 6).before args s' = true := h _ (by simp [Bundle.ownAtoms0])
  obtain ⟨vm₁, cX, kX, hfX, hkX, -, -, X₁, st1⟩ := Y.newCold hexec (own := own) (C := cls) (index := ik) (n := 6) hown' hk' hins hini'
    (g := F0 m pc ls rest) rfl (by rw [hb]; exact d0) (Nat.le_refl _) (Nat.le_refl _)
  generalize hT1 : (T.setVm vm₁).pushCell { cls := cX, slots := kX.instanceTypes.map defaultValue, vm := .none } = T1 at X₁ st1
  have hcat : (Value.ref T.heap.size).category = 1 := rfl
  have hcellA : T1.heap[T.heap.size]? = some (freshCell cX kX) := by rw [← hT1]; exact State.heap_pushCell_size _ _
  have d3' : decode c.code (pc + 3) = .ok (.dup, 1) := by rw [hb]; exact d3
  obtain ⟨U, hsteps, hrun, hend, hW, hsame, ce, hce, hO⟩ := X₁.ctorThrow0 hexec htr (own := own) (cls := cls) (names := names) (ic := ic) hown' hcls hnames h (fun x hx => nomatch hx) hfX hkX hcellA (by rw [hhp, hT]; exact Nat.le_refl _)
    (g := { method := m, pc := pc + 4, locals := ls, stack := .ref T.heap.size :: .ref T.heap.size :: rest, locked := none }) rfl hsize rfl rfl (rest := rest) rfl
    (by rw [hb]; exact d4) (by rw [hb]; exact d7) hout hRframes (by simp only [List.map_cons, List.sum_cons, hcat]; omega) hlocks
  obtain ⟨f1, f2⟩ := vx_frame hsame
  rw [hhp] at f1 f2
  have hWs : s.WarmedH U.vm := State.WarmedH.trans hW0 hW
  have hcl : s.vm.findClass cls = some ce.cls := by
    have h9 := hO.cls
    rw [hvm] at h9
    exact h9
  have hall : s.sameButNew ({ U with vm := s.vm } : State) locs mc ms := by
    subst hA
    obtain ⟨e1, e2⟩ := hsame
    rw [State.setFrames_setFrames] at e1
    have h2 : (T.setVm s.vm).sameButNew ({ U with vm := s.vm } : State) [] (0 + 1) (0 + 6) := ⟨e1, e2⟩
    have h3 := X.same.trans h2
    rw [List.append_nil] at h3
    exact h3.mono hc hs
  refine ⟨U, ?_, .threw T.heap.size, hrun, hend, Or.inr ⟨T.heap.size, rfl, cls, ce, locs, hx U hWs.alike f1 (fun q hq => f2 q hq (fun z hz => nomatch hz)), hce, hO.vm, hcl, hWs, hall, hf⟩⟩
  refine st1 _ ?_
  show Steps p.tables e below (T1.setTop { method := m, pc := pc + 3, locals := ls, stack := .ref T.heap.size :: rest, locked := none }) _
  jvm_step X₁.here [X₁.here.top, hexec, d3', Value.category]
  exact hsteps
/-- 'throw new E("text")': new; dup; ldc; invokespecial; athrow -/
theorem vx_throwS {cc : ByteArray} {pc : Nat} (hexec : p.tables.exec = Jvm.exec) (hb : c.code = cc) (hl : l.stackTraces = false) {own cls text : String} {names : List String} {ik is ic mc ms sa : Nat} {A : Nat → Prop}
    (hown : s.vm.findClass own = some m.cls) (hcls : Bundle.fit cls = true) (hnames : ∀ n ∈ names, Bundle.fit n = true)
    (hk : (Cond.classLink own ik cls).before args s = true) (hini : (Cond.initialized cls).before args s = true) (hstr : vk_R own is text sa s) (hat : ∀ w ∈ vx_atS own ic cls names, w.before args s = true)
    (hgood : ∀ w ∈ Cond.classLink own ik cls :: Cond.initialized cls :: vx_atS own ic cls names, vx_ot w = true)
    (hU : vx_Zq Bundle.tN "UNASSIGNED_STACK" Bundle.steD A s s.heap) (hN : vx_Zq Bundle.tN "SUPPRESSED_SENTINEL" Bundle.listD A s s.heap) (hS : va_S A s.heap H locs) (hsize : ls.size = c.maxLocals)
    (d0 : decode cc pc = .ok (.new ik, 3)) (d3 : decode cc (pc + 3) = .ok (.dup, 1)) (d4 : decode cc (pc + 4) = .ok (.ldc is, 2)) (d6 : decode cc (pc + 6) = .ok (.invokespecial ic, 3)) (d9 : decode cc (pc + 9) = .ok (.athrow, 1))
    (hout : ∀ x ∈ c.exceptionTable.toList, covers x (pc + 9) = false)
    (hRframes : names.length + 3 < R.frames) (hRlocals : (rest.map fun v => v.category).sum + (13 * (names.length + 1) + 43) ≤ R.locals) (hRcells : cells + 1 ≤ R.cells) (hRslots : slots + 6 ≤ R.slots) (hlocks : meth.locks = false)
    (hx : ∀ t : State, s.vm.Alike t.vm → H.size ≤ t.heap.size → (∀ q : Nat, q < H.size → t.heap[q]? = H[q]?) → XC cls s t)
    (hf : ∀ z ∈ locs, free z.base) (hc : cells + 1 ≤ mc) (hs : slots + 6 ≤ ms) :
    W p l e R s m args below meth c H locs cells slots (vx_MQ below Qc XC args s mc ms free) (F0 m pc ls rest) := by
  intro T hT X
  have htr : e.platform.stackTraces = false := (show e.platform.stackTraces = l.stackTraces by rw [X.admits.platform]).trans hl
  have Y := vx_rebase X (R' := { frames := R.frames, locals := R.locals, cells := 1, slots := 6 }) (Nat.le_refl _) (Nat.le_refl _) hRcells hRslots
  obtain ⟨s', hA⟩ : ∃ z, z = (T.setVm s.vm).setFrames (.invoking m args :: below) := ⟨_, rfl⟩
  rw [← hA] at Y
  have hvm : s'.vm = s.vm := by rw [hA]; rfl
  have hhp : s'.heap = H := by rw [hA]; exact hT
  have hW0 : s.WarmedH s'.vm := by rw [hvm]; exact State.WarmedH.refl s
  have hat' : ∀ w ∈ vx_atS own ic cls names, w.before args s' = true := fun w hw => vx_ot_at hW0 hvm.symm (hgood w (List.mem_cons_of_mem _ (List.mem_cons_of_mem _ hw))) (hat w hw)
  have hk' : (Cond.classLink own ik cls).before args s' = true := vx_ot_at hW0 hvm.symm (hgood _ List.mem_cons_self) hk
  have hini' : (Cond.initialized cls).before args s' = true := vx_ot_at hW0 hvm.symm (hgood _ (List.mem_cons_of_mem _ List.mem_cons_self)) hini
  have hU' : vx_Zq Bundle.tN "UNASSIGNED_STACK" Bundle.steD A s' s'.heap := by rw [hhp]; exact vx_Zq.moved hW0.alike (hU.kept hS.2.1)
  have hN' : vx_Zq Bundle.tN "SUPPRESSED_SENTINEL" Bundle.listD A s' s'.heap := by rw [hhp]; exact vx_Zq.moved hW0.alike (hN.kept hS.2.1)
  have h : ∀ w ∈ Bundle.ownAtoms own ic cls names, w.before args s' = true := vx_own hat' (vx_isRefq hU'.1) (vx_isRefq hN'.1) hU'.2.word hN'.2.word
  have hown' : s'.vm.findClass own = some m.cls := by rw [hvm]; exact hown
  have hins : (Cond.instantiable cls 6).before args s' = true := h _ (by simp [Bundle.ownAtoms])
  obtain ⟨vm₁, cX, kX, hfX, hkX, -, -, X₁, st1⟩ := Y.newCold hexec (own := own) (C := cls) (index := ik) (n := 6) hown' hk' hins hini'
    (g := F0 m pc ls rest) rfl (by rw [hb]; exact d0) (Nat.le_refl _) (Nat.le_refl _)
  generalize hT1 : (T.setVm vm₁).pushCell { cls := cX, slots := kX.instanceTypes.map defaultValue, vm := .none } = T1 at X₁ st1
  have hcat : (Value.ref T.heap.size).category = 1 := rfl
  have hcellA : T1.heap[T.heap.size]? = some (freshCell cX kX) := by rw [← hT1]; exact State.heap_pushCell_size _ _
  have d3' : decode c.code (pc + 3) = .ok (.dup, 1) := by rw [hb]; exact d3
  have d4' : decode c.code (pc + 4) = .ok (.ldc is, 2) := by rw [hb]; exact d4
  have hstr' : vk_R own is text sa s' := vk_R.warm hW0 hstr
  obtain ⟨U, hsteps, hrun, hend, hW, hsame, ce, hce, hO⟩ := X₁.ctorThrowS hexec htr (own := own) (cls := cls) (names := names) (ic := ic) hown' hcls hnames h (fun x hx => nomatch hx) hfX hkX hcellA (by rw [hhp, hT]; exact Nat.le_refl _) (msg := .ref sa) rfl
    (g := { method := m, pc := pc + 6, locals := ls, stack := .ref sa :: .ref T.heap.size :: .ref T.heap.size :: rest, locked := none }) rfl hsize rfl rfl (rest := rest) rfl
    (by rw [hb]; exact d6) (by rw [hb]; exact d9) hout hRframes (by simp only [List.map_cons, List.sum_cons, hcat]; omega) hlocks
  obtain ⟨f1, f2⟩ := vx_frame hsame
  rw [hhp] at f1 f2
  have hWs : s.WarmedH U.vm := State.WarmedH.trans hW0 hW
  have hcl : s.vm.findClass cls = some ce.cls := by
    have h9 := hO.cls
    rw [hvm] at h9
    exact h9
  have hall : s.sameButNew ({ U with vm := s.vm } : State) locs mc ms := by
    subst hA
    obtain ⟨e1, e2⟩ := hsame
    rw [State.setFrames_setFrames] at e1
    have h2 : (T.setVm s.vm).sameButNew ({ U with vm := s.vm } : State) [] (0 + 1) (0 + 6) := ⟨e1, e2⟩
    have h3 := X.same.trans h2
    rw [List.append_nil] at h3
    exact h3.mono hc hs
  refine ⟨U, ?_, .threw T.heap.size, hrun, hend, Or.inr ⟨T.heap.size, rfl, cls, ce, locs, hx U hWs.alike f1 (fun q hq => f2 q hq (fun z hz => nomatch hz)), hce, hO.vm, hcl, hWs, hall, hf⟩⟩
  refine st1 _ ?_
  show Steps p.tables e below (T1.setTop { method := m, pc := pc + 3, locals := ls, stack := .ref T.heap.size :: rest, locked := none }) _
  jvm_step X₁.here [X₁.here.top, hexec, d3', Value.category]
  exact X₁.ldcString hexec (own := own) (text := text) (index := is) (a := sa) hown' hstr'.1 hstr'.2
    (g := { method := m, pc := pc + 4, locals := ls, stack := .ref T.heap.size :: .ref T.heap.size :: rest, locked := none }) rfl d4' _ hsteps
/-- 'throw new E("text")', the text by a wide index -/
theorem vx_throwSW {cc : ByteArray} {pc : Nat} (hexec : p.tables.exec = Jvm.exec) (hb : c.code = cc) (hl : l.stackTraces = false) {own cls text : String} {names : List String} {ik is ic mc ms sa : Nat} {A : Nat → Prop}
    (hown : s.vm.findClass own = some m.cls) (hcls : Bundle.fit cls = true) (hnames : ∀ n ∈ names, Bundle.fit n = true)
    (hk : (Cond.classLink own ik cls).before args s = true) (hini : (Cond.initialized cls).before args s = true) (hstr : vk_R own is text sa s) (hat : ∀ w ∈ vx_atS own ic cls names, w.before args s = true)
    (hgood : ∀ w ∈ Cond.classLink own ik cls :: Cond.initialized cls :: vx_atS own ic cls names, vx_ot w = true)
    (hU : vx_Zq Bundle.tN "UNASSIGNED_STACK" Bundle.steD A s s.heap) (hN : vx_Zq Bundle.tN "SUPPRESSED_SENTINEL" Bundle.listD A s s.heap) (hS : va_S A s.heap H locs) (hsize : ls.size = c.maxLocals)
    (d0 : decode cc pc = .ok (.new ik, 3)) (d3 : decode cc (pc + 3) = .ok (.dup, 1)) (d4 : decode cc (pc + 4) = .ok (.ldc_w is, 3)) (d7 : decode cc (pc + 7) = .ok (.invokespecial ic, 3)) (d10 : decode cc (pc + 10) = .ok (.athrow, 1))
    (hout : ∀ x ∈ c.exceptionTable.toList, covers x (pc + 10) = false)
    (hRframes : names.length + 3 < R.frames) (hRlocals : (rest.map fun v => v.category).sum + (13 * (names.length + 1) + 43) ≤ R.locals) (hRcells : cells + 1 ≤ R.cells) (hRslots : slots + 6 ≤ R.slots) (hlocks : meth.locks = false)
    (hx : ∀ t : State, s.vm.Alike t.vm → H.size ≤ t.heap.size → (∀ q : Nat, q < H.size → t.heap[q]? = H[q]?) → XC cls s t)
    (hf : ∀ z ∈ locs, free z.base) (hc : cells + 1 ≤ mc) (hs : slots + 6 ≤ ms) :
    W p l e R s m args below meth c H locs cells slots (vx_MQ below Qc XC args s mc ms free) (F0 m pc ls rest) := by
  intro T hT X
  have htr : e.platform.stackTraces = false := (show e.platform.stackTraces = l.stackTraces by rw [X.admits.platform]).trans hl
  have Y := vx_rebase X (R' := { frames := R.frames, locals := R.locals, cells := 1, slots := 6 }) (Nat.le_refl _) (Nat.le_refl _) hRcells hRslots
  obtain ⟨s', hA⟩ : ∃ z, z = (T.setVm s.vm).setFrames (.invoking m args :: below) := ⟨_, rfl⟩
  rw [← hA] at Y
  have hvm : s'.vm = s.vm := by rw [hA]; rfl
  have hhp : s'.heap = H := by rw [hA]; exact hT
  have hW0 : s.WarmedH s'.vm := by rw [hvm]; exact State.WarmedH.refl s
  have hat' : ∀ w ∈ vx_atS own ic cls names, w.before args s' = true := fun w hw => vx_ot_at hW0 hvm.symm (hgood w (List.mem_cons_of_mem _ (List.mem_cons_of_mem _ hw))) (hat w hw)
  have hk' : (Cond.classLink own ik cls).before args s' = true := vx_ot_at hW0 hvm.symm (hgood _ List.mem_cons_self) hk
  have hini' : (Cond.initialized cls).before args s' = true := vx_ot_at hW0 hvm.symm (hgood _ (List.mem_cons_of_mem _ List.mem_cons_self)) hini
  have hU' : vx_Zq Bundle.tN "UNASSIGNED_STACK" Bundle.steD A s' s'.heap := by rw [hhp]; exact vx_Zq.moved hW0.alike (hU.kept hS.2.1)
  have hN' : vx_Zq Bundle.tN "SUPPRESSED_SENTINEL" Bundle.listD A s' s'.heap := by rw [hhp]; exact vx_Zq.moved hW0.alike (hN.kept hS.2.1)
  have h : ∀ w ∈ Bundle.ownAtoms own ic cls names, w.before args s' = true := vx_own hat' (vx_isRefq hU'.1) (vx_isRefq hN'.1) hU'.2.word hN'.2.word
  have hown' : s'.vm.findClass own = some m.cls := by rw [hvm]; exact hown
  have hins : (Cond.instantiable cls 6).before args s' = true := h _ (by simp [Bundle.ownAtoms])
  obtain ⟨vm₁, cX, kX, hfX, hkX, -, -, X₁, st1⟩ := Y.newCold hexec (own := own) (C := cls) (index := ik) (n := 6) hown' hk' hins hini'
    (g := F0 m pc ls rest) rfl (by rw [hb]; exact d0) (Nat.le_refl _) (Nat.le_refl _)
  generalize hT1 : (T.setVm vm₁).pushCell { cls := cX, slots := kX.instanceTypes.map defaultValue, vm := .none } = T1 at X₁ st1
  have hcat : (Value.ref T.heap.size).category = 1 := rfl
  have hcellA : T1.heap[T.heap.size]? = some (freshCell cX kX) := by rw [← hT1]; exact State.heap_pushCell_size _ _
  have d3' : decode c.code (pc + 3) = .ok (.dup, 1) := by rw [hb]; exact d3
  have d4' : decode c.code (pc + 4) = .ok (.ldc_w is, 3) := by rw [hb]; exact d4
  have hstr' : vk_R own is text sa s' := vk_R.warm hW0 hstr
  obtain ⟨U, hsteps, hrun, hend, hW, hsame, ce, hce, hO⟩ := X₁.ctorThrowS hexec htr (own := own) (cls := cls) (names := names) (ic := ic) hown' hcls hnames h (fun x hx => nomatch hx) hfX hkX hcellA (by rw [hhp, hT]; exact Nat.le_refl _) (msg := .ref sa) rfl
    (g := { method := m, pc := pc + 7, locals := ls, stack := .ref sa :: .ref T.heap.size :: .ref T.heap.size :: rest, locked := none }) rfl hsize rfl rfl (rest := rest) rfl
    (by rw [hb]; exact d7) (by rw [hb]; exact d10) hout hRframes (by simp only [List.map_cons, List.sum_cons, hcat]; omega) hlocks
  obtain ⟨f1, f2⟩ := vx_frame hsame
  rw [hhp] at f1 f2
  have hWs : s.WarmedH U.vm := State.WarmedH.trans hW0 hW
  have hcl : s.vm.findClass cls = some ce.cls := by
    have h9 := hO.cls
    rw [hvm] at h9
    exact h9
  have hall : s.sameButNew ({ U with vm := s.vm } : State) locs mc ms := by
    subst hA
    obtain ⟨e1, e2⟩ := hsame
    rw [State.setFrames_setFrames] at e1
    have h2 : (T.setVm s.vm).sameButNew ({ U with vm := s.vm } : State) [] (0 + 1) (0 + 6) := ⟨e1, e2⟩
    have h3 := X.same.trans h2
    rw [List.append_nil] at h3
    exact h3.mono hc hs
  refine ⟨U, ?_, .threw T.heap.size, hrun, hend, Or.inr ⟨T.heap.size, rfl, cls, ce, locs, hx U hWs.alike f1 (fun q hq => f2 q hq (fun z hz => nomatch hz)), hce, hO.vm, hcl, hWs, hall, hf⟩⟩
  refine st1 _ ?_
  show Steps p.tables e below (T1.setTop { method := m, pc := pc + 3, locals := ls, stack := .ref T.heap.size :: rest, locked := none }) _
  jvm_step X₁.here [X₁.here.top, hexec, d3', Value.category]
  exact X₁.ldcStringW hexec (own := own) (text := text) (index := is) (a := sa) hown' hstr'.1 hstr'.2
    (g := { method := m, pc := pc + 4, locals := ls, stack := .ref T.heap.size :: .ref T.heap.size :: rest, locked := none }) rfl d4' _ hsteps
end Ends
section Bodies
variable {l : Launch}
theorem vx_ofW {y : MethodName} {ws ws' : List Cond} {rm : Room} {Pc : Array Value → State → Prop} {Qc : Array Value → State → Outcome → State → Prop} {XC : String → State → State → Prop} {mc ms : Nat} {free : Addr → Prop} {cc : ByteArray} {maxL : Nat} {ret : Option FieldType}
    (hy : plainName y.cls = true) (hw : ws = Cond.code y cc maxL ret :: ws')
    (body : ∀ p e s m args below meth c s₁, BodyLoose p l y (headSpec ws rm) cc maxL ret e s m args below meth c s₁ → c.maxLocals = maxL → (∀ x ∈ c.exceptionTable.toList, False) → Pc args s →
      W p l e (headSpec ws rm).room s m args below meth c s.heap [] 0 0 (vx_MQ below Qc XC args s mc ms free) (entryFrame m args maxL)) : vx_Met l y ws rm Pc Qc XC mc ms free := by
  refine MetFree.of_bodyS (code := cc) (maxLocals := maxL) (ret := ret) hy ?_ ?_
  · intro args s m h hn
    obtain ⟨meth, c, h1, h2, h3, h4, h5, h6, -, -⟩ := Cond.code_spec hn (atoms_spec (ws := ws) h _ (by rw [hw]; exact List.mem_cons_self))
    exact ⟨meth, c, h1, h2, h3, h4, h5, h6⟩
  · intro p e s m args below meth c s₁ B hml hP _
    have hh0 : s₁.heap = s.heap := by rw [B.state]; rfl
    have ht : ∀ x ∈ c.exceptionTable.toList, False := by
      obtain ⟨meth9, c9, h1, h2, -, -, -, -, h7, -⟩ := Cond.code_spec B.named (atoms_spec (ws := ws) B.pre _ (by rw [hw]; exact List.mem_cons_self))
      cases Option.some.inj (h1.symm.trans B.method)
      cases Option.some.inj (h2.symm.trans (Stand.of_body B).code)
      intro x hx
      rw [Array.isEmpty_iff.mp h7] at hx
      cases hx
    obtain ⟨t, a1, o, b1, b2, b3⟩ := body p e s m args below meth c s₁ B hml ht hP s₁ hh0 (Stand.of_body B)
    exact ⟨t, o, a1, b1, b2, b3⟩
/-- the table of a body with handlers -/
theorem vx_table {p : Program} {x y : MethodName} {S : Spec} {cc bytes : ByteArray} {maxL maxL' : Nat} {ret ret' : Option FieldType} {e : Env} {s s₁ : State} {m : MethodId} {args : Array Value} {below : List Frame} {meth : Method} {c : Code} {hh : List (Nat × Nat × Nat × Nat)}
    (B : BodyLoose p l y S cc maxL ret e s m args below meth c s₁) (h : (Cond.codeWith y bytes maxL' ret' hh).before args s = true) : c.exceptionTable.toList = tableOf hh := by
  obtain ⟨m9, meth9, c9, hn9, h1, h2, -, -, h6, -⟩ := Cond.codeWith_spec h
  cases Option.some.inj (hn9.symm.trans B.named)
  cases Option.some.inj (h1.symm.trans B.method)
  cases Option.some.inj (h2.symm.trans (Stand.of_body B).code)
  rw [← h6, table_eq]
end Bodies
end VXA
/-! ===== END ===== -/
/-! ===== BEGIN a static call of a method with an exception table ===== -/
section VXS
variable {p : Program} {l : Launch} {e : Env} {R : Room} {s : State} {m : MethodId} {args : Array Value} {below : List Frame} {meth : Method} {c : Code} {T : State} {H : Heap} {locs : List Loc} {cells slots : Nat}
abbrev vx_CSW (R : Room) (s : State) (args : Array Value) (own : String) (index : Nat) (y : MethodName) (bytes : ByteArray) (maxL : Nat) (ret : Option FieldType) (hh : List (Nat × Nat × Nat × Nat)) (ws : List Cond) (rm : Room) (mc ms n : Nat) : Prop :=
  (rm.cells = mc ∧ rm.slots = ms ∧ rm.frames + 1 ≤ R.frames ∧ 8 + (maxL + 11) + rm.locals ≤ R.locals ∧ (∀ w ∈ ws, ∀ (a' : Array Value) (U : State), s.WarmedH U.vm → w.before a' U = true) ∧ Cond.codeWith y bytes maxL ret hh ∈ ws) ∧
  (Cond.codeWith y bytes maxL ret hh).before args s = true ∧ (Cond.initialized y.cls).before args s = true ∧ (y.cls ≠ "java/lang/invoke/MethodHandle" ∧ y.cls ≠ "java/lang/invoke/VarHandle") ∧
  (∀ sig, parseMethodDescriptor y.desc = some sig → n = sig.parameters.length) ∧ (Cond.methodLink own index y).before args s = true ∧ (Cond.static y).before args s = true
theorem vx_cwSW {own : String} {index maxL mc ms : Nat} {y : MethodName} {bytes : ByteArray} {ret : Option FieldType} {hh : List (Nat × Nat × Nat × Nat)} {Ts ws ws' : List Cond} {rm : Room} (n : Nat) (ht : ∀ w ∈ Ts, w.before args s = true) (hT : GoodIn Ts (va_wsS own index y ws)) (hw : ws = Cond.codeWith y bytes maxL ret hh :: ws') (hrc : rm.cells = mc) (hrs : rm.slots = ms)
    (hd : y.cls ≠ "java/lang/invoke/MethodHandle" ∧ y.cls ≠ "java/lang/invoke/VarHandle" ∧ (parseMethodDescriptor y.desc).map (fun d => d.parameters.length) = some n) (hR : rm.frames + 1 ≤ R.frames ∧ 8 + (maxL + 11) + rm.locals ≤ R.locals) :
    vx_CSW R s args own index y bytes maxL ret hh ws rm mc ms n := by
  have ok : ∀ w ∈ va_wsS own index y ws, w.before args s = true := fun w h => ht w (hT w h).1
  have hG : GoodIn Ts ws := fun w h => hT w (by unfold va_wsS; exact List.mem_append_right _ h)
  have hc : Cond.codeWith y bytes maxL ret hh ∈ ws := by rw [hw]; exact List.mem_cons_self
  refine ⟨⟨hrc, hrs, hR.1, hR.2, pay_in ht hG, hc⟩, ht _ (hG _ hc).1, ok _ (by simp [va_wsS]), ⟨hd.1, hd.2.1⟩, fun sig h => ?_, ok _ (by simp [va_wsS]), ok _ (by simp [va_wsS])⟩
  have h2 := hd.2.2
  rw [h] at h2
  exact (Option.some.inj h2).symm
theorem vx_callSW (X : Stand p l e R s m args below meth c T locs cells slots) (hexec : p.tables.exec = Jvm.exec) {own : String} {index : Nat} {y : MethodName} {bytes : ByteArray} {maxL : Nat} {ret : Option FieldType} {hh : List (Nat × Nat × Nat × Nat)}
    (hown : s.vm.findClass own = some m.cls) (hlink : (Cond.methodLink own index y).before args s = true) (hstat : (Cond.static y).before args s = true) (hinit : (Cond.initialized y.cls).before args s = true)
    (hcode : (Cond.codeWith y bytes maxL ret hh).before args s = true) (hy : y.cls ≠ "java/lang/invoke/MethodHandle" ∧ y.cls ≠ "java/lang/invoke/VarHandle")
    {W9 : Nat} {Pre : Pt → Array Value → Prop} {Post : Pt → Array Value → Option Value → Pt → Prop} (hK : Back l R p e below s args y 3 W9 Pre Post)
    {g : JFrame} (hg : g.method = m) (hsize : g.locals.size = c.maxLocals) {argsL rest : List Value} (hlen : ∀ sig, parseMethodDescriptor y.desc = some sig → argsL.length = sig.parameters.length)
    (hstack : g.stack = argsL.reverse ++ rest) (hW : 2 * g.monitorRoom + (rest.map fun v => v.category).sum ≤ W9) (hdg : decode c.code g.pc = .ok (.invokestatic index, 3))
    (hpre : ∀ vm₁, s.WarmedH vm₁ → Pre ⟨T.setVm vm₁, locs, cells, slots⟩ argsL.toArray) :
    ∃ (v : Option Value) (vm₁ : Vm) (B : Pt), s.WarmedH vm₁ ∧ Stand p l e R s m args below meth c B.U B.locs B.cells B.slots ∧ Post ⟨T.setVm vm₁, locs, cells, slots⟩ argsL.toArray v B ∧
      ∀ target, Steps p.tables e below (B.U.setTop { g with pc := g.pc + 3, stack := v.toList ++ rest }) target → Steps p.tables e below (T.setTop g) target := by
  obtain ⟨mk, methM, cM, hnamed, hmethM, -, -, -, -, -, -, hsigM⟩ := Cond.codeWith_spec hcode
  have hstatic : methM.isStatic = true := Cond.static_spec hnamed hmethM hstat
  obtain ⟨kP, hkP, -⟩ := className_of_methodNamed hnamed
  have hinitP : kP.init = .initialized := Cond.initialized_spec (findClass_of_methodNamed hnamed) hkP hinit
  obtain ⟨vm₁, X₁, hstep₁⟩ := X.invokestatic hexec hown hlink hnamed hmethM hstatic hkP hinitP hy (g := g) hg (argsL := argsL) (rest := rest) (hlen _ hsigM) hstack hdg
  obtain ⟨v, B, X', hpost, hsteps⟩ := hK m meth c ⟨T.setVm vm₁, locs, cells, slots⟩ { g with stack := rest } (.invokestatic index) mk argsL.toArray X₁ hg hsize hdg hW (X₁.named hnamed) (hpre vm₁ X₁.warmed)
  exact ⟨v, vm₁, B, X₁.warmed, X', hpost, fun target h => hstep₁ _ fun acts => by rw [doInvoke_state]; exact hsteps.trans h⟩
theorem vx_runSW {y : MethodName} {bytes cc : ByteArray} {maxL nL mc ms n index : Nat} {ret : Option FieldType} {hh : List (Nat × Nat × Nat × Nat)} {ws : List Cond} {rm : Room} {Pc : Array Value → State → Prop} {Qc : Array Value → State → Outcome → State → Prop} {free : Addr → Prop} {Ts : List Cond} {own : String} {As rest : List Value} {g : JFrame}
    (S : CallFix p m c cc nL s args Ts own) (hM : Met l y ws rm Pc Qc mc ms free) (cw : vx_CSW R s args own index y bytes maxL ret hh ws rm mc ms n) (hp : PreS s H Pc As)
    (hg : g.method = m) (hn : As.length = n) (hsize : g.locals.size = nL) (hstack : g.stack = As.reverse ++ rest) (hW : 2 * g.monitorRoom + (rest.map fun v => v.category).sum ≤ 8) (hdg : decode cc g.pc = .ok (.invokestatic index, 3)) (hf : cells + mc ≤ R.cells ∧ slots + ms ≤ R.slots) :
    va_Run p l e R s m args below meth c H locs cells slots mc ms g rest (Qc As.toArray) (free) := by
  obtain ⟨⟨hrc, hrs, hfr, hlo, hws, hcw⟩, hcode, hini, hy, hlen, hl, hstt⟩ := cw
  have hK : Back l R p e below s args y 3 8 (PreOf R mc ms Pc) (PostOf Qc mc ms free) := va_backW (hh := hh) (bytes := bytes) (maxL := maxL) (ret := ret) hM hp.1 hrc hrs hfr hlo hws hcw (fun a' U hW => word_at hW (Or.inl (by first | rfl | simp [Cond.onTables, Cond.keeps, Cond.steady])) hini)
  obtain ⟨hx, hb, hml, ho, -⟩ := S
  intro T hT X
  obtain ⟨v, vm₁, ⟨U', l2, c2, s2⟩, hW₁, X', ⟨g', mk, t, L, e1, e2, hq, h1, hL, h2, h3⟩, st⟩ := vx_callSW X hx (hh := hh) (bytes := bytes) (maxL := maxL) (ret := ret) ho hl hstt hini hcode hy hK hg (hsize.trans hml.symm) (argsL := As) (rest := rest) (fun sig h => hn.trans (hlen sig h)) hstack hW (by rw [hb]; exact hdg)
    (fun vm₁ hW₁ => ⟨hf.1, hf.2, hp.2 (T.setVm vm₁) hT hW₁⟩)
  dsimp only [Pt.U, Pt.locs, Pt.cells, Pt.slots] at X' e1 e2 h1 h2 h3 st
  subst h1; subst h2; subst h3
  exact ⟨v, (T.setVm vm₁).calling g' mk As.toArray, t, U', L, hT, X', hL, e1, e2, hq, st⟩
/-- not caught here, past rows that name other classes: it goes on to the caller -/
theorem vx_outP {p : Program} {l : Launch} {e : Env} {R : Room} {s : State} {m : MethodId} {args : Array Value} {below : List Frame} {meth : Method} {c : Code} {H : Heap} {locs : List Loc} {cells slots : Nat} {free : Addr → Prop} {ls : Array Slot} {rest : List Value} {Qc : Array Value → State → Outcome → State → Prop} {XC : String → State → State → Prop}
    {pc : Nat} {own E : String} {ce : Cell} {q : Addr} {mc ms : Nat} (hown : s.vm.findClass own = some m.cls) (hlocks : meth.locks = false)
    (hpass : ∀ z ∈ c.exceptionTable.toList, covers z pc = false ∨ (z.catchType ≠ 0 ∧ ∃ nm : String, (Cond.classLink own z.catchType nm).before args s = true ∧ va_Nc E nm s)) (hcell : H[q]? = some ce) (hv : ce.vm = .none) (hcl : s.vm.findClass E = some ce.cls)
    (hx : ∀ t : State, t.heap = H → s.vm.Alike t.vm → XC E s t) (hf : ∀ z ∈ locs, free z.base) (hc : cells ≤ mc) (hs : slots ≤ ms) :
    vx_W p l e R s m args below meth c H locs cells slots (vx_MQ below Qc XC args s mc ms free) (F0 m pc ls rest) q := by
  intro T hT X
  have hpl : e.platform.magicAccessors = ({} : Platform).magicAccessors := by rw [X.admits.platform]
  obtain ⟨vm', hW', X', st⟩ := X.outThrough hlocks q (g := F0 m pc ls rest) rfl rfl rfl (cell := ce) (by rw [hT]; exact hcell) (by rw [hv]; rfl)
    (by obtain ⟨k9, h9, -⟩ := Vm.findClass_spec hcl; exact ⟨k9, h9⟩) (fun z hz => by
      rcases hpass z hz with h | ⟨hz0, nm, hl1, hn1⟩
      · exact Or.inl h
      · obtain ⟨c6, hc6, hcl6⟩ := Cond.classLink_spec hown hl1 e.platform hpl
        obtain ⟨a8, b8, h1, h2, h3⟩ := hn1
        cases Option.some.inj (h1.symm.trans hcl)
        cases Option.some.inj (h2.symm.trans hc6)
        exact Or.inr ⟨hz0, _, hcl6, h3⟩)
  obtain ⟨g₀, hfr⟩ := X'.frames_eq
  have hcell9 : ((T.setVm vm').setFrames (.throwing q :: below)).heap[q]? = some ce := by
    show T.heap[q]? = some ce
    rw [hT]; exact hcell
  have hend : Ended ((T.setVm vm').setFrames (.throwing q :: below)) below (.threw q) := State.frames_setFrames _ (State.cur_lt_of_frames hfr)
  refine ⟨(T.setVm vm').setFrames (.throwing q :: below), ?_, .threw q, X'.here.running, hend, Or.inr ⟨q, rfl, E, ce, locs, hx _ hT (X'.ends _).1.alike, hcell9, hv, hcl, (X'.ends _).1, (X'.ends _).2.mono hc hs, hf⟩⟩
  rw [X.pushThrowing_eq]
  exact st
/-- a thing of a world lies in the heap -/
theorem vx_lt {D : va_G} {cl : List vw_C} {ws : va_W} {H1 : Heap} (h : va_P D cl ws H1) {k : Nat} {q : Nat × va_E} (hk : ws[k]? = some q) : q.1 < H1.size := (h k q hk).lt
end VXS
/-! ===== END ===== -/
/-! ===== BEGIN methods with a table of their own: called by a name, returning or throwing ===== -/
section VXH
/-! vx_backW, vx_callVX, vx_callSX, vx_callVW, vx_runVW, vx_runVX, vx_runSX, vx_ofWH follow the same proofs as their sisters above (Free/Laws.lean, Shelf42/LK1.lean); vx_outP calls Shelf42/NT130.lean (outThrough). -/
section
variable {l : Launch} {R : Room} {p : Program} {e : Env} {below : List Frame} {s : State} {sargs : Array Value} {y : MethodName} {len W9 : Nat}
theorem vx_backW {ws : List Cond} {rm : Room} {Pc : Array Value → State → Prop} {Qc : Array Value → State → Outcome → State → Prop} {XC : String → State → State → Prop} {mc ms : Nat} {free : Addr → Prop} {bytes : ByteArray} {maxL : Nat} {ret : Option FieldType} {hh : List (Nat × Nat × Nat × Nat)}
    (hM : vx_Met l y ws rm Pc Qc XC mc ms free) (hblind : FrameBlind Pc) (hrc : rm.cells = mc) (hrs : rm.slots = ms)
    (hframes : rm.frames + 1 ≤ R.frames) (hlocals : W9 + (maxL + 11) + rm.locals ≤ R.locals)
    (hws : ∀ w ∈ ws, ∀ a' U, s.WarmedH U.vm → w.before a' U = true) (hcode : Cond.codeWith y bytes maxL ret hh ∈ ws) (hinit : ∀ a' U, s.WarmedH U.vm → (Cond.initialized y.cls).before a' U = true) :
    vx_Back l R p e below s sargs y len W9 (PreOf R mc ms Pc) (PostOf Qc mc ms free) (vx_Post XC mc ms free) := by
  intro m meth c A g ig mk a X hg hsize hdg hW hn hp
  have h1 : (headSpec ws rm).pre.before a A.U = true := atoms_intro fun w hw => hws w hw _ _ X.warmed
  have h2 : (Cond.codeWith y bytes maxL ret hh).before a A.U = true := hws _ hcode _ _ X.warmed
  have h3 : (Cond.initialized y.cls).before a A.U = true := hinit _ _ X.warmed
  have h4 : A.cells + (headSpec ws rm).room.cells ≤ R.cells := by rw [show (headSpec ws rm).room.cells = mc from hrc]; exact hp.1
  have h5 : A.slots + (headSpec ws rm).room.slots ≤ R.slots := by rw [show (headSpec ws rm).room.slots = ms from hrs]; exact hp.2.1
  have hPc : Pc a (A.U.calling g mk a) := hblind _ _ _ _ hp.2.2
  obtain ⟨U, Ls, c0, s0⟩ := A
  dsimp only [Pt.U, Pt.locs, Pt.cells, Pt.slots] at h1 h2 h3 h4 h5 X hn hPc ⊢
  obtain ⟨m9, methY, cY, hn9, hmY, hcY, -, hlY, -⟩ := Cond.codeWith_spec h2
  cases Option.some.inj (hn9.symm.trans hn)
  obtain ⟨kY, hkY, -⟩ := className_of_methodNamed hn
  have hinitY : kY.init = .initialized := Cond.initialized_spec (findClass_of_methodNamed hn) hkY h3
  have h : At U g.method c below := by rw [hg]; exact X.here
  have hlocals9 : W9 + (maxL + 11) + (headSpec ws rm).room.locals ≤ R.locals := hlocals
  have happ : (headSpec ws rm).appliesLoose y e.platform (U.calling g mk a) = true :=
    Spec.appliesLoose_calling (g := g) h hdg hn hkY hinitY
      (X.room_calling (g := g) (R' := (headSpec ws rm).room) hsize hmY hcY hframes (by rw [hlY]; omega) h4 h5) h1
  obtain ⟨mid, hmid⟩ := h.above
  have hfr : (U.setTop g).frames = (.java g :: mid) ++ below := by rw [State.frames_setTop' g h.top, hmid]; rfl
  obtain ⟨o, s₂, hsteps, -, hend, hq⟩ := Steps.callFree hM p X.admits X.cas X.clock (acts := []) hfr happ hPc trivial
  have hq' : vx_Q Qc XC mc ms free a (U.calling g mk a) o s₂ := hq
  rw [State.frames_setTop' g h.top] at hend
  obtain ⟨g₀, hg0⟩ := Option.isSome_iff_exists.mp h.top
  obtain ⟨r, hr⟩ := State.topJava?_eq_some.mp hg0
  have hr' : (({ U with heap := s₂.heap, slotsUsed := s₂.slotsUsed } : State).setVm s₂.vm).frames = .java g₀ :: r := hr
  rcases hq' with ⟨hqc, L, hfe, hL⟩ | ⟨q, rfl, E, ce, L, hx, hce, hcv, hcl, hW₂, hsm, hL⟩
  · obtain ⟨⟨v, rfl⟩, hW₂, e2, q2, q3, q4, q5, q6⟩ := id hfe
    have e3 : s₂ = ({ (U.calling g mk a).setFrames s₂.frames with heap := s₂.heap, slotsUsed := s₂.slotsUsed } : State).setVm s₂.vm := by
      have : s₂ = ({ s₂ with vm := (U.calling g mk a).vm } : State).setVm s₂.vm := rfl
      rw [e2] at this
      exact this
    obtain ⟨c₂, i₂, len₂, hc₂, hd₂, hf₂⟩ := hend
    have hW' : U.WarmedH s₂.vm := hW₂
    have hcc : c₂ = c := by
      have h1 : s₂.code? g.method = U.code? g.method := by
        rw [State.code?_eq, State.code?_eq, hW'.alike.method?]
      exact Option.some.inj (hc₂.symm.trans (h1.trans h.code))
    subst hcc
    have hlen : len₂ = len := by rw [hdg] at hd₂; cases hd₂; rfl
    subst hlen
    have hs₂ : s₂ = (({ U with heap := s₂.heap, slotsUsed := s₂.slotsUsed } : State).setVm s₂.vm).setTop { g with pc := g.pc + len₂, stack := v.toList ++ g.stack } := by
      refine e3.trans ?_
      rw [hf₂, State.calling_eq h.top, State.setFrames_setFrames, State.setTop_of_frames _ hr', hr]
      rfl
    have hsame : U.sameButNew ({ U with heap := s₂.heap, slotsUsed := s₂.slotsUsed } : State) L mc ms := by
      refine ⟨?_, q2, q3, q4, q5, q6⟩
      obtain ⟨t, ht, -⟩ := State.frames_cons hr
      show ({ U with heap := s₂.heap, slotsUsed := s₂.slotsUsed } : State) = { U.setFrames U.frames with heap := s₂.heap, slotsUsed := s₂.slotsUsed }
      rw [State.setFrames_self ht]
    subst hg
    refine Or.inl ⟨v, ⟨(({ U with heap := s₂.heap, slotsUsed := s₂.slotsUsed } : State).setVm s₂.vm), Ls ++ L, c0 + mc, s0 + ms⟩,
      ⟨X.admits, X.cas, X.clock, X.frames, X.room, X.hears, X.method, X.code, (X.here.setHeapUsed s₂.heap s₂.slotsUsed).setVm hW'.alike, X.tail, State.WarmedH.trans X.warmed hW', X.limits, X.bytes, X.same.trans (hsame.setVm s.vm)⟩,
      ⟨g, mk, s₂, L, rfl, rfl, hqc, rfl, hL, rfl, rfl⟩, ?_⟩
    show Steps p.tables e below _ ((({ U with heap := s₂.heap, slotsUsed := s₂.slotsUsed } : State).setVm s₂.vm).setTop { g with pc := g.pc + len₂, stack := v.toList ++ g.stack })
    rw [← hs₂]
    exact hsteps
  · obtain ⟨e2, q2, q3, q4, q5, q6⟩ := id hsm
    have e3 : s₂ = ({ (U.calling g mk a).setFrames s₂.frames with heap := s₂.heap, slotsUsed := s₂.slotsUsed } : State).setVm s₂.vm := by
      have : s₂ = ({ s₂ with vm := (U.calling g mk a).vm } : State).setVm s₂.vm := rfl
      rw [e2] at this
      exact this
    have hf₂ : s₂.frames = .throwing q :: .java g :: U.frames.tail := hend
    have hW' : U.WarmedH s₂.vm := hW₂
    have hs₂ : s₂ = ((({ U with heap := s₂.heap, slotsUsed := s₂.slotsUsed } : State).setVm s₂.vm).setTop g).pushFrame (.throwing q) := by
      refine e3.trans ?_
      rw [hf₂, State.calling_eq h.top, State.setFrames_setFrames, State.pushFrame, State.frames_setTop _ hr', State.setTop_of_frames _ hr', State.setFrames_setFrames, hr]
      rfl
    have hsame : U.sameButNew ({ U with heap := s₂.heap, slotsUsed := s₂.slotsUsed } : State) L mc ms := by
      refine ⟨?_, q2, q3, q4, q5, q6⟩
      obtain ⟨t, ht, -⟩ := State.frames_cons hr
      show ({ U with heap := s₂.heap, slotsUsed := s₂.slotsUsed } : State) = { U.setFrames U.frames with heap := s₂.heap, slotsUsed := s₂.slotsUsed }
      rw [State.setFrames_self ht]
    subst hg
    refine Or.inr ⟨q, ⟨(({ U with heap := s₂.heap, slotsUsed := s₂.slotsUsed } : State).setVm s₂.vm), Ls ++ L, c0 + mc, s0 + ms⟩,
      ⟨X.admits, X.cas, X.clock, X.frames, X.room, X.hears, X.method, X.code, (X.here.setHeapUsed s₂.heap s₂.slotsUsed).setVm hW'.alike, X.tail, State.WarmedH.trans X.warmed hW', X.limits, X.bytes, X.same.trans (hsame.setVm s.vm)⟩,
      ⟨g, mk, s₂, L, E, ce, rfl, rfl, hx, hce, hcv, hcl, rfl, hL, rfl, rfl⟩, ?_⟩
    show Steps p.tables e below _ (((({ U with heap := s₂.heap, slotsUsed := s₂.slotsUsed } : State).setVm s₂.vm).setTop g).pushFrame (.throwing q))
    rw [← hs₂]
    exact hsteps
end
variable {p : Program} {l : Launch} {e : Env} {R : Room} {s : State} {m : MethodId} {args : Array Value} {below : List Frame} {meth : Method} {c : Code} {T : State} {H : Heap} {locs : List Loc} {cells slots : Nat}
theorem vx_callVX (X : Stand p l e R s m args below meth c T locs cells slots) (hexec : p.tables.exec = Jvm.exec) {own C : String} {index : Nat} {y : MethodName} {bytes : ByteArray} {maxL : Nat} {ret : Option FieldType} {hh : List (Nat × Nat × Nat × Nat)}
    (hown : s.vm.findClass own = some m.cls) (hlink : (Cond.methodLink own index y).before args s = true) (hinst : (Cond.instanceMethod y).before args s = true) (hsel : (Cond.selects C y y).before args s = true)
    (hcode : (Cond.codeWith y bytes maxL ret hh).before args s = true) (hy : y.cls ≠ "java/lang/invoke/MethodHandle" ∧ y.cls ≠ "java/lang/invoke/VarHandle")
    {W9 : Nat} {Pre : Pt → Array Value → Prop} {Post : Pt → Array Value → Option Value → Pt → Prop} {PostX : Pt → Array Value → Addr → Pt → Prop} (hK : vx_Back l R p e below s args y 3 W9 Pre Post PostX)
    {b : Addr} {cellB : Cell} (hcell : T.heap[b]? = some cellB) (hobj : cellB.vm.isStatics = false) (hcls : s.vm.findClass C = some cellB.cls)
    {g : JFrame} (hg : g.method = m) (hsize : g.locals.size = c.maxLocals) {argsL rest : List Value} (hlen : ∀ sig, parseMethodDescriptor y.desc = some sig → argsL.length = sig.parameters.length)
    (hstack : g.stack = argsL.reverse ++ .ref b :: rest) (hW : 2 * g.monitorRoom + (rest.map fun v => v.category).sum ≤ W9) (hdg : decode c.code g.pc = .ok (.invokevirtual index, 3))
    (hpre : ∀ vm₁, s.WarmedH vm₁ → Pre ⟨T.setVm vm₁, locs, cells, slots⟩ (Value.ref b :: argsL).toArray) :
    (∃ (v : Option Value) (vm₁ : Vm) (B : Pt), s.WarmedH vm₁ ∧ Stand p l e R s m args below meth c B.U B.locs B.cells B.slots ∧ Post ⟨T.setVm vm₁, locs, cells, slots⟩ (Value.ref b :: argsL).toArray v B ∧
      ∀ target, Steps p.tables e below (B.U.setTop { g with pc := g.pc + 3, stack := v.toList ++ rest }) target → Steps p.tables e below (T.setTop g) target) ∨
    (∃ (q : Addr) (vm₁ : Vm) (B : Pt), s.WarmedH vm₁ ∧ Stand p l e R s m args below meth c B.U B.locs B.cells B.slots ∧ PostX ⟨T.setVm vm₁, locs, cells, slots⟩ (Value.ref b :: argsL).toArray q B ∧
      Steps p.tables e below (T.setTop g) ((B.U.setTop { g with stack := rest }).pushFrame (.throwing q))) := by
  obtain ⟨mk, methM, hnamed, hmethM, hstM, habM⟩ := Cond.instanceMethod_spec hinst
  obtain ⟨m8, methM', cM, hn8, hmethM', -, -, -, -, -, -, hsigM⟩ := Cond.codeWith_spec hcode
  cases Option.some.inj (hn8.symm.trans hnamed)
  cases hmethM.symm.trans hmethM'
  obtain ⟨c2, r2, m2, q1, q2, q3, q4, kP, hkP, hkPi⟩ := Cond.selects_spec hsel
  cases hcls.symm.trans q1
  cases (State.methodFound?_of_named hnamed hy).symm.trans q2
  cases hnamed.symm.trans q3
  have hselP : selectMethod e.platform s.vm cellB.cls mk = .method mk := by rw [Launch.admits_selectMethod X.admits]; exact q4
  obtain ⟨vm₁, X₁, hstep₁⟩ := X.invokevirtual hexec hown hlink hnamed hmethM hstM hkP hkPi hy (a := b) (cell := cellB) hcell
    (fun z h => by rw [h] at hobj; cases hobj) hselP hmethM habM hkP hkPi (g := g) hg (argsL := argsL) (rest := rest) (hlen _ hsigM) hstack hdg
  rcases hK m meth c ⟨T.setVm vm₁, locs, cells, slots⟩ { g with stack := rest } (.invokevirtual index) mk (Value.ref b :: argsL).toArray X₁ hg hsize hdg hW (X₁.named hnamed) (hpre vm₁ X₁.warmed) with ⟨v, B, X', hpost, hsteps⟩ | ⟨q, B, X', hpost, hsteps⟩
  · exact Or.inl ⟨v, vm₁, B, X₁.warmed, X', hpost, fun target h => hstep₁ _ fun acts => by rw [doInvoke_state]; exact hsteps.trans h⟩
  · exact Or.inr ⟨q, vm₁, B, X₁.warmed, X', hpost, hstep₁ _ fun acts => by rw [doInvoke_state]; exact hsteps⟩
theorem vx_callSX (X : Stand p l e R s m args below meth c T locs cells slots) (hexec : p.tables.exec = Jvm.exec) {own : String} {index : Nat} {y : MethodName} {bytes : ByteArray} {maxL : Nat} {ret : Option FieldType} {hh : List (Nat × Nat × Nat × Nat)}
    (hown : s.vm.findClass own = some m.cls) (hlink : (Cond.methodLink own index y).before args s = true) (hstat : (Cond.static y).before args s = true) (hinit : (Cond.initialized y.cls).before args s = true)
    (hcode : (Cond.codeWith y bytes maxL ret hh).before args s = true) (hy : y.cls ≠ "java/lang/invoke/MethodHandle" ∧ y.cls ≠ "java/lang/invoke/VarHandle")
    {W9 : Nat} {Pre : Pt → Array Value → Prop} {Post : Pt → Array Value → Option Value → Pt → Prop} {PostX : Pt → Array Value → Addr → Pt → Prop} (hK : vx_Back l R p e below s args y 3 W9 Pre Post PostX)
    {g : JFrame} (hg : g.method = m) (hsize : g.locals.size = c.maxLocals) {argsL rest : List Value} (hlen : ∀ sig, parseMethodDescriptor y.desc = some sig → argsL.length = sig.parameters.length)
    (hstack : g.stack = argsL.reverse ++ rest) (hW : 2 * g.monitorRoom + (rest.map fun v => v.category).sum ≤ W9) (hdg : decode c.code g.pc = .ok (.invokestatic index, 3))
    (hpre : ∀ vm₁, s.WarmedH vm₁ → Pre ⟨T.setVm vm₁, locs, cells, slots⟩ argsL.toArray) :
    (∃ (v : Option Value) (vm₁ : Vm) (B : Pt), s.WarmedH vm₁ ∧ Stand p l e R s m args below meth c B.U B.locs B.cells B.slots ∧ Post ⟨T.setVm vm₁, locs, cells, slots⟩ argsL.toArray v B ∧
      ∀ target, Steps p.tables e below (B.U.setTop { g with pc := g.pc + 3, stack := v.toList ++ rest }) target → Steps p.tables e below (T.setTop g) target) ∨
    (∃ (q : Addr) (vm₁ : Vm) (B : Pt), s.WarmedH vm₁ ∧ Stand p l e R s m args below meth c B.U B.locs B.cells B.slots ∧ PostX ⟨T.setVm vm₁, locs, cells, slots⟩ argsL.toArray q B ∧
      Steps p.tables e below (T.setTop g) ((B.U.setTop { g with stack := rest }).pushFrame (.throwing q))) := by
  obtain ⟨mk, methM, cM, hnamed, hmethM, -, -, -, -, -, -, hsigM⟩ := Cond.codeWith_spec hcode
  have hstatic : methM.isStatic = true := Cond.static_spec hnamed hmethM hstat
  obtain ⟨kP, hkP, -⟩ := className_of_methodNamed hnamed
  have hinitP : kP.init = .initialized := Cond.initialized_spec (findClass_of_methodNamed hnamed) hkP hinit
  obtain ⟨vm₁, X₁, hstep₁⟩ := X.invokestatic hexec hown hlink hnamed hmethM hstatic hkP hinitP hy (g := g) hg (argsL := argsL) (rest := rest) (hlen _ hsigM) hstack hdg
  rcases hK m meth c ⟨T.setVm vm₁, locs, cells, slots⟩ { g with stack := rest } (.invokestatic index) mk argsL.toArray X₁ hg hsize hdg hW (X₁.named hnamed) (hpre vm₁ X₁.warmed) with ⟨v, B, X', hpost, hsteps⟩ | ⟨q, B, X', hpost, hsteps⟩
  · exact Or.inl ⟨v, vm₁, B, X₁.warmed, X', hpost, fun target h => hstep₁ _ fun acts => by rw [doInvoke_state]; exact hsteps.trans h⟩
  · exact Or.inr ⟨q, vm₁, B, X₁.warmed, X', hpost, hstep₁ _ fun acts => by rw [doInvoke_state]; exact hsteps⟩
theorem vx_callVW (X : Stand p l e R s m args below meth c T locs cells slots) (hexec : p.tables.exec = Jvm.exec) {own C : String} {index : Nat} {y : MethodName} {bytes : ByteArray} {maxL : Nat} {ret : Option FieldType} {hh : List (Nat × Nat × Nat × Nat)}
    (hown : s.vm.findClass own = some m.cls) (hlink : (Cond.methodLink own index y).before args s = true) (hinst : (Cond.instanceMethod y).before args s = true) (hsel : (Cond.selects C y y).before args s = true)
    (hcode : (Cond.codeWith y bytes maxL ret hh).before args s = true) (hy : y.cls ≠ "java/lang/invoke/MethodHandle" ∧ y.cls ≠ "java/lang/invoke/VarHandle")
    {W9 : Nat} {Pre : Pt → Array Value → Prop} {Post : Pt → Array Value → Option Value → Pt → Prop} (hK : Back l R p e below s args y 3 W9 Pre Post)
    {b : Addr} {cellB : Cell} (hcell : T.heap[b]? = some cellB) (hobj : cellB.vm.isStatics = false) (hcls : s.vm.findClass C = some cellB.cls)
    {g : JFrame} (hg : g.method = m) (hsize : g.locals.size = c.maxLocals) {argsL rest : List Value} (hlen : ∀ sig, parseMethodDescriptor y.desc = some sig → argsL.length = sig.parameters.length)
    (hstack : g.stack = argsL.reverse ++ .ref b :: rest) (hW : 2 * g.monitorRoom + (rest.map fun v => v.category).sum ≤ W9) (hdg : decode c.code g.pc = .ok (.invokevirtual index, 3))
    (hpre : ∀ vm₁, s.WarmedH vm₁ → Pre ⟨T.setVm vm₁, locs, cells, slots⟩ (Value.ref b :: argsL).toArray) :
    ∃ (v : Option Value) (vm₁ : Vm) (B : Pt), s.WarmedH vm₁ ∧ Stand p l e R s m args below meth c B.U B.locs B.cells B.slots ∧ Post ⟨T.setVm vm₁, locs, cells, slots⟩ (Value.ref b :: argsL).toArray v B ∧
      ∀ target, Steps p.tables e below (B.U.setTop { g with pc := g.pc + 3, stack := v.toList ++ rest }) target → Steps p.tables e below (T.setTop g) target := by
  obtain ⟨mk, methM, hnamed, hmethM, hstM, habM⟩ := Cond.instanceMethod_spec hinst
  obtain ⟨m8, methM', cM, hn8, hmethM', -, -, -, -, -, -, hsigM⟩ := Cond.codeWith_spec hcode
  cases Option.some.inj (hn8.symm.trans hnamed)
  cases hmethM.symm.trans hmethM'
  obtain ⟨c2, r2, m2, q1, q2, q3, q4, kP, hkP, hkPi⟩ := Cond.selects_spec hsel
  cases hcls.symm.trans q1
  cases (State.methodFound?_of_named hnamed hy).symm.trans q2
  cases hnamed.symm.trans q3
  have hselP : selectMethod e.platform s.vm cellB.cls mk = .method mk := by rw [Launch.admits_selectMethod X.admits]; exact q4
  obtain ⟨vm₁, X₁, hstep₁⟩ := X.invokevirtual hexec hown hlink hnamed hmethM hstM hkP hkPi hy (a := b) (cell := cellB) hcell
    (fun z h => by rw [h] at hobj; cases hobj) hselP hmethM habM hkP hkPi (g := g) hg (argsL := argsL) (rest := rest) (hlen _ hsigM) hstack hdg
  obtain ⟨v, B, X', hpost, hsteps⟩ := hK m meth c ⟨T.setVm vm₁, locs, cells, slots⟩ { g with stack := rest } (.invokevirtual index) mk (Value.ref b :: argsL).toArray X₁ hg hsize hdg hW (X₁.named hnamed) (hpre vm₁ X₁.warmed)
  exact ⟨v, vm₁, B, X₁.warmed, X', hpost, fun target h => hstep₁ _ fun acts => by rw [doInvoke_state]; exact hsteps.trans h⟩
abbrev vx_CVW (R : Room) (s : State) (args : Array Value) (own C : String) (index : Nat) (y : MethodName) (bytes : ByteArray) (maxL : Nat) (ret : Option FieldType) (hh : List (Nat × Nat × Nat × Nat)) (ws : List Cond) (rm : Room) (mc ms n : Nat) : Prop :=
  (rm.cells = mc ∧ rm.slots = ms ∧ rm.frames + 1 ≤ R.frames ∧ 8 + (maxL + 11) + rm.locals ≤ R.locals ∧ (∀ w ∈ ws, ∀ (a' : Array Value) (U : State), s.WarmedH U.vm → w.before a' U = true) ∧ Cond.codeWith y bytes maxL ret hh ∈ ws) ∧
  (Cond.codeWith y bytes maxL ret hh).before args s = true ∧ (Cond.initialized y.cls).before args s = true ∧ (y.cls ≠ "java/lang/invoke/MethodHandle" ∧ y.cls ≠ "java/lang/invoke/VarHandle") ∧
  (∀ sig, parseMethodDescriptor y.desc = some sig → n = sig.parameters.length) ∧ (Cond.methodLink own index y).before args s = true ∧ (Cond.instanceMethod y).before args s = true ∧ (Cond.selects C y y).before args s = true
theorem vx_cwVW {own C : String} {index maxL mc ms : Nat} {y : MethodName} {bytes : ByteArray} {ret : Option FieldType} {hh : List (Nat × Nat × Nat × Nat)} {Ts ws ws' : List Cond} {rm : Room} (n : Nat) (ht : ∀ w ∈ Ts, w.before args s = true) (hT : GoodIn Ts (wsV own index C y ws)) (hw : ws = Cond.codeWith y bytes maxL ret hh :: ws') (hrc : rm.cells = mc) (hrs : rm.slots = ms)
    (hd : y.cls = C ∧ y.cls ≠ "java/lang/invoke/MethodHandle" ∧ y.cls ≠ "java/lang/invoke/VarHandle" ∧ (parseMethodDescriptor y.desc).map (fun d => d.parameters.length) = some n) (hR : rm.frames + 1 ≤ R.frames ∧ 8 + (maxL + 11) + rm.locals ≤ R.locals) :
    vx_CVW R s args own C index y bytes maxL ret hh ws rm mc ms n := by
  obtain ⟨hC, hd⟩ := hd
  subst hC
  have ok : ∀ w ∈ wsV own index y.cls y ws, w.before args s = true := fun w h => ht w (hT w h).1
  have hG : GoodIn Ts ws := fun w h => hT w (by unfold wsV; exact List.mem_append_right _ h)
  have hc : Cond.codeWith y bytes maxL ret hh ∈ ws := by rw [hw]; exact List.mem_cons_self
  refine ⟨⟨hrc, hrs, hR.1, hR.2, pay_in ht hG, hc⟩, ht _ (hG _ hc).1, ok _ (by simp [wsV]), ⟨hd.1, hd.2.1⟩, fun sig h => ?_, ok _ (by simp [wsV]), ok _ (by simp [wsV]), ok _ (by simp [wsV])⟩
  have h2 := hd.2.2
  rw [h] at h2
  exact (Option.some.inj h2).symm
theorem vx_runVW {y : MethodName} {bytes cc : ByteArray} {maxL nL mc ms n index : Nat} {ret : Option FieldType} {hh : List (Nat × Nat × Nat × Nat)} {ws : List Cond} {rm : Room} {Pc : Array Value → State → Prop} {Qc : Array Value → State → Outcome → State → Prop} {free : Addr → Prop} {Ts : List Cond} {own C : String} {b : Addr} {As rest : List Value} {g : JFrame}
    (S : CallFix p m c cc nL s args Ts own) (hM : Met l y ws rm Pc Qc mc ms free) (cw : vx_CVW R s args own C index y bytes maxL ret hh ws rm mc ms n) (hp : PreV s H C b Pc As)
    (hg : g.method = m) (hn : As.length = n) (hsize : g.locals.size = nL) (hstack : g.stack = As.reverse ++ .ref b :: rest) (hW : 2 * g.monitorRoom + (rest.map fun v => v.category).sum ≤ 8) (hdg : decode cc g.pc = .ok (.invokevirtual index, 3)) (hf : cells + mc ≤ R.cells ∧ slots + ms ≤ R.slots) :
    va_Run p l e R s m args below meth c H locs cells slots mc ms g rest (Qc (Value.ref b :: As).toArray) free := by
  obtain ⟨⟨hrc, hrs, hfr, hlo, hws, hcw⟩, hcode, hini, hy, hlen, hl, hin, hse⟩ := cw
  have hK : Back l R p e below s args y 3 8 (PreOf R mc ms Pc) (PostOf Qc mc ms free) := va_backW (hh := hh) (bytes := bytes) (maxL := maxL) (ret := ret) hM hp.1 hrc hrs hfr hlo hws hcw (fun a' U hW => word_at hW (Or.inl (by first | rfl | simp [Cond.onTables, Cond.keeps, Cond.steady])) hini)
  obtain ⟨hx, hb, hml, ho, -⟩ := S
  obtain ⟨-, ⟨cellB, hcB, hoB, hclB⟩, hPc⟩ := hp
  intro T hT X
  obtain ⟨v, vm₁, ⟨U', l2, c2, s2⟩, hW₁, X', ⟨g', mk, t, L, e1, e2, hq, h1, hL, h2, h3⟩, st⟩ := vx_callVW X hx (C := C) (hh := hh) (bytes := bytes) (maxL := maxL) (ret := ret) ho hl hin hse hcode hy hK (by rw [hT]; exact hcB) hoB hclB hg (hsize.trans hml.symm) (argsL := As) (rest := rest) (fun sig h => hn.trans (hlen sig h)) hstack hW (by rw [hb]; exact hdg)
    (fun vm₁ hW₁ => ⟨hf.1, hf.2, hPc (T.setVm vm₁) hT hW₁⟩)
  dsimp only [Pt.U, Pt.locs, Pt.cells, Pt.slots] at X' e1 e2 h1 h2 h3 st
  subst h1; subst h2; subst h3
  exact ⟨v, (T.setVm vm₁).calling g' mk (Value.ref b :: As).toArray, t, U', L, hT, X', hL, e1, e2, hq, st⟩
section
variable {y : MethodName} {bytes cc : ByteArray} {maxL nL mc ms n index : Nat} {ret : Option FieldType} {ws : List Cond} {rm : Room} {Pc : Array Value → State → Prop} {Qc : Array Value → State → Outcome → State → Prop} {XC : String → State → State → Prop} {free : Addr → Prop} {Ts : List Cond} {own C : String} {b : Addr} {As rest : List Value} {g : JFrame}
theorem vx_runVX {hh : List (Nat × Nat × Nat × Nat)} (S : CallFix p m c cc nL s args Ts own) (hM : vx_Met l y ws rm Pc Qc XC mc ms free) (cw : vx_CVW R s args own C index y bytes maxL ret hh ws rm mc ms n) (hp : PreV s H C b Pc As)
    (hg : g.method = m) (hn : As.length = n) (hsize : g.locals.size = nL) (hstack : g.stack = As.reverse ++ .ref b :: rest) (hW : 2 * g.monitorRoom + (rest.map fun v => v.category).sum ≤ 8) (hdg : decode cc g.pc = .ok (.invokevirtual index, 3)) (hf : cells + mc ≤ R.cells ∧ slots + ms ≤ R.slots) :
    vx_Run p l e R s m args below meth c H locs cells slots mc ms g rest (Qc (Value.ref b :: As).toArray) XC free := by
  obtain ⟨⟨hrc, hrs, hfr, hlo, hws, hcw⟩, hcode, hini, hy, hlen, hl, hin, hse⟩ := cw
  have hK : vx_Back l R p e below s args y 3 8 (PreOf R mc ms Pc) (PostOf Qc mc ms free) (vx_Post XC mc ms free) := vx_backW (hh := hh) (bytes := bytes) (maxL := maxL) (ret := ret) hM hp.1 hrc hrs hfr hlo hws hcw (fun a' U hW => word_at hW (Or.inl (by first | rfl | simp [Cond.onTables, Cond.keeps, Cond.steady])) hini)
  obtain ⟨hx, hb, hml, ho, -⟩ := S
  obtain ⟨-, ⟨cellB, hcB, hoB, hclB⟩, hPc⟩ := hp
  intro T hT X
  rcases vx_callVX X hx (C := C) (hh := hh) (bytes := bytes) (maxL := maxL) (ret := ret) ho hl hin hse hcode hy hK (by rw [hT]; exact hcB) hoB hclB hg (hsize.trans hml.symm) (argsL := As) (rest := rest) (fun sig h => hn.trans (hlen sig h)) hstack hW (by rw [hb]; exact hdg)
    (fun vm₁ hW₁ => ⟨hf.1, hf.2, hPc (T.setVm vm₁) hT hW₁⟩) with ⟨v, vm₁, ⟨U', l2, c2, s2⟩, hW₁, X', ⟨g', mk, t, L, e1, e2, hq, h1, hL, h2, h3⟩, st⟩ | ⟨q, vm₁, ⟨U', l2, c2, s2⟩, hW₁, X', ⟨g', mk, t, L, E, ce, e1, e2, hq, hce, hcv, hcl, h1, hL, h2, h3⟩, st⟩
  · dsimp only [Pt.U, Pt.locs, Pt.cells, Pt.slots] at X' e1 e2 h1 h2 h3 st
    subst h1; subst h2; subst h3
    exact Or.inl ⟨v, (T.setVm vm₁).calling g' mk (Value.ref b :: As).toArray, t, U', L, hT, X', hL, e1, e2, hq, st⟩
  · dsimp only [Pt.U, Pt.locs, Pt.cells, Pt.slots] at X' e1 e2 h1 h2 h3 st hcl
    subst h1; subst h2; subst h3
    exact Or.inr ⟨q, (T.setVm vm₁).calling g' mk (Value.ref b :: As).toArray, t, U', L, E, ce, hT, X', hL, e1, e2, hq, hce, hcv, vx_cls hW₁ hcl, st⟩
theorem vx_runSX {hh : List (Nat × Nat × Nat × Nat)} (S : CallFix p m c cc nL s args Ts own) (hM : vx_Met l y ws rm Pc Qc XC mc ms free) (cw : vx_CSW R s args own index y bytes maxL ret hh ws rm mc ms n) (hp : PreS s H Pc As)
    (hg : g.method = m) (hn : As.length = n) (hsize : g.locals.size = nL) (hstack : g.stack = As.reverse ++ rest) (hW : 2 * g.monitorRoom + (rest.map fun v => v.category).sum ≤ 8) (hdg : decode cc g.pc = .ok (.invokestatic index, 3)) (hf : cells + mc ≤ R.cells ∧ slots + ms ≤ R.slots) :
    vx_Run p l e R s m args below meth c H locs cells slots mc ms g rest (Qc As.toArray) XC free := by
  obtain ⟨⟨hrc, hrs, hfr, hlo, hws, hcw⟩, hcode, hini, hy, hlen, hl, hstt⟩ := cw
  have hK : vx_Back l R p e below s args y 3 8 (PreOf R mc ms Pc) (PostOf Qc mc ms free) (vx_Post XC mc ms free) := vx_backW (hh := hh) (bytes := bytes) (maxL := maxL) (ret := ret) hM hp.1 hrc hrs hfr hlo hws hcw (fun a' U hW => word_at hW (Or.inl (by first | rfl | simp [Cond.onTables, Cond.keeps, Cond.steady])) hini)
  obtain ⟨hx, hb, hml, ho, -⟩ := S
  intro T hT X
  rcases vx_callSX X hx (hh := hh) (bytes := bytes) (maxL := maxL) (ret := ret) ho hl hstt hini hcode hy hK hg (hsize.trans hml.symm) (argsL := As) (rest := rest) (fun sig h => hn.trans (hlen sig h)) hstack hW (by rw [hb]; exact hdg)
    (fun vm₁ hW₁ => ⟨hf.1, hf.2, hp.2 (T.setVm vm₁) hT hW₁⟩) with ⟨v, vm₁, ⟨U', l2, c2, s2⟩, hW₁, X', ⟨g', mk, t, L, e1, e2, hq, h1, hL, h2, h3⟩, st⟩ | ⟨q, vm₁, ⟨U', l2, c2, s2⟩, hW₁, X', ⟨g', mk, t, L, E, ce, e1, e2, hq, hce, hcv, hcl, h1, hL, h2, h3⟩, st⟩
  · dsimp only [Pt.U, Pt.locs, Pt.cells, Pt.slots] at X' e1 e2 h1 h2 h3 st
    subst h1; subst h2; subst h3
    exact Or.inl ⟨v, (T.setVm vm₁).calling g' mk As.toArray, t, U', L, hT, X', hL, e1, e2, hq, st⟩
  · dsimp only [Pt.U, Pt.locs, Pt.cells, Pt.slots] at X' e1 e2 h1 h2 h3 st hcl
    subst h1; subst h2; subst h3
    exact Or.inr ⟨q, (T.setVm vm₁).calling g' mk As.toArray, t, U', L, E, ce, hT, X', hL, e1, e2, hq, hce, hcv, vx_cls hW₁ hcl, st⟩
end
end VXH
theorem vx_ofWH {l : Launch} {y : MethodName} {ws ws' : List Cond} {rm : Room} {Pc : Array Value → State → Prop} {Qc : Array Value → State → Outcome → State → Prop} {XC : String → State → State → Prop} {mc ms : Nat} {free : Addr → Prop} {cc : ByteArray} {maxL : Nat} {ret : Option FieldType} {hh : List (Nat × Nat × Nat × Nat)}
    (hy : plainName y.cls = true) (hw : ws = Cond.codeWith y cc maxL ret hh :: ws')
    (body : ∀ p e s m args below meth c s₁, BodyLoose p l y (headSpec ws rm) cc maxL ret e s m args below meth c s₁ → c.maxLocals = maxL → Pc args s →
      W p l e (headSpec ws rm).room s m args below meth c s.heap [] 0 0 (vx_MQ below Qc XC args s mc ms free) (entryFrame m args maxL)) : vx_Met l y ws rm Pc Qc XC mc ms free := by
  refine MetFree.of_bodyS (code := cc) (maxLocals := maxL) (ret := ret) hy ?_ ?_
  · intro args s m h hn
    obtain ⟨m9, meth, c, hn9, h1, h2, h3, h4, -, h5, h6, -⟩ := Cond.codeWith_spec (atoms_spec (ws := ws) h _ (by rw [hw]; exact List.mem_cons_self))
    cases hn.symm.trans hn9
    exact ⟨meth, c, h1, h2, h3, h4, h5, h6⟩
  · intro p e s m args below meth c s₁ B hml hP _
    have hh0 : s₁.heap = s.heap := by rw [B.state]; rfl
    obtain ⟨t, a1, o, b1, b2, b3⟩ := body p e s m args below meth c s₁ B hml hP s₁ hh0 (Stand.of_body B)
    exact ⟨t, o, a1, b1, b2, b3⟩
/-! ===== END ===== -/

/-! ===== BEGIN what the machine throws by itself, no traces kept ===== -/
section VXM
set_option maxHeartbeats 1000000 in
/-- the machine throws cls with the message text, no traces kept: from its note over the frame g to 'throwing' over the same frame (follows the proofs of Stand.vmThrowsMessage, Shelf/KitTracedVmS.lean, and Stand.throwsMessageColdBareV, StandMessageColdV.lean, without the step out of the frame) -/
theorem vx_vmAt {p : Program} {l : Launch} {e : Env} {R : Room} {s : State} {m₀ : MethodId} {args : Array Value} {below : List Frame} {meth : Method} {c : Code} {W : State} {locs : List Loc} {cells slots : Nat}
    (X : Stand p l e R s m₀ args below meth c W locs cells slots) (hexec : p.tables.exec = Jvm.exec) (htr : e.platform.stackTraces = false) {cls : String} {names : List String} {text : String}
    (hcls : Bundle.fit cls = true) (hnames : ∀ n ∈ names, Bundle.fit n = true) (hsoe : (cls == "java/lang/StackOverflowError") = false) (hoom : (cls == "java/lang/OutOfMemoryError") = false)
    (h : ∀ a ∈ Bundle.messageArmAtoms cls names, a.before args s = true)
    (hlocs : ∀ x ∈ locs, ∀ cell, s.heap[x.base]? = some cell → cell.vm.isStatics = false)
    (htext : (text == notModelled) = false) (hlimit : ¬ (stringBytes (stringToUtf16 text)).size > e.platform.arrayLengthLimit) (hheap : ¬ (stringBytes (stringToUtf16 text)).size * componentBytes .byte > e.platform.maxHeapBytes)
    {g : JFrame} (hg : g.method = m₀) (hsize : g.locals.size = c.maxLocals)
    (hRframes : names.length + 4 < R.frames) (hRlocals : 2 * g.monitorRoom + (g.stack.map fun v => v.category).sum + 10240 ≤ R.locals) (hshort : 13 * names.length + 55 ≤ 10240)
    (hRcells : cells + 3 ≤ R.cells) (hRslots : slots + ((stringBytes (stringToUtf16 text)).size + 4 + 6) ≤ R.slots) (hlocks : meth.locks = false) :
    ∃ (S : State) (q : Addr) (ce : Cell), (∀ target, Steps p.tables e below ((S.setTop g).pushFrame (.throwing q)) target → Steps p.tables e below ((W.setTop g).pushFrame (.throwNew cls (some text) none)) target) ∧
      Stand p l e R s m₀ args below meth c S locs (cells + 3) (slots + ((stringBytes (stringToUtf16 text)).size + 4 + 6)) ∧ S.heap[q]? = some ce ∧ s.vm.findClass cls = some ce.cls ∧ ce.vm = .none := by
  have howns : e.platform.frameOwnsMonitors = true := by rw [X.admits.platform]
  have hfin : e.platform.finalization = false := by rw [X.admits.platform]
  have hpl : e.platform.magicAccessors = ({} : Platform).magicAccessors := by rw [X.admits.platform]
  have a : ∀ x, x ∈ Bundle.messageArmAtoms cls names → x.holds args s none s [] = true := fun x hx => h x hx
  obtain ⟨T, Z0, L, -, Y⟩ := ThrowableC.of_atoms (args := args) howns hfin hpl (fun x hx => h x (by simp [Bundle.messageArmAtoms, hx]))
  obtain ⟨Z, M, LZ, LM, hnZ⟩ := Init0T.ofS_atoms (args := args) hpl L Y (fun x hx => h x (by simp [Bundle.messageArmAtoms, hx]))
  obtain ⟨P1, Ps, hlen, L1, hL, hP1m, hlink1, hlink⟩ := Bundle.chainS (args := args) hpl hnZ names cls hcls hnames (fun x hx => h x (by simp [Bundle.messageArmAtoms, hx]))
  obtain ⟨Zs, LZs, hn4, hfitv, hfitc⟩ := StringT.of_atoms (args := args) (fun x hx => h x (by simp [Bundle.messageArmAtoms, hx]))
  have hfound : s.vm.findClass cls = some P1.m.cls := findClass_of_methodNamed hP1m
  obtain ⟨c1, kX, hc1, hk, hord, -, -, hn6⟩ := Cond.instantiable_spec (a (.instantiable cls 6) (by simp [Bundle.messageArmAtoms]))
  cases Option.some.inj (hc1.symm.trans hfound)
  have hinit := Cond.initialized_spec hfound hk (a (.initialized cls) (by simp [Bundle.messageArmAtoms]))
  have hctor : kX.findMethod "<init>" "(Ljava/lang/String;)V" = some P1.m.idx := findMethod_of_methodNamed hP1m hk
  have hsel0 : selectMethod e.platform s.vm P1.m.cls T.fill0 = .method T.fill0 := by
    obtain ⟨c2, r2, m2, q1, q2, q3, q4, -⟩ := Cond.selects_spec (a (.selects cls Bundle.tFill0 Bundle.tFill0) (by simp [Bundle.messageArmAtoms]))
    cases Option.some.inj (q1.symm.trans hfound)
    cases Option.some.inj (q2.symm.trans (State.methodFound?_of_named Y.fill0 (by decide)))
    cases Option.some.inj (q3.symm.trans Y.fill0)
    rw [Launch.admits_selectMethod X.admits]; exact q4
  have hselF : selectMethod e.platform s.vm P1.m.cls T.fill = .method T.fill := by
    obtain ⟨c2, r2, m2, q1, q2, q3, q4, -⟩ := Cond.selects_spec (a (.selects cls Bundle.tFill Bundle.tFill) (by simp [Bundle.messageArmAtoms]))
    cases Option.some.inj (q1.symm.trans hfound)
    cases Option.some.inj (q2.symm.trans (State.methodFound?_of_named Y.fill (by decide)))
    cases Option.some.inj (q3.symm.trans Y.fill)
    rw [Launch.admits_selectMethod X.admits]; exact q4
  obtain ⟨cellS0, hcS0, hiss⟩ := Y.statics
  obtain ⟨u0, hu0⟩ := Cond.staticRefV Y.unassigned L.unassignedStatic L.statics hcS0 hiss (a (.isRef (.static Bundle.tN "UNASSIGNED_STACK" Bundle.steD)) (by simp [Bundle.messageArmAtoms]))
  obtain ⟨sen, hsen⟩ := Cond.staticRefV Y.sentinel L.sentinelStatic L.statics hcS0 hiss (a (.isRef (.static Bundle.tN "SUPPRESSED_SENTINEL" Bundle.listD)) (by simp [Bundle.messageArmAtoms]))
  obtain ⟨ci198, i198, fB, hk198, hg198, ha198, hsB, -, hnB, htB, hffB⟩ := Cond.ownField (t := .object "java/lang/Object") Y.found L.cls (by decide +kernel) (a (.fieldLink Bundle.tN 198 Bundle.tN "backtrace" "Ljava/lang/Object;") (by simp [Bundle.messageArmAtoms])) (a (.lays Bundle.tN Bundle.tN "backtrace" "Ljava/lang/Object;") (by simp [Bundle.messageArmAtoms])) e.platform hpl
  obtain ⟨cellS, hcS', heS, -, hkeep⟩ := X.same.2.2.2.2.2 T.aS cellS0 hcS0
  have hcellS : W.heap[T.aS]? = some cellS := hcS'
  have hout' : ∀ i, (⟨T.aS, i⟩ : Loc) ∉ locs := fun i hmem => by
    have := hlocs _ hmem cellS0 hcS0
    rw [hiss] at this; cases this
  have hknownS : cellS.vm ≠ .unknown := by
    rw [heS]; intro hu
    rw [show cellS0.vm = .unknown from hu] at hiss
    cases hiss
  have hvU : cellS.slots[T.fUnassigned.slot]? = some u0.v := by rw [hkeep _ (hout' _)]; exact hu0
  have hvSen : cellS.slots[T.fSentinel.slot]? = some sen.v := by rw [hkeep _ (hout' _)]; exact hsen
  obtain ⟨iM, hffM⟩ := Y.msg
  obtain ⟨tyC, dC, hdC, hdnC⟩ := Cond.laysAt hfound hk Y.cause (a (.lays cls Bundle.tN "cause" "Ljava/lang/Throwable;") (by simp [Bundle.messageArmAtoms]))
  obtain ⟨tyS, dS, hdS, hdnS⟩ := Cond.laysAt hfound hk Y.stack (a (.lays cls Bundle.tN "stackTrace" Bundle.steD) (by simp [Bundle.messageArmAtoms]))
  obtain ⟨tyP, dP, hdP, hdnP⟩ := Cond.laysAt hfound hk Y.supp (a (.lays cls Bundle.tN "suppressedExceptions" Bundle.listD) (by simp [Bundle.messageArmAtoms]))
  obtain ⟨tyM, dM, hdM, hdnM⟩ := Cond.laysAt hfound hk hffM (a (.lays cls Bundle.tN "detailMessage" "Ljava/lang/String;") (by simp [Bundle.messageArmAtoms]))
  obtain ⟨tyB, dB, hdB, hdnB⟩ := Cond.laysAt hfound hk hffB (a (.lays cls Bundle.tN "backtrace" "Ljava/lang/Object;") (by simp [Bundle.messageArmAtoms]))
  have bC := Cond.laysApart hdB hdC hdnB hdnC (by rw [hnB, Y.causeName]; decide)
  have bS := Cond.laysApart hdB hdS hdnB hdnS (by rw [hnB, Y.stackName]; decide)
  have bP := Cond.laysApart hdB hdP hdnB hdnP (by rw [hnB, Y.suppName]; decide)
  have hbk : ((preparedCellV T.toThrowableT (freshCell P1.m.cls kX) (W.heap.size + 2) u0 sen).withEntry W.cur).slots[fB.slot]? = some .null := by
    have := fresh_default (c := P1.m.cls) tyB
    rw [htB] at this
    simpa [preparedCellV, Cell.setSlot, Cell.withEntry, Array.getElem?_setIfInBounds, bC, bS, bP, bC.symm, bS.symm, bP.symm, defaultValue] using this
  have tkC := Takes.of_laid (v := .ref (W.heap.size + 2)) hk hord tyC (by rw [Y.causeType]; rfl)
  have tkS := Takes.of_laid (v := u0.v) hk hord tyS (by rw [Y.stackType]; exact fits_refV_array _ u0)
  have tkP := Takes.of_laid (v := sen.v) hk hord tyP (by rw [Y.suppType]; exact fits_refV_object _ sen)
  have tkM := Takes.of_laid (v := .ref (W.heap.size + 1)) hk hord tyM (by rw [Y.msgType]; rfl)
  have hskip : SkipFacts T e.platform s (fun u => u) u0 ((preparedCellV T.toThrowableT (freshCell P1.m.cls kX) (W.heap.size + 2) u0 sen).withEntry W.cur) := ⟨{ ci198 := ci198, i198 := i198, fBack := fB }, ⟨hk198, hg198, ha198, hsB⟩, hbk, fun _ _ => rfl⟩
  have h0 : At W g.method c below := by rw [hg]; exact X.here
  obtain ⟨hbeyond, hfreeW⟩ := X.vmMayThrow hsize (.throwNew cls (some text) none) (fun f hf => by cases hf) rfl hRlocals
  have hfr' : W.frames.length + Ps.length + 4 < (e.platform.stackLimits W.me).1 := by have := X.framesAbove hRframes; omega
  have hwd' : (stackUse (.java g :: W.frames.tail)).2 + 13 * Ps.length + 55 ≤ (e.platform.stackLimits W.me).2 := by have := X.stackAbove hsize (K := 13 * Ps.length + 55) (by omega); omega
  have hslots : W.slotsUsed + (stringBytes (stringToUtf16 text)).size + Zs.kS.instanceTypes.size + kX.instanceTypes.size ≤ e.platform.maxSlots := by
    have := X.slotsAbove hRslots
    rw [hn4, hn6]
    omega
  obtain ⟨vm', hW', st⟩ := Steps.vmThrowsMessageColdByV p (s₀ := s) (S := W) (g := g) h0 hexec T L Z LZ M LM X.warmed (t := W.cur) rfl Zs LZs P1 L1 Ps hL hlink1 hlink hsoe hoom hfound hk hinit hord hctor
    (Launch.admits_hotImplicitExceptions X.admits) hbeyond hfreeW htext hlimit hheap (X.cellsAbove hRcells) hslots (hfitv _) (hfitc _)
    (Nn := fun u => u) heapOnly_id (fun _ _ => rfl) (fun _ => rfl) (fun u x y => setCell_twice _ _ _ _) (fun _ => Nat.le_refl _) (cN := ((preparedCellV T.toThrowableT (freshCell P1.m.cls kX) (W.heap.size + 2) u0 sen).withEntry W.cur))
    hsel0 hcellS hknownS hvU tkS (fun _ hu => hu) (fun _ hu => hu) rfl rfl rfl (by simp [preparedCellV, Cell.setSlot, Cell.withEntry]) hskip (fun _ _ hA hW _ hroom _ hrest => L.nativeOff p htr hA hW hroom hrest) hselF hvSen tkC tkP tkM Y.objLocals rfl hfr' hwd'
  rw [plainBareV_eq T.toThrowableT (W.heap.size + 2) u0 sen (.ref (W.heap.size + 1)) W.cur rfl rfl] at st
  obtain ⟨-, -, w3, w4, -, -, -⟩ := withThrown_facts e.platform W Zs text P1.m.cls kX
  have X3 := ((X.pushed (bytesOf Zs.cB (stringToUtf16 text))).pushed (stringAt Zs.cS Zs.kS Zs.fv Zs.fc (stringToUtf16 text) W.heap.size)).pushed (freshCell P1.m.cls kX)
  rw [← withString_eq] at X3
  have X4 := X3.noted hW'
  have ha : (W.heap.size + 2) < ((withThrown W Zs text P1.m.cls kX).setVm vm').heap.size := by show _ < (withThrown W Zs text P1.m.cls kX).heap.size; rw [w3]; omega
  have hcell : ((withThrown W Zs text P1.m.cls kX).setVm vm').heap[(W.heap.size + 2)]? = some (freshCell P1.m.cls kX) := w4
  have X5 := ((((X4.stored hcell T.fCause.slot (.ref (W.heap.size + 2))).storedAgain ha T.fStack.slot u0.v).storedAgain ha T.fSupp.slot sen.v).storedAgain ha T.fStack.slot u0.v).storedAgain ha T.fMsg.slot (.ref (W.heap.size + 1))
  obtain ⟨g₁, hfrM⟩ := X5.frames_eq
  have hU : ((((withThrown W Zs text P1.m.cls kX).setVm vm').setCell (W.heap.size + 2) (plainBareV T.toThrowableT (freshCell P1.m.cls kX) (W.heap.size + 2) u0 sen (.ref (W.heap.size + 1)))).setTop g).pushFrame (.throwing (W.heap.size + 2)) = (((withThrown W Zs text P1.m.cls kX).setVm vm').setCell (W.heap.size + 2) (plainBareV T.toThrowableT (freshCell P1.m.cls kX) (W.heap.size + 2) u0 sen (.ref (W.heap.size + 1)))).setFrames (.throwing (W.heap.size + 2) :: .java g :: below) := by
    rw [State.pushFrame, State.frames_setTop _ hfrM, State.setTop_of_frames _ hfrM, State.setFrames_setFrames]
  have b1 : (bytesOf Zs.cB (stringToUtf16 text)).slots.size = (stringBytes (stringToUtf16 text)).size := by
    rw [(Cell.writeAll_facts _ _).2.2]; simp [bytes0]
  have b2 : (stringAt Zs.cS Zs.kS Zs.fv Zs.fc (stringToUtf16 text) W.heap.size).slots.size = 4 := by simp [string0, Cell.setSlot, hn4]
  have b3 : (freshCell P1.m.cls kX).slots.size = 6 := by simp [hn6]
  rw [b1, b2, b3] at X5
  have e9 : slots + (stringBytes (stringToUtf16 text)).size + 4 + 6 = slots + ((stringBytes (stringToUtf16 text)).size + 4 + 6) := by omega
  rw [e9] at X5
  simp only [List.append_assoc, List.cons_append, List.nil_append] at X5
  refine ⟨((withThrown W Zs text P1.m.cls kX).setVm vm').setCell (W.heap.size + 2) (plainBareV T.toThrowableT (freshCell P1.m.cls kX) (W.heap.size + 2) u0 sen (.ref (W.heap.size + 1))), W.heap.size + 2, _, fun target ht => st _ (by rw [X.tail, ← hU]; exact ht),
    X5.forget (fun y hy => ?_), heapAt_setCell_self _ ha, hfound, rfl⟩
  simp only [List.mem_cons, List.not_mem_nil, or_false] at hy
  have hge : s.heap.size ≤ W.heap.size := X.same.2.1
  rcases hy with rfl | rfl | rfl | rfl | rfl <;> exact Nat.le_trans hge (Nat.le_add_right _ 2)
set_option maxHeartbeats 1000000 in
/-- the machine throws NullPointerException, no traces kept: from its note over the frame g to 'throwing' over the same frame (follows the proof of Stand.vmThrowsNpe, Shelf42/KT2.lean; throwsNpeColdBareVAt, Shelf42/NT91.lean, called) -/
theorem vx_npeAt {p : Program} {l : Launch} {e : Env} {R : Room} {s : State} {m₀ : MethodId} {args : Array Value} {below : List Frame} {meth : Method} {c : Code} {W : State} {locs : List Loc} {cells slots : Nat}
    (X : Stand p l e R s m₀ args below meth c W locs cells slots) (hexec : p.tables.exec = Jvm.exec) (htr : e.platform.stackTraces = false) {n : Nat}
    (h : ∀ a ∈ Bundle.npeArmAtoms n, a.before args s = true)
    (hlocs : ∀ x ∈ locs, ∀ cell, s.heap[x.base]? = some cell → cell.vm.isStatics = false)
    {g : JFrame} (hg : g.method = m₀) (hsize : g.locals.size = c.maxLocals)
    (hRframes : 7 < R.frames) (hRlocals : 2 * g.monitorRoom + (g.stack.map fun v => v.category).sum + 10240 ≤ R.locals)
    (hRcells : cells + 1 ≤ R.cells) (hRslots : slots + n ≤ R.slots) (hlocks : meth.locks = false) :
    ∃ (S : State) (q : Addr) (ce : Cell), (∀ target, Steps p.tables e below ((S.setTop g).pushFrame (.throwing q)) target → Steps p.tables e below ((W.setTop g).pushFrame (.throwNew "java/lang/NullPointerException" none none)) target) ∧
      Stand p l e R s m₀ args below meth c S locs (cells + 1) (slots + n) ∧ S.heap[q]? = some ce ∧ s.vm.findClass "java/lang/NullPointerException" = some ce.cls ∧ ce.vm = .none := by
  have howns : e.platform.frameOwnsMonitors = true := by rw [X.admits.platform]
  have hfin : e.platform.finalization = false := by rw [X.admits.platform]
  have hpl : e.platform.magicAccessors = ({} : Platform).magicAccessors := by rw [X.admits.platform]
  have hpl2 : e.platform.arrayCloneIsPublic = true := by rw [X.admits.platform]
  have a' : ∀ x, x ∈ Bundle.npeArmAtoms n → x.holds args s none s [] = true := fun x hx => h x hx
  obtain ⟨T, Z, L, LZ, Y⟩ := ThrowableC.of_atoms (args := args) howns hfin hpl (fun x hx => h x (by simp [Bundle.npeArmAtoms, hx]))
  obtain ⟨N, LN, hcN, hnNF, hordN, hffS⟩ := NpeC.of_atoms (args := args) hpl hpl2 L Y (fun x hx => h x (by simp [Bundle.npeArmAtoms, hx]))
  obtain ⟨P1, L1, hP1m, hP1s⟩ := PassC.of_atoms (args := args) (s := s) hpl (X := Bundle.nN) (Y := Bundle.rN) (by decide) (by decide) LibCode.NullPointerException.Init0.at_0 LibCode.NullPointerException.Init0.at_1 LibCode.NullPointerException.Init0.at_4 (fun x hx => h x (by simp [Bundle.npeArmAtoms, hx]))
  obtain ⟨PR, LR, hPRm, hPRs⟩ := PassC.of_atoms (args := args) (s := s) hpl (X := Bundle.rN) (Y := Bundle.eN) (by decide) (by decide) LibCode.RuntimeException.Init0.at_0 LibCode.RuntimeException.Init0.at_1 LibCode.RuntimeException.Init0.at_4 (fun x hx => h x (by simp [Bundle.npeArmAtoms, hx]))
  obtain ⟨PE, LEx, hPEm, hPEs⟩ := PassC.of_atoms (args := args) (s := s) hpl (X := Bundle.eN) (Y := Bundle.tN) (by decide) (by decide) LibCode.Exception.Init0.at_0 LibCode.Exception.Init0.at_1 LibCode.Exception.Init0.at_4 (fun x hx => h x (by simp [Bundle.npeArmAtoms, hx]))
  have hfound : s.vm.findClass Bundle.nN = some P1.m.cls := findClass_of_methodNamed hP1m
  have ecls : N.cN = P1.m.cls := Option.some.inj (hcN.symm.trans hfound)
  have hk : s.vm.classes[P1.m.cls]? = some N.kN := by rw [← ecls]; exact LN.cls
  have hinit := Cond.initialized_spec hfound hk (a' (.initialized Bundle.nN) (by simp [Bundle.npeArmAtoms]))
  have hctor : N.kN.findMethod "<init>" "()V" = some P1.m.idx := findMethod_of_methodNamed hP1m hk
  obtain ⟨c1, k1, hc1, hk1, -, -, -, hn⟩ := Cond.instantiable_spec (a' (.instantiable Bundle.nN n) (by simp [Bundle.npeArmAtoms]))
  cases Option.some.inj (hc1.symm.trans hfound)
  cases Option.some.inj (hk1.symm.trans hk)
  have hfsz : (freshCell P1.m.cls N.kN).slots.size = n := by simp [hn]
  have hlink1 : P1.sup = PR.m := Option.some.inj (hP1s.symm.trans hPRm)
  have hlinkR : PR.sup = PE.m := Option.some.inj (hPRs.symm.trans hPEm)
  have hlinkE : PE.sup = Z.m T.toThrowableT := Option.some.inj (hPEs.symm.trans Y.init0)
  have hLs : ∀ P, P ∈ [PR, PE] → P.Links0 e.platform s := fun P hP => by
    simp only [List.mem_cons, List.not_mem_nil, or_false] at hP
    rcases hP with rfl | rfl
    · exact LR
    · exact LEx
  have hsel0 : selectMethod e.platform s.vm P1.m.cls T.fill0 = .method T.fill0 := by
    obtain ⟨c2, r2, m2, q1, q2, q3, q4, -⟩ := Cond.selects_spec (a' (.selects Bundle.nN Bundle.tFill0 Bundle.tFill0) (by simp [Bundle.npeArmAtoms]))
    cases Option.some.inj (q1.symm.trans hfound)
    cases Option.some.inj (q2.symm.trans (State.methodFound?_of_named Y.fill0 (by decide)))
    cases Option.some.inj (q3.symm.trans Y.fill0)
    rw [Launch.admits_selectMethod X.admits]; exact q4
  have hselF : selectMethod e.platform s.vm P1.m.cls T.fill = .method N.fill := by
    obtain ⟨c2, r2, m2, q1, q2, q3, q4, -⟩ := Cond.selects_spec (a' (.selects Bundle.nN Bundle.tFill Bundle.nFill) (by simp [Bundle.npeArmAtoms]))
    cases Option.some.inj (q1.symm.trans hfound)
    cases Option.some.inj (q2.symm.trans (State.methodFound?_of_named Y.fill (by decide)))
    cases Option.some.inj (q3.symm.trans hnNF)
    rw [Launch.admits_selectMethod X.admits]; exact q4
  obtain ⟨cellS0, hcS0, hiss⟩ := Y.statics
  obtain ⟨u0, hu0⟩ := Cond.staticRefV Y.unassigned L.unassignedStatic L.statics hcS0 hiss (a' (.isRef (.static Bundle.tN "UNASSIGNED_STACK" Bundle.steD)) (by simp [Bundle.npeArmAtoms]))
  obtain ⟨sen, hsen⟩ := Cond.staticRefV Y.sentinel L.sentinelStatic L.statics hcS0 hiss (a' (.isRef (.static Bundle.tN "SUPPRESSED_SENTINEL" Bundle.listD)) (by simp [Bundle.npeArmAtoms]))
  obtain ⟨ci198, i198, fB, hk198, hg198, ha198, hsB, -, hnB, htB, hffB⟩ := Cond.ownField (t := .object "java/lang/Object") Y.found L.cls (by decide +kernel) (a' (.fieldLink Bundle.tN 198 Bundle.tN "backtrace" Bundle.objD) (by simp [Bundle.npeArmAtoms])) (a' (.lays Bundle.tN Bundle.tN "backtrace" Bundle.objD) (by simp [Bundle.npeArmAtoms])) e.platform hpl
  obtain ⟨cellS, hcS', heS, -, hkeep⟩ := X.same.2.2.2.2.2 T.aS cellS0 hcS0
  have hcellS : W.heap[T.aS]? = some cellS := hcS'
  have hout' : ∀ i, (⟨T.aS, i⟩ : Loc) ∉ locs := fun i hmem => by
    have := hlocs _ hmem cellS0 hcS0
    rw [hiss] at this; cases this
  have hknownS : cellS.vm ≠ .unknown := by
    rw [heS]; intro hu
    rw [show cellS0.vm = .unknown from hu] at hiss
    cases hiss
  have hvU : cellS.slots[T.fUnassigned.slot]? = some u0.v := by rw [hkeep _ (hout' _)]; exact hu0
  have hvSen : cellS.slots[T.fSentinel.slot]? = some sen.v := by rw [hkeep _ (hout' _)]; exact hsen
  obtain ⟨tyC, dC, hdC, hdnC⟩ := Cond.laysAt hfound hk Y.cause (a' (.lays Bundle.nN Bundle.tN "cause" "Ljava/lang/Throwable;") (by simp [Bundle.npeArmAtoms]))
  obtain ⟨tyS, dS, hdS, hdnS⟩ := Cond.laysAt hfound hk Y.stack (a' (.lays Bundle.nN Bundle.tN "stackTrace" Bundle.steD) (by simp [Bundle.npeArmAtoms]))
  obtain ⟨tyP, dP, hdP, hdnP⟩ := Cond.laysAt hfound hk Y.supp (a' (.lays Bundle.nN Bundle.tN "suppressedExceptions" Bundle.listD) (by simp [Bundle.npeArmAtoms]))
  obtain ⟨tyX, dX, hdX, hdnX⟩ := Cond.laysAt hfound hk hffS (a' (.lays Bundle.nN Bundle.nN "extendedMessageState" "I") (by simp [Bundle.npeArmAtoms, Bundle.npeAtoms]))
  obtain ⟨hnX, htX⟩ := State.fieldFound?_type hffS (t := .int) (by decide +kernel)
  have xC := Cond.laysApart hdC hdX hdnC hdnX (by rw [hnX, Y.causeName]; decide)
  have xS := Cond.laysApart hdS hdX hdnS hdnX (by rw [hnX, Y.stackName]; decide)
  have xP := Cond.laysApart hdP hdX hdnP hdnX (by rw [hnX, Y.suppName]; decide)
  have hv0 : (freshCell P1.m.cls N.kN).slots[N.fState.slot]? = some (.int 0) := by
    have := fresh_default (c := P1.m.cls) tyX
    rw [htX] at this; exact this
  obtain ⟨tyB, dB, hdB, hdnB⟩ := Cond.laysAt hfound hk hffB (a' (.lays Bundle.nN Bundle.tN "backtrace" Bundle.objD) (by simp [Bundle.npeArmAtoms]))
  have bC := Cond.laysApart hdB hdC hdnB hdnC (by rw [hnB, Y.causeName]; decide)
  have bS := Cond.laysApart hdB hdS hdnB hdnS (by rw [hnB, Y.stackName]; decide)
  have bP := Cond.laysApart hdB hdP hdnB hdnP (by rw [hnB, Y.suppName]; decide)
  have bX := Cond.laysApart hdB hdX hdnB hdnX (by rw [hnB, hnX]; decide)
  have hbk : ((npeCell N.toNpeT (preparedCellV T.toThrowableT (freshCell P1.m.cls N.kN) W.heap.size u0 sen) W.cur).withEntry W.cur).slots[fB.slot]? = some .null := by
    have := fresh_default (c := P1.m.cls) tyB
    rw [htB] at this
    simpa [npeCell, preparedCellV, Cell.setSlot, Cell.withEntry, Array.getElem?_setIfInBounds, bC, bS, bP, bX, bC.symm, bS.symm, bP.symm, bX.symm, defaultValue] using this
  have tkC := Takes.of_laid (v := .ref W.heap.size) hk hordN tyC (by rw [Y.causeType]; rfl)
  have tkS := Takes.of_laid (v := u0.v) hk hordN tyS (by rw [Y.stackType]; exact fits_refV_array _ u0)
  have tkP := Takes.of_laid (v := sen.v) hk hordN tyP (by rw [Y.suppType]; exact fits_refV_object _ sen)
  have tkX := Takes.of_laid (v := .int 1) hk hordN tyX (by rw [htX]; rfl)
  have hskip : SkipFacts T e.platform s (fun u => u) u0 ((npeCell N.toNpeT (preparedCellV T.toThrowableT (freshCell P1.m.cls N.kN) W.heap.size u0 sen) W.cur).withEntry W.cur) := ⟨{ ci198 := ci198, i198 := i198, fBack := fB }, ⟨hk198, hg198, ha198, hsB⟩, hbk, fun _ _ => rfl⟩
  obtain ⟨vm', X3, st, -⟩ := X.throwsNpeColdBareVAt hexec hg hsize T L Z LZ N LN P1 L1 [PR, PE] hLs hlink1 ⟨hlinkR, hlinkE, trivial⟩ hfound hk hinit hordN hctor hsel0 hselF hcellS hknownS hvU hvSen
    hv0 xC xS xP tkC tkS tkP tkX Y.objLocals hskip (fun _ _ hA hW _ hroom _ hrest => L.nativeOff p htr hA hW hroom hrest) (by simpa using hRframes) hRlocals (by simp) hRcells (by rw [hn]; exact hRslots)
  have hlt : W.heap.size < ((W.pushCell (freshCell P1.m.cls N.kN)).setVm vm').heap.size := by
    show W.heap.size < (W.pushCell (freshCell P1.m.cls N.kN)).heap.size
    rw [State.heap_size_pushCell]; omega
  rw [hfsz] at X3
  obtain ⟨g₁, hfrM⟩ := X3.frames_eq
  have hU : ((((W.pushCell (freshCell P1.m.cls N.kN)).setVm vm').setCell W.heap.size (npeBareV T.toThrowableT N.toNpeT (freshCell P1.m.cls N.kN) W.heap.size u0 sen)).setTop g).pushFrame (.throwing W.heap.size) = (((W.pushCell (freshCell P1.m.cls N.kN)).setVm vm').setCell W.heap.size (npeBareV T.toThrowableT N.toNpeT (freshCell P1.m.cls N.kN) W.heap.size u0 sen)).setFrames (.throwing W.heap.size :: .java g :: below) := by
    rw [State.pushFrame, State.frames_setTop _ hfrM, State.setTop_of_frames _ hfrM, State.setFrames_setFrames]
  refine ⟨_, W.heap.size, _, fun target ht => st.trans (by rw [← hU]; exact ht), X3.forget (fun y hy => ?_), heapAt_setCell_self _ hlt, hfound, rfl⟩
  simp only [List.mem_cons, List.not_mem_nil, or_false] at hy
  have hge : s.heap.size ≤ W.heap.size := X.same.2.1
  rcases hy with rfl | rfl | rfl | rfl | rfl <;> exact hge
/-- the words of a machine's NullPointerException, but the four that speak of the heap -/
def vx_atN (n : Nat) : List Cond := (Bundle.npeArmAtoms n).filter vx_no
/-- the words of a machine's throw with a message, but the four that speak of the heap -/
def vx_atM (X : String) (names : List String) : List Cond := (Bundle.messageArmAtoms X names).filter vx_no
section
variable {p : Program} {l : Launch} {e : Env} {R : Room} {s : State} {m : MethodId} {args : Array Value} {below : List Frame} {meth : Method} {c : Code} {H : Heap} {locs : List Loc} {cells slots : Nat}
/-- a frame seen from a rebased start, seen from the first start again -/
theorem vx_back9 {T S : State} {R' : Room} {k n : Nat} (X : Stand p l e R s m args below meth c T locs cells slots) (Y : Stand p l e R' ((T.setVm s.vm).setFrames (.invoking m args :: below)) m args below meth c T [] 0 0) (Z : Stand p l e R' ((T.setVm s.vm).setFrames (.invoking m args :: below)) m args below meth c S [] k n) :
    Stand p l e R s m args below meth c S locs (cells + k) (slots + n) := by
  have hW0 : s.WarmedH ((T.setVm s.vm).setFrames (.invoking m args :: below)).vm := State.WarmedH.refl s
  refine { admits := X.admits, cas := X.cas, clock := X.clock, frames := X.frames, room := X.room, hears := X.hears, method := X.method, code := X.code, here := Z.here, tail := Z.tail, warmed := State.WarmedH.trans hW0 Z.warmed, limits := Z.limits.trans (Y.limits.symm.trans X.limits), bytes := Z.bytes.trans (Y.bytes.symm.trans X.bytes), same := ?_ }
  obtain ⟨e1, e2⟩ := Z.same
  rw [State.setFrames_setFrames] at e1
  have h2 : (T.setVm s.vm).sameButNew (S.setVm s.vm) [] k n := ⟨e1, e2⟩
  have h3 := X.same.trans h2
  rw [List.append_nil] at h3
  exact h3
/-- from the machine's note that E is thrown here with this text -/
def vx_Note (p : Program) (l : Launch) (e : Env) (R : Room) (s : State) (m : MethodId) (args : Array Value) (below : List Frame) (meth : Method) (c : Code) (H : Heap) (locs : List Loc) (cells slots : Nat) (Q : State → Prop) (g : JFrame) (E text : String) : Prop :=
  ∀ T : State, T.heap = H → Stand p l e R s m args below meth c T locs cells slots → ∃ t, Steps p.tables e below ((T.setTop g).pushFrame (.throwNew E (some text) none)) t ∧ Q t
theorem vx_vm {pc : Nat} {ls : Array Slot} {rest : List Value} {Q : State → Prop} (hexec : p.tables.exec = Jvm.exec) (hl : l.stackTraces = false) {cls text : String} {names : List String} {nb : Nat} {A : Nat → Prop}
    (hcls : Bundle.fit cls = true) (hnames : ∀ n ∈ names, Bundle.fit n = true) (hsoe : (cls == "java/lang/StackOverflowError") = false) (hoom : (cls == "java/lang/OutOfMemoryError") = false)
    (hat : ∀ w ∈ vx_atM cls names, w.before args s = true) (hgood : ∀ w ∈ vx_atM cls names, vx_ot w = true)
    (hU : vx_Zq Bundle.tN "UNASSIGNED_STACK" Bundle.steD A s s.heap) (hN : vx_Zq Bundle.tN "SUPPRESSED_SENTINEL" Bundle.listD A s s.heap) (hS : va_S A s.heap H locs) (hsize : ls.size = c.maxLocals)
    (htext : (text == notModelled) = false) (hnb : (stringBytes (stringToUtf16 text)).size ≤ nb) (hnb1 : nb ≤ 1000)
    (hRframes : names.length + 4 < R.frames) (hRlocals : (rest.map fun v => v.category).sum + 10240 ≤ R.locals) (hshort : 13 * names.length + 55 ≤ 10240) (hRcells : cells + 3 ≤ R.cells) (hRslots : slots + (nb + 10) ≤ R.slots) (hlocks : meth.locks = false)
    (k : ∀ (H1 : Heap) (q9 : Addr) (ce : Cell), H.size ≤ H1.size → (∀ q : Nat, q < H.size → H1[q]? = H[q]?) → va_S A s.heap H1 locs → H1[q9]? = some ce → ce.vm = .none → s.vm.findClass cls = some ce.cls → vx_W p l e R s m args below meth c H1 locs (cells + 3) (slots + (nb + 10)) Q (F0 m pc ls rest) q9) :
    vx_Note p l e R s m args below meth c H locs cells slots Q (F0 m pc ls rest) cls text := by
  intro T hT X
  have htr : e.platform.stackTraces = false := (show e.platform.stackTraces = l.stackTraces by rw [X.admits.platform]).trans hl
  have Y := vx_rebase X (R' := { frames := R.frames, locals := R.locals, cells := 3, slots := nb + 10 }) (Nat.le_refl _) (Nat.le_refl _) hRcells hRslots
  have hhp : ((T.setVm s.vm).setFrames (.invoking m args :: below)).heap = H := hT
  have hW0 : s.WarmedH ((T.setVm s.vm).setFrames (.invoking m args :: below)).vm := State.WarmedH.refl s
  have hat' : ∀ w ∈ vx_atM cls names, w.before args ((T.setVm s.vm).setFrames (.invoking m args :: below)) = true := fun w hw => vx_ot_at hW0 rfl (hgood w hw) (hat w hw)
  have hU' : vx_Zq Bundle.tN "UNASSIGNED_STACK" Bundle.steD A ((T.setVm s.vm).setFrames (.invoking m args :: below)) ((T.setVm s.vm).setFrames (.invoking m args :: below)).heap := by rw [hhp]; exact vx_Zq.moved hW0.alike (hU.kept hS.2.1)
  have hN' : vx_Zq Bundle.tN "SUPPRESSED_SENTINEL" Bundle.listD A ((T.setVm s.vm).setFrames (.invoking m args :: below)) ((T.setVm s.vm).setFrames (.invoking m args :: below)).heap := by rw [hhp]; exact vx_Zq.moved hW0.alike (hN.kept hS.2.1)
  obtain ⟨S, q, ce, st, Z, hce, hcl', hv⟩ := vx_vmAt Y hexec htr (cls := cls) (names := names) (text := text) hcls hnames hsoe hoom (vx_own hat' (vx_isRefq hU'.1) (vx_isRefq hN'.1) hU'.2.word hN'.2.word) (fun x hx => nomatch hx) htext
    (by rw [Launch.admits_arrayLengthLimit X.admits]; omega) (by rw [Launch.admits_maxHeapBytes X.admits]; simp only [componentBytes]; omega)
    (g := F0 m pc ls rest) rfl hsize hRframes (by show 2 * 0 + (rest.map fun v => v.category).sum + 10240 ≤ R.locals; omega) hshort (by show 0 + 3 ≤ 3; omega) (by show 0 + (_ + 4 + 6) ≤ nb + 10; omega) hlocks
  obtain ⟨f1, f2⟩ := vx_frame Z.same
  have f1' : H.size ≤ S.heap.size := by rw [← hT]; exact f1
  have f2' : ∀ q : Nat, q < H.size → S.heap[q]? = H[q]? := fun q hq => by
    rw [← hT]
    exact f2 q (by rw [← hT] at hq; exact hq) (fun z hz => nomatch hz)
  have X5 := vx_back9 X Y Z
  have X6 : Stand p l e R s m args below meth c S locs (cells + 3) (slots + (nb + 10)) := { X5 with same := X5.same.mono (by omega) (by omega) }
  obtain ⟨t, a1, b1⟩ := k S.heap q ce f1' f2' ⟨Nat.le_trans hS.1 f1', fun q h1 h2 => (f2' q (Nat.lt_of_lt_of_le h1 hS.1)).trans (hS.2.1 q h1 h2), hS.2.2⟩ hce hv hcl' S rfl X6
  exact ⟨t, st t a1, b1⟩
/-- from the machine's note that NullPointerException is thrown here -/
def vx_NoteN (p : Program) (l : Launch) (e : Env) (R : Room) (s : State) (m : MethodId) (args : Array Value) (below : List Frame) (meth : Method) (c : Code) (H : Heap) (locs : List Loc) (cells slots : Nat) (Q : State → Prop) (g : JFrame) : Prop :=
  ∀ T : State, T.heap = H → Stand p l e R s m args below meth c T locs cells slots → ∃ t, Steps p.tables e below ((T.setTop g).pushFrame (.throwNew "java/lang/NullPointerException" none none)) t ∧ Q t
theorem vx_npe {pc : Nat} {ls : Array Slot} {rest : List Value} {Q : State → Prop} (hexec : p.tables.exec = Jvm.exec) (hl : l.stackTraces = false) {nb : Nat} {A : Nat → Prop}
    (hat : ∀ w ∈ vx_atN nb, w.before args s = true) (hgood : ∀ w ∈ vx_atN nb, vx_ot w = true)
    (hU : vx_Zq Bundle.tN "UNASSIGNED_STACK" Bundle.steD A s s.heap) (hN : vx_Zq Bundle.tN "SUPPRESSED_SENTINEL" Bundle.listD A s s.heap) (hS : va_S A s.heap H locs) (hsize : ls.size = c.maxLocals)
    (hRframes : 7 < R.frames) (hRlocals : (rest.map fun v => v.category).sum + 10240 ≤ R.locals) (hRcells : cells + 1 ≤ R.cells) (hRslots : slots + nb ≤ R.slots) (hlocks : meth.locks = false)
    (k : ∀ (H1 : Heap) (q9 : Addr) (ce : Cell), H.size ≤ H1.size → (∀ q : Nat, q < H.size → H1[q]? = H[q]?) → va_S A s.heap H1 locs → H1[q9]? = some ce → ce.vm = .none → s.vm.findClass "java/lang/NullPointerException" = some ce.cls → vx_W p l e R s m args below meth c H1 locs (cells + 1) (slots + nb) Q (F0 m pc ls rest) q9) :
    vx_NoteN p l e R s m args below meth c H locs cells slots Q (F0 m pc ls rest) := by
  intro T hT X
  have htr : e.platform.stackTraces = false := (show e.platform.stackTraces = l.stackTraces by rw [X.admits.platform]).trans hl
  have Y := vx_rebase X (R' := { frames := R.frames, locals := R.locals, cells := 1, slots := nb }) (Nat.le_refl _) (Nat.le_refl _) hRcells hRslots
  have hhp : ((T.setVm s.vm).setFrames (.invoking m args :: below)).heap = H := hT
  have hW0 : s.WarmedH ((T.setVm s.vm).setFrames (.invoking m args :: below)).vm := State.WarmedH.refl s
  have hat' : ∀ w ∈ vx_atN nb, w.before args ((T.setVm s.vm).setFrames (.invoking m args :: below)) = true := fun w hw => vx_ot_at hW0 rfl (hgood w hw) (hat w hw)
  have hU' : vx_Zq Bundle.tN "UNASSIGNED_STACK" Bundle.steD A ((T.setVm s.vm).setFrames (.invoking m args :: below)) ((T.setVm s.vm).setFrames (.invoking m args :: below)).heap := by rw [hhp]; exact vx_Zq.moved hW0.alike (hU.kept hS.2.1)
  have hN' : vx_Zq Bundle.tN "SUPPRESSED_SENTINEL" Bundle.listD A ((T.setVm s.vm).setFrames (.invoking m args :: below)) ((T.setVm s.vm).setFrames (.invoking m args :: below)).heap := by rw [hhp]; exact vx_Zq.moved hW0.alike (hN.kept hS.2.1)
  obtain ⟨S, q, ce, st, Z, hce, hcl', hv⟩ := vx_npeAt Y hexec htr (n := nb) (vx_own hat' (vx_isRefq hU'.1) (vx_isRefq hN'.1) hU'.2.word hN'.2.word) (fun x hx => nomatch hx)
    (g := F0 m pc ls rest) rfl hsize hRframes (by show 2 * 0 + (rest.map fun v => v.category).sum + 10240 ≤ R.locals; omega) (by show 0 + 1 ≤ 1; omega) (by show 0 + nb ≤ nb; omega) hlocks
  obtain ⟨f1, f2⟩ := vx_frame Z.same
  have f1' : H.size ≤ S.heap.size := by rw [← hT]; exact f1
  have f2' : ∀ q : Nat, q < H.size → S.heap[q]? = H[q]? := fun q hq => by
    rw [← hT]
    exact f2 q (by rw [← hT] at hq; exact hq) (fun z hz => nomatch hz)
  have X5 := vx_back9 X Y Z
  have X6 : Stand p l e R s m args below meth c S locs (cells + 1) (slots + nb) := { X5 with same := X5.same.mono (by omega) (by omega) }
  obtain ⟨t, a1, b1⟩ := k S.heap q ce f1' f2' ⟨Nat.le_trans hS.1 f1', fun q h1 h2 => (f2' q (Nat.lt_of_lt_of_le h1 hS.1)).trans (hS.2.1 q h1 h2), hS.2.2⟩ hce hv hcl' S rfl X6
  exact ⟨t, st t a1, b1⟩
variable {Q : State → Prop} {cc : ByteArray} {pc : Nat} {ls : Array Slot} {rest : List Value}
theorem vx_idivZ (hexec : p.tables.exec = Jvm.exec) (hb : c.code = cc) {a b : Int32} (h0 : b = 0) (d : decode cc pc = .ok (.idiv, 1)) (k : vx_Note p l e R s m args below meth c H locs cells slots Q (F0 m pc ls rest) "java/lang/ArithmeticException" "/ by zero") :
    W p l e R s m args below meth c H locs cells slots Q (F0 m pc ls (.int b :: .int a :: rest)) := by
  intro T hT X
  obtain ⟨t, st, q⟩ := k T hT X
  exact ⟨t, X.idivZero hexec (g := F0 m pc ls (.int b :: .int a :: rest)) rfl (a := a) (rest := rest) (by rw [h0]) (by rw [hb]; exact d) t st, q⟩
theorem vx_iremZ (hexec : p.tables.exec = Jvm.exec) (hb : c.code = cc) {a b : Int32} (h0 : b = 0) (d : decode cc pc = .ok (.irem, 1)) (k : vx_Note p l e R s m args below meth c H locs cells slots Q (F0 m pc ls rest) "java/lang/ArithmeticException" "/ by zero") :
    W p l e R s m args below meth c H locs cells slots Q (F0 m pc ls (.int b :: .int a :: rest)) := by
  intro T hT X
  obtain ⟨t, st, q⟩ := k T hT X
  exact ⟨t, X.iremZero hexec (g := F0 m pc ls (.int b :: .int a :: rest)) rfl (a := a) (rest := rest) (by rw [h0]) (by rw [hb]; exact d) t st, q⟩
theorem vx_ldivZ (hexec : p.tables.exec = Jvm.exec) (hb : c.code = cc) {a b : Int64} (h0 : b = 0) (d : decode cc pc = .ok (.ldiv, 1)) (k : vx_Note p l e R s m args below meth c H locs cells slots Q (F0 m pc ls rest) "java/lang/ArithmeticException" "/ by zero") :
    W p l e R s m args below meth c H locs cells slots Q (F0 m pc ls (.long b :: .long a :: rest)) := by
  intro T hT X
  obtain ⟨t, st, q⟩ := k T hT X
  exact ⟨t, X.ldivZero hexec (g := F0 m pc ls (.long b :: .long a :: rest)) rfl (a := a) (rest := rest) (by rw [h0]) (by rw [hb]; exact d) t st, q⟩
theorem vx_lremZ (hexec : p.tables.exec = Jvm.exec) (hb : c.code = cc) {a b : Int64} (h0 : b = 0) (d : decode cc pc = .ok (.lrem, 1)) (k : vx_Note p l e R s m args below meth c H locs cells slots Q (F0 m pc ls rest) "java/lang/ArithmeticException" "/ by zero") :
    W p l e R s m args below meth c H locs cells slots Q (F0 m pc ls (.long b :: .long a :: rest)) := by
  intro T hT X
  obtain ⟨t, st, q⟩ := k T hT X
  exact ⟨t, X.lremZero hexec (g := F0 m pc ls (.long b :: .long a :: rest)) rfl (a := a) (rest := rest) (by rw [h0]) (by rw [hb]; exact d) t st, q⟩
theorem vx_ialdZ {D : va_G} {cl : List vw_C} {ws : va_W} {tys : List (ClassId × FieldType)} {a : Nat} (hexec : p.tables.exec = Jvm.exec) (hb : c.code = cc) (hK : va_K D cl tys s) (hP : va_P D cl ws H) (q0 t0 : Nat) {cA : ClassId} {n : Nat} {f : Nat → Int32} (ha : ws[q0]? = some (a, .inl (cA, n, .inl f))) (ht : tys[t0]? = some (cA, .int)) {i : Int32} (hout : ¬ vp_in i n) (hdg : decode cc pc = .ok (.iaload, 1))
    (k : ∀ tx : String, tx = (toString "Index " ++ toString i ++ toString " out of bounds for length " ++ toString n : String) → vx_Note p l e R s m args below meth c H locs cells slots Q (F0 m pc ls rest) "java/lang/ArrayIndexOutOfBoundsException" tx) : W p l e R s m args below meth c H locs cells slots Q (F0 m pc ls (.int i :: .ref a :: rest)) := by
  intro T hT X
  obtain ⟨t, st, q⟩ := k _ rfl T hT X
  refine ⟨t, ?_, q⟩
  have h1 := X.ialoadOut hexec (by rw [hT]; exact hP q0 _ ha) ((hK.2 t0 _ ht).1 n (fun j => .int (f j))) (j := i) (by show (i < 0 ∨ (arrV _ _ _).slots.size ≤ _); rw [arrV_size]; exact Classical.byContradiction hout) (g := F0 m pc ls (.int i :: .ref a :: rest)) rfl (rest := rest) rfl (by rw [hb]; exact hdg) t
  simp only [arrV_size] at h1
  exact h1 st
theorem vx_iastZ {D : va_G} {cl : List vw_C} {ws : va_W} {tys : List (ClassId × FieldType)} {a : Nat} (hexec : p.tables.exec = Jvm.exec) (hb : c.code = cc) (hK : va_K D cl tys s) (hP : va_P D cl ws H) (q0 t0 : Nat) {cA : ClassId} {n : Nat} {f : Nat → Int32} (ha : ws[q0]? = some (a, .inl (cA, n, .inl f))) (ht : tys[t0]? = some (cA, .int)) {i : Int32} {x : Int32} (hout : ¬ vp_in i n) (hdg : decode cc pc = .ok (.iastore, 1))
    (k : ∀ tx : String, tx = (toString "Index " ++ toString i ++ toString " out of bounds for length " ++ toString n : String) → vx_Note p l e R s m args below meth c H locs cells slots Q (F0 m pc ls rest) "java/lang/ArrayIndexOutOfBoundsException" tx) : W p l e R s m args below meth c H locs cells slots Q (F0 m pc ls (.int x :: .int i :: .ref a :: rest)) := by
  intro T hT X
  obtain ⟨t, st, q⟩ := k _ rfl T hT X
  refine ⟨t, ?_, q⟩
  have h1 := X.iastoreOut hexec (by rw [hT]; exact hP q0 _ ha) ((hK.2 t0 _ ht).1 n (fun j => .int (f j))) (j := i) (by show (i < 0 ∨ (arrV _ _ _).slots.size ≤ _); rw [arrV_size]; exact Classical.byContradiction hout) (g := F0 m pc ls (.int x :: .int i :: .ref a :: rest)) rfl (rest := rest) rfl (by rw [hb]; exact hdg) t
  simp only [arrV_size] at h1
  exact h1 st
theorem vx_baldZ {D : va_G} {cl : List vw_C} {ws : va_W} {tys : List (ClassId × FieldType)} {a : Nat} (hexec : p.tables.exec = Jvm.exec) (hb : c.code = cc) (hK : va_K D cl tys s) (hP : va_P D cl ws H) (q0 t0 : Nat) {cA : ClassId} {n : Nat} {f : Nat → Int32} (ha : ws[q0]? = some (a, .inl (cA, n, .inl f))) (ht : tys[t0]? = some (cA, .byte)) {i : Int32} (hout : ¬ vp_in i n) (hdg : decode cc pc = .ok (.baload, 1))
    (k : ∀ tx : String, tx = (toString "Index " ++ toString i ++ toString " out of bounds for length " ++ toString n : String) → vx_Note p l e R s m args below meth c H locs cells slots Q (F0 m pc ls rest) "java/lang/ArrayIndexOutOfBoundsException" tx) : W p l e R s m args below meth c H locs cells slots Q (F0 m pc ls (.int i :: .ref a :: rest)) := by
  intro T hT X
  obtain ⟨t, st, q⟩ := k _ rfl T hT X
  refine ⟨t, ?_, q⟩
  have h1 := X.baloadOut hexec (by rw [hT]; exact hP q0 _ ha) ((hK.2 t0 _ ht).1 n (fun j => .int (f j))) (j := i) (by show (i < 0 ∨ (arrV _ _ _).slots.size ≤ _); rw [arrV_size]; exact Classical.byContradiction hout) (g := F0 m pc ls (.int i :: .ref a :: rest)) rfl (rest := rest) rfl (by rw [hb]; exact hdg) t
  simp only [arrV_size] at h1
  exact h1 st
theorem vx_bastZ {D : va_G} {cl : List vw_C} {ws : va_W} {tys : List (ClassId × FieldType)} {a : Nat} (hexec : p.tables.exec = Jvm.exec) (hb : c.code = cc) (hK : va_K D cl tys s) (hP : va_P D cl ws H) (q0 t0 : Nat) {cA : ClassId} {n : Nat} {f : Nat → Int32} (ha : ws[q0]? = some (a, .inl (cA, n, .inl f))) (ht : tys[t0]? = some (cA, .byte)) {i : Int32} {x : Int32} (hout : ¬ vp_in i n) (hdg : decode cc pc = .ok (.bastore, 1))
    (k : ∀ tx : String, tx = (toString "Index " ++ toString i ++ toString " out of bounds for length " ++ toString n : String) → vx_Note p l e R s m args below meth c H locs cells slots Q (F0 m pc ls rest) "java/lang/ArrayIndexOutOfBoundsException" tx) : W p l e R s m args below meth c H locs cells slots Q (F0 m pc ls (.int x :: .int i :: .ref a :: rest)) := by
  intro T hT X
  obtain ⟨t, st, q⟩ := k _ rfl T hT X
  refine ⟨t, ?_, q⟩
  have h1 := X.bastoreOut hexec (by rw [hT]; exact hP q0 _ ha) ((hK.2 t0 _ ht).1 n (fun j => .int (f j))) (j := i) (by show (i < 0 ∨ (arrV _ _ _).slots.size ≤ _); rw [arrV_size]; exact Classical.byContradiction hout) (g := F0 m pc ls (.int x :: .int i :: .ref a :: rest)) rfl (rest := rest) rfl (by rw [hb]; exact hdg) t
  simp only [arrV_size] at h1
  exact h1 st
theorem vx_zaldZ {D : va_G} {cl : List vw_C} {ws : va_W} {tys : List (ClassId × FieldType)} {a : Nat} (hexec : p.tables.exec = Jvm.exec) (hb : c.code = cc) (hK : va_K D cl tys s) (hP : va_P D cl ws H) (q0 t0 : Nat) {cA : ClassId} {n : Nat} {f : Nat → Int32} (ha : ws[q0]? = some (a, .inl (cA, n, .inl f))) (ht : tys[t0]? = some (cA, .boolean)) {i : Int32} (hout : ¬ vp_in i n) (hdg : decode cc pc = .ok (.baload, 1))
    (k : ∀ tx : String, tx = (toString "Index " ++ toString i ++ toString " out of bounds for length " ++ toString n : String) → vx_Note p l e R s m args below meth c H locs cells slots Q (F0 m pc ls rest) "java/lang/ArrayIndexOutOfBoundsException" tx) : W p l e R s m args below meth c H locs cells slots Q (F0 m pc ls (.int i :: .ref a :: rest)) := by
  intro T hT X
  obtain ⟨t, st, q⟩ := k _ rfl T hT X
  refine ⟨t, ?_, q⟩
  have h1 := X.baloadOut hexec (by rw [hT]; exact hP q0 _ ha) ((hK.2 t0 _ ht).1 n (fun j => .int (f j))) (j := i) (by show (i < 0 ∨ (arrV _ _ _).slots.size ≤ _); rw [arrV_size]; exact Classical.byContradiction hout) (g := F0 m pc ls (.int i :: .ref a :: rest)) rfl (rest := rest) rfl (by rw [hb]; exact hdg) t
  simp only [arrV_size] at h1
  exact h1 st
theorem vx_zastZ {D : va_G} {cl : List vw_C} {ws : va_W} {tys : List (ClassId × FieldType)} {a : Nat} (hexec : p.tables.exec = Jvm.exec) (hb : c.code = cc) (hK : va_K D cl tys s) (hP : va_P D cl ws H) (q0 t0 : Nat) {cA : ClassId} {n : Nat} {f : Nat → Int32} (ha : ws[q0]? = some (a, .inl (cA, n, .inl f))) (ht : tys[t0]? = some (cA, .boolean)) {i : Int32} {x : Int32} (hout : ¬ vp_in i n) (hdg : decode cc pc = .ok (.bastore, 1))
    (k : ∀ tx : String, tx = (toString "Index " ++ toString i ++ toString " out of bounds for length " ++ toString n : String) → vx_Note p l e R s m args below meth c H locs cells slots Q (F0 m pc ls rest) "java/lang/ArrayIndexOutOfBoundsException" tx) : W p l e R s m args below meth c H locs cells slots Q (F0 m pc ls (.int x :: .int i :: .ref a :: rest)) := by
  intro T hT X
  obtain ⟨t, st, q⟩ := k _ rfl T hT X
  refine ⟨t, ?_, q⟩
  have h1 := X.bastoreOut hexec (by rw [hT]; exact hP q0 _ ha) ((hK.2 t0 _ ht).1 n (fun j => .int (f j))) (j := i) (by show (i < 0 ∨ (arrV _ _ _).slots.size ≤ _); rw [arrV_size]; exact Classical.byContradiction hout) (g := F0 m pc ls (.int x :: .int i :: .ref a :: rest)) rfl (rest := rest) rfl (by rw [hb]; exact hdg) t
  simp only [arrV_size] at h1
  exact h1 st
theorem vx_caldZ {D : va_G} {cl : List vw_C} {ws : va_W} {tys : List (ClassId × FieldType)} {a : Nat} (hexec : p.tables.exec = Jvm.exec) (hb : c.code = cc) (hK : va_K D cl tys s) (hP : va_P D cl ws H) (q0 t0 : Nat) {cA : ClassId} {n : Nat} {f : Nat → Int32} (ha : ws[q0]? = some (a, .inl (cA, n, .inl f))) (ht : tys[t0]? = some (cA, .char)) {i : Int32} (hout : ¬ vp_in i n) (hdg : decode cc pc = .ok (.caload, 1))
    (k : ∀ tx : String, tx = (toString "Index " ++ toString i ++ toString " out of bounds for length " ++ toString n : String) → vx_Note p l e R s m args below meth c H locs cells slots Q (F0 m pc ls rest) "java/lang/ArrayIndexOutOfBoundsException" tx) : W p l e R s m args below meth c H locs cells slots Q (F0 m pc ls (.int i :: .ref a :: rest)) := by
  intro T hT X
  obtain ⟨t, st, q⟩ := k _ rfl T hT X
  refine ⟨t, ?_, q⟩
  have h1 := X.caloadOut hexec (by rw [hT]; exact hP q0 _ ha) ((hK.2 t0 _ ht).1 n (fun j => .int (f j))) (j := i) (by show (i < 0 ∨ (arrV _ _ _).slots.size ≤ _); rw [arrV_size]; exact Classical.byContradiction hout) (g := F0 m pc ls (.int i :: .ref a :: rest)) rfl (rest := rest) rfl (by rw [hb]; exact hdg) t
  simp only [arrV_size] at h1
  exact h1 st
theorem vx_castZ {D : va_G} {cl : List vw_C} {ws : va_W} {tys : List (ClassId × FieldType)} {a : Nat} (hexec : p.tables.exec = Jvm.exec) (hb : c.code = cc) (hK : va_K D cl tys s) (hP : va_P D cl ws H) (q0 t0 : Nat) {cA : ClassId} {n : Nat} {f : Nat → Int32} (ha : ws[q0]? = some (a, .inl (cA, n, .inl f))) (ht : tys[t0]? = some (cA, .char)) {i : Int32} {x : Int32} (hout : ¬ vp_in i n) (hdg : decode cc pc = .ok (.castore, 1))
    (k : ∀ tx : String, tx = (toString "Index " ++ toString i ++ toString " out of bounds for length " ++ toString n : String) → vx_Note p l e R s m args below meth c H locs cells slots Q (F0 m pc ls rest) "java/lang/ArrayIndexOutOfBoundsException" tx) : W p l e R s m args below meth c H locs cells slots Q (F0 m pc ls (.int x :: .int i :: .ref a :: rest)) := by
  intro T hT X
  obtain ⟨t, st, q⟩ := k _ rfl T hT X
  refine ⟨t, ?_, q⟩
  have h1 := X.castoreOut hexec (by rw [hT]; exact hP q0 _ ha) ((hK.2 t0 _ ht).1 n (fun j => .int (f j))) (j := i) (by show (i < 0 ∨ (arrV _ _ _).slots.size ≤ _); rw [arrV_size]; exact Classical.byContradiction hout) (g := F0 m pc ls (.int x :: .int i :: .ref a :: rest)) rfl (rest := rest) rfl (by rw [hb]; exact hdg) t
  simp only [arrV_size] at h1
  exact h1 st
theorem vx_saldZ {D : va_G} {cl : List vw_C} {ws : va_W} {tys : List (ClassId × FieldType)} {a : Nat} (hexec : p.tables.exec = Jvm.exec) (hb : c.code = cc) (hK : va_K D cl tys s) (hP : va_P D cl ws H) (q0 t0 : Nat) {cA : ClassId} {n : Nat} {f : Nat → Int32} (ha : ws[q0]? = some (a, .inl (cA, n, .inl f))) (ht : tys[t0]? = some (cA, .short)) {i : Int32} (hout : ¬ vp_in i n) (hdg : decode cc pc = .ok (.saload, 1))
    (k : ∀ tx : String, tx = (toString "Index " ++ toString i ++ toString " out of bounds for length " ++ toString n : String) → vx_Note p l e R s m args below meth c H locs cells slots Q (F0 m pc ls rest) "java/lang/ArrayIndexOutOfBoundsException" tx) : W p l e R s m args below meth c H locs cells slots Q (F0 m pc ls (.int i :: .ref a :: rest)) := by
  intro T hT X
  obtain ⟨t, st, q⟩ := k _ rfl T hT X
  refine ⟨t, ?_, q⟩
  have h1 := X.saloadOut hexec (by rw [hT]; exact hP q0 _ ha) ((hK.2 t0 _ ht).1 n (fun j => .int (f j))) (j := i) (by show (i < 0 ∨ (arrV _ _ _).slots.size ≤ _); rw [arrV_size]; exact Classical.byContradiction hout) (g := F0 m pc ls (.int i :: .ref a :: rest)) rfl (rest := rest) rfl (by rw [hb]; exact hdg) t
  simp only [arrV_size] at h1
  exact h1 st
theorem vx_sastZ {D : va_G} {cl : List vw_C} {ws : va_W} {tys : List (ClassId × FieldType)} {a : Nat} (hexec : p.tables.exec = Jvm.exec) (hb : c.code = cc) (hK : va_K D cl tys s) (hP : va_P D cl ws H) (q0 t0 : Nat) {cA : ClassId} {n : Nat} {f : Nat → Int32} (ha : ws[q0]? = some (a, .inl (cA, n, .inl f))) (ht : tys[t0]? = some (cA, .short)) {i : Int32} {x : Int32} (hout : ¬ vp_in i n) (hdg : decode cc pc = .ok (.sastore, 1))
    (k : ∀ tx : String, tx = (toString "Index " ++ toString i ++ toString " out of bounds for length " ++ toString n : String) → vx_Note p l e R s m args below meth c H locs cells slots Q (F0 m pc ls rest) "java/lang/ArrayIndexOutOfBoundsException" tx) : W p l e R s m args below meth c H locs cells slots Q (F0 m pc ls (.int x :: .int i :: .ref a :: rest)) := by
  intro T hT X
  obtain ⟨t, st, q⟩ := k _ rfl T hT X
  refine ⟨t, ?_, q⟩
  have h1 := X.sastoreOut hexec (by rw [hT]; exact hP q0 _ ha) ((hK.2 t0 _ ht).1 n (fun j => .int (f j))) (j := i) (by show (i < 0 ∨ (arrV _ _ _).slots.size ≤ _); rw [arrV_size]; exact Classical.byContradiction hout) (g := F0 m pc ls (.int x :: .int i :: .ref a :: rest)) rfl (rest := rest) rfl (by rw [hb]; exact hdg) t
  simp only [arrV_size] at h1
  exact h1 st
theorem vx_laldZ {D : va_G} {cl : List vw_C} {ws : va_W} {tys : List (ClassId × FieldType)} {a : Nat} (hexec : p.tables.exec = Jvm.exec) (hb : c.code = cc) (hK : va_K D cl tys s) (hP : va_P D cl ws H) (q0 t0 : Nat) {cA : ClassId} {n : Nat} {f : Nat → Int64} (ha : ws[q0]? = some (a, .inl (cA, n, .inr (.inl f)))) (ht : tys[t0]? = some (cA, .long)) {i : Int32} (hout : ¬ vp_in i n) (hdg : decode cc pc = .ok (.laload, 1))
    (k : ∀ tx : String, tx = (toString "Index " ++ toString i ++ toString " out of bounds for length " ++ toString n : String) → vx_Note p l e R s m args below meth c H locs cells slots Q (F0 m pc ls rest) "java/lang/ArrayIndexOutOfBoundsException" tx) : W p l e R s m args below meth c H locs cells slots Q (F0 m pc ls (.int i :: .ref a :: rest)) := by
  intro T hT X
  obtain ⟨t, st, q⟩ := k _ rfl T hT X
  refine ⟨t, ?_, q⟩
  have h1 := X.laloadOut hexec (by rw [hT]; exact hP q0 _ ha) ((hK.2 t0 _ ht).1 n (fun j => .long (f j))) (j := i) (by show (i < 0 ∨ (arrV _ _ _).slots.size ≤ _); rw [arrV_size]; exact Classical.byContradiction hout) (g := F0 m pc ls (.int i :: .ref a :: rest)) rfl (rest := rest) rfl (by rw [hb]; exact hdg) t
  simp only [arrV_size] at h1
  exact h1 st
theorem vx_lastZ {D : va_G} {cl : List vw_C} {ws : va_W} {tys : List (ClassId × FieldType)} {a : Nat} (hexec : p.tables.exec = Jvm.exec) (hb : c.code = cc) (hK : va_K D cl tys s) (hP : va_P D cl ws H) (q0 t0 : Nat) {cA : ClassId} {n : Nat} {f : Nat → Int64} (ha : ws[q0]? = some (a, .inl (cA, n, .inr (.inl f)))) (ht : tys[t0]? = some (cA, .long)) {i : Int32} {x : Int64} (hout : ¬ vp_in i n) (hdg : decode cc pc = .ok (.lastore, 1))
    (k : ∀ tx : String, tx = (toString "Index " ++ toString i ++ toString " out of bounds for length " ++ toString n : String) → vx_Note p l e R s m args below meth c H locs cells slots Q (F0 m pc ls rest) "java/lang/ArrayIndexOutOfBoundsException" tx) : W p l e R s m args below meth c H locs cells slots Q (F0 m pc ls (.long x :: .int i :: .ref a :: rest)) := by
  intro T hT X
  obtain ⟨t, st, q⟩ := k _ rfl T hT X
  refine ⟨t, ?_, q⟩
  have h1 := X.lastoreOut hexec (by rw [hT]; exact hP q0 _ ha) ((hK.2 t0 _ ht).1 n (fun j => .long (f j))) (j := i) (by show (i < 0 ∨ (arrV _ _ _).slots.size ≤ _); rw [arrV_size]; exact Classical.byContradiction hout) (g := F0 m pc ls (.long x :: .int i :: .ref a :: rest)) rfl (rest := rest) rfl (by rw [hb]; exact hdg) t
  simp only [arrV_size] at h1
  exact h1 st
theorem vx_faldZ {D : va_G} {cl : List vw_C} {ws : va_W} {tys : List (ClassId × FieldType)} {a : Nat} (hexec : p.tables.exec = Jvm.exec) (hb : c.code = cc) (hK : va_K D cl tys s) (hP : va_P D cl ws H) (q0 t0 : Nat) {cA : ClassId} {n : Nat} {f : Nat → UInt32} (ha : ws[q0]? = some (a, .inl (cA, n, .inr (.inr (.inl f))))) (ht : tys[t0]? = some (cA, .float)) {i : Int32} (hout : ¬ vp_in i n) (hdg : decode cc pc = .ok (.faload, 1))
    (k : ∀ tx : String, tx = (toString "Index " ++ toString i ++ toString " out of bounds for length " ++ toString n : String) → vx_Note p l e R s m args below meth c H locs cells slots Q (F0 m pc ls rest) "java/lang/ArrayIndexOutOfBoundsException" tx) : W p l e R s m args below meth c H locs cells slots Q (F0 m pc ls (.int i :: .ref a :: rest)) := by
  intro T hT X
  obtain ⟨t, st, q⟩ := k _ rfl T hT X
  refine ⟨t, ?_, q⟩
  have h1 := X.faloadOut hexec (by rw [hT]; exact hP q0 _ ha) ((hK.2 t0 _ ht).1 n (fun j => .float (f j))) (j := i) (by show (i < 0 ∨ (arrV _ _ _).slots.size ≤ _); rw [arrV_size]; exact Classical.byContradiction hout) (g := F0 m pc ls (.int i :: .ref a :: rest)) rfl (rest := rest) rfl (by rw [hb]; exact hdg) t
  simp only [arrV_size] at h1
  exact h1 st
theorem vx_fastZ {D : va_G} {cl : List vw_C} {ws : va_W} {tys : List (ClassId × FieldType)} {a : Nat} (hexec : p.tables.exec = Jvm.exec) (hb : c.code = cc) (hK : va_K D cl tys s) (hP : va_P D cl ws H) (q0 t0 : Nat) {cA : ClassId} {n : Nat} {f : Nat → UInt32} (ha : ws[q0]? = some (a, .inl (cA, n, .inr (.inr (.inl f))))) (ht : tys[t0]? = some (cA, .float)) {i : Int32} {x : UInt32} (hout : ¬ vp_in i n) (hdg : decode cc pc = .ok (.fastore, 1))
    (k : ∀ tx : String, tx = (toString "Index " ++ toString i ++ toString " out of bounds for length " ++ toString n : String) → vx_Note p l e R s m args below meth c H locs cells slots Q (F0 m pc ls rest) "java/lang/ArrayIndexOutOfBoundsException" tx) : W p l e R s m args below meth c H locs cells slots Q (F0 m pc ls (.float x :: .int i :: .ref a :: rest)) := by
  intro T hT X
  obtain ⟨t, st, q⟩ := k _ rfl T hT X
  refine ⟨t, ?_, q⟩
  have h1 := X.fastoreOut hexec (by rw [hT]; exact hP q0 _ ha) ((hK.2 t0 _ ht).1 n (fun j => .float (f j))) (j := i) (by show (i < 0 ∨ (arrV _ _ _).slots.size ≤ _); rw [arrV_size]; exact Classical.byContradiction hout) (g := F0 m pc ls (.float x :: .int i :: .ref a :: rest)) rfl (rest := rest) rfl (by rw [hb]; exact hdg) t
  simp only [arrV_size] at h1
  exact h1 st
theorem vx_daldZ {D : va_G} {cl : List vw_C} {ws : va_W} {tys : List (ClassId × FieldType)} {a : Nat} (hexec : p.tables.exec = Jvm.exec) (hb : c.code = cc) (hK : va_K D cl tys s) (hP : va_P D cl ws H) (q0 t0 : Nat) {cA : ClassId} {n : Nat} {f : Nat → UInt64} (ha : ws[q0]? = some (a, .inl (cA, n, .inr (.inr (.inr (.inl f)))))) (ht : tys[t0]? = some (cA, .double)) {i : Int32} (hout : ¬ vp_in i n) (hdg : decode cc pc = .ok (.daload, 1))
    (k : ∀ tx : String, tx = (toString "Index " ++ toString i ++ toString " out of bounds for length " ++ toString n : String) → vx_Note p l e R s m args below meth c H locs cells slots Q (F0 m pc ls rest) "java/lang/ArrayIndexOutOfBoundsException" tx) : W p l e R s m args below meth c H locs cells slots Q (F0 m pc ls (.int i :: .ref a :: rest)) := by
  intro T hT X
  obtain ⟨t, st, q⟩ := k _ rfl T hT X
  refine ⟨t, ?_, q⟩
  have h1 := X.daloadOut hexec (by rw [hT]; exact hP q0 _ ha) ((hK.2 t0 _ ht).1 n (fun j => .double (f j))) (j := i) (by show (i < 0 ∨ (arrV _ _ _).slots.size ≤ _); rw [arrV_size]; exact Classical.byContradiction hout) (g := F0 m pc ls (.int i :: .ref a :: rest)) rfl (rest := rest) rfl (by rw [hb]; exact hdg) t
  simp only [arrV_size] at h1
  exact h1 st
theorem vx_dastZ {D : va_G} {cl : List vw_C} {ws : va_W} {tys : List (ClassId × FieldType)} {a : Nat} (hexec : p.tables.exec = Jvm.exec) (hb : c.code = cc) (hK : va_K D cl tys s) (hP : va_P D cl ws H) (q0 t0 : Nat) {cA : ClassId} {n : Nat} {f : Nat → UInt64} (ha : ws[q0]? = some (a, .inl (cA, n, .inr (.inr (.inr (.inl f)))))) (ht : tys[t0]? = some (cA, .double)) {i : Int32} {x : UInt64} (hout : ¬ vp_in i n) (hdg : decode cc pc = .ok (.dastore, 1))
    (k : ∀ tx : String, tx = (toString "Index " ++ toString i ++ toString " out of bounds for length " ++ toString n : String) → vx_Note p l e R s m args below meth c H locs cells slots Q (F0 m pc ls rest) "java/lang/ArrayIndexOutOfBoundsException" tx) : W p l e R s m args below meth c H locs cells slots Q (F0 m pc ls (.double x :: .int i :: .ref a :: rest)) := by
  intro T hT X
  obtain ⟨t, st, q⟩ := k _ rfl T hT X
  refine ⟨t, ?_, q⟩
  have h1 := X.dastoreOut hexec (by rw [hT]; exact hP q0 _ ha) ((hK.2 t0 _ ht).1 n (fun j => .double (f j))) (j := i) (by show (i < 0 ∨ (arrV _ _ _).slots.size ≤ _); rw [arrV_size]; exact Classical.byContradiction hout) (g := F0 m pc ls (.double x :: .int i :: .ref a :: rest)) rfl (rest := rest) rfl (by rw [hb]; exact hdg) t
  simp only [arrV_size] at h1
  exact h1 st
theorem vx_arraylengthN (hexec : p.tables.exec = Jvm.exec) (hb : c.code = cc) (hdg : decode cc pc = .ok (.arraylength, 1)) (k : vx_NoteN p l e R s m args below meth c H locs cells slots Q (F0 m pc ls rest)) : W p l e R s m args below meth c H locs cells slots Q (F0 m pc ls (.null :: rest)) := by
  intro T hT X
  obtain ⟨t, st, q⟩ := k T hT X
  exact ⟨t, X.arraylengthNull hexec (g := F0 m pc ls (.null :: rest)) rfl (rest := rest) rfl (by rw [hb]; exact hdg) t st, q⟩
theorem vx_ialoadN (hexec : p.tables.exec = Jvm.exec) (hb : c.code = cc) {i : Int32} (hdg : decode cc pc = .ok (.iaload, 1)) (k : vx_NoteN p l e R s m args below meth c H locs cells slots Q (F0 m pc ls rest)) : W p l e R s m args below meth c H locs cells slots Q (F0 m pc ls (.int i :: .null :: rest)) := by
  intro T hT X
  obtain ⟨t, st, q⟩ := k T hT X
  exact ⟨t, X.ialoadNull hexec (g := F0 m pc ls (.int i :: .null :: rest)) rfl (rest := rest) rfl (by rw [hb]; exact hdg) t st, q⟩
theorem vx_laloadN (hexec : p.tables.exec = Jvm.exec) (hb : c.code = cc) {i : Int32} (hdg : decode cc pc = .ok (.laload, 1)) (k : vx_NoteN p l e R s m args below meth c H locs cells slots Q (F0 m pc ls rest)) : W p l e R s m args below meth c H locs cells slots Q (F0 m pc ls (.int i :: .null :: rest)) := by
  intro T hT X
  obtain ⟨t, st, q⟩ := k T hT X
  exact ⟨t, X.laloadNull hexec (g := F0 m pc ls (.int i :: .null :: rest)) rfl (rest := rest) rfl (by rw [hb]; exact hdg) t st, q⟩
theorem vx_faloadN (hexec : p.tables.exec = Jvm.exec) (hb : c.code = cc) {i : Int32} (hdg : decode cc pc = .ok (.faload, 1)) (k : vx_NoteN p l e R s m args below meth c H locs cells slots Q (F0 m pc ls rest)) : W p l e R s m args below meth c H locs cells slots Q (F0 m pc ls (.int i :: .null :: rest)) := by
  intro T hT X
  obtain ⟨t, st, q⟩ := k T hT X
  exact ⟨t, X.faloadNull hexec (g := F0 m pc ls (.int i :: .null :: rest)) rfl (rest := rest) rfl (by rw [hb]; exact hdg) t st, q⟩
theorem vx_daloadN (hexec : p.tables.exec = Jvm.exec) (hb : c.code = cc) {i : Int32} (hdg : decode cc pc = .ok (.daload, 1)) (k : vx_NoteN p l e R s m args below meth c H locs cells slots Q (F0 m pc ls rest)) : W p l e R s m args below meth c H locs cells slots Q (F0 m pc ls (.int i :: .null :: rest)) := by
  intro T hT X
  obtain ⟨t, st, q⟩ := k T hT X
  exact ⟨t, X.daloadNull hexec (g := F0 m pc ls (.int i :: .null :: rest)) rfl (rest := rest) rfl (by rw [hb]; exact hdg) t st, q⟩
theorem vx_aaloadN (hexec : p.tables.exec = Jvm.exec) (hb : c.code = cc) {i : Int32} (hdg : decode cc pc = .ok (.aaload, 1)) (k : vx_NoteN p l e R s m args below meth c H locs cells slots Q (F0 m pc ls rest)) : W p l e R s m args below meth c H locs cells slots Q (F0 m pc ls (.int i :: .null :: rest)) := by
  intro T hT X
  obtain ⟨t, st, q⟩ := k T hT X
  exact ⟨t, X.aaloadNull hexec (g := F0 m pc ls (.int i :: .null :: rest)) rfl (rest := rest) rfl (by rw [hb]; exact hdg) t st, q⟩
theorem vx_baloadN (hexec : p.tables.exec = Jvm.exec) (hb : c.code = cc) {i : Int32} (hdg : decode cc pc = .ok (.baload, 1)) (k : vx_NoteN p l e R s m args below meth c H locs cells slots Q (F0 m pc ls rest)) : W p l e R s m args below meth c H locs cells slots Q (F0 m pc ls (.int i :: .null :: rest)) := by
  intro T hT X
  obtain ⟨t, st, q⟩ := k T hT X
  exact ⟨t, X.baloadNull hexec (g := F0 m pc ls (.int i :: .null :: rest)) rfl (rest := rest) rfl (by rw [hb]; exact hdg) t st, q⟩
theorem vx_caloadN (hexec : p.tables.exec = Jvm.exec) (hb : c.code = cc) {i : Int32} (hdg : decode cc pc = .ok (.caload, 1)) (k : vx_NoteN p l e R s m args below meth c H locs cells slots Q (F0 m pc ls rest)) : W p l e R s m args below meth c H locs cells slots Q (F0 m pc ls (.int i :: .null :: rest)) := by
  intro T hT X
  obtain ⟨t, st, q⟩ := k T hT X
  exact ⟨t, X.caloadNull hexec (g := F0 m pc ls (.int i :: .null :: rest)) rfl (rest := rest) rfl (by rw [hb]; exact hdg) t st, q⟩
theorem vx_saloadN (hexec : p.tables.exec = Jvm.exec) (hb : c.code = cc) {i : Int32} (hdg : decode cc pc = .ok (.saload, 1)) (k : vx_NoteN p l e R s m args below meth c H locs cells slots Q (F0 m pc ls rest)) : W p l e R s m args below meth c H locs cells slots Q (F0 m pc ls (.int i :: .null :: rest)) := by
  intro T hT X
  obtain ⟨t, st, q⟩ := k T hT X
  exact ⟨t, X.saloadNull hexec (g := F0 m pc ls (.int i :: .null :: rest)) rfl (rest := rest) rfl (by rw [hb]; exact hdg) t st, q⟩
theorem vx_iastoreN (hexec : p.tables.exec = Jvm.exec) (hb : c.code = cc) {x : Int32} {i : Int32} (hdg : decode cc pc = .ok (.iastore, 1)) (k : vx_NoteN p l e R s m args below meth c H locs cells slots Q (F0 m pc ls rest)) : W p l e R s m args below meth c H locs cells slots Q (F0 m pc ls (.int x :: .int i :: .null :: rest)) := by
  intro T hT X
  obtain ⟨t, st, q⟩ := k T hT X
  exact ⟨t, X.iastoreNull hexec (g := F0 m pc ls (.int x :: .int i :: .null :: rest)) rfl (rest := rest) rfl (by rw [hb]; exact hdg) t st, q⟩
theorem vx_lastoreN (hexec : p.tables.exec = Jvm.exec) (hb : c.code = cc) {x : Int64} {i : Int32} (hdg : decode cc pc = .ok (.lastore, 1)) (k : vx_NoteN p l e R s m args below meth c H locs cells slots Q (F0 m pc ls rest)) : W p l e R s m args below meth c H locs cells slots Q (F0 m pc ls (.long x :: .int i :: .null :: rest)) := by
  intro T hT X
  obtain ⟨t, st, q⟩ := k T hT X
  exact ⟨t, X.lastoreNull hexec (g := F0 m pc ls (.long x :: .int i :: .null :: rest)) rfl (rest := rest) rfl (by rw [hb]; exact hdg) t st, q⟩
theorem vx_fastoreN (hexec : p.tables.exec = Jvm.exec) (hb : c.code = cc) {x : UInt32} {i : Int32} (hdg : decode cc pc = .ok (.fastore, 1)) (k : vx_NoteN p l e R s m args below meth c H locs cells slots Q (F0 m pc ls rest)) : W p l e R s m args below meth c H locs cells slots Q (F0 m pc ls (.float x :: .int i :: .null :: rest)) := by
  intro T hT X
  obtain ⟨t, st, q⟩ := k T hT X
  exact ⟨t, X.fastoreNull hexec (g := F0 m pc ls (.float x :: .int i :: .null :: rest)) rfl (rest := rest) rfl (by rw [hb]; exact hdg) t st, q⟩
theorem vx_dastoreN (hexec : p.tables.exec = Jvm.exec) (hb : c.code = cc) {x : UInt64} {i : Int32} (hdg : decode cc pc = .ok (.dastore, 1)) (k : vx_NoteN p l e R s m args below meth c H locs cells slots Q (F0 m pc ls rest)) : W p l e R s m args below meth c H locs cells slots Q (F0 m pc ls (.double x :: .int i :: .null :: rest)) := by
  intro T hT X
  obtain ⟨t, st, q⟩ := k T hT X
  exact ⟨t, X.dastoreNull hexec (g := F0 m pc ls (.double x :: .int i :: .null :: rest)) rfl (rest := rest) rfl (by rw [hb]; exact hdg) t st, q⟩
theorem vx_bastoreN (hexec : p.tables.exec = Jvm.exec) (hb : c.code = cc) {x : Int32} {i : Int32} (hdg : decode cc pc = .ok (.bastore, 1)) (k : vx_NoteN p l e R s m args below meth c H locs cells slots Q (F0 m pc ls rest)) : W p l e R s m args below meth c H locs cells slots Q (F0 m pc ls (.int x :: .int i :: .null :: rest)) := by
  intro T hT X
  obtain ⟨t, st, q⟩ := k T hT X
  exact ⟨t, X.bastoreNull hexec (g := F0 m pc ls (.int x :: .int i :: .null :: rest)) rfl (rest := rest) rfl (by rw [hb]; exact hdg) t st, q⟩
theorem vx_castoreN (hexec : p.tables.exec = Jvm.exec) (hb : c.code = cc) {x : Int32} {i : Int32} (hdg : decode cc pc = .ok (.castore, 1)) (k : vx_NoteN p l e R s m args below meth c H locs cells slots Q (F0 m pc ls rest)) : W p l e R s m args below meth c H locs cells slots Q (F0 m pc ls (.int x :: .int i :: .null :: rest)) := by
  intro T hT X
  obtain ⟨t, st, q⟩ := k T hT X
  exact ⟨t, X.castoreNull hexec (g := F0 m pc ls (.int x :: .int i :: .null :: rest)) rfl (rest := rest) rfl (by rw [hb]; exact hdg) t st, q⟩
theorem vx_sastoreN (hexec : p.tables.exec = Jvm.exec) (hb : c.code = cc) {x : Int32} {i : Int32} (hdg : decode cc pc = .ok (.sastore, 1)) (k : vx_NoteN p l e R s m args below meth c H locs cells slots Q (F0 m pc ls rest)) : W p l e R s m args below meth c H locs cells slots Q (F0 m pc ls (.int x :: .int i :: .null :: rest)) := by
  intro T hT X
  obtain ⟨t, st, q⟩ := k T hT X
  exact ⟨t, X.sastoreNull hexec (g := F0 m pc ls (.int x :: .int i :: .null :: rest)) rfl (rest := rest) rfl (by rw [hb]; exact hdg) t st, q⟩
theorem vx_invokeN {own C : String} {index maxL : Nat} {y : MethodName} {bytes : ByteArray} {ret : Option FieldType} (hexec : p.tables.exec = Jvm.exec) (hb : c.code = cc) (hown : s.vm.findClass own = some m.cls) (hlink : (Cond.methodLink own index y).before args s = true) (hinst : (Cond.instanceMethod y).before args s = true) (hcode : (Cond.code y bytes maxL ret).before args s = true) (hsel : (Cond.selects C y y).before args s = true)
    (hx : y.cls ≠ "java/lang/invoke/MethodHandle" ∧ y.cls ≠ "java/lang/invoke/VarHandle") {As : List Value} (hlen : (parseMethodDescriptor y.desc).map (fun d => d.parameters.length) = some As.length) (hdg : decode cc pc = .ok (.invokevirtual index, 3))
    (k : vx_NoteN p l e R s m args below meth c H locs cells slots Q (F0 m pc ls rest)) {st0 : List Value} (hst : st0 = As.reverse ++ .null :: rest) : W p l e R s m args below meth c H locs cells slots Q (F0 m pc ls st0) := by
  intro T hT X
  obtain ⟨r0, r, hn, hrm, hstR, hsigR⟩ := va_Decl.of hinst hcode
  obtain ⟨c2, r2, m2, q1, q2, q3, q4, kP, hkP, hkPi⟩ := Cond.selects_spec hsel
  cases hn.symm.trans q3
  have hl9 : As.length = r.sig.parameters.length := by
    rw [hsigR] at hlen
    exact (Option.some.inj hlen).symm
  obtain ⟨vm', X1, st1⟩ := X.invokevirtualNull hexec hown hlink hn hrm hstR hkP hkPi hx (g := F0 m pc ls st0) rfl (argsL := As) (rest := rest) hl9 hst (by rw [hb]; exact hdg)
  obtain ⟨t, st, q⟩ := k (T.setVm vm') hT X1
  exact ⟨t, st1 t st, q⟩
theorem vx_newarrayZ {atype : ArrayType} (hexec : p.tables.exec = Jvm.exec) (hb : c.code = cc) {n : Int32} (h0 : n < 0) (hdg : decode cc pc = .ok (.newarray atype, 2)) (k : ∀ tx : String, tx = toString n → vx_Note p l e R s m args below meth c H locs cells slots Q (F0 m pc ls rest) "java/lang/NegativeArraySizeException" tx) : W p l e R s m args below meth c H locs cells slots Q (F0 m pc ls (.int n :: rest)) := by
  intro T hT X
  obtain ⟨t, st, q⟩ := k _ rfl T hT X
  exact ⟨t, X.newarrayNegative hexec (g := F0 m pc ls (.int n :: rest)) rfl h0 (rest := rest) rfl (by rw [hb]; exact hdg) t st, q⟩
end
end VXM
/-! ===== END ===== -/
end
section
/-! names, fields (printed by the kit for this class) -/
def RX0 : String := "LockMaster$ArrivalText"
def TX0 : u_T := fun k => match k with
  | 0 => ("LockMaster$ArrivalText", "characters", "LLockMaster$Row;", true)
  | 1 => ("LockMaster$ArrivalText", "sizes", "LLockMaster$Row;", true)
  | 2 => ("LockMaster$ArrivalText", "draughts", "LLockMaster$Row;", true)
  | 3 => ("LockMaster$ArrivalText", "ranks", "LLockMaster$Row;", true)
  | 4 => ("LockMaster$ArrivalText", "ups", "LLockMaster$Row;", true)
  | 5 => ("LockMaster$ArrivalText", "length", "I", false)
  | _ => ("LockMaster$ArrivalText", "arrivals", "I", false)
def tyX0 : Nat → FieldType := fun k => match k with
  | 0 => .object "LockMaster$Row"
  | 1 => .object "LockMaster$Row"
  | 2 => .object "LockMaster$Row"
  | 3 => .object "LockMaster$Row"
  | 4 => .object "LockMaster$Row"
  | 5 => .int
  | _ => .int
abbrev wsX00 : List Cond := u_ws RX0 TX0 7
theorem nmX0 : ∀ a, a < 7 → ∀ b, b < 7 → a ≠ b → (TX0 a).2.1 ≠ (TX0 b).2.1 := by decide +kernel
theorem tyX0_ok : ∀ k, k < 7 → parseFieldDescriptor (TX0 k).2.2.1 = some (tyX0 k) := by decide +kernel
abbrev cX0_init : ByteArray := prog_2_method_1_code
def yX0_init : MethodName := ⟨RX0, "<init>", "()V"⟩
abbrev cX0_put : ByteArray := prog_2_method_2_code
def yX0_put : MethodName := ⟨RX0, "put", "(C)V"⟩
abbrev cX0_read : ByteArray := prog_2_method_3_code
def yX0_read : MethodName := ⟨RX0, "read", "()I"⟩
abbrev cX0_stateBehind : ByteArray := prog_2_method_4_code
def yX0_stateBehind : MethodName := ⟨RX0, "stateBehind", "(II)I"⟩
abbrev cX0_stateBehindDraught : ByteArray := prog_2_method_5_code
def yX0_stateBehindDraught : MethodName := ⟨RX0, "stateBehindDraught", "(I)I"⟩
abbrev cX0_begin : ByteArray := prog_2_method_6_code
def yX0_begin : MethodName := ⟨RX0, "begin", "(Z)I"⟩
abbrev cX0_take : ByteArray := prog_2_method_7_code
def yX0_take : MethodName := ⟨RX0, "take", "(LLockMaster$Row;II)I"⟩
def RX1 : String := "LockMaster$Canal"
def TX1 : u_T := fun k => match k with
  | 0 => ("LockMaster$Canal", "reaches", "LLockMaster$Reaches;", true)
  | 1 => ("LockMaster$Canal", "locks", "LLockMaster$Locks;", true)
  | 2 => ("LockMaster$Canal", "fleet", "LLockMaster$Fleet;", true)
  | 3 => ("LockMaster$Canal", "going", "LLockMaster$GoingRow;", true)
  | 4 => ("LockMaster$Canal", "patience", "I", false)
  | 5 => ("LockMaster$Canal", "grace", "I", false)
  | 6 => ("LockMaster$Canal", "inflow", "I", false)
  | 7 => ("LockMaster$Canal", "tick", "I", false)
  | 8 => ("LockMaster$Canal", "inflowSoFar", "I", false)
  | 9 => ("LockMaster$Canal", "outflowSoFar", "I", false)
  | _ => ("LockMaster$Canal", "waterAtFirst", "I", false)
def tyX1 : Nat → FieldType := fun k => match k with
  | 0 => .object "LockMaster$Reaches"
  | 1 => .object "LockMaster$Locks"
  | 2 => .object "LockMaster$Fleet"
  | 3 => .object "LockMaster$GoingRow"
  | 4 => .int
  | 5 => .int
  | 6 => .int
  | 7 => .int
  | 8 => .int
  | 9 => .int
  | _ => .int
abbrev wsX10 : List Cond := u_ws RX1 TX1 11
theorem nmX1 : ∀ a, a < 11 → ∀ b, b < 11 → a ≠ b → (TX1 a).2.1 ≠ (TX1 b).2.1 := by decide +kernel
theorem tyX1_ok : ∀ k, k < 11 → parseFieldDescriptor (TX1 k).2.2.1 = some (tyX1 k) := by decide +kernel
abbrev cX1_init : ByteArray := prog_3_method_1_code
def yX1_init : MethodName := ⟨RX1, "<init>", "()V"⟩
abbrev cX1_makeReach : ByteArray := prog_3_method_2_code
def yX1_makeReach : MethodName := ⟨RX1, "makeReach", "(II)I"⟩
abbrev cX1_makeShip : ByteArray := prog_3_method_3_code
def yX1_makeShip : MethodName := ⟨RX1, "makeShip", "(IIIZ)I"⟩
abbrev cX1_change : ByteArray := prog_3_method_4_code
def yX1_change : MethodName := ⟨RX1, "change", "(II)I"⟩
abbrev cX1_waitedBy : ByteArray := prog_3_method_5_code
def yX1_waitedBy : MethodName := ⟨RX1, "waitedBy", "(I)I"⟩
abbrev cX1_priorityOf : ByteArray := prog_3_method_6_code
def yX1_priorityOf : MethodName := ⟨RX1, "priorityOf", "(I)I"⟩
abbrev cX1_waitingConvoys : ByteArray := prog_3_method_7_code
def yX1_waitingConvoys : MethodName := ⟨RX1, "waitingConvoys", "()I"⟩
abbrev cX1_convoyInOrder : ByteArray := prog_3_method_8_code
def yX1_convoyInOrder : MethodName := ⟨RX1, "convoyInOrder", "(II)I"⟩
abbrev cX1_convoysAheadOf : ByteArray := prog_3_method_9_code
def yX1_convoysAheadOf : MethodName := ⟨RX1, "convoysAheadOf", "(II)I"⟩
abbrev cX1_comesBefore : ByteArray := prog_3_method_10_code
def yX1_comesBefore : MethodName := ⟨RX1, "comesBefore", "(II)Z"⟩
abbrev cX1_hindranceOf : ByteArray := prog_3_method_11_code
def yX1_hindranceOf : MethodName := ⟨RX1, "hindranceOf", "(I)I"⟩
abbrev cX1_hindranceByRules : ByteArray := prog_3_method_12_code
def yX1_hindranceByRules : MethodName := ⟨RX1, "hindranceByRules", "(II)I"⟩
abbrev cX1_canBeReadyForDown : ByteArray := prog_3_method_13_code
def yX1_canBeReadyForDown : MethodName := ⟨RX1, "canBeReadyForDown", "(I)Z"⟩
abbrev cX1_canFillForUp : ByteArray := prog_3_method_14_code
def yX1_canFillForUp : MethodName := ⟨RX1, "canFillForUp", "(I)Z"⟩
abbrev cX1_goOneTick : ByteArray := prog_3_method_15_code
def yX1_goOneTick : MethodName := ⟨RX1, "goOneTick", "()V"⟩
abbrev cX1_takeTurn : ByteArray := prog_3_method_16_code
def yX1_takeTurn : MethodName := ⟨RX1, "takeTurn", "(I)V"⟩
abbrev cX1_chosenConvoy : ByteArray := prog_3_method_17_code
def yX1_chosenConvoy : MethodName := ⟨RX1, "chosenConvoy", "(IZ)I"⟩
abbrev cX1_wasLockedNow : ByteArray := prog_3_method_18_code
def yX1_wasLockedNow : MethodName := ⟨RX1, "wasLockedNow", "(I)Z"⟩
abbrev cX1_turnChamber : ByteArray := prog_3_method_19_code
def yX1_turnChamber : MethodName := ⟨RX1, "turnChamber", "(I)V"⟩
abbrev cX1_lockRow : ByteArray := prog_3_method_20_code
def yX1_lockRow : MethodName := ⟨RX1, "lockRow", "(III)V"⟩
abbrev cX1_moveOn : ByteArray := prog_3_method_21_code
def yX1_moveOn : MethodName := ⟨RX1, "moveOn", "(I)V"⟩
abbrev cX1_copyFrom : ByteArray := prog_3_method_22_code
def yX1_copyFrom : MethodName := ⟨RX1, "copyFrom", "(LLockMaster$Canal;)V"⟩
def RX2 : String := "LockMaster$Changes"
def TX2 : u_T := fun k => match k with
  | 0 => ("LockMaster$Changes", "kept", "[LLockMaster$Canal;", true)
  | 1 => ("LockMaster$Changes", "newest", "I", false)
  | _ => ("LockMaster$Changes", "count", "I", false)
def tyX2 : Nat → FieldType := fun k => match k with
  | 0 => .array (.object "LockMaster$Canal")
  | 1 => .int
  | _ => .int
abbrev wsX20 : List Cond := u_ws RX2 TX2 3
theorem nmX2 : ∀ a, a < 3 → ∀ b, b < 3 → a ≠ b → (TX2 a).2.1 ≠ (TX2 b).2.1 := by decide +kernel
theorem tyX2_ok : ∀ k, k < 3 → parseFieldDescriptor (TX2 k).2.2.1 = some (tyX2 k) := by decide +kernel
abbrev cX2_init : ByteArray := prog_4_method_1_code
def yX2_init : MethodName := ⟨RX2, "<init>", "()V"⟩
abbrev cX2_keep : ByteArray := prog_4_method_2_code
def yX2_keep : MethodName := ⟨RX2, "keep", "(LLockMaster$Canal;)V"⟩
abbrev cX2_takeBack : ByteArray := prog_4_method_3_code
def yX2_takeBack : MethodName := ⟨RX2, "takeBack", "(LLockMaster$Canal;)V"⟩
abbrev cX2_forget : ByteArray := prog_4_method_4_code
def yX2_forget : MethodName := ⟨RX2, "forget", "()V"⟩
abbrev cX2_newestKept : ByteArray := prog_4_method_5_code
def yX2_newestKept : MethodName := ⟨RX2, "newestKept", "()LLockMaster$Canal;"⟩
def RX3 : String := "LockMaster$Fleet"
def TX3 : u_T := fun k => match k with
  | 0 => ("LockMaster$Fleet", "size", "LLockMaster$Row;", true)
  | 1 => ("LockMaster$Fleet", "draught", "LLockMaster$Row;", true)
  | 2 => ("LockMaster$Fleet", "rank", "LLockMaster$Row;", true)
  | 3 => ("LockMaster$Fleet", "up", "LLockMaster$Row;", true)
  | 4 => ("LockMaster$Fleet", "waitsAt", "LLockMaster$Row;", true)
  | 5 => ("LockMaster$Fleet", "since", "LLockMaster$Row;", true)
  | 6 => ("LockMaster$Fleet", "leftAt", "LLockMaster$Row;", true)
  | 7 => ("LockMaster$Fleet", "first", "LLockMaster$Row;", true)
  | 8 => ("LockMaster$Fleet", "next", "LLockMaster$Row;", true)
  | _ => ("LockMaster$Fleet", "count", "I", false)
def tyX3 : Nat → FieldType := fun k => match k with
  | 0 => .object "LockMaster$Row"
  | 1 => .object "LockMaster$Row"
  | 2 => .object "LockMaster$Row"
  | 3 => .object "LockMaster$Row"
  | 4 => .object "LockMaster$Row"
  | 5 => .object "LockMaster$Row"
  | 6 => .object "LockMaster$Row"
  | 7 => .object "LockMaster$Row"
  | 8 => .object "LockMaster$Row"
  | _ => .int
abbrev wsX30 : List Cond := u_ws RX3 TX3 10
theorem nmX3 : ∀ a, a < 10 → ∀ b, b < 10 → a ≠ b → (TX3 a).2.1 ≠ (TX3 b).2.1 := by decide +kernel
theorem tyX3_ok : ∀ k, k < 10 → parseFieldDescriptor (TX3 k).2.2.1 = some (tyX3 k) := by decide +kernel
abbrev cX3_init : ByteArray := prog_5_method_1_code
def yX3_init : MethodName := ⟨RX3, "<init>", "()V"⟩
abbrev cX3_make : ByteArray := prog_5_method_2_code
def yX3_make : MethodName := ⟨RX3, "make", "(IIIZ)I"⟩
abbrev cX3_has : ByteArray := prog_5_method_3_code
def yX3_has : MethodName := ⟨RX3, "has", "(I)Z"⟩
abbrev cX3_hasLeft : ByteArray := prog_5_method_4_code
def yX3_hasLeft : MethodName := ⟨RX3, "hasLeft", "(I)Z"⟩
abbrev cX3_goesUp : ByteArray := prog_5_method_5_code
def yX3_goesUp : MethodName := ⟨RX3, "goesUp", "(I)Z"⟩
abbrev cX3_reachOf : ByteArray := prog_5_method_6_code
def yX3_reachOf : MethodName := ⟨RX3, "reachOf", "(I)I"⟩
abbrev cX3_isFirstAt : ByteArray := prog_5_method_7_code
def yX3_isFirstAt : MethodName := ⟨RX3, "isFirstAt", "(II)Z"⟩
abbrev cX3_convoysAt : ByteArray := prog_5_method_8_code
def yX3_convoysAt : MethodName := ⟨RX3, "convoysAt", "(I)I"⟩
abbrev cX3_shipsInReach : ByteArray := prog_5_method_9_code
def yX3_shipsInReach : MethodName := ⟨RX3, "shipsInReach", "(I)I"⟩
abbrev cX3_shipsThatLeft : ByteArray := prog_5_method_10_code
def yX3_shipsThatLeft : MethodName := ⟨RX3, "shipsThatLeft", "()I"⟩
abbrev cX3_shipsInConvoy : ByteArray := prog_5_method_11_code
def yX3_shipsInConvoy : MethodName := ⟨RX3, "shipsInConvoy", "(I)I"⟩
abbrev cX3_shipOfConvoy : ByteArray := prog_5_method_12_code
def yX3_shipOfConvoy : MethodName := ⟨RX3, "shipOfConvoy", "(II)I"⟩
abbrev cX3_greatestRank : ByteArray := prog_5_method_13_code
def yX3_greatestRank : MethodName := ⟨RX3, "greatestRank", "(I)I"⟩
abbrev cX3_joinBehind : ByteArray := prog_5_method_14_code
def yX3_joinBehind : MethodName := ⟨RX3, "joinBehind", "(II)V"⟩
abbrev cX3_takeOut : ByteArray := prog_5_method_15_code
def yX3_takeOut : MethodName := ⟨RX3, "takeOut", "(I)V"⟩
abbrev cX3_cutBehind : ByteArray := prog_5_method_16_code
def yX3_cutBehind : MethodName := ⟨RX3, "cutBehind", "(II)V"⟩
abbrev cX3_leave : ByteArray := prog_5_method_17_code
def yX3_leave : MethodName := ⟨RX3, "leave", "(II)V"⟩
abbrev cX3_shipAheadOf : ByteArray := prog_5_method_18_code
def yX3_shipAheadOf : MethodName := ⟨RX3, "shipAheadOf", "(I)I"⟩
abbrev cX3_nameFirst : ByteArray := prog_5_method_19_code
def yX3_nameFirst : MethodName := ⟨RX3, "nameFirst", "(II)V"⟩
abbrev cX3_copyFrom : ByteArray := prog_5_method_20_code
def yX3_copyFrom : MethodName := ⟨RX3, "copyFrom", "(LLockMaster$Fleet;)V"⟩
def RX4 : String := "LockMaster$GoingRow"
def TX4 : u_T := fun k => match k with
  | 0 => ("LockMaster$GoingRow", "ships", "I", false)
  | 1 => ("LockMaster$GoingRow", "sizes", "I", false)
  | 2 => ("LockMaster$GoingRow", "draught", "I", false)
  | _ => ("LockMaster$GoingRow", "leastRank", "I", false)
def tyX4 : Nat → FieldType := fun k => match k with
  | 0 => .int
  | 1 => .int
  | 2 => .int
  | _ => .int
abbrev wsX40 : List Cond := u_ws RX4 TX4 4
theorem nmX4 : ∀ a, a < 4 → ∀ b, b < 4 → a ≠ b → (TX4 a).2.1 ≠ (TX4 b).2.1 := by decide +kernel
theorem tyX4_ok : ∀ k, k < 4 → parseFieldDescriptor (TX4 k).2.2.1 = some (tyX4 k) := by decide +kernel
abbrev cX4_init : ByteArray := prog_6_method_1_code
def yX4_init : MethodName := ⟨RX4, "<init>", "()V"⟩
abbrev cX4_lookAt : ByteArray := prog_6_method_2_code
def yX4_lookAt : MethodName := ⟨RX4, "lookAt", "(LLockMaster$Fleet;II)V"⟩
abbrev cX4_isHeldBack : ByteArray := prog_6_method_3_code
def yX4_isHeldBack : MethodName := ⟨RX4, "isHeldBack", "(IIZ)Z"⟩
def RX5 : String := "LockMaster$Locks"
def TX5 : u_T := fun k => match k with
  | 0 => ("LockMaster$Locks", "length", "LLockMaster$Row;", true)
  | 1 => ("LockMaster$Locks", "chamber", "LLockMaster$Row;", true)
  | 2 => ("LockMaster$Locks", "quarter", "LLockMaster$Row;", true)
  | 3 => ("LockMaster$Locks", "basins", "LLockMaster$Row;", true)
  | 4 => ("LockMaster$Locks", "full", "LLockMaster$Row;", true)
  | 5 => ("LockMaster$Locks", "fullBasins", "LLockMaster$Row;", true)
  | 6 => ("LockMaster$Locks", "lockedShips", "LLockMaster$Row;", true)
  | 7 => ("LockMaster$Locks", "lockings", "LLockMaster$Row;", true)
  | 8 => ("LockMaster$Locks", "basinWater", "I", false)
  | _ => ("LockMaster$Locks", "count", "I", false)
def tyX5 : Nat → FieldType := fun k => match k with
  | 0 => .object "LockMaster$Row"
  | 1 => .object "LockMaster$Row"
  | 2 => .object "LockMaster$Row"
  | 3 => .object "LockMaster$Row"
  | 4 => .object "LockMaster$Row"
  | 5 => .object "LockMaster$Row"
  | 6 => .object "LockMaster$Row"
  | 7 => .object "LockMaster$Row"
  | 8 => .int
  | _ => .int
abbrev wsX50 : List Cond := u_ws RX5 TX5 10
theorem nmX5 : ∀ a, a < 10 → ∀ b, b < 10 → a ≠ b → (TX5 a).2.1 ≠ (TX5 b).2.1 := by decide +kernel
theorem tyX5_ok : ∀ k, k < 10 → parseFieldDescriptor (TX5 k).2.2.1 = some (tyX5 k) := by decide +kernel
abbrev cX5_init : ByteArray := prog_7_method_1_code
def yX5_init : MethodName := ⟨RX5, "<init>", "()V"⟩
abbrev cX5_make : ByteArray := prog_7_method_2_code
def yX5_make : MethodName := ⟨RX5, "make", "(III)V"⟩
abbrev cX5_isFull : ByteArray := prog_7_method_3_code
def yX5_isFull : MethodName := ⟨RX5, "isFull", "(I)Z"⟩
abbrev cX5_inBasins : ByteArray := prog_7_method_4_code
def yX5_inBasins : MethodName := ⟨RX5, "inBasins", "(I)I"⟩
abbrev cX5_waterIn : ByteArray := prog_7_method_5_code
def yX5_waterIn : MethodName := ⟨RX5, "waterIn", "(I)I"⟩
abbrev cX5_allWater : ByteArray := prog_7_method_6_code
def yX5_allWater : MethodName := ⟨RX5, "allWater", "()I"⟩
abbrev cX5_lackingToFill : ByteArray := prog_7_method_7_code
def yX5_lackingToFill : MethodName := ⟨RX5, "lackingToFill", "(I)I"⟩
abbrev cX5_fill : ByteArray := prog_7_method_8_code
def yX5_fill : MethodName := ⟨RX5, "fill", "(I)V"⟩
abbrev cX5_leftBeyondBasins : ByteArray := prog_7_method_9_code
def yX5_leftBeyondBasins : MethodName := ⟨RX5, "leftBeyondBasins", "(I)I"⟩
abbrev cX5_empty : ByteArray := prog_7_method_10_code
def yX5_empty : MethodName := ⟨RX5, "empty", "(I)V"⟩
abbrev cX5_copyFrom : ByteArray := prog_7_method_11_code
def yX5_copyFrom : MethodName := ⟨RX5, "copyFrom", "(LLockMaster$Locks;)V"⟩
def RX6 : String := "LockMaster$Reaches"
def TX6 : u_T := fun k => match k with
  | 0 => ("LockMaster$Reaches", "area", "LLockMaster$Row;", true)
  | 1 => ("LockMaster$Reaches", "normal", "LLockMaster$Row;", true)
  | 2 => ("LockMaster$Reaches", "water", "LLockMaster$Row;", true)
  | _ => ("LockMaster$Reaches", "count", "I", false)
def tyX6 : Nat → FieldType := fun k => match k with
  | 0 => .object "LockMaster$Row"
  | 1 => .object "LockMaster$Row"
  | 2 => .object "LockMaster$Row"
  | _ => .int
abbrev wsX60 : List Cond := u_ws RX6 TX6 4
theorem nmX6 : ∀ a, a < 4 → ∀ b, b < 4 → a ≠ b → (TX6 a).2.1 ≠ (TX6 b).2.1 := by decide +kernel
theorem tyX6_ok : ∀ k, k < 4 → parseFieldDescriptor (TX6 k).2.2.1 = some (tyX6 k) := by decide +kernel
abbrev cX6_init : ByteArray := prog_8_method_1_code
def yX6_init : MethodName := ⟨RX6, "<init>", "()V"⟩
abbrev cX6_make : ByteArray := prog_8_method_2_code
def yX6_make : MethodName := ⟨RX6, "make", "(II)I"⟩
abbrev cX6_levelOf : ByteArray := prog_8_method_3_code
def yX6_levelOf : MethodName := ⟨RX6, "levelOf", "(I)I"⟩
abbrev cX6_drynessOf : ByteArray := prog_8_method_4_code
def yX6_drynessOf : MethodName := ⟨RX6, "drynessOf", "(I)I"⟩
abbrev cX6_spill : ByteArray := prog_8_method_5_code
def yX6_spill : MethodName := ⟨RX6, "spill", "()I"⟩
abbrev cX6_copyFrom : ByteArray := prog_8_method_6_code
def yX6_copyFrom : MethodName := ⟨RX6, "copyFrom", "(LLockMaster$Reaches;)V"⟩
def RX7 : String := "LockMaster$Row"
def TX7 : u_T := fun k => match k with
  | _ => ("LockMaster$Row", "numbers", "[I", true)
def tyX7 : Nat → FieldType := fun k => match k with
  | _ => .array .int
abbrev wsX70 : List Cond := u_ws RX7 TX7 1
theorem nmX7 : ∀ a, a < 1 → ∀ b, b < 1 → a ≠ b → (TX7 a).2.1 ≠ (TX7 b).2.1 := by decide +kernel
theorem tyX7_ok : ∀ k, k < 1 → parseFieldDescriptor (TX7 k).2.2.1 = some (tyX7 k) := by decide +kernel
abbrev cX7_init : ByteArray := prog_9_method_1_code
def yX7_init : MethodName := ⟨RX7, "<init>", "(I)V"⟩
abbrev cX7_at : ByteArray := prog_9_method_2_code
def yX7_at : MethodName := ⟨RX7, "at", "(I)I"⟩
abbrev cX7_put : ByteArray := prog_9_method_3_code
def yX7_put : MethodName := ⟨RX7, "put", "(II)V"⟩
abbrev cX7_add : ByteArray := prog_9_method_4_code
def yX7_add : MethodName := ⟨RX7, "add", "(II)V"⟩
abbrev cX7_sum : ByteArray := prog_9_method_5_code
def yX7_sum : MethodName := ⟨RX7, "sum", "()I"⟩
abbrev cX7_copyFrom : ByteArray := prog_9_method_6_code
def yX7_copyFrom : MethodName := ⟨RX7, "copyFrom", "(LLockMaster$Row;)V"⟩
def RX8 : String := "LockMaster"
def TX8 : u_T := fun k => match k with
  | 0 => ("LockMaster", "canal", "LLockMaster$Canal;", true)
  | 1 => ("LockMaster", "forecast", "LLockMaster$Canal;", true)
  | 2 => ("LockMaster", "snapshot", "LLockMaster$Canal;", true)
  | 3 => ("LockMaster", "changes", "LLockMaster$Changes;", true)
  | 4 => ("LockMaster", "text", "LLockMaster$ArrivalText;", true)
  | 5 => ("LockMaster", "hasSnapshot", "Z", false)
  | 6 => ("LockMaster", "fault", "I", false)
  | _ => ("LockMaster", "reason", "I", false)
def tyX8 : Nat → FieldType := fun k => match k with
  | 0 => .object "LockMaster$Canal"
  | 1 => .object "LockMaster$Canal"
  | 2 => .object "LockMaster$Canal"
  | 3 => .object "LockMaster$Changes"
  | 4 => .object "LockMaster$ArrivalText"
  | 5 => .boolean
  | 6 => .int
  | _ => .int
abbrev wsX80 : List Cond := u_ws RX8 TX8 8
theorem nmX8 : ∀ a, a < 8 → ∀ b, b < 8 → a ≠ b → (TX8 a).2.1 ≠ (TX8 b).2.1 := by decide +kernel
theorem tyX8_ok : ∀ k, k < 8 → parseFieldDescriptor (TX8 k).2.2.1 = some (tyX8 k) := by decide +kernel
abbrev cX8_init : ByteArray := prog_1_method_1_code
def yX8_init : MethodName := ⟨RX8, "<init>", "()V"⟩
abbrev cX8_addReach : ByteArray := prog_1_method_2_code
def yX8_addReach : MethodName := ⟨RX8, "addReach", "(IIIII)I"⟩
abbrev cX8_set : ByteArray := prog_1_method_3_code
def yX8_set : MethodName := ⟨RX8, "set", "(II)I"⟩
abbrev cX8_reach : ByteArray := prog_1_method_4_code
def yX8_reach : MethodName := ⟨RX8, "reach", "(II)I"⟩
abbrev cX8_lock : ByteArray := prog_1_method_5_code
def yX8_lock : MethodName := ⟨RX8, "lock", "(II)I"⟩
abbrev cX8_addShip : ByteArray := prog_1_method_6_code
def yX8_addShip : MethodName := ⟨RX8, "addShip", "(IIIZ)I"⟩
abbrev cX8_append : ByteArray := prog_1_method_7_code
def yX8_append : MethodName := ⟨RX8, "append", "(C)V"⟩
abbrev cX8_arrive : ByteArray := prog_1_method_8_code
def yX8_arrive : MethodName := ⟨RX8, "arrive", "()I"⟩
abbrev cX8_faultPosition : ByteArray := prog_1_method_9_code
def yX8_faultPosition : MethodName := ⟨RX8, "faultPosition", "()I"⟩
abbrev cX8_join : ByteArray := prog_1_method_10_code
def yX8_join : MethodName := ⟨RX8, "join", "(II)I"⟩
abbrev cX8_part : ByteArray := prog_1_method_11_code
def yX8_part : MethodName := ⟨RX8, "part", "(I)I"⟩
abbrev cX8_refusal : ByteArray := prog_1_method_12_code
def yX8_refusal : MethodName := ⟨RX8, "refusal", "()I"⟩
abbrev cX8_ship : ByteArray := prog_1_method_13_code
def yX8_ship : MethodName := ⟨RX8, "ship", "(II)I"⟩
abbrev cX8_convoy : ByteArray := prog_1_method_14_code
def yX8_convoy : MethodName := ⟨RX8, "convoy", "(II)I"⟩
abbrev cX8_waiting : ByteArray := prog_1_method_15_code
def yX8_waiting : MethodName := ⟨RX8, "waiting", "(II)I"⟩
abbrev cX8_priority : ByteArray := prog_1_method_16_code
def yX8_priority : MethodName := ⟨RX8, "priority", "(I)I"⟩
abbrev cX8_hindrance : ByteArray := prog_1_method_17_code
def yX8_hindrance : MethodName := ⟨RX8, "hindrance", "(I)I"⟩
abbrev cX8_pass : ByteArray := prog_1_method_18_code
def yX8_pass : MethodName := ⟨RX8, "pass", "(I)I"⟩
abbrev cX8_tick : ByteArray := prog_1_method_19_code
def yX8_tick : MethodName := ⟨RX8, "tick", "()I"⟩
abbrev cX8_untilLeft : ByteArray := prog_1_method_20_code
def yX8_untilLeft : MethodName := ⟨RX8, "untilLeft", "(II)I"⟩
abbrev cX8_account : ByteArray := prog_1_method_21_code
def yX8_account : MethodName := ⟨RX8, "account", "(I)I"⟩
abbrev cX8_meanLocked : ByteArray := prog_1_method_22_code
def yX8_meanLocked : MethodName := ⟨RX8, "meanLocked", "()D"⟩
abbrev cX8_undo : ByteArray := prog_1_method_23_code
def yX8_undo : MethodName := ⟨RX8, "undo", "()I"⟩
abbrev cX8_save : ByteArray := prog_1_method_24_code
def yX8_save : MethodName := ⟨RX8, "save", "()V"⟩
abbrev cX8_restore : ByteArray := prog_1_method_25_code
def yX8_restore : MethodName := ⟨RX8, "restore", "()V"⟩
abbrev cX8_isWithin : ByteArray := prog_1_method_26_code
def yX8_isWithin : MethodName := ⟨RX8, "isWithin", "(III)Z"⟩
abbrev cX8_mostOfSetting : ByteArray := prog_1_method_27_code
def yX8_mostOfSetting : MethodName := ⟨RX8, "mostOfSetting", "(I)I"⟩
abbrev cX8_requireIndex : ByteArray := prog_1_method_28_code
def yX8_requireIndex : MethodName := ⟨RX8, "requireIndex", "(II)V"⟩
abbrev cX8_requireArgument : ByteArray := prog_1_method_29_code
def yX8_requireArgument : MethodName := ⟨RX8, "requireArgument", "(Z)V"⟩
abbrev cX8_requireState : ByteArray := prog_1_method_30_code
def yX8_requireState : MethodName := ⟨RX8, "requireState", "(Z)V"⟩
abbrev cX8_requireElement : ByteArray := prog_1_method_31_code
def yX8_requireElement : MethodName := ⟨RX8, "requireElement", "(Z)V"⟩
abbrev cX8_refuseFor : ByteArray := prog_1_method_32_code
def yX8_refuseFor : MethodName := ⟨RX8, "refuseFor", "(I)V"⟩
abbrev cX8_refusalOfShips : ByteArray := prog_1_method_33_code
def yX8_refusalOfShips : MethodName := ⟨RX8, "refusalOfShips", "(I)I"⟩
abbrev cX8_refusalOfJoin : ByteArray := prog_1_method_34_code
def yX8_refusalOfJoin : MethodName := ⟨RX8, "refusalOfJoin", "(II)I"⟩
abbrev cX8_refusalOfPart : ByteArray := prog_1_method_35_code
def yX8_refusalOfPart : MethodName := ⟨RX8, "refusalOfPart", "(I)I"⟩
def RX9 : String := "LockMasterModel"
def TX9 : u_T := fun k => match k with
  | 0 => ("LockMasterModel", "thrown", "I", false)
  | 1 => ("LockMasterModel", "now", "[I", true)
  | 2 => ("LockMasterModel", "kept", "[I", true)
  | 3 => ("LockMasterModel", "undos", "I", false)
  | 4 => ("LockMasterModel", "saved", "[I", true)
  | 5 => ("LockMasterModel", "isSaved", "Z", false)
  | 6 => ("LockMasterModel", "tried", "[I", true)
  | 7 => ("LockMasterModel", "buffer", "[I", true)
  | 8 => ("LockMasterModel", "length", "I", false)
  | 9 => ("LockMasterModel", "at", "I", false)
  | 10 => ("LockMasterModel", "fault", "I", false)
  | 11 => ("LockMasterModel", "refusal", "I", false)
  | 12 => ("LockMasterModel", "arrival", "[I", true)
  | 13 => ("LockMasterModel", "heads", "[I", true)
  | 14 => ("LockMasterModel", "many", "I", false)
  | 15 => ("LockMasterModel", "row", "[I", true)
  | 16 => ("LockMasterModel", "rowSize", "I", false)
  | 17 => ("LockMasterModel", "isLocked", "[Z", true)
  | _ => ("LockMasterModel", "leaving", "I", false)
def tyX9 : Nat → FieldType := fun k => match k with
  | 0 => .int
  | 1 => .array .int
  | 2 => .array .int
  | 3 => .int
  | 4 => .array .int
  | 5 => .boolean
  | 6 => .array .int
  | 7 => .array .int
  | 8 => .int
  | 9 => .int
  | 10 => .int
  | 11 => .int
  | 12 => .array .int
  | 13 => .array .int
  | 14 => .int
  | 15 => .array .int
  | 16 => .int
  | 17 => .array .boolean
  | _ => .int
abbrev wsX90 : List Cond := u_ws RX9 TX9 19
theorem nmX9 : ∀ a, a < 19 → ∀ b, b < 19 → a ≠ b → (TX9 a).2.1 ≠ (TX9 b).2.1 := by decide +kernel
theorem tyX9_ok : ∀ k, k < 19 → parseFieldDescriptor (TX9 k).2.2.1 = some (tyX9 k) := by decide +kernel
abbrev cX9_init : ByteArray := prog_11_method_1_code
def yX9_init : MethodName := ⟨RX9, "<init>", "()V"⟩
abbrev cX9_thrown : ByteArray := prog_11_method_2_code
def yX9_thrown : MethodName := ⟨RX9, "thrown", "()I"⟩
abbrev cX9_raises : ByteArray := prog_11_method_3_code
def yX9_raises : MethodName := ⟨RX9, "raises", "(I)I"⟩
abbrev cX9_refuses : ByteArray := prog_11_method_4_code
def yX9_refuses : MethodName := ⟨RX9, "refuses", "(II)I"⟩
abbrev cX9_in : ByteArray := prog_11_method_5_code
def yX9_in : MethodName := ⟨RX9, "in", "(III)Z"⟩
abbrev cX9_changes : ByteArray := prog_11_method_6_code
def yX9_changes : MethodName := ⟨RX9, "changes", "()V"⟩
abbrev cX9_isReach : ByteArray := prog_11_method_7_code
def yX9_isReach : MethodName := ⟨RX9, "isReach", "(I)Z"⟩
abbrev cX9_isLock : ByteArray := prog_11_method_8_code
def yX9_isLock : MethodName := ⟨RX9, "isLock", "(I)Z"⟩
abbrev cX9_isShip : ByteArray := prog_11_method_9_code
def yX9_isShip : MethodName := ⟨RX9, "isShip", "(I)Z"⟩
abbrev cX9_addReach : ByteArray := prog_11_method_10_code
def yX9_addReach : MethodName := ⟨RX9, "addReach", "(IIIII)I"⟩
abbrev cX9_set : ByteArray := prog_11_method_11_code
def yX9_set : MethodName := ⟨RX9, "set", "(II)I"⟩
abbrev cX9_water : ByteArray := prog_11_method_12_code
def yX9_water : MethodName := ⟨RX9, "water", "(I)I"⟩
abbrev cX9_level : ByteArray := prog_11_method_13_code
def yX9_level : MethodName := ⟨RX9, "level", "(I)I"⟩
abbrev cX9_dryness : ByteArray := prog_11_method_14_code
def yX9_dryness : MethodName := ⟨RX9, "dryness", "(I)I"⟩
abbrev cX9_reach : ByteArray := prog_11_method_15_code
def yX9_reach : MethodName := ⟨RX9, "reach", "(II)I"⟩
abbrev cX9_lockPart : ByteArray := prog_11_method_16_code
def yX9_lockPart : MethodName := ⟨RX9, "lockPart", "(II)I"⟩
abbrev cX9_quarter : ByteArray := prog_11_method_17_code
def yX9_quarter : MethodName := ⟨RX9, "quarter", "(I)I"⟩
abbrev cX9_held : ByteArray := prog_11_method_18_code
def yX9_held : MethodName := ⟨RX9, "held", "(I)I"⟩
abbrev cX9_lock : ByteArray := prog_11_method_19_code
def yX9_lock : MethodName := ⟨RX9, "lock", "(II)I"⟩
abbrev cX9_lacks : ByteArray := prog_11_method_20_code
def yX9_lacks : MethodName := ⟨RX9, "lacks", "(II)I"⟩
abbrev cX9_fills : ByteArray := prog_11_method_21_code
def yX9_fills : MethodName := ⟨RX9, "fills", "(I)Z"⟩
abbrev cX9_empties : ByteArray := prog_11_method_22_code
def yX9_empties : MethodName := ⟨RX9, "empties", "(I)V"⟩
abbrev cX9_of : ByteArray := prog_11_method_23_code
def yX9_of : MethodName := ⟨RX9, "of", "(II)I"⟩
abbrev cX9_puts : ByteArray := prog_11_method_24_code
def yX9_puts : MethodName := ⟨RX9, "puts", "(III)V"⟩
abbrev cX9_newShip : ByteArray := prog_11_method_25_code
def yX9_newShip : MethodName := ⟨RX9, "newShip", "(IIII)I"⟩
abbrev cX9_addShip : ByteArray := prog_11_method_26_code
def yX9_addShip : MethodName := ⟨RX9, "addShip", "(IIIZ)I"⟩
abbrev cX9_append : ByteArray := prog_11_method_27_code
def yX9_append : MethodName := ⟨RX9, "append", "(C)V"⟩
abbrev cX9_here : ByteArray := prog_11_method_28_code
def yX9_here : MethodName := ⟨RX9, "here", "()I"⟩
abbrev cX9_takes : ByteArray := prog_11_method_29_code
def yX9_takes : MethodName := ⟨RX9, "takes", "(I)Z"⟩
abbrev cX9_arrives : ByteArray := prog_11_method_30_code
def yX9_arrives : MethodName := ⟨RX9, "arrives", "(I)Z"⟩
abbrev cX9_arrive : ByteArray := prog_11_method_31_code
def yX9_arrive : MethodName := ⟨RX9, "arrive", "()I"⟩
abbrev cX9_faultPosition : ByteArray := prog_11_method_32_code
def yX9_faultPosition : MethodName := ⟨RX9, "faultPosition", "()I"⟩
abbrev cX9_sizeOf : ByteArray := prog_11_method_33_code
def yX9_sizeOf : MethodName := ⟨RX9, "sizeOf", "(I)I"⟩
abbrev cX9_shipIn : ByteArray := prog_11_method_34_code
def yX9_shipIn : MethodName := ⟨RX9, "shipIn", "(II)I"⟩
abbrev cX9_lockOf : ByteArray := prog_11_method_35_code
def yX9_lockOf : MethodName := ⟨RX9, "lockOf", "(I)I"⟩
abbrev cX9_waited : ByteArray := prog_11_method_36_code
def yX9_waited : MethodName := ⟨RX9, "waited", "(I)I"⟩
abbrev cX9_join : ByteArray := prog_11_method_37_code
def yX9_join : MethodName := ⟨RX9, "join", "(II)I"⟩
abbrev cX9_splits : ByteArray := prog_11_method_38_code
def yX9_splits : MethodName := ⟨RX9, "splits", "(II)V"⟩
abbrev cX9_part : ByteArray := prog_11_method_39_code
def yX9_part : MethodName := ⟨RX9, "part", "(I)I"⟩
abbrev cX9_refusal : ByteArray := prog_11_method_40_code
def yX9_refusal : MethodName := ⟨RX9, "refusal", "()I"⟩
abbrev cX9_priorityOf : ByteArray := prog_11_method_41_code
def yX9_priorityOf : MethodName := ⟨RX9, "priorityOf", "(I)I"⟩
abbrev cX9_orders : ByteArray := prog_11_method_42_code
def yX9_orders : MethodName := ⟨RX9, "orders", "(I)V"⟩
abbrev cX9_rows : ByteArray := prog_11_method_43_code
def yX9_rows : MethodName := ⟨RX9, "rows", "(I)V"⟩
abbrev cX9_next : ByteArray := prog_11_method_44_code
def yX9_next : MethodName := ⟨RX9, "next", "(I)I"⟩
abbrev cX9_rules : ByteArray := prog_11_method_45_code
def yX9_rules : MethodName := ⟨RX9, "rules", "(I)I"⟩
abbrev cX9_ship : ByteArray := prog_11_method_46_code
def yX9_ship : MethodName := ⟨RX9, "ship", "(II)I"⟩
abbrev cX9_convoy : ByteArray := prog_11_method_47_code
def yX9_convoy : MethodName := ⟨RX9, "convoy", "(II)I"⟩
abbrev cX9_waiting : ByteArray := prog_11_method_48_code
def yX9_waiting : MethodName := ⟨RX9, "waiting", "(II)I"⟩
abbrev cX9_priority : ByteArray := prog_11_method_49_code
def yX9_priority : MethodName := ⟨RX9, "priority", "(I)I"⟩
abbrev cX9_hindrance : ByteArray := prog_11_method_50_code
def yX9_hindrance : MethodName := ⟨RX9, "hindrance", "(I)I"⟩
abbrev cX9_locks : ByteArray := prog_11_method_51_code
def yX9_locks : MethodName := ⟨RX9, "locks", "(I)V"⟩
abbrev cX9_wasLocked : ByteArray := prog_11_method_52_code
def yX9_wasLocked : MethodName := ⟨RX9, "wasLocked", "(I)Z"⟩
abbrev cX9_works : ByteArray := prog_11_method_53_code
def yX9_works : MethodName := ⟨RX9, "works", "(I)V"⟩
abbrev cX9_ticks : ByteArray := prog_11_method_54_code
def yX9_ticks : MethodName := ⟨RX9, "ticks", "()V"⟩
abbrev cX9_pass : ByteArray := prog_11_method_55_code
def yX9_pass : MethodName := ⟨RX9, "pass", "(I)I"⟩
abbrev cX9_tick : ByteArray := prog_11_method_56_code
def yX9_tick : MethodName := ⟨RX9, "tick", "()I"⟩
abbrev cX9_untilLeft : ByteArray := prog_11_method_57_code
def yX9_untilLeft : MethodName := ⟨RX9, "untilLeft", "(II)I"⟩
abbrev cX9_account : ByteArray := prog_11_method_58_code
def yX9_account : MethodName := ⟨RX9, "account", "(I)I"⟩
abbrev cX9_meanLocked : ByteArray := prog_11_method_59_code
def yX9_meanLocked : MethodName := ⟨RX9, "meanLocked", "()D"⟩
abbrev cX9_undo : ByteArray := prog_11_method_60_code
def yX9_undo : MethodName := ⟨RX9, "undo", "()I"⟩
abbrev cX9_save : ByteArray := prog_11_method_61_code
def yX9_save : MethodName := ⟨RX9, "save", "()V"⟩
abbrev cX9_restore : ByteArray := prog_11_method_62_code
def yX9_restore : MethodName := ⟨RX9, "restore", "()V"⟩
def RJx145de : String := "java/io/Serializable"
def RJx00060 : String := "java/lang/ArrayIndexOutOfBoundsException"
def RJ6 : String := "java/lang/Integer"
def RJ9 : String := "java/lang/Math"
def RJ0 : String := "java/lang/String"
abbrev cJx00060_init_a7421 : ByteArray := prog_14_method_2_code
def yJx00060_init_a7421 : MethodName := ⟨RJx00060, "<init>", "(Ljava/lang/String;)V"⟩
abbrev cJ6_bitCount_0f7a4 : ByteArray := prog_19_method_49_code
def yJ6_bitCount_0f7a4 : MethodName := ⟨RJ6, "bitCount", "(I)I"⟩
abbrev cJ9_floorDiv_7cf53 : ByteArray := prog_20_method_47_code
def yJ9_floorDiv_7cf53 : MethodName := ⟨RJ9, "floorDiv", "(II)I"⟩
abbrev cJ9_max_7cf53 : ByteArray := prog_20_method_65_code
def yJ9_max_7cf53 : MethodName := ⟨RJ9, "max", "(II)I"⟩
abbrev cJ9_min_7cf53 : ByteArray := prog_20_method_69_code
def yJ9_min_7cf53 : MethodName := ⟨RJ9, "min", "(II)I"⟩
def RL : String := "LockMasterLaw"
abbrev cL_addReach : ByteArray := method_3_code
def yL_addReach : MethodName := ⟨RL, "addReach", "(LLockMaster;IIIII[J)I"⟩
abbrev cL_set : ByteArray := method_4_code
def yL_set : MethodName := ⟨RL, "set", "(LLockMaster;II[J)I"⟩
abbrev cL_reach : ByteArray := method_5_code
def yL_reach : MethodName := ⟨RL, "reach", "(LLockMaster;II[J)I"⟩
abbrev cL_lock : ByteArray := method_6_code
def yL_lock : MethodName := ⟨RL, "lock", "(LLockMaster;II[J)I"⟩
abbrev cL_addShip : ByteArray := method_7_code
def yL_addShip : MethodName := ⟨RL, "addShip", "(LLockMaster;IIIZ[J)I"⟩
abbrev cL_append : ByteArray := method_8_code
def yL_append : MethodName := ⟨RL, "append", "(LLockMaster;C)I"⟩
abbrev cL_arrive : ByteArray := method_9_code
def yL_arrive : MethodName := ⟨RL, "arrive", "(LLockMaster;[J)I"⟩
abbrev cL_join : ByteArray := method_10_code
def yL_join : MethodName := ⟨RL, "join", "(LLockMaster;II[J)I"⟩
abbrev cL_part : ByteArray := method_11_code
def yL_part : MethodName := ⟨RL, "part", "(LLockMaster;I[J)I"⟩
abbrev cL_refusal : ByteArray := method_12_code
def yL_refusal : MethodName := ⟨RL, "refusal", "(LLockMaster;[J)I"⟩
abbrev cL_ship : ByteArray := method_13_code
def yL_ship : MethodName := ⟨RL, "ship", "(LLockMaster;II[J)I"⟩
abbrev cL_convoy : ByteArray := method_14_code
def yL_convoy : MethodName := ⟨RL, "convoy", "(LLockMaster;II[J)I"⟩
abbrev cL_waiting : ByteArray := method_15_code
def yL_waiting : MethodName := ⟨RL, "waiting", "(LLockMaster;II[J)I"⟩
abbrev cL_priority : ByteArray := method_16_code
def yL_priority : MethodName := ⟨RL, "priority", "(LLockMaster;I[J)I"⟩
abbrev cL_hindrance : ByteArray := method_17_code
def yL_hindrance : MethodName := ⟨RL, "hindrance", "(LLockMaster;I[J)I"⟩
abbrev cL_pass : ByteArray := method_18_code
def yL_pass : MethodName := ⟨RL, "pass", "(LLockMaster;I[J)I"⟩
abbrev cL_untilLeft : ByteArray := method_19_code
def yL_untilLeft : MethodName := ⟨RL, "untilLeft", "(LLockMaster;II[J)I"⟩
abbrev cL_account : ByteArray := method_20_code
def yL_account : MethodName := ⟨RL, "account", "(LLockMaster;I[J)I"⟩
abbrev cL_meanLocked : ByteArray := method_21_code
def yL_meanLocked : MethodName := ⟨RL, "meanLocked", "(LLockMaster;[D)I"⟩
abbrev cL_undo : ByteArray := method_22_code
def yL_undo : MethodName := ⟨RL, "undo", "(LLockMaster;[J)I"⟩
abbrev cL_restore : ByteArray := method_23_code
def yL_restore : MethodName := ⟨RL, "restore", "(LLockMaster;)I"⟩
abbrev cL_law : ByteArray := code
def yL_law : MethodName := ⟨RL, "law", "([I)Z"⟩
end
section
/-! THE WORLDS: an object of the system is a NAME (a number); where it lies is a function ad; what its places hold is a function F; which of them are references, and whereto, a table of shapes says, for good -/
section ZA
abbrev zF : Type := Nat → Nat → Int32
/-- kind (0 an object, 1 int[], 2 boolean[], 3 Canal[], 4 long[], else double[]), class or length, the places: a name, or a number -/
abbrev zS : Type := Nat × Nat × List (Option Nat)
abbrev zU : Type := Nat × (Nat → zS)
abbrev zL : Type := List (Option Value)
abbrev zO : Type := Option Value → zF → Prop
abbrev zX : Type := String → zF → Prop
abbrev zSp : Type := List Value → zF → zO → zX → Prop
abbrev zT : Type := ClassId × ClassId × ClassId × ClassId × ClassId
def zup (F : zF) (j i : Nat) (v : Int32) : zF := fun a b => if a = j then (if b = i then v else F a b) else F a b
def zv (ad : Nat → Nat) : Value → Value
  | .int v => .int v
  | .long v => .long v
  | .float v => .float v
  | .double v => .double v
  | .null => .null
  | .ref k => .ref (ad k)
  | .retAddr k => .retAddr k
def znth {α : Type} : List α → Nat → Option α
  | [], _ => none
  | a :: _, 0 => some a
  | _ :: l, n + 1 => znth l n
def zFv (ad : Nat → Nat) (f : Nat → Int32) (i : Nat) : Option Nat → Value
  | none => .int (f i)
  | some t => .ref (ad t)
def zFs (ad : Nat → Nat) (f : Nat → Int32) : Nat → List (Option Nat) → List Value
  | _, [] => []
  | i, o :: r => zFv ad f i o :: zFs ad f (i + 1) r
def zE (cA : zT) (ad : Nat → Nat) (q : zS) (f : Nat → Int32) : va_E := match q.1 with
  | 0 => .inr (q.2.1, zFs ad f 0 q.2.2)
  | 1 => .inl (cA.1, q.2.1, .inl f)
  | 2 => .inl (cA.2.1, q.2.1, .inl f)
  | 3 => .inl (cA.2.2.1, q.2.1, .inr (.inr (.inr (.inr (fun j => ((znth q.2.2 j).getD none).map ad)))))
  | 4 => .inl (cA.2.2.2.1, q.2.1, .inr (.inl (fun j => (f j).toInt64)))
  | _ => .inl (cA.2.2.2.2, q.2.1, .inr (.inr (.inr (.inl (fun _ => FP.ddiv (FP.i2d (f 0)) (FP.i2d (f 1)))))))
def zWs (cA : zT) (U : zU) (ad : Nat → Nat) (F : zF) : va_W := (List.range U.1).map fun k => (ad k, zE cA ad (U.2 k) (F k))
def zinj (U : zU) (ad : Nat → Nat) : Prop := ∀ i j, i < U.1 → j < U.1 → ad i = ad j → i = j
def zA (U : zU) (ad : Nat → Nat) (sz : Nat) : Nat → Prop := fun q => (∃ k, k < U.1 ∧ q = ad k) ∨ sz ≤ q
theorem znth_eq {α : Type} (l : List α) (n : Nat) : znth l n = l[n]? := by
  induction l generalizing n with
  | nil => cases n <;> rfl
  | cons a l ih => cases n with
    | zero => rfl
    | succ n => exact (ih n).trans (by simp)
theorem zFs_len (ad : Nat → Nat) (f : Nat → Int32) (l : List (Option Nat)) : ∀ b, (zFs ad f b l).length = l.length := by
  induction l with
  | nil => intro b; rfl
  | cons o r ih => intro b; exact congrArg (· + 1) (ih (b + 1))
theorem zFs_at (ad : Nat → Nat) (f : Nat → Int32) (l : List (Option Nat)) : ∀ (b k : Nat), (zFs ad f b l)[k]? = (znth l k).map (zFv ad f (b + k)) := by
  induction l with
  | nil => intro b k; cases k <;> rfl
  | cons o r ih =>
    intro b k
    cases k with
    | zero => rfl
    | succ k =>
      have h := ih (b + 1) k
      rw [show b + 1 + k = b + (k + 1) by omega] at h
      exact h
theorem zFs_set (ad : Nat → Nat) (f : Nat → Int32) (v : Int32) (l : List (Option Nat)) {k : Nat} (hk : znth l k = some none) : (zFs ad f 0 l).set k (.int v) = zFs ad (upd f k v) 0 l := by
  apply List.ext_getElem?
  intro i
  have hlen : k < (zFs ad f 0 l).length := by
    rw [zFs_len]
    rw [znth_eq] at hk
    exact (List.getElem?_eq_some_iff.mp hk).1
  by_cases h : k = i
  · subst h
    rw [List.getElem?_set_self hlen, zFs_at, hk]
    simp [zFv, upd]
  · rw [List.getElem?_set_ne h, zFs_at, zFs_at]
    cases znth l i with
    | none => rfl
    | some o => cases o with
      | none => simp [zFv, upd, Ne.symm h]
      | some t => rfl
theorem zWs_at (cA : zT) (U : zU) (ad : Nat → Nat) (F : zF) {k : Nat} (h : k < U.1) : (zWs cA U ad F)[k]? = some (ad k, zE cA ad (U.2 k) (F k)) := by
  simp [zWs, List.getElem?_range, h]
theorem zWs_len (cA : zT) (U : zU) (ad : Nat → Nat) (F : zF) : (zWs cA U ad F).length = U.1 := by simp [zWs]
theorem zWs_in {cA : zT} {U : zU} {ad : Nat → Nat} {F : zF} {k : Nat} {q : Nat × va_E} (h : (zWs cA U ad F)[k]? = some q) : k < U.1 ∧ q = (ad k, zE cA ad (U.2 k) (F k)) := by
  have hk : k < U.1 := by
    have := (List.getElem?_eq_some_iff.mp h).1
    rwa [zWs_len] at this
  rw [zWs_at cA U ad F hk] at h
  exact ⟨hk, (Option.some.inj h).symm⟩
theorem zWs_set (cA : zT) (U : zU) (ad : Nat → Nat) (F F' : zF) {j : Nat} (hj : j < U.1) {e : va_E} (he : e = zE cA ad (U.2 j) (F' j)) (hF : ∀ k, k ≠ j → F' k = F k) : (zWs cA U ad F).set j (ad j, e) = zWs cA U ad F' := by
  apply List.ext_getElem?
  intro i
  by_cases h : j = i
  · subst h
    rw [List.getElem?_set_self (by rw [zWs_len]; exact hj), zWs_at _ _ _ _ hj, he]
  · rw [List.getElem?_set_ne h]
    by_cases hi : i < U.1
    · rw [zWs_at _ _ _ _ hi, zWs_at _ _ _ _ hi, hF i (Ne.symm h)]
    · rw [List.getElem?_eq_none (by rw [zWs_len]; omega), List.getElem?_eq_none (by rw [zWs_len]; omega)]
theorem zup_self (F : zF) (j i : Nat) (v : Int32) : zup F j i v j = upd (F j) i v := by
  funext b
  simp [zup, upd]
theorem zup_ne (F : zF) {j k : Nat} (i : Nat) (v : Int32) (h : k ≠ j) : zup F j i v k = F k := by
  funext b
  simp [zup, h]
theorem zWs_D {cA : zT} {U : zU} {ad : Nat → Nat} {F : zF} {A : Nat → Prop} (hi : zinj U ad) (hA : ∀ k, k < U.1 → A (ad k)) : va_D A (zWs cA U ad F) := by
  refine ⟨fun i j p q hp hq hpq => ?_, fun k q hq => ?_⟩
  · obtain ⟨h1, rfl⟩ := zWs_in hp
    obtain ⟨h2, rfl⟩ := zWs_in hq
    exact hi i j h1 h2 hpq
  · obtain ⟨h1, rfl⟩ := zWs_in hq
    exact hA k h1
theorem zWs_A {cA : zT} {U : zU} {ad : Nat → Nat} {F : zF} {sz q : Nat} : va_A (zWs cA U ad F) sz q ↔ zA U ad sz q := by
  constructor
  · rintro (⟨k, e, h⟩ | h)
    · obtain ⟨h1, h2⟩ := zWs_in h
      exact Or.inl ⟨k, h1, congrArg Prod.fst h2⟩
    · exact Or.inr h
  · rintro (⟨k, h, rfl⟩ | h)
    · exact Or.inl ⟨k, _, zWs_at cA U ad F h⟩
    · exact Or.inr h
/-! the classes, the words -/
def zcl : List vw_C := [(RX0, TX0, 7), (RX1, TX1, 11), (RX2, TX2, 3), (RX3, TX3, 10), (RX4, TX4, 4), (RX5, TX5, 10), (RX6, TX6, 4), (RX7, TX7, 1), (RX8, TX8, 8), (RX9, TX9, 19)]
def zisN : Cond → Bool
  | .fieldLinkNest .. => true
  | .methodLinkNest .. => true
  | .castable .. => true
  | .declares .. => true
  | _ => false
def zts : List Cond := lw_tbl.filter goodWord
def znw : List Cond := lw_tbl.filter zisN
def zstr : List (String × Nat × String) := [("LockMaster", 309, "an argument or the text is not allowed"), ("LockMaster", 314, "the state does not allow this call"), ("LockMaster", 304, "there is no such number"), ("LockMaster", 324, "refused; refusal() tells the reason"), ("LockMaster", 319, "there is no such element"), ("LockMaster", 290, "there was no locking")]
def ztys (cA : zT) : List (ClassId × FieldType) := [(cA.1, .int), (cA.2.1, .boolean), (cA.2.2.1, .object RX1), (cA.2.2.2.1, .long), (cA.2.2.2.2, .double)]
def zK (D : va_G) (cA : zT) (S : State) : Prop := va_K D zcl (ztys cA) S ∧ (∀ w ∈ znw, va_Nw w S) ∧ (∀ q ∈ zstr, ∃ a, vk_R q.1 q.2.1 q.2.2 a S)
theorem zK.warm {D : va_G} {cA : zT} {s U : State} (hW : s.WarmedH U.vm) (h : zK D cA s) : zK D cA U := by
  refine ⟨va_K.moved hW.alike h.1, fun w hw => ?_, fun q hq => ?_⟩
  · have h1 := h.2.1 w hw
    have h2 : zisN w = true := (List.mem_filter.mp hw).2
    cases w <;> first | exact va_Nw.warmF hW h1 | exact va_Nw.warmM hW h1 | exact va_Nw.warmC hW h1 | exact va_Nw.warmD hW h1 | cases h2
  · obtain ⟨a, ha⟩ := h.2.2 q hq
    exact ⟨a, vk_R.warm hW ha⟩
theorem zK.same {D : va_G} {cA : zT} {u U : State} (hv : u.vm = U.vm) (h : zK D cA u) : zK D cA U := by
  refine ⟨va_K.moved (by rw [hv]; exact Vm.Alike.refl _) h.1, fun w hw => ?_, fun q hq => ?_⟩
  · have h1 := h.2.1 w hw
    have h2 : zisN w = true := (List.mem_filter.mp hw).2
    cases w <;> first | exact va_Nw.same rfl hv h1 | cases h2
  · obtain ⟨a, ha⟩ := h.2.2 q hq
    exact ⟨a, vk_R.same hv.symm ha⟩
def zZ (A : Nat → Prop) (S : State) (H : Heap) : Prop := vx_Zq Bundle.tN "UNASSIGNED_STACK" Bundle.steD A S H ∧ vx_Zq Bundle.tN "SUPPRESSED_SENTINEL" Bundle.listD A S H
theorem zZ.moved {A : Nat → Prop} {u U : State} {H : Heap} (hvm : u.vm.Alike U.vm) (h : zZ A u H) : zZ A U H := ⟨h.1.moved hvm, h.2.moved hvm⟩
theorem zZ.kept {A : Nat → Prop} {U : State} {H H1 : Heap} (h : zZ A U H) (hq : ∀ a : Nat, a < H.size → ¬ A a → H1[a]? = H[a]?) : zZ A U H1 := ⟨h.1.kept hq, h.2.kept hq⟩
theorem zZ.narrow {A B : Nat → Prop} {U : State} {H : Heap} (h : zZ A U H) (hAB : ∀ q, B q → A q) : zZ B U H := ⟨h.1.narrow hAB, h.2.narrow hAB⟩
def zsm : Value → Bool
  | .int _ => true
  | .ref _ => true
  | .null => true
  | _ => false
def zB (D : va_G) (cA : zT) (U : zU) (ad : Nat → Nat) (F : zF) (sz : Nat) : State → Prop := fun S => S.heap.size = sz ∧ va_P D zcl (zWs cA U ad F) S.heap ∧ zK D cA S ∧ zZ (zA U ad sz) S S.heap
def zQ (D : va_G) (cA : zT) (U : zU) (ad : Nat → Nat) (ok : zO) (A : Nat → Prop) : Array Value → State → Outcome → State → Prop := fun _ st o t => (∃ (r : Option Value) (F : zF), o = .returned (r.map (zv ad)) ∧ ok r F ∧ va_P D zcl (zWs cA U ad F) t.heap) ∧ va_F A st t
def zQx (D : va_G) (cA : zT) (U : zU) (ad : Nat → Nat) (ex : zX) (A : Nat → Prop) : String → State → State → Prop := fun E st t => (∃ F : zF, ex E F ∧ va_P D zcl (zWs cA U ad F) t.heap) ∧ va_F A st t
/-- THE CONTRACT of a method in a world of shape U: what sp says of its arguments and of the places' numbers -/
def zMet (U : zU) (y : MethodName) (cc : ByteArray) (nL : Nat) (ret : Option FieldType) (rm : Room) (sp : zSp) : Prop :=
  ∀ (l : Launch), l.flags = flags0 → ∀ (D : va_G) (cA : zT) (ad : Nat → Nat) (F : zF) (sz : Nat) (av : List Value) (ok : zO) (ex : zX), sp av F ok ex → zinj U ad → av.all zsm = true → av.length ≤ nL →
    vx_Met l y (Cond.code y cc nL ret :: zts) rm (va_Pc (av.map (zv ad)) (zB D cA U ad F sz)) (zQ D cA U ad ok (zA U ad sz)) (zQx D cA U ad ex (zA U ad sz)) rm.cells rm.slots (zA U ad sz)
theorem zB.blind {D : va_G} {cA : zT} {U : zU} {ad : Nat → Nat} {F : zF} {sz : Nat} {av : List Value} : FrameBlind (va_Pc av (zB D cA U ad F sz)) := by
  intro a S g mk h
  obtain ⟨h1, h2, h3, h4, h5⟩ := h
  exact ⟨h1, h2, h3, zK.same (u := S) rfl h4, h5.moved (U := S.calling g mk a) (Vm.Alike.refl S.vm)⟩
end ZA
end
section
/-! WHAT IS TO BE SHOWN of a method's body: its bytes read as a formula (zgo), cut at the heads of its loops -/
section ZV
/-- pc, length, instruction, where it may go, its number -/
abbrev zI : Type := Nat × Nat × Instr × List Nat × Int32
/-- locals, operands, new cells, new places, the numbers -/
abbrev zJ : Type := zL → List Value → Nat → Nat → zF → Prop
/-- class, bytes, locals, answer's type, room, world, fields by index, callees by index -/
abbrev zM : Type := String × ByteArray × Nat × Option FieldType × Room × zU × (Nat → Option (Nat × Nat × Nat)) × (Bool → Nat → Option (Nat × Nat × Nat × zSp))
abbrev zMo (Y : zM) : String := Y.1
abbrev zMc (Y : zM) : ByteArray := Y.2.1
abbrev zMl (Y : zM) : Nat := Y.2.2.1
abbrev zMt (Y : zM) : Option FieldType := Y.2.2.2.1
abbrev zMr (Y : zM) : Room := Y.2.2.2.2.1
abbrev zMu (Y : zM) : zU := Y.2.2.2.2.2.1
abbrev zMf (Y : zM) : Nat → Option (Nat × Nat × Nat) := Y.2.2.2.2.2.2.1
abbrev zMk (Y : zM) : Bool → Nat → Option (Nat × Nat × Nat × zSp) := Y.2.2.2.2.2.2.2
def zget : zL → Nat → (Value → Prop) → Prop
  | some v :: _, 0, k => k v
  | _ :: r, n + 1, k => zget r n k
  | _, _, _ => False
def zset : zL → Nat → Value → (zL → Prop) → Prop
  | _ :: r, 0, v, k => k (some v :: r)
  | x :: r, n + 1, v, k => zset r n v (fun r' => k (x :: r'))
  | [], _, _, _ => False
def zpop : Nat → List Value → List Value → (List Value → List Value → Prop) → Prop
  | 0, st, acc, k => k acc st
  | n + 1, v :: st, acc, k => zpop n st (v :: acc) k
  | _ + 1, [], _, _ => False
def zw1 : Value → Nat
  | .long _ => 2
  | .double _ => 2
  | _ => 1
def zwt : List Value → Nat
  | [] => 0
  | v :: r => zw1 v + zwt r
/-- a jump: ahead it goes on; back it comes to a head -/
def zjmp (inv : Nat → Option zJ) (k : Nat → zJ) (pc t : Nat) : zJ := fun ls st kc ks F => match Nat.blt pc t with
  | true => k t ls st kc ks F
  | false => match inv t with
    | some I => I ls st kc ks F
    | none => False
def zif (j : zJ) (f : zJ) (ls : zL) (r : List Value) (kc ks : Nat) (F : zF) (c : Prop) : Prop := (c → j ls r kc ks F) ∧ (¬ c → f ls r kc ks F)
def zifn (j : zJ) (f : zJ) (ls : zL) (r : List Value) (kc ks : Nat) (F : zF) (c : Prop) : Prop := (¬ c → j ls r kc ks F) ∧ (c → f ls r kc ks F)
def zcmp0 (c : Jvm.ClassFile.Cond) (x : Int32) (j : zJ) (f : zJ) (ls : zL) (r : List Value) (kc ks : Nat) (F : zF) : Prop := match c with
  | .eq => zif j f ls r kc ks F (x = 0)
  | .ne => zifn j f ls r kc ks F (x = 0)
  | .lt => zif j f ls r kc ks F (x < 0)
  | .ge => zif j f ls r kc ks F (0 ≤ x)
  | .gt => zif j f ls r kc ks F (0 < x)
  | .le => zif j f ls r kc ks F (x ≤ 0)
def zcmp2 (c : Jvm.ClassFile.Cond) (x y : Int32) (j : zJ) (f : zJ) (ls : zL) (r : List Value) (kc ks : Nat) (F : zF) : Prop := match c with
  | .eq => zif j f ls r kc ks F (x = y)
  | .ne => zifn j f ls r kc ks F (x = y)
  | .lt => zif j f ls r kc ks F (x < y)
  | .ge => zif j f ls r kc ks F (y ≤ x)
  | .gt => zif j f ls r kc ks F (y < x)
  | .le => zif j f ls r kc ks F (x ≤ y)
/-- a switch's arms: the number from which the table goes on, the targets -/
def zsw (x : Int32) (j : Nat → Prop) : Int → List Nat → Prop
  | _, [] => True
  | n, t :: r => (x = Int32.ofInt n → j t) ∧ zsw x j (n + 1) r
def zcall (Y : zM) (ex : zX) (k : Nat → zJ) (b : Bool) (pc ix : Nat) : zJ := fun ls st kc ks F => match zMk Y b ix with
  | some (n, mc, ms, sp) => zpop n st [] fun as r => match as.all zsm && (Nat.ble (zwt r) 8 && (Nat.ble (kc + mc) (zMr Y).cells && Nat.ble (ks + ms) (zMr Y).slots)) with
    | true => sp as F (fun q F' => match q with
      | some v => k (pc + 3) ls (v :: r) (kc + mc) (ks + ms) F'
      | none => k (pc + 3) ls r (kc + mc) (ks + ms) F') ex
    | false => False
  | none => False
def zret (Y : zM) (ok : zO) (x : Int32) (F : zF) : Prop := match zMt Y with
  | some .int => ok (some (.int x)) F
  | some .boolean => ∃ _ : x = 0 ∨ x = 1, ok (some (.int x)) F
  | _ => False
/-- a place of an object that is read, or written -/
def zfld (Y : zM) (j ix : Nat) (k : Nat → Nat → Option Nat → Prop) : Prop := match Nat.blt j (zMu Y).1 with
  | true => match (zMu Y).2 j, zMf Y ix with
    | (0, ci, sl), some (ci', n, w) => match Nat.beq ci ci' with
      | true => match znth sl n with
        | some o => k n w o
        | none => False
      | false => False
    | _, _ => False
  | false => False
def zarr (Y : zM) (t j : Nat) (i : Int32) (k : Nat → Prop) : Prop := match Nat.blt j (zMu Y).1 with
  | true => match (zMu Y).2 j with
    | (t', n, _) => match Nat.beq t t' with
      | true => ∃ _ : vp_in i n, k n
      | false => False
  | false => False
def zstep (Y : zM) (ok : zO) (ex : zX) (inv : Nat → Option zJ) (k : Nat → zJ) (pc len : Nat) (i : Instr) (tg : List Nat) (v : Int32) : zJ := fun ls st kc ks F => match i with
  | .iconst _ => k (pc + len) ls (.int v :: st) kc ks F
  | .bipush _ => k (pc + len) ls (.int v :: st) kc ks F
  | .sipush _ => k (pc + len) ls (.int v :: st) kc ks F
  | .iload n => zget ls n fun x => match x with
    | .int z => k (pc + len) ls (.int z :: st) kc ks F
    | _ => False
  | .iload_n n => zget ls n.val fun x => match x with
    | .int z => k (pc + len) ls (.int z :: st) kc ks F
    | _ => False
  | .aload n => zget ls n fun x => match x with
    | .ref z => k (pc + len) ls (.ref z :: st) kc ks F
    | _ => False
  | .aload_n n => zget ls n.val fun x => match x with
    | .ref z => k (pc + len) ls (.ref z :: st) kc ks F
    | _ => False
  | .istore n => match st with
    | .int z :: r => zset ls n (.int z) fun l' => k (pc + len) l' r kc ks F
    | _ => False
  | .istore_n n => match st with
    | .int z :: r => zset ls n.val (.int z) fun l' => k (pc + len) l' r kc ks F
    | _ => False
  | .astore n => match st with
    | .ref z :: r => zset ls n (.ref z) fun l' => k (pc + len) l' r kc ks F
    | _ => False
  | .astore_n n => match st with
    | .ref z :: r => zset ls n.val (.ref z) fun l' => k (pc + len) l' r kc ks F
    | _ => False
  | .iinc n _ => zget ls n fun x => match x with
    | .int z => zset ls n (.int (z + v)) fun l' => k (pc + len) l' st kc ks F
    | _ => False
  | .iadd => match st with
    | .int y :: .int x :: r => k (pc + len) ls (.int (x + y) :: r) kc ks F
    | _ => False
  | .isub => match st with
    | .int y :: .int x :: r => k (pc + len) ls (.int (x - y) :: r) kc ks F
    | _ => False
  | .imul => match st with
    | .int y :: .int x :: r => k (pc + len) ls (.int (x * y) :: r) kc ks F
    | _ => False
  | .idiv => match st with
    | .int y :: .int x :: r => ∃ _ : ¬ y = 0, k (pc + len) ls (.int (x / y) :: r) kc ks F
    | _ => False
  | .ineg => match st with
    | .int x :: r => k (pc + len) ls (.int (-x) :: r) kc ks F
    | _ => False
  | .iand => match st with
    | .int y :: .int x :: r => k (pc + len) ls (.int (x &&& y) :: r) kc ks F
    | _ => False
  | .ior => match st with
    | .int y :: .int x :: r => k (pc + len) ls (.int (x ||| y) :: r) kc ks F
    | _ => False
  | .ixor => match st with
    | .int y :: .int x :: r => k (pc + len) ls (.int (x ^^^ y) :: r) kc ks F
    | _ => False
  | .ishl => match st with
    | .int y :: .int x :: r => k (pc + len) ls (.int (x <<< (y &&& 31)) :: r) kc ks F
    | _ => False
  | .ishr => match st with
    | .int y :: .int x :: r => k (pc + len) ls (.int (x >>> (y &&& 31)) :: r) kc ks F
    | _ => False
  | .iushr => match st with
    | .int y :: .int x :: r => k (pc + len) ls (.int (x.toUInt32 >>> (y.toUInt32 &&& Int32.toUInt32 31)).toInt32 :: r) kc ks F
    | _ => False
  | .dup => match st with
    | .int x :: r => k (pc + len) ls (.int x :: .int x :: r) kc ks F
    | .ref x :: r => k (pc + len) ls (.ref x :: .ref x :: r) kc ks F
    | _ => False
  | .dup_x1 => match st with
    | .int x :: .ref y :: r => k (pc + len) ls (.int x :: .ref y :: .int x :: r) kc ks F
    | _ => False
  | .dup_x2 => match st with
    | .int x :: .int y :: .ref z :: r => k (pc + len) ls (.int x :: .int y :: .ref z :: .int x :: r) kc ks F
    | _ => False
  | .dup2 => match st with
    | .int x :: .ref y :: r => k (pc + len) ls (.int x :: .ref y :: .int x :: .ref y :: r) kc ks F
    | _ => False
  | .pop => match st with
    | .int _ :: r => k (pc + len) ls r kc ks F
    | .ref _ :: r => k (pc + len) ls r kc ks F
    | _ => False
  | .ifCond c _ => match st, tg with
    | .int x :: r, t :: _ => zcmp0 c x (zjmp inv k pc t) (k (pc + len)) ls r kc ks F
    | _, _ => False
  | .if_icmp c _ => match st, tg with
    | .int y :: .int x :: r, t :: _ => zcmp2 c x y (zjmp inv k pc t) (k (pc + len)) ls r kc ks F
    | _, _ => False
  | .goto _ => match tg with
    | t :: _ => zjmp inv k pc t ls st kc ks F
    | _ => False
  | .ifnull _ => match st, tg with
    | .ref _ :: r, _ => k (pc + len) ls r kc ks F
    | .null :: r, t :: _ => zjmp inv k pc t ls r kc ks F
    | _, _ => False
  | .aconst_null => k (pc + len) ls (.null :: st) kc ks F
  | .tableswitch _ lo hi _ => match st, tg with
    | .int x :: r, d :: ts => zsw x (fun t => zjmp inv k pc t ls r kc ks F) lo ts ∧ (x.toInt < lo ∨ hi < x.toInt → zjmp inv k pc d ls r kc ks F)
    | _, _ => False
  | .getfield ix => match st with
    | .ref j :: r => zfld Y j ix fun n _ o => match o with
      | none => k (pc + len) ls (.int (F j n) :: r) kc ks F
      | some t => k (pc + len) ls (.ref t :: r) kc ks F
    | _ => False
  | .putfield ix => match st with
    | .int x :: .ref j :: r => zfld Y j ix fun n w o => match o, w with
      | none, 1 => k (pc + len) ls r kc ks (zup F j n x)
      | none, 2 => ∃ _ : x = 0 ∨ x = 1, k (pc + len) ls r kc ks (zup F j n x)
      | _, _ => False
    | _ => False
  | .iaload => match st with
    | .int x :: .ref j :: r => zarr Y 1 j x fun _ => k (pc + len) ls (.int (F j x.toNatClampNeg) :: r) kc ks F
    | _ => False
  | .iastore => match st with
    | .int y :: .int x :: .ref j :: r => zarr Y 1 j x fun _ => k (pc + len) ls r kc ks (zup F j x.toNatClampNeg y)
    | _ => False
  | .baload => match st with
    | .int x :: .ref j :: r => zarr Y 2 j x fun _ => k (pc + len) ls (.int (F j x.toNatClampNeg) :: r) kc ks F
    | _ => False
  | .bastore => match st with
    | .int y :: .int x :: .ref j :: r => zarr Y 2 j x fun _ => k (pc + len) ls r kc ks (zup F j x.toNatClampNeg (vp_nar .boolean y))
    | _ => False
  | .aaload => match st with
    | .int x :: .ref j :: r => zarr Y 3 j x fun _ => ∃ t, znth ((zMu Y).2 j).2.2 x.toNatClampNeg = some (some t) ∧ k (pc + len) ls (.ref t :: r) kc ks F
    | _ => False
  | .arraylength => match st with
    | .ref j :: r => match Nat.blt j (zMu Y).1 with
      | true => match Nat.blt 0 ((zMu Y).2 j).1 with
        | true => k (pc + len) ls (.int (Int32.ofNat ((zMu Y).2 j).2.1) :: r) kc ks F
        | false => False
      | false => False
    | _ => False
  | .i2d => match st with
    | .int x :: r => k (pc + len) ls (.double (FP.i2d x) :: r) kc ks F
    | _ => False
  | .ddiv => match st with
    | .double y :: .double x :: r => ∃ _ : vf_n64 (FP.ddiv x y), k (pc + len) ls (.double (FP.ddiv x y) :: r) kc ks F
    | _ => False
  | .ldc_w ix => ∃ _ : Jvm.Cond.constant (zMo Y) ix v ∈ zts, k (pc + len) ls (.int v :: st) kc ks F
  | .invokevirtual ix => zcall Y ex k true pc ix ls st kc ks F
  | .invokestatic ix => zcall Y ex k false pc ix ls st kc ks F
  | .ireturn => match st with
    | [.int x] => zret Y ok x F
    | _ => False
  | .return_ => match st, zMt Y with
    | [], none => ok none F
    | _, _ => False
  | .areturn => match st, zMt Y with
    | [.ref x], some (.object _) => ok (some (.ref x)) F
    | [.null], some (.object _) => ok (some .null) F
    | _, _ => False
  | .dreturn => match st, zMt Y with
    | [.double x], some .double => ok (some (.double x)) F
    | _, _ => False
  | _ => False
/-- from the instruction at tgt on, over the rows that are left -/
def zgo (Y : zM) (ok : zO) (ex : zX) (inv : Nat → Option zJ) : List zI → Nat → zJ
  | [], _ => fun _ _ _ _ _ => False
  | (pc, len, i, tg, v) :: rest, tgt => fun ls st kc ks F => match Nat.beq pc tgt with
    | true => match inv pc with
      | some I => I ls st kc ks F
      | none => zstep Y ok ex inv (zgo Y ok ex inv rest) pc len i tg v ls st kc ks F
    | false => zgo Y ok ex inv rest tgt ls st kc ks F
/-- the same, but the first instruction, a head, is not asked -/
def zat (Y : zM) (ok : zO) (ex : zX) (inv : Nat → Option zJ) : List zI → Nat → zJ
  | [], _ => fun _ _ _ _ _ => False
  | (pc, len, i, tg, v) :: rest, tgt => fun ls st kc ks F => match Nat.beq pc tgt with
    | true => zstep Y ok ex inv (zgo Y ok ex inv rest) pc len i tg v ls st kc ks F
    | false => zat Y ok ex inv rest tgt ls st kc ks F
def zi0 : Nat → Option zJ := fun _ => none
def zi1 (h : Nat) (I : zJ) : Nat → Option zJ := fun pc => match Nat.beq pc h with
  | true => some I
  | false => none
def zi2 (h : Nat) (I : zJ) (h' : Nat) (I' : zJ) : Nat → Option zJ := fun pc => match Nat.beq pc h with
  | true => some I
  | false => match Nat.beq pc h' with
    | true => some I'
    | false => none
/-- a row of the table says what the bytes say -/
def zck1 (pc : Nat) (len : Nat) (i : Instr) (tg : List Nat) (v : Int32) : Bool := match i with
  | .iconst n => len == 1 && v == Int32.ofInt n
  | .bipush n => len == 2 && v == (Int8.ofInt n).toInt32
  | .sipush n => len == 3 && v == (Int16.ofInt n).toInt32
  | .iload _ => len == 2
  | .aload _ => len == 2
  | .istore _ => len == 2
  | .astore _ => len == 2
  | .iinc _ n => len == 3 && v == Int32.ofInt n
  | .ifCond _ off => len == 3 && decide (∃ t ∈ tg.head?, (pc : Int) + off = (t : Int))
  | .if_icmp _ off => len == 3 && decide (∃ t ∈ tg.head?, (pc : Int) + off = (t : Int))
  | .goto off => len == 3 && decide (∃ t ∈ tg.head?, (pc : Int) + off = (t : Int))
  | .ifnull off => len == 3 && decide (∃ t ∈ tg.head?, (pc : Int) + off = (t : Int))
  | .tableswitch d lo hi offs => decide (∃ t ∈ tg.head?, (pc : Int) + d = (t : Int)) && (decide (offs.toList.map (fun o => (pc : Int) + o) = tg.tail.map (fun t : Nat => (t : Int))) && decide (hi < lo + offs.size))
  | .getfield _ => len == 3
  | .ldc_w _ => len == 3
  | .putfield _ => len == 3
  | .invokevirtual _ => len == 3
  | .invokestatic _ => len == 3
  | .new _ => len == 3
  | .invokespecial _ => len == 3
  | _ => len == 1
def zck (cc : ByteArray) (q : zI) : Bool := match decode cc q.1 with
  | .ok (i, len) => decide (i = q.2.2.1) && (len == q.2.1 && zck1 q.1 q.2.1 q.2.2.1 q.2.2.2.1 q.2.2.2.2)
  | _ => false
end ZV
end
section
/-! zgo IS SOUND: what it asks for makes the machine come to the method's end -/
section ZSa
def zll (ad : Nat → Nat) : Nat → zL → List (Nat × Value)
  | _, [] => []
  | i, some (.int z) :: r => (i, .int z) :: zll ad (i + 1) r
  | i, some (.ref z) :: r => (i, .ref (ad z)) :: zll ad (i + 1) r
  | i, some .null :: r => (i, .null) :: zll ad (i + 1) r
  | i, _ :: r => zll ad (i + 1) r
theorem zll_mem {ad : Nat → Nat} (ls : zL) : ∀ (b : Nat) (q : Nat × Value), q ∈ zll ad b ls ↔ ∃ n v, znth ls n = some (some v) ∧ zsm v = true ∧ q = (b + n, zv ad v) := by
  induction ls with
  | nil =>
    intro b q
    constructor
    · intro h; cases h
    · rintro ⟨n, v, h, -⟩; cases n <;> cases h
  | cons o r ih =>
    intro b q
    have step : (∃ n v, znth (o :: r) n = some (some v) ∧ zsm v = true ∧ q = (b + n, zv ad v)) ↔ (∃ v, o = some v ∧ zsm v = true ∧ q = (b, zv ad v)) ∨ ∃ n v, znth r n = some (some v) ∧ zsm v = true ∧ q = (b + 1 + n, zv ad v) := by
      constructor
      · rintro ⟨n, v, h1, h2, h3⟩
        cases n with
        | zero => exact Or.inl ⟨v, Option.some.inj h1, h2, h3⟩
        | succ n => exact Or.inr ⟨n, v, h1, h2, by rw [h3]; congr 1; omega⟩
      · rintro (⟨v, h1, h2, h3⟩ | ⟨n, v, h1, h2, h3⟩)
        · exact ⟨0, v, by rw [h1]; rfl, h2, h3⟩
        · exact ⟨n + 1, v, h1, h2, by rw [h3]; congr 1; omega⟩
    rw [step, ← ih (b + 1) q]
    cases o with
    | none => simp [zll]
    | some v => cases v <;> simp [zll, zsm, zv]
theorem zget_ok {ls : zL} {n : Nat} {k : Value → Prop} (h : zget ls n k) : ∃ v, znth ls n = some (some v) ∧ k v := by
  induction ls generalizing n with
  | nil => cases n <;> exact h.elim
  | cons o r ih =>
    cases n with
    | zero => cases o with
      | none => exact h.elim
      | some v => exact ⟨v, rfl, h⟩
    | succ n => cases o <;> exact ih h
theorem zset_ok {ls : zL} {n : Nat} {v : Value} {k : zL → Prop} (h : zset ls n v k) : n < ls.length ∧ k (ls.set n (some v)) := by
  induction ls generalizing n k with
  | nil => cases n <;> exact h.elim
  | cons o r ih =>
    cases n with
    | zero => exact ⟨by simp, h⟩
    | succ n =>
      obtain ⟨h1, h2⟩ := ih (k := fun r' => k (o :: r')) h
      exact ⟨by simp; omega, h2⟩
theorem zpop_ok {n : Nat} {st acc : List Value} {k : List Value → List Value → Prop} (h : zpop n st acc k) : ∃ as r, as.length = n ∧ st = as.reverse ++ r ∧ k (as ++ acc) r := by
  induction n generalizing st acc with
  | zero => exact ⟨[], st, rfl, rfl, h⟩
  | succ n ih => cases st with
    | nil => exact h.elim
    | cons v st =>
      obtain ⟨as, r, h1, h2, h3⟩ := ih (st := st) (acc := v :: acc) h
      exact ⟨as ++ [v], r, by simp [h1], by simp [h2], by simpa using h3⟩
theorem zll_load {ad : Nat → Nat} {ls : zL} {lsl : Array Slot} {nL n : Nat} {v : Value} (h : lv_has lsl nL (zll ad 0 ls)) (hn : znth ls n = some (some v)) (hv : zsm v = true) : lsl[n]? = some (.val (zv ad v)) := by
  have := h.2.2 (n, zv ad v) ((zll_mem ls 0 _).mpr ⟨n, v, hn, hv, by simp⟩)
  exact this
theorem zll_store {ad : Nat → Nat} {ls : zL} {ls' : Array Slot} {nL n : Nat} {v : Value} (hn : n < ls.length)
    (h : lv_has ls' nL ((n, zv ad v) :: (zll ad 0 ls).filter (fun q => !(q.1 == n) && !(q.1 + 1 == n && q.2.category == 2)))) : lv_has ls' nL (zll ad 0 (ls.set n (some v))) := by
  refine ⟨h.1, h.2.1, fun q hq => h.2.2 q ?_⟩
  obtain ⟨j, w, h1, h2, h3⟩ := (zll_mem _ 0 q).mp hq
  rw [Nat.zero_add] at h3
  rw [znth_eq] at h1
  by_cases hj : n = j
  · subst hj
    rw [List.getElem?_set_self hn] at h1
    rw [h3, Option.some.inj (Option.some.inj h1)]
    exact List.mem_cons_self
  · rw [List.getElem?_set_ne hj, ← znth_eq] at h1
    refine List.mem_cons_of_mem _ (List.mem_filter.mpr ⟨(zll_mem ls 0 q).mpr ⟨j, w, h1, h2, by rw [h3]; simp⟩, ?_⟩)
    rw [h3]
    cases w <;> simp_all [zsm, zv, Value.category, Ne.symm]
    all_goals exact fun z => hj z.symm
theorem zwt_cat (ad : Nat → Nat) (st : List Value) : ((st.map (zv ad)).map fun v => v.category).sum = zwt st := by
  induction st with
  | nil => rfl
  | cons v r ih => cases v <;> simp [zwt, zw1, zv, Value.category, ← ih]
def zCtx (Y : zM) (p : Program) (l : Launch) (s : State) (m : MethodId) (args : Array Value) (meth : Method) (c : Code) (D : va_G) (cA : zT) (ad : Nat → Nat) : Prop :=
  p.tables.exec = Jvm.exec ∧ c.code = zMc Y ∧ meth.sig.returnType = zMt Y ∧ c.maxLocals = zMl Y ∧ s.vm.findClass (zMo Y) = some m.cls ∧ (∀ w ∈ zts, w.before args s = true) ∧ meth.locks = false ∧ (∀ x ∈ c.exceptionTable.toList, False) ∧ zK D cA s ∧ zZ (zA (zMu Y) ad s.heap.size) s s.heap ∧ zinj (zMu Y) ad ∧ l.flags = flags0
/-- from here the method comes to an end of which ok (it returned) or ex (it threw) holds: in every state of the machine that stands so -/
def zWP (Y : zM) (ok : zO) (ex : zX) (pc : Nat) : zJ := fun ls st kc ks F =>
  ∀ (p : Program) (l : Launch) (e : Env) (s : State) (m : MethodId) (args : Array Value) (below : List Frame) (meth : Method) (c : Code) (D : va_G) (cA : zT) (ad : Nat → Nat), zCtx Y p l s m args meth c D cA ad →
    ∀ (H : Heap) (locs : List Loc) (lsl : Array Slot), va_P D zcl (zWs cA (zMu Y) ad F) H → va_S (zA (zMu Y) ad s.heap.size) s.heap H locs → lv_has lsl (zMl Y) (zll ad 0 ls) → ls.length ≤ zMl Y → kc ≤ (zMr Y).cells → ks ≤ (zMr Y).slots →
      W p l e (zMr Y) s m args below meth c H locs kc ks (vx_MQ below (zQ D cA (zMu Y) ad ok (zA (zMu Y) ad s.heap.size)) (zQx D cA (zMu Y) ad ex (zA (zMu Y) ad s.heap.size)) args s (zMr Y).cells (zMr Y).slots (zA (zMu Y) ad s.heap.size)) (F0 m pc lsl (st.map (zv ad)))
def zinv (b : Bool) (ix : Nat) : Instr := match b with
  | true => .invokevirtual ix
  | false => .invokestatic ix
def zCal (Y : zM) (b : Bool) (ix n mc ms : Nat) (sp : zSp) : Prop :=
  ∀ (pc : Nat), decode (zMc Y) pc = .ok (zinv b ix, 3) → ∀ (ok : zO) (ex : zX) (ls : zL) (as r : List Value) (kc ks : Nat) (F : zF) (ok' : zO), as.length = n → as.all zsm = true → zwt r ≤ 8 → kc + mc ≤ (zMr Y).cells → ks + ms ≤ (zMr Y).slots → sp as F ok' ex →
    (∀ (q : Option Value) (F' : zF), ok' q F' → zWP Y ok ex (pc + 3) ls (q.toList ++ r) (kc + mc) (ks + ms) F') → zWP Y ok ex pc ls (as.reverse ++ r) kc ks F
def zfok (own : String) (ix ci n w : Nat) : Prop := ∃ (C : String) (T : u_T) (N : Nat), zcl[ci]? = some (C, T, N) ∧ n < N ∧
  (Cond.fieldLink own ix (T n).1 (T n).2.1 (T n).2.2.1 ∈ zts ∨ Cond.fieldLinkNest own ix (T n).1 (T n).2.1 (T n).2.2.1 "LockMaster" ∈ znw) ∧
  (w = 1 → (T n).2.2.2 = false ∧ (T n).2.2.1 = "I") ∧ (w = 2 → (T n).2.2.2 = false ∧ (T n).2.2.1 = "Z")
def zYok (Y : zM) : Prop := (∀ ix ci n w, zMf Y ix = some (ci, n, w) → zfok (zMo Y) ix ci n w) ∧ ∀ b ix n mc ms sp, zMk Y b ix = some (n, mc, ms, sp) → zCal Y b ix n mc ms sp
def zclok (q : vw_C) : Prop := (∀ w ∈ u_ws q.1 q.2.1 q.2.2, w ∈ zts) ∧ ∃ ty : Nat → FieldType, (∀ k, k < q.2.2 → parseFieldDescriptor (q.2.1 k).2.2.1 = some (ty k)) ∧ ∀ a, a < q.2.2 → ∀ b, b < q.2.2 → a ≠ b → (q.2.1 a).2.1 ≠ (q.2.1 b).2.1
set_option maxRecDepth 20000 in
theorem zcl_ok : ∀ q ∈ zcl, zclok q := by
  intro q hq
  simp only [zcl, List.mem_cons, List.not_mem_nil, or_false] at hq
  rcases hq with rfl | rfl | rfl | rfl | rfl | rfl | rfl | rfl | rfl | rfl
  · exact ⟨by decide +kernel, tyX0, tyX0_ok, nmX0⟩
  · exact ⟨by decide +kernel, tyX1, tyX1_ok, nmX1⟩
  · exact ⟨by decide +kernel, tyX2, tyX2_ok, nmX2⟩
  · exact ⟨by decide +kernel, tyX3, tyX3_ok, nmX3⟩
  · exact ⟨by decide +kernel, tyX4, tyX4_ok, nmX4⟩
  · exact ⟨by decide +kernel, tyX5, tyX5_ok, nmX5⟩
  · exact ⟨by decide +kernel, tyX6, tyX6_ok, nmX6⟩
  · exact ⟨by decide +kernel, tyX7, tyX7_ok, nmX7⟩
  · exact ⟨by decide +kernel, tyX8, tyX8_ok, nmX8⟩
  · exact ⟨by decide +kernel, tyX9, tyX9_ok, nmX9⟩
theorem zfld_ok {Y : zM} {j ix : Nat} {k : Nat → Nat → Option Nat → Prop} (h : zfld Y j ix k) : ∃ ci sl n w o, j < (zMu Y).1 ∧ (zMu Y).2 j = (0, ci, sl) ∧ zMf Y ix = some (ci, n, w) ∧ znth sl n = some o ∧ k n w o := by
  unfold zfld at h
  split at h
  · rename_i hj
    split at h
    · rename_i ci sl ci' n w hs hf
      split at h
      · rename_i he
        split at h
        · rename_i o ho
          have := Nat.eq_of_beq_eq_true he
          subst this
          exact ⟨ci, sl, n, w, o, by simpa using hj, hs, hf, ho, h⟩
        · exact h.elim
      · exact h.elim
    · exact h.elim
  · exact h.elim
theorem zarr_ok {Y : zM} {t j : Nat} {i : Int32} {k : Nat → Prop} (h : zarr Y t j i k) : ∃ n sl, j < (zMu Y).1 ∧ (zMu Y).2 j = (t, n, sl) ∧ vp_in i n ∧ k n := by
  unfold zarr at h
  split at h
  · rename_i hj
    split at h
    rename_i t' n sl hs
    split at h
    · rename_i he
      have := Nat.eq_of_beq_eq_true he
      subst this
      obtain ⟨h1, h2⟩ := h
      exact ⟨n, sl, by simpa using hj, hs, h1, h2⟩
    · exact h.elim
  · exact h.elim
theorem zsw_ok {x : Int32} {j : Nat → Prop} {ts : List Nat} {n : Int} (h : zsw x j n ts) : ∀ (i t : Nat), ts[i]? = some t → x = Int32.ofInt (n + i) → j t := by
  induction ts generalizing n with
  | nil => intro i t h1; simp at h1
  | cons a r ih =>
    intro i t h1 h2
    cases i with
    | zero =>
      simp at h1 h2
      subst h1
      exact h.1 h2
    | succ i =>
      refine ih h.2 i t (by simpa using h1) ?_
      rw [h2]
      congr 1
      omega
end ZSa
end
section
/-! one instruction, then all -/
section ZSb
theorem ztgt {tg : List Nat} {pc : Nat} {off : Int} {t : Nat} {r : List Nat} (ht : tg = t :: r) (h : decide (∃ t ∈ tg.head?, (pc : Int) + off = (t : Int)) = true) : (pc : Int) + off = (t : Int) := by
  obtain ⟨t', h1, h2⟩ := of_decide_eq_true h
  subst ht
  simp at h1
  subst h1
  exact h2
theorem zfl_int : ∀ ty : FieldType, parseFieldDescriptor "I" = some ty → ty = .int := by
  intro ty h
  have h1 : parseFieldDescriptor "I" = some .int := by decide +kernel
  exact Option.some.inj (h.symm.trans h1)
theorem znar01 {x : Int32} (h : x = 0 ∨ x = 1) : narrow .boolean (.int x) = .int x := by rcases h with rfl | rfl <;> rfl
theorem zfit01 {x : Int32} (h : x = 0 ∨ x = 1) : fits .boolean (.int x) = true := by rcases h with rfl | rfl <;> decide
theorem zck_ok {cc : ByteArray} {pc len : Nat} {i : Instr} {tg : List Nat} {v : Int32} (h : zck cc (pc, len, i, tg, v) = true) : decode cc pc = .ok (i, len) ∧ zck1 pc len i tg v = true := by
  unfold zck at h
  split at h
  · rename_i i' len' hd
    simp only [Bool.and_eq_true, beq_iff_eq] at h
    obtain ⟨h1, rfl, h3⟩ := h
    have h1 := of_decide_eq_true h1
    subst h1
    exact ⟨hd, h3⟩
  · cases h
theorem zcall_ok {Y : zM} {ok : zO} {ex : zX} {k : Nat → zJ} (hY : zYok Y) (hk : ∀ t ls st kc ks F, k t ls st kc ks F → zWP Y ok ex t ls st kc ks F) {b : Bool} {pc ix : Nat} (hd : decode (zMc Y) pc = .ok (zinv b ix, 3))
    {ls : zL} {st : List Value} {kc ks : Nat} {F : zF} (h : zcall Y ex k b pc ix ls st kc ks F) : zWP Y ok ex pc ls st kc ks F := by
  unfold zcall at h
  split at h
  · rename_i n mc ms sp hm
    obtain ⟨as, r, h1, h2, h3⟩ := zpop_ok h
    rw [List.append_nil] at h3
    split at h3
    · rename_i hb
      simp only [Bool.and_eq_true, Nat.ble_eq] at hb
      subst h2
      refine hY.2 b ix n mc ms sp hm pc hd ok ex ls as r kc ks F _ h1 hb.1 hb.2.1 hb.2.2.1 hb.2.2.2 h3 (fun q F' hq => ?_)
      cases q with
      | none => exact hk _ _ _ _ _ _ hq
      | some v => exact hk _ _ _ _ _ _ hq
    · exact h3.elim
  · exact h.elim
set_option maxHeartbeats 4000000 in
theorem zstep_ok {Y : zM} {ok : zO} {ex : zX} {inv : Nat → Option zJ} {k : Nat → zJ} (hY : zYok Y) (hk : ∀ t ls st kc ks F, k t ls st kc ks F → zWP Y ok ex t ls st kc ks F)
    (hi : ∀ t I, inv t = some I → ∀ ls st kc ks F, I ls st kc ks F → zWP Y ok ex t ls st kc ks F) {pc len : Nat} {i : Instr} {tg : List Nat} {v : Int32} (hd : decode (zMc Y) pc = .ok (i, len)) (hc : zck1 pc len i tg v = true)
    {ls : zL} {st : List Value} {kc ks : Nat} {F : zF} (h : zstep Y ok ex inv k pc len i tg v ls st kc ks F) : zWP Y ok ex pc ls st kc ks F := by
  have hj : ∀ t ls st kc ks F, zjmp inv k pc t ls st kc ks F → zWP Y ok ex t ls st kc ks F := by
    intro t ls st kc ks F h
    unfold zjmp at h
    split at h
    · exact hk _ _ _ _ _ _ h
    · split at h
      · rename_i I hI
        exact hi _ _ hI _ _ _ _ _ h
      · exact h.elim
  intro p l e s m args below meth c D cA ad hC H locs lsl hP hS hl hln hkc hks
  obtain ⟨hx, hb, hr, hml, hown, hts, hlocks, hout, hK, hZ, hinj, hfl⟩ := id hC
  have hA : ∀ q, s.heap.size ≤ q → zA (zMu Y) ad s.heap.size q := fun q h => Or.inr h
  have hD : ∀ F', va_D (zA (zMu Y) ad s.heap.size) (zWs cA (zMu Y) ad F') := fun F' => zWs_D hinj fun k hk => Or.inl ⟨k, hk, rfl⟩
  cases i
  case iconst n =>
    simp only [zck1, Bool.and_eq_true, beq_iff_eq] at hc
    obtain ⟨rfl, rfl⟩ := hc
    exact lv_iconst hx hb hd rfl (hk _ _ _ _ _ _ h p l e s m args below meth c D cA ad hC H locs lsl hP hS hl hln hkc hks)
  case bipush n =>
    simp only [zck1, Bool.and_eq_true, beq_iff_eq] at hc
    obtain ⟨rfl, rfl⟩ := hc
    exact lv_bipush hx hb hd rfl (hk _ _ _ _ _ _ h p l e s m args below meth c D cA ad hC H locs lsl hP hS hl hln hkc hks)
  case sipush n =>
    simp only [zck1, Bool.and_eq_true, beq_iff_eq] at hc
    obtain ⟨rfl, rfl⟩ := hc
    exact lv_sipush hx hb hd rfl (hk _ _ _ _ _ _ h p l e s m args below meth c D cA ad hC H locs lsl hP hS hl hln hkc hks)
  case iload n =>
    simp only [zck1, beq_iff_eq] at hc
    subst hc
    obtain ⟨w, h1, h2⟩ := zget_ok h
    split at h2
    · exact lv_iload hx hb hd (zll_load hl h1 rfl) (hk _ _ _ _ _ _ h2 p l e s m args below meth c D cA ad hC H locs lsl hP hS hl hln hkc hks)
    · exact h2.elim
  case iload_n n =>
    simp only [zck1, beq_iff_eq] at hc
    subst hc
    obtain ⟨w, h1, h2⟩ := zget_ok h
    split at h2
    · exact lv_iload_n hx hb hd rfl (zll_load hl h1 rfl) (hk _ _ _ _ _ _ h2 p l e s m args below meth c D cA ad hC H locs lsl hP hS hl hln hkc hks)
    · exact h2.elim
  case aload n =>
    simp only [zck1, beq_iff_eq] at hc
    subst hc
    obtain ⟨w, h1, h2⟩ := zget_ok h
    split at h2
    · exact lv_aload hx hb hd (zll_load hl h1 rfl) (hk _ _ _ _ _ _ h2 p l e s m args below meth c D cA ad hC H locs lsl hP hS hl hln hkc hks)
    · exact h2.elim
  case aload_n n =>
    simp only [zck1, beq_iff_eq] at hc
    subst hc
    obtain ⟨w, h1, h2⟩ := zget_ok h
    split at h2
    · exact lv_aload_n hx hb hd rfl (zll_load hl h1 rfl) (hk _ _ _ _ _ _ h2 p l e s m args below meth c D cA ad hC H locs lsl hP hS hl hln hkc hks)
    · exact h2.elim
  case istore n =>
    simp only [zck1, beq_iff_eq] at hc
    subst hc
    simp only [zstep] at h
    split at h
    · obtain ⟨h1, h2⟩ := zset_ok h
      exact lv_istore hx hb hd hl (by omega) rfl (fun lsl' hl' => hk _ _ _ _ _ _ h2 p l e s m args below meth c D cA ad hC H locs lsl' hP hS (zll_store h1 hl') (by simpa using hln) hkc hks)
    · exact h.elim
  case istore_n n =>
    simp only [zck1, beq_iff_eq] at hc
    subst hc
    simp only [zstep] at h
    split at h
    · obtain ⟨h1, h2⟩ := zset_ok h
      exact lv_istore_n hx hb hd rfl hl (by omega) rfl (fun lsl' hl' => hk _ _ _ _ _ _ h2 p l e s m args below meth c D cA ad hC H locs lsl' hP hS (zll_store h1 hl') (by simpa using hln) hkc hks)
    · exact h.elim
  case astore n =>
    simp only [zck1, beq_iff_eq] at hc
    subst hc
    simp only [zstep] at h
    split at h
    · obtain ⟨h1, h2⟩ := zset_ok h
      exact lv_astore hx hb hd hl (by omega) rfl (fun lsl' hl' => hk _ _ _ _ _ _ h2 p l e s m args below meth c D cA ad hC H locs lsl' hP hS (zll_store h1 hl') (by simpa using hln) hkc hks)
    · exact h.elim
  case astore_n n =>
    simp only [zck1, beq_iff_eq] at hc
    subst hc
    simp only [zstep] at h
    split at h
    · obtain ⟨h1, h2⟩ := zset_ok h
      exact lv_astore_n hx hb hd rfl hl (by omega) rfl (fun lsl' hl' => hk _ _ _ _ _ _ h2 p l e s m args below meth c D cA ad hC H locs lsl' hP hS (zll_store h1 hl') (by simpa using hln) hkc hks)
    · exact h.elim
  case iinc n w =>
    simp only [zck1, Bool.and_eq_true, beq_iff_eq] at hc
    obtain ⟨rfl, rfl⟩ := hc
    obtain ⟨x, h1, h2⟩ := zget_ok h
    split at h2
    · rename_i z
      obtain ⟨h3, h4⟩ := zset_ok h2
      obtain ⟨j, hj⟩ := List.getElem?_of_mem ((zll_mem (ad := ad) ls 0 _).mpr ⟨n, .int z, h1, rfl, rfl⟩)
      rw [Nat.zero_add] at hj
      exact lv_iinc hx hb hd hl hj rfl (by omega) rfl (fun lsl' hl' => hk _ _ _ _ _ _ h4 p l e s m args below meth c D cA ad hC H locs lsl' hP hS (zll_store h3 hl') (by simpa using hln) hkc hks)
    · exact h2.elim
  case iadd =>
    simp only [zck1, beq_iff_eq] at hc
    subst hc
    simp only [zstep] at h
    split at h
    · exact lv_iadd hx hb hd (hk _ _ _ _ _ _ h p l e s m args below meth c D cA ad hC H locs lsl hP hS hl hln hkc hks)
    · exact h.elim
  case isub =>
    simp only [zck1, beq_iff_eq] at hc
    subst hc
    simp only [zstep] at h
    split at h
    · exact lv_isub hx hb hd (hk _ _ _ _ _ _ h p l e s m args below meth c D cA ad hC H locs lsl hP hS hl hln hkc hks)
    · exact h.elim
  case imul =>
    simp only [zck1, beq_iff_eq] at hc
    subst hc
    simp only [zstep] at h
    split at h
    · exact lv_imul hx hb hd (hk _ _ _ _ _ _ h p l e s m args below meth c D cA ad hC H locs lsl hP hS hl hln hkc hks)
    · exact h.elim
  case idiv =>
    simp only [zck1, beq_iff_eq] at hc
    subst hc
    simp only [zstep] at h
    split at h
    · obtain ⟨h1, h2⟩ := h
      exact lv_idiv hx hb hd h1 (hk _ _ _ _ _ _ h2 p l e s m args below meth c D cA ad hC H locs lsl hP hS hl hln hkc hks)
    · exact h.elim
  case ineg =>
    simp only [zck1, beq_iff_eq] at hc
    subst hc
    simp only [zstep] at h
    split at h
    · exact lv_ineg hx hb hd (hk _ _ _ _ _ _ h p l e s m args below meth c D cA ad hC H locs lsl hP hS hl hln hkc hks)
    · exact h.elim
  case iand =>
    simp only [zck1, beq_iff_eq] at hc
    subst hc
    simp only [zstep] at h
    split at h
    · exact lv_iand hx hb hd (hk _ _ _ _ _ _ h p l e s m args below meth c D cA ad hC H locs lsl hP hS hl hln hkc hks)
    · exact h.elim
  case ior =>
    simp only [zck1, beq_iff_eq] at hc
    subst hc
    simp only [zstep] at h
    split at h
    · exact lv_ior hx hb hd (hk _ _ _ _ _ _ h p l e s m args below meth c D cA ad hC H locs lsl hP hS hl hln hkc hks)
    · exact h.elim
  case ixor =>
    simp only [zck1, beq_iff_eq] at hc
    subst hc
    simp only [zstep] at h
    split at h
    · exact lv_ixor hx hb hd (hk _ _ _ _ _ _ h p l e s m args below meth c D cA ad hC H locs lsl hP hS hl hln hkc hks)
    · exact h.elim
  case ishl =>
    simp only [zck1, beq_iff_eq] at hc
    subst hc
    simp only [zstep] at h
    split at h
    · exact lv_ishl hx hb hd (hk _ _ _ _ _ _ h p l e s m args below meth c D cA ad hC H locs lsl hP hS hl hln hkc hks)
    · exact h.elim
  case ishr =>
    simp only [zck1, beq_iff_eq] at hc
    subst hc
    simp only [zstep] at h
    split at h
    · exact lv_ishr hx hb hd (hk _ _ _ _ _ _ h p l e s m args below meth c D cA ad hC H locs lsl hP hS hl hln hkc hks)
    · exact h.elim
  case iushr =>
    simp only [zck1, beq_iff_eq] at hc
    subst hc
    simp only [zstep] at h
    split at h
    · exact lv_iushr hx hb hd rfl (hk _ _ _ _ _ _ h p l e s m args below meth c D cA ad hC H locs lsl hP hS hl hln hkc hks)
    · exact h.elim
  case dup =>
    simp only [zck1, beq_iff_eq] at hc
    subst hc
    simp only [zstep] at h
    split at h
    · exact lv_dup hx hb hd rfl (hk _ _ _ _ _ _ h p l e s m args below meth c D cA ad hC H locs lsl hP hS hl hln hkc hks)
    · exact lv_dup hx hb hd rfl (hk _ _ _ _ _ _ h p l e s m args below meth c D cA ad hC H locs lsl hP hS hl hln hkc hks)
    · exact h.elim
  case dup_x1 =>
    simp only [zck1, beq_iff_eq] at hc
    subst hc
    simp only [zstep] at h
    split at h
    · exact lv_dup_x1 hx hb hd rfl rfl (hk _ _ _ _ _ _ h p l e s m args below meth c D cA ad hC H locs lsl hP hS hl hln hkc hks)
    · exact h.elim
  case dup_x2 =>
    simp only [zck1, beq_iff_eq] at hc
    subst hc
    simp only [zstep] at h
    split at h
    · exact lv_dup_x2 hx hb hd rfl rfl rfl (hk _ _ _ _ _ _ h p l e s m args below meth c D cA ad hC H locs lsl hP hS hl hln hkc hks)
    · exact h.elim
  case dup2 =>
    simp only [zck1, beq_iff_eq] at hc
    subst hc
    simp only [zstep] at h
    split at h
    · exact lv_dup2_11 hx hb hd rfl rfl (hk _ _ _ _ _ _ h p l e s m args below meth c D cA ad hC H locs lsl hP hS hl hln hkc hks)
    · exact h.elim
  case pop =>
    simp only [zck1, beq_iff_eq] at hc
    subst hc
    simp only [zstep] at h
    split at h
    · exact lv_pop hx hb hd rfl (hk _ _ _ _ _ _ h p l e s m args below meth c D cA ad hC H locs lsl hP hS hl hln hkc hks)
    · exact lv_pop hx hb hd rfl (hk _ _ _ _ _ _ h p l e s m args below meth c D cA ad hC H locs lsl hP hS hl hln hkc hks)
    · exact h.elim
  case ifCond cd off =>
    simp only [zck1, Bool.and_eq_true, beq_iff_eq] at hc
    obtain ⟨rfl, hc⟩ := hc
    simp only [zstep] at h
    split at h
    · have ht := ztgt rfl hc
      cases cd
      · exact lv_if_eq hx hb hd ht (fun q => hj _ _ _ _ _ _ (h.1 q) p l e s m args below meth c D cA ad hC H locs lsl hP hS hl hln hkc hks) (fun q => hk _ _ _ _ _ _ (h.2 q) p l e s m args below meth c D cA ad hC H locs lsl hP hS hl hln hkc hks)
      · exact lv_if_ne hx hb hd ht (fun q => hj _ _ _ _ _ _ (h.1 q) p l e s m args below meth c D cA ad hC H locs lsl hP hS hl hln hkc hks) (fun q => hk _ _ _ _ _ _ (h.2 q) p l e s m args below meth c D cA ad hC H locs lsl hP hS hl hln hkc hks)
      · exact lv_if_lt hx hb hd ht (fun q => hj _ _ _ _ _ _ (h.1 q) p l e s m args below meth c D cA ad hC H locs lsl hP hS hl hln hkc hks) (fun q => hk _ _ _ _ _ _ (h.2 q) p l e s m args below meth c D cA ad hC H locs lsl hP hS hl hln hkc hks)
      · exact lv_if_ge hx hb hd ht (fun q => hj _ _ _ _ _ _ (h.1 q) p l e s m args below meth c D cA ad hC H locs lsl hP hS hl hln hkc hks) (fun q => hk _ _ _ _ _ _ (h.2 q) p l e s m args below meth c D cA ad hC H locs lsl hP hS hl hln hkc hks)
      · exact lv_if_gt hx hb hd ht (fun q => hj _ _ _ _ _ _ (h.1 q) p l e s m args below meth c D cA ad hC H locs lsl hP hS hl hln hkc hks) (fun q => hk _ _ _ _ _ _ (h.2 q) p l e s m args below meth c D cA ad hC H locs lsl hP hS hl hln hkc hks)
      · exact lv_if_le hx hb hd ht (fun q => hj _ _ _ _ _ _ (h.1 q) p l e s m args below meth c D cA ad hC H locs lsl hP hS hl hln hkc hks) (fun q => hk _ _ _ _ _ _ (h.2 q) p l e s m args below meth c D cA ad hC H locs lsl hP hS hl hln hkc hks)
    · exact h.elim
  case if_icmp cd off =>
    simp only [zck1, Bool.and_eq_true, beq_iff_eq] at hc
    obtain ⟨rfl, hc⟩ := hc
    simp only [zstep] at h
    split at h
    · have ht := ztgt rfl hc
      cases cd
      · exact lv_icmp_eq hx hb hd ht (fun q => hj _ _ _ _ _ _ (h.1 q) p l e s m args below meth c D cA ad hC H locs lsl hP hS hl hln hkc hks) (fun q => hk _ _ _ _ _ _ (h.2 q) p l e s m args below meth c D cA ad hC H locs lsl hP hS hl hln hkc hks)
      · exact lv_icmp_ne hx hb hd ht (fun q => hj _ _ _ _ _ _ (h.1 q) p l e s m args below meth c D cA ad hC H locs lsl hP hS hl hln hkc hks) (fun q => hk _ _ _ _ _ _ (h.2 q) p l e s m args below meth c D cA ad hC H locs lsl hP hS hl hln hkc hks)
      · exact lv_icmp_lt hx hb hd ht (fun q => hj _ _ _ _ _ _ (h.1 q) p l e s m args below meth c D cA ad hC H locs lsl hP hS hl hln hkc hks) (fun q => hk _ _ _ _ _ _ (h.2 q) p l e s m args below meth c D cA ad hC H locs lsl hP hS hl hln hkc hks)
      · exact lv_icmp_ge hx hb hd ht (fun q => hj _ _ _ _ _ _ (h.1 q) p l e s m args below meth c D cA ad hC H locs lsl hP hS hl hln hkc hks) (fun q => hk _ _ _ _ _ _ (h.2 q) p l e s m args below meth c D cA ad hC H locs lsl hP hS hl hln hkc hks)
      · exact lv_icmp_gt hx hb hd ht (fun q => hj _ _ _ _ _ _ (h.1 q) p l e s m args below meth c D cA ad hC H locs lsl hP hS hl hln hkc hks) (fun q => hk _ _ _ _ _ _ (h.2 q) p l e s m args below meth c D cA ad hC H locs lsl hP hS hl hln hkc hks)
      · exact lv_icmp_le hx hb hd ht (fun q => hj _ _ _ _ _ _ (h.1 q) p l e s m args below meth c D cA ad hC H locs lsl hP hS hl hln hkc hks) (fun q => hk _ _ _ _ _ _ (h.2 q) p l e s m args below meth c D cA ad hC H locs lsl hP hS hl hln hkc hks)
    · exact h.elim
  case goto off =>
    simp only [zck1, Bool.and_eq_true, beq_iff_eq] at hc
    obtain ⟨rfl, hc⟩ := hc
    simp only [zstep] at h
    split at h
    · exact lv_goto hx hb hd (ztgt rfl hc) (hj _ _ _ _ _ _ h p l e s m args below meth c D cA ad hC H locs lsl hP hS hl hln hkc hks)
    · exact h.elim
  case ifnull off =>
    simp only [zck1, Bool.and_eq_true, beq_iff_eq] at hc
    obtain ⟨rfl, hc⟩ := hc
    simp only [zstep] at h
    split at h
    · exact lv_ifnull hx hb hd (hk _ _ _ _ _ _ h p l e s m args below meth c D cA ad hC H locs lsl hP hS hl hln hkc hks)
    · exact lv_ifnullN hx hb hd (ztgt rfl hc) (hj _ _ _ _ _ _ h p l e s m args below meth c D cA ad hC H locs lsl hP hS hl hln hkc hks)
    · exact h.elim
  case aconst_null =>
    simp only [zck1, beq_iff_eq] at hc
    subst hc
    exact lv_null hx hb hd (hk _ _ _ _ _ _ h p l e s m args below meth c D cA ad hC H locs lsl hP hS hl hln hkc hks)
  case tableswitch dd lo hi offs =>
    simp only [zck1, Bool.and_eq_true] at hc
    obtain ⟨hc1, hc2, hc3⟩ := hc
    have hc2 := of_decide_eq_true hc2
    have hc3 := of_decide_eq_true hc3
    simp only [zstep] at h
    split at h
    · rename_i x r dt ts h9
      by_cases hin : x.toInt < lo ∨ hi < x.toInt
      · exact lv_tableOut hx hb hd hin (ztgt rfl hc1) (hj _ _ _ _ _ _ (h.2 hin) p l e s m args below meth c D cA ad hC H locs lsl hP hS hl hln hkc hks)
      · have h1 : ¬ x.toInt < lo := fun q => hin (Or.inl q)
        have h2 : ¬ hi < x.toInt := fun q => hin (Or.inr q)
        have hidx : (x.toInt - lo).toNat < offs.size := by omega
        have ho : offs[(x.toInt - lo).toNat]? = some offs[(x.toInt - lo).toNat] := Array.getElem?_eq_getElem hidx
        have hm : (offs.toList.map (fun o => (pc : Int) + o))[(x.toInt - lo).toNat]? = some ((pc : Int) + offs[(x.toInt - lo).toNat]) := by
          rw [List.getElem?_map, Array.getElem?_toList, ho]; rfl
        rw [hc2, List.getElem?_map] at hm
        cases hts' : ts[(x.toInt - lo).toNat]? with
        | none => simp [hts'] at hm
        | some t =>
          simp only [List.tail_cons, hts', Option.map_some, Option.some.injEq] at hm
          refine lv_tableIn hx hb hd h1 h2 ho hm.symm (hj _ _ _ _ _ _ (zsw_ok h.1 _ _ hts' ?_) p l e s m args below meth c D cA ad hC H locs lsl hP hS hl hln hkc hks)
          rw [show lo + ((x.toInt - lo).toNat : Int) = x.toInt by omega, Int32.ofInt_toInt]
    · exact h.elim
  case getfield ix =>
    simp only [zck1, beq_iff_eq] at hc
    subst hc
    simp only [zstep] at h
    split at h
    · rename_i j r
      obtain ⟨ci, sl, n, w, o, hjn, hsh, hf, ho, h⟩ := zfld_ok h
      obtain ⟨C, T, N, hcl, hn, hlk, -, -⟩ := hY.1 _ _ _ _ hf
      obtain ⟨hu, -⟩ := zcl_ok _ (List.mem_of_getElem? hcl)
      have hat := zWs_at cA (zMu Y) ad F hjn
      rw [hsh] at hat
      have hv : (zFs ad (F j) 0 sl)[n]? = some (zFv ad (F j) n o) := by rw [zFs_at, ho]; simp
      have kk : W p l e (zMr Y) s m args below meth c H locs kc ks (vx_MQ below (zQ D cA (zMu Y) ad ok (zA (zMu Y) ad s.heap.size)) (zQx D cA (zMu Y) ad ex (zA (zMu Y) ad s.heap.size)) args s (zMr Y).cells (zMr Y).slots (zA (zMu Y) ad s.heap.size)) (F0 m (pc + 3) lsl (zFv ad (F j) n o :: r.map (zv ad))) := by
        cases o with
        | none => exact hk _ _ _ _ _ _ h p l e s m args below meth c D cA ad hC H locs lsl hP hS hl hln hkc hks
        | some t => exact hk _ _ _ _ _ _ h p l e s m args below meth c D cA ad hC H locs lsl hP hS hl hln hkc hks
      rcases hlk with hlk | hlk
      · exact va_get (D := D) (ci := ci) hx hb hts hu hown hK.1 hP j hat hcl n hn (hts _ hlk) (fun _ z => z) hv hd kk
      · exact va_getN (D := D) (ci := ci) hx hb hts hu hown hK.1 hP j hat hcl n hn (va_Nw.use rfl (hK.2.1 _ hlk)) (fun _ z => z) hv hd kk
    · exact h.elim
  case putfield ix =>
    simp only [zck1, beq_iff_eq] at hc
    subst hc
    simp only [zstep] at h
    split at h
    · rename_i x j r
      obtain ⟨ci, sl, n, w, o, hjn, hsh, hf, ho, h⟩ := zfld_ok h
      obtain ⟨C, T, N, hcl, hn, hlk, hw1, hw2⟩ := hY.1 _ _ _ _ hf
      obtain ⟨hu, ty0, hty, hnm⟩ := zcl_ok _ (List.mem_of_getElem? hcl)
      have hat := zWs_at cA (zMu Y) ad F hjn
      rw [hsh] at hat
      have fin : ∀ ty : FieldType, (T n).2.2.2 = false → parseFieldDescriptor (T n).2.2.1 = some ty → narrow ty (.int x) = .int x → fits ty (.int x) = true → o = none → k (pc + 3) ls r kc ks (zup F j n x) → W p l e (zMr Y) s m args below meth c H locs kc ks (vx_MQ below (zQ D cA (zMu Y) ad ok (zA (zMu Y) ad s.heap.size)) (zQx D cA (zMu Y) ad ex (zA (zMu Y) ad s.heap.size)) args s (zMr Y).cells (zMr Y).slots (zA (zMu Y) ad s.heap.size)) (F0 m pc lsl (.int x :: .ref (ad j) :: r.map (zv ad))) := by
        intro ty hfin hpd hnr hft ho' hkk
        subst ho'
        have hset : ∀ e, e = Sum.inr (ci, (zFs ad (F j) 0 sl).set n (.int x)) → (zWs cA (zMu Y) ad F).set j (ad j, e) = zWs cA (zMu Y) ad (zup F j n x) := by
          intro e he
          refine zWs_set cA (zMu Y) ad F (zup F j n x) hjn ?_ (fun k hk => zup_ne F n x hk)
          rw [he, hsh, zup_self]
          show _ = Sum.inr (ci, zFs ad (upd (F j) n x) 0 sl)
          rw [zFs_set ad (F j) x sl ho]
        have hlen : n < (zFs ad (F j) 0 sl).length := by
          rw [zFs_len]
          rw [znth_eq] at ho
          exact (List.getElem?_eq_some_iff.mp ho).1
        have hkk' : ∀ (H1 : Heap) (locs1 : List Loc), va_P D zcl ((zWs cA (zMu Y) ad F).set j (ad j, .inr (ci, (zFs ad (F j) 0 sl).set n (.int x)))) H1 → va_D (zA (zMu Y) ad s.heap.size) ((zWs cA (zMu Y) ad F).set j (ad j, .inr (ci, (zFs ad (F j) 0 sl).set n (.int x)))) → va_S (zA (zMu Y) ad s.heap.size) s.heap H1 locs1 → W p l e (zMr Y) s m args below meth c H1 locs1 kc ks (vx_MQ below (zQ D cA (zMu Y) ad ok (zA (zMu Y) ad s.heap.size)) (zQx D cA (zMu Y) ad ex (zA (zMu Y) ad s.heap.size)) args s (zMr Y).cells (zMr Y).slots (zA (zMu Y) ad s.heap.size)) (F0 m (pc + 3) lsl (r.map (zv ad))) := by
          intro H1 locs1 hP1 _ hS1
          rw [hset _ rfl] at hP1
          exact hk _ _ _ _ _ _ hkk p l e s m args below meth c D cA ad hC H1 locs1 lsl hP1 hS1 hl hln hkc hks
        rcases hlk with hlk | hlk
        · exact va_put (D := D) (ci := ci) hx hb hts hu ty0 hty hnm hown hK.1 hP (hD F) hS j hat hcl n hn (hts _ hlk) (fun _ z => z) hfin hpd hnr hft hlen hd hkk'
        · exact va_putN (D := D) (ci := ci) hx hb hts hu ty0 hty hnm hown hK.1 hP (hD F) hS j hat hcl n hn (va_Nw.use rfl (hK.2.1 _ hlk)) (fun _ z => z) hfin hpd hnr hft hlen hd hkk'
      split at h
      · obtain ⟨q1, q2⟩ := hw1 rfl
        exact fin .int q1 (by rw [q2]; decide +kernel) rfl rfl rfl h
      · obtain ⟨q1, q2⟩ := hw2 rfl
        obtain ⟨h1, h2⟩ := h
        exact fin .boolean q1 (by rw [q2]; decide +kernel) (znar01 h1) (zfit01 h1) rfl h2
      · exact h.elim
    · exact h.elim
  case iaload =>
    simp only [zck1, beq_iff_eq] at hc
    subst hc
    simp only [zstep] at h
    split at h
    · obtain ⟨n, sl, hjn, hsh, hin, h⟩ := zarr_ok h
      have hat := zWs_at cA (zMu Y) ad F hjn
      rw [hsh] at hat
      exact va_iald hx hb hK.1 hP _ 0 hat rfl hin hd (hk _ _ _ _ _ _ h p l e s m args below meth c D cA ad hC H locs lsl hP hS hl hln hkc hks)
    · exact h.elim
  case iastore =>
    simp only [zck1, beq_iff_eq] at hc
    subst hc
    simp only [zstep] at h
    split at h
    · rename_i y x j r
      obtain ⟨n, sl, hjn, hsh, hin, h⟩ := zarr_ok h
      have hat := zWs_at cA (zMu Y) ad F hjn
      rw [hsh] at hat
      refine va_iast hx hb hK.1 hP (hD F) hS _ 0 hat rfl hin hd (fun H1 locs1 hP1 _ hS1 => ?_)
      rw [zWs_set cA (zMu Y) ad F (zup F j x.toNatClampNeg y) hjn (by rw [hsh, zup_self]; rfl) (fun k hk => zup_ne F _ _ hk)] at hP1
      exact hk _ _ _ _ _ _ h p l e s m args below meth c D cA ad hC H1 locs1 lsl hP1 hS1 hl hln hkc hks
    · exact h.elim
  case baload =>
    simp only [zck1, beq_iff_eq] at hc
    subst hc
    simp only [zstep] at h
    split at h
    · obtain ⟨n, sl, hjn, hsh, hin, h⟩ := zarr_ok h
      have hat := zWs_at cA (zMu Y) ad F hjn
      rw [hsh] at hat
      exact va_zald hx hb hK.1 hP _ 1 hat rfl hin hd (hk _ _ _ _ _ _ h p l e s m args below meth c D cA ad hC H locs lsl hP hS hl hln hkc hks)
    · exact h.elim
  case bastore =>
    simp only [zck1, beq_iff_eq] at hc
    subst hc
    simp only [zstep] at h
    split at h
    · rename_i y x j r
      obtain ⟨n, sl, hjn, hsh, hin, h⟩ := zarr_ok h
      have hat := zWs_at cA (zMu Y) ad F hjn
      rw [hsh] at hat
      refine va_zast hx hb hK.1 hP (hD F) hS _ 1 hat rfl hin hd (fun H1 locs1 hP1 _ hS1 => ?_)
      rw [zWs_set cA (zMu Y) ad F (zup F j x.toNatClampNeg (vp_nar .boolean y)) hjn (by rw [hsh, zup_self]; rfl) (fun k hk => zup_ne F _ _ hk)] at hP1
      exact hk _ _ _ _ _ _ h p l e s m args below meth c D cA ad hC H1 locs1 lsl hP1 hS1 hl hln hkc hks
    · exact h.elim
  case aaload =>
    simp only [zck1, beq_iff_eq] at hc
    subst hc
    simp only [zstep] at h
    split at h
    · rename_i x j r
      obtain ⟨n, sl, hjn, hsh, hin, t, ht, h⟩ := zarr_ok h
      have hat := zWs_at cA (zMu Y) ad F hjn
      rw [hsh] at hat
      rw [hsh] at ht
      have hv : va_rf (((znth sl x.toNatClampNeg).getD none).map ad) = .ref (ad t) := by rw [ht]; rfl
      have kk := hk _ _ _ _ _ _ h p l e s m args below meth c D cA ad hC H locs lsl hP hS hl hln hkc hks
      refine va_aldq hx hb hK.1 hP j 2 hat rfl hin hd ?_
      show W _ _ _ _ _ _ _ _ _ _ _ _ _ _ _ (F0 m (pc + 1) lsl (va_rf (((znth sl x.toNatClampNeg).getD none).map ad) :: r.map (zv ad)))
      rw [hv]
      exact kk
    · exact h.elim
  case arraylength =>
    simp only [zck1, beq_iff_eq] at hc
    subst hc
    simp only [zstep] at h
    split at h
    · rename_i j r
      split at h
      · rename_i hjn
        have hjn : j < (zMu Y).1 := by simpa using hjn
        have hat := zWs_at cA (zMu Y) ad F hjn
        obtain ⟨t', n, sl, hsh⟩ : ∃ t' n sl, (zMu Y).2 j = (t', n, sl) := ⟨_, _, _, rfl⟩
        rw [hsh] at hat h
        dsimp only at h
        split at h
        · have kk := hk _ _ _ _ _ _ h p l e s m args below meth c D cA ad hC H locs lsl hP hS hl hln hkc hks
          rcases t' with _ | _ | _ | _ | _ | t'
          · simp at *
          · exact va_alen hx hb hK.1 hP j 0 hat rfl rfl hd kk
          · exact va_alen hx hb hK.1 hP j 1 hat rfl rfl hd kk
          · exact va_alen hx hb hK.1 hP j 2 hat rfl rfl hd kk
          · exact va_alen hx hb hK.1 hP j 3 hat rfl rfl hd kk
          · exact va_alen hx hb hK.1 hP j 4 hat rfl rfl hd kk
        · exact h.elim
      · exact h.elim
    · exact h.elim
  case i2d =>
    simp only [zck1, beq_iff_eq] at hc
    subst hc
    simp only [zstep] at h
    split at h
    · exact lv_i2d hx hb hd (hk _ _ _ _ _ _ h p l e s m args below meth c D cA ad hC H locs lsl hP hS hl hln hkc hks)
    · exact h.elim
  case ddiv =>
    simp only [zck1, beq_iff_eq] at hc
    subst hc
    simp only [zstep] at h
    split at h
    · obtain ⟨h1, h2⟩ := h
      exact lv_ddiv hx hb hd h1 (hk _ _ _ _ _ _ h2 p l e s m args below meth c D cA ad hC H locs lsl hP hS hl hln hkc hks)
    · exact h.elim
  case ldc_w ix =>
    simp only [zck1, beq_iff_eq] at hc
    subst hc
    simp only [zstep] at h
    obtain ⟨h1, h2⟩ := h
    exact lv_ldcw hx hb hown (hts _ h1) hd (hk _ _ _ _ _ _ h2 p l e s m args below meth c D cA ad hC H locs lsl hP hS hl hln hkc hks)
  case invokevirtual ix =>
    simp only [zck1, beq_iff_eq] at hc
    subst hc
    simp only [zstep] at h
    exact zcall_ok hY hk hd h p l e s m args below meth c D cA ad hC H locs lsl hP hS hl hln hkc hks
  case invokestatic ix =>
    simp only [zck1, beq_iff_eq] at hc
    subst hc
    simp only [zstep] at h
    exact zcall_ok hY hk (b := false) hd h p l e s m args below meth c D cA ad hC H locs lsl hP hS hl hln hkc hks
  case ireturn =>
    simp only [zck1, beq_iff_eq] at hc
    subst hc
    simp only [zstep] at h
    split at h
    · rename_i x
      unfold zret at h
      split at h
      · rename_i ht
        exact vx_ret (W.widen hkc hks (W.iret hx hb (hr.trans ht) (fun t ht hW => ⟨⟨some (.int x), F, rfl, h, by rw [ht]; exact hP⟩, hS.F ht⟩) hS.2.2 hd))
      · rename_i ht
        obtain ⟨h1, h2⟩ := h
        exact vx_ret (W.widen hkc hks (W.zret hx hb (hr.trans ht) (znar01 h1) (fun t ht hW => ⟨⟨some (.int x), F, rfl, h2, by rw [ht]; exact hP⟩, hS.F ht⟩) hS.2.2 hd))
      · exact h.elim
    · exact h.elim
  case return_ =>
    simp only [zck1, beq_iff_eq] at hc
    subst hc
    simp only [zstep] at h
    split at h
    · rename_i ht
      exact vx_ret (W.widen hkc hks (W.vret hx hb (hr.trans ht) (fun t ht hW => ⟨⟨none, F, rfl, h, by rw [ht]; exact hP⟩, hS.F ht⟩) hS.2.2 hd))
    · exact h.elim
  case areturn =>
    simp only [zck1, beq_iff_eq] at hc
    subst hc
    simp only [zstep] at h
    split at h
    · rename_i x nm ht
      exact vx_ret (W.widen hkc hks (W.aret (v := .ref (ad x)) hx hb (hr.trans ht) (Or.inl ⟨_, rfl⟩) (Or.inr ⟨_, rfl⟩) (fun t ht hW => ⟨⟨some (.ref x), F, rfl, h, by rw [ht]; exact hP⟩, hS.F ht⟩) hS.2.2 hd))
    · rename_i nm ht
      exact vx_ret (W.widen hkc hks (W.aret (v := .null) hx hb (hr.trans ht) (Or.inl ⟨_, rfl⟩) (Or.inl rfl) (fun t ht hW => ⟨⟨some .null, F, rfl, h, by rw [ht]; exact hP⟩, hS.F ht⟩) hS.2.2 hd))
    · exact h.elim
  case dreturn =>
    simp only [zck1, beq_iff_eq] at hc
    subst hc
    simp only [zstep] at h
    split at h
    · rename_i x ht
      exact vx_ret (W.widen hkc hks (W.dret hx hb (hr.trans ht) (fun t ht hW => ⟨⟨some (.double x), F, rfl, h, by rw [ht]; exact hP⟩, hS.F ht⟩) hS.2.2 hd))
    · exact h.elim
  all_goals exact h.elim
theorem zgo_ok {Y : zM} {ok : zO} {ex : zX} {inv : Nat → Option zJ} (hY : zYok Y) (hi : ∀ t I, inv t = some I → ∀ ls st kc ks F, I ls st kc ks F → zWP Y ok ex t ls st kc ks F) :
    ∀ (code : List zI), (∀ q ∈ code, zck (zMc Y) q = true) → ∀ t ls st kc ks F, zgo Y ok ex inv code t ls st kc ks F → zWP Y ok ex t ls st kc ks F := by
  intro code
  induction code with
  | nil => intro _ t ls st kc ks F h; exact h.elim
  | cons q rest ih =>
    intro hq t ls st kc ks F h
    obtain ⟨pc, len, i, tg, v⟩ := q
    have hrest := ih (fun q h => hq q (List.mem_cons_of_mem _ h))
    simp only [zgo] at h
    split at h
    · rename_i he
      have := Nat.eq_of_beq_eq_true he
      subst this
      split at h
      · rename_i I hI
        exact hi _ _ hI _ _ _ _ _ h
      · obtain ⟨hd, hc⟩ := zck_ok (hq _ List.mem_cons_self)
        exact zstep_ok hY hrest hi hd hc h
    · exact hrest _ _ _ _ _ _ h
theorem zat_ok {Y : zM} {ok : zO} {ex : zX} {inv : Nat → Option zJ} (hY : zYok Y) (hi : ∀ t I, inv t = some I → ∀ ls st kc ks F, I ls st kc ks F → zWP Y ok ex t ls st kc ks F) :
    ∀ (code : List zI), (∀ q ∈ code, zck (zMc Y) q = true) → ∀ t ls st kc ks F, zat Y ok ex inv code t ls st kc ks F → zWP Y ok ex t ls st kc ks F := by
  intro code
  induction code with
  | nil => intro _ t ls st kc ks F h; exact h.elim
  | cons q rest ih =>
    intro hq t ls st kc ks F h
    obtain ⟨pc, len, i, tg, v⟩ := q
    have hrest := zgo_ok (ok := ok) (ex := ex) hY hi rest (fun q h => hq q (List.mem_cons_of_mem _ h))
    simp only [zat] at h
    split at h
    · rename_i he
      have := Nat.eq_of_beq_eq_true he
      subst this
      obtain ⟨hd, hc⟩ := zck_ok (hq _ List.mem_cons_self)
      exact zstep_ok hY hrest hi hd hc h
    · exact ih (fun q h => hq q (List.mem_cons_of_mem _ h)) _ _ _ _ _ _ h
end ZSb
end
section
/-! from the formula to the contract, and from a contract to a call; a contract in a larger world -/
section ZM
def zini : Nat → List Value → zL
  | 0, _ => []
  | n + 1, v :: r => some v :: zini n r
  | n + 1, [] => none :: zini n []
theorem zini_len : ∀ (n : Nat) (av : List Value), (zini n av).length = n
  | 0, _ => rfl
  | n + 1, v :: r => congrArg (· + 1) (zini_len n r)
  | n + 1, [] => congrArg (· + 1) (zini_len n [])
theorem zini_args (ad : Nat → Nat) : ∀ (n : Nat) (av : List Value), av.all zsm = true → ∀ (b : Nat) (q : Nat × Value), q ∈ zll ad b (zini n av) → q ∈ lv_args b (av.map (zv ad))
  | 0, _, _, _, q, h => by cases h
  | n + 1, [], _, b, q, h => by
    have h1 : q ∈ zll ad (b + 1) (zini n []) := h
    exact absurd (zini_args ad n [] rfl (b + 1) q h1) (by simp [lv_args])
  | n + 1, v :: r, hs, b, q, h => by
    simp only [List.all_cons, Bool.and_eq_true] at hs
    have ih := zini_args ad n r hs.2 (b + 1) q
    cases v with
    | int z =>
      rcases List.mem_cons.mp (show q ∈ (b, Value.int z) :: zll ad (b + 1) (zini n r) from h) with h | h
      · rw [h]; exact List.mem_cons_self
      · exact List.mem_cons_of_mem _ (ih h)
    | ref z =>
      rcases List.mem_cons.mp (show q ∈ (b, Value.ref (ad z)) :: zll ad (b + 1) (zini n r) from h) with h | h
      · rw [h]; exact List.mem_cons_self
      · exact List.mem_cons_of_mem _ (ih h)
    | null =>
      rcases List.mem_cons.mp (show q ∈ (b, Value.null) :: zll ad (b + 1) (zini n r) from h) with h | h
      · rw [h]; exact List.mem_cons_self
      · exact List.mem_cons_of_mem _ (ih h)
    | long z => cases hs.1
    | float z => cases hs.1
    | double z => cases hs.1
    | retAddr z => cases hs.1
theorem zsl_len (ad : Nat → Nat) : ∀ (av : List Value), av.all zsm = true → (lg_sl (av.map (zv ad))).length = av.length
  | [], _ => rfl
  | v :: r, hs => by
    simp only [List.all_cons, Bool.and_eq_true] at hs
    have ih := zsl_len ad r hs.2
    have key : ∀ w : Value, w.category = 1 → (lg_sl (w :: r.map (zv ad))).length = r.length + 1 := by
      intro w hw
      simp only [lg_sl, List.flatMap_cons, hw] at ih ⊢
      simp only [List.length_append, ih]
      simp
      omega
    cases v with
    | int z => exact key _ rfl
    | ref z => exact key _ rfl
    | null => exact key _ rfl
    | long z => cases hs.1
    | float z => cases hs.1
    | double z => cases hs.1
    | retAddr z => cases hs.1
theorem vx_ofWF {l : Launch} {y : MethodName} {ws ws' : List Cond} {rm : Room} {Pc : Array Value → State → Prop} {Qc : Array Value → State → Outcome → State → Prop} {XC : String → State → State → Prop} {mc ms : Nat} {free : Addr → Prop} {cc : ByteArray} {maxL : Nat} {ret : Option FieldType}
    (hy : plainFor y = true) (hw : ws = Cond.code y cc maxL ret :: ws')
    (body : ∀ p e s m args below meth c s₁, BodyLoose p l y (headSpec ws rm) cc maxL ret e s m args below meth c s₁ → c.maxLocals = maxL → (∀ x ∈ c.exceptionTable.toList, False) → Pc args s →
      W p l e (headSpec ws rm).room s m args below meth c s.heap [] 0 0 (vx_MQ below Qc XC args s mc ms free) (entryFrame m args maxL)) : vx_Met l y ws rm Pc Qc XC mc ms free := by
  refine MetFree.of_bodySF (code := cc) (maxLocals := maxL) (ret := ret) hy ?_ ?_
  · intro args s m h hn
    obtain ⟨meth, c, h1, h2, h3, h4, h5, h6, -, -⟩ := Cond.code_spec hn (atoms_spec (ws := ws) h _ (by rw [hw]; exact List.mem_cons_self))
    exact ⟨meth, c, h1, h2, h3, h4, h5, h6⟩
  · intro p e s m args below meth c s₁ B hml hP _
    have hh0 : s₁.heap = s.heap := by rw [B.state]; rfl
    have ht : ∀ x ∈ c.exceptionTable.toList, False := by
      obtain ⟨meth9, c9, h1, h2, -, -, -, -, h7, -⟩ := Cond.code_spec B.named (atoms_spec (ws := ws) B.pre _ (by rw [hw]; exact List.mem_cons_self))
      cases Option.some.inj (h1.symm.trans B.method)
      cases Option.some.inj (h2.symm.trans (Stand.of_body B).code)
      intro x hx
      rw [Array.isEmpty_iff.mp h7] at hx
      cases hx
    obtain ⟨t, a1, o, b1, b2, b3⟩ := body p e s m args below meth c s₁ B hml ht hP s₁ hh0 (Stand.of_body B)
    exact ⟨t, o, a1, b1, b2, b3⟩
theorem zmet {Y : zM} {y : MethodName} {sp : zSp} (hown : y.cls = zMo Y) (hy : plainFor y = true)
    (h : ∀ av F ok ex, sp av F ok ex → zWP Y ok ex 0 (zini (zMl Y) av) [] 0 0 F) : zMet (zMu Y) y (zMc Y) (zMl Y) (zMt Y) (zMr Y) sp := by
  intro l hfl D cA ad F sz av ok ex hsp hinj
  intro hall hlen
  refine vx_ofWF (cc := zMc Y) (maxL := zMl Y) (ret := zMt Y) hy rfl ?_
  intro p e s m args below meth c s₁ B hml hout hv
  obtain ⟨rfl, hsz, hP, hK, hZ⟩ := hv
  subst hsz
  have hts0 := atoms_spec (ws := Cond.code y (zMc Y) (zMl Y) (zMt Y) :: zts) B.pre
  have hent := lv_entry (av.map (zv ad)) (n := zMl Y) (by rw [zsl_len ad av hall]; exact hlen)
  rw [lg_entry_eq]
  have hl : lv_has _ (zMl Y) (zll ad 0 (zini (zMl Y) av)) := ⟨hent.1, hent.2.1, fun q hq => hent.2.2 q (zini_args ad _ av hall 0 q hq)⟩
  exact h av F ok ex hsp p l e s m _ below meth c D cA ad ⟨B.exec, B.bytes, B.returns, hml, by rw [← hown]; exact findClass_of_methodNamed B.named, fun w hw => hts0 w (List.mem_cons_of_mem _ hw), B.notSynchronized, hout, hK, hZ, hinj, hfl⟩
    s.heap [] _ hP va_S.rf hl (by rw [zini_len]; exact Nat.le_refl _) (Nat.zero_le _) (Nat.zero_le _)
theorem zts_good {w : Cond} (h : w ∈ zts) : goodWord w = true := (List.mem_filter.mp h).2
/-- may the receiver j be called as an object of the class number ci -/
def zrc (U : zU) (ci j : Nat) : Bool := Nat.blt j U.1 && (match U.2 j with
  | (0, ci', _) => Nat.beq ci ci'
  | _ => false)
def zvsP (U : zU) (ci : Nat) (sp : zSp) : zSp := fun as F ok ex => match as with
  | .ref j :: r => ∃ _ : zrc U ci j = true, sp (.ref j :: r) F ok ex
  | _ => False
def zvs (U : zU) (ci : Nat) (sp : zSp) : zSp := fun as F ok ex => match as with
  | .ref j :: r => match zrc U ci j with
    | true => sp (.ref j :: r) F ok ex
    | false => False
  | _ => False
theorem zvs_P {U : zU} {ci : Nat} {sp : zSp} {as : List Value} {F : zF} {ok : zO} {ex : zX} (h : zvs U ci sp as F ok ex) : zvsP U ci sp as F ok ex := by
  unfold zvs at h
  unfold zvsP
  split at h
  · split at h
    · rename_i hq
      exact ⟨hq, h⟩
    · exact h.elim
  · exact h.elim
theorem zrc_at {D : va_G} {cA : zT} {U : zU} {ad : Nat → Nat} {F : zF} {ci j : Nat} {C : String} {T : u_T} {N : Nat} {H : Heap} {s : State} (h : zrc U ci j = true) (hc : zcl[ci]? = some (C, T, N)) (hK : zK D cA s) (hP : va_P D zcl (zWs cA U ad F) H) :
    ∃ cell : Cell, H[ad j]? = some cell ∧ cell.vm.isStatics = false ∧ s.vm.findClass C = some cell.cls := by
  simp only [zrc, Bool.and_eq_true] at h
  obtain ⟨h1, h2⟩ := h
  have hj : j < U.1 := by simpa using h1
  split at h2
  · rename_i ci' sl hsh
    have := Nat.eq_of_beq_eq_true h2
    subst this
    have hat := zWs_at cA U ad F hj
    rw [hsh] at hat
    exact va_recv hK.1 hP hc hat
  · cases h2
theorem zA_at {U : zU} {ad : Nat → Nat} {A : Nat → Prop} {H0 H : Heap} {locs : List Loc} (hS : va_S A H0 H locs) : ∀ q, zA U ad H.size q → zA U ad H0.size q := fun q h => h.elim Or.inl fun h => Or.inr (Nat.le_trans hS.1 h)
section ZCal
variable {Y : zM} {y : MethodName} {cc : ByteArray} {nL : Nat} {ret : Option FieldType} {rm : Room} {sp : zSp}
theorem zcalB {s : State} {args : Array Value} (ix n : Nat) (hts : ∀ w ∈ zts, w.before args s = true) (hw : ∀ w ∈ [Cond.methodLink (zMo Y) ix y, Cond.initialized y.cls, Cond.code y cc nL ret], w ∈ zts)
    (hd : y.cls ≠ "java/lang/invoke/MethodHandle" ∧ y.cls ≠ "java/lang/invoke/VarHandle" ∧ (parseMethodDescriptor y.desc).map (fun d => d.parameters.length) = some n) (hR : rm.frames + 1 ≤ (zMr Y).frames ∧ 8 + (nL + 11) + rm.locals ≤ (zMr Y).locals) :
    CallB (zMr Y) s args (zMo Y) ix y cc nL ret (Cond.code y cc nL ret :: zts) rm rm.cells rm.slots n := by
  refine callB_of n hts (fun w h => ?_) rfl rfl rfl (hts _ (hw _ (by simp))) (hts _ (hw _ (by simp))) hd hR
  have hz : w ∈ zts := by
    rcases List.mem_cons.mp h with rfl | h
    · exact hw _ (by simp)
    · exact h
  exact ⟨hz, good_of_word (zts_good hz)⟩
theorem zback {ok : zO} {ex : zX} {ok' : zO} {pc : Nat} {ls : zL} {r : List Value} {kc ks : Nat} {mc ms : Nat} {st0 : List Value} {a : Array Value}
    (hkc : kc + mc ≤ (zMr Y).cells) (hks : ks + ms ≤ (zMr Y).slots) (hcont : ∀ (q : Option Value) (F' : zF), ok' q F' → zWP Y ok ex (pc + 3) ls (q.toList ++ r) (kc + mc) (ks + ms) F')
    {p : Program} {l : Launch} {e : Env} {s : State} {m : MethodId} {args : Array Value} {below : List Frame} {meth : Method} {c : Code} {D : va_G} {cA : zT} {ad : Nat → Nat} (hC : zCtx Y p l s m args meth c D cA ad)
    {H : Heap} {locs : List Loc} {lsl : Array Slot} (hS : va_S (zA (zMu Y) ad s.heap.size) s.heap H locs) (hl : lv_has lsl (zMl Y) (zll ad 0 ls)) (hln : ls.length ≤ zMl Y)
    (hr : vx_Run p l e (zMr Y) s m args below meth c H locs kc ks mc ms (F0 m pc lsl st0) (r.map (zv ad)) (zQ D cA (zMu Y) ad ok' (zA (zMu Y) ad H.size) a) (zQx D cA (zMu Y) ad ex (zA (zMu Y) ad H.size)) (zA (zMu Y) ad H.size)) :
    W p l e (zMr Y) s m args below meth c H locs kc ks (vx_MQ below (zQ D cA (zMu Y) ad ok (zA (zMu Y) ad s.heap.size)) (zQx D cA (zMu Y) ad ex (zA (zMu Y) ad s.heap.size)) args s (zMr Y).cells (zMr Y).slots (zA (zMu Y) ad s.heap.size)) (F0 m pc lsl st0) := by
  obtain ⟨hx, hb, hrt, hml, hown, hts, hlocks, hout, hK, hZ, hinj, hfl⟩ := id hC
  have hf := zA_at (U := zMu Y) (ad := ad) hS
  intro T hT X
  rcases hr T hT X with ⟨v, st₀, t, T', L, h0, X', hL, e1, e2, ⟨⟨q, F', hv, hok, hP'⟩, hF⟩, st⟩ | ⟨q9, st₀, t, T', L, E, ce, h0, X', hL, e1, e2, ⟨⟨F', hex, hP'⟩, hF⟩, hce, hcv, hcl, st⟩
  · obtain ⟨k1, k2, k3⟩ := vx_keep h0 e1 hS (fun q _ h => hf q h) hf hL hF
    cases hv
    obtain ⟨t2, a1, b1⟩ := hcont q F' hok p l e s m args below meth c D cA ad hC T'.heap (locs ++ L) lsl (by rw [e1]; exact hP') k3 hl hln hkc hks T' rfl X'
    refine ⟨t2, st t2 ?_, b1⟩
    cases q with
    | none => exact a1
    | some v => exact a1
  · obtain ⟨k1, k2, k3⟩ := vx_keep h0 e1 hS (fun q _ h => hf q h) hf hL hF
    obtain ⟨t2, a1, b1⟩ := vx_out (e := e) (below := below) (R := zMr Y) (l := l) (p := p) (pc := pc) (ls := lsl) (rest := r.map (zv ad)) (Qc := zQ D cA (zMu Y) ad ok (zA (zMu Y) ad s.heap.size)) (XC := zQx D cA (zMu Y) ad ex (zA (zMu Y) ad s.heap.size)) (H := T'.heap) (locs := locs ++ L) (args := args)
      (fun x hx => (hout x hx).elim) hlocks (by rw [e1]; exact hce) hcv hcl (fun t9 h9 _ => ⟨⟨F', hex, by rw [h9, e1]; exact hP'⟩, k3.F h9⟩) k3.2.2 hkc hks T' rfl X'
    exact ⟨t2, st.trans a1, b1⟩
theorem zpreB {p : Program} {l : Launch} {s : State} {m : MethodId} {args : Array Value} {meth : Method} {c : Code} {D : va_G} {cA : zT} {ad : Nat → Nat} {F : zF} (hC : zCtx Y p l s m args meth c D cA ad)
    {H : Heap} {locs : List Loc} (hP : va_P D zcl (zWs cA (zMu Y) ad F) H) (hS : va_S (zA (zMu Y) ad s.heap.size) s.heap H locs) (U : State) (hU : U.heap = H) (hW : s.WarmedH U.vm) : zB D cA (zMu Y) ad F H.size U := by
  obtain ⟨hx, hb, hrt, hml, hown, hts, hlocks, hout, hK, hZ, hinj, hfl⟩ := id hC
  exact ⟨by rw [hU], by rw [hU]; exact hP, zK.warm hW hK, by rw [hU]; exact ((hZ.kept hS.2.1).moved hW.alike).narrow (zA_at hS)⟩
theorem zcalV (hM : zMet (zMu Y) y cc nL ret rm sp) (ix n ci : Nat) {T : u_T} {N : Nat} (hci : zcl[ci]? = some (y.cls, T, N)) (hw : ∀ w ∈ [Cond.methodLink (zMo Y) ix y, Cond.initialized y.cls, Cond.code y cc nL ret, Cond.instanceMethod y, Cond.selects y.cls y y], w ∈ zts)
    (hd : y.cls ≠ "java/lang/invoke/MethodHandle" ∧ y.cls ≠ "java/lang/invoke/VarHandle" ∧ (parseMethodDescriptor y.desc).map (fun d => d.parameters.length) = some n) (hn : n + 1 ≤ nL) (hR : rm.frames + 1 ≤ (zMr Y).frames ∧ 8 + (nL + 11) + rm.locals ≤ (zMr Y).locals) :
    zCal Y true ix (n + 1) rm.cells rm.slots (zvsP (zMu Y) ci sp) := by
  intro pc hdg ok ex ls as r kc ks F ok' hlen hall hwt hkc hks hsp hcont
  intro p l e s m args below meth c D cA ad hC H locs lsl hP hS hl hln _ _
  obtain ⟨hx, hb, hrt, hml, hown, hts, hlocks, hout, hK, hZ, hinj, hfl⟩ := id hC
  rcases as with _ | ⟨v0, r'⟩
  · exact hsp.elim
  cases v0 with
  | ref j =>
    obtain ⟨hrc, hsp⟩ := hsp
    have cb := zcalB (Y := Y) (cc := cc) (nL := nL) (ret := ret) (rm := rm) ix n hts (fun w h => hw w (List.mem_append_left [Cond.instanceMethod y, Cond.selects y.cls y y] h)) hd hR
    have hr := vx_runV (e := e) (below := below) (locs := locs) (cells := kc) (slots := ks) (As := r'.map (zv ad)) (rest := r.map (zv ad)) (g := F0 m pc lsl ((List.reverse (Value.ref j :: r') ++ r).map (zv ad))) (meth := meth) ⟨hx, hb, hml, hown, hts⟩ (hM l hfl D cA ad F H.size _ ok' ex hsp hinj hall (by rw [hlen]; exact hn)) ⟨cb, hts _ (hw _ (by simp)), hts _ (hw _ (by simp))⟩
      ⟨zB.blind, zrc_at hrc hci hK hP, fun U hU hW => ⟨rfl, zpreB hC hP hS U hU hW⟩⟩ rfl (by simp at hlen ⊢; exact hlen) hl.1 (by simp [zv]) (lv_room (by rw [zwt_cat]; exact hwt)) hdg ⟨hkc, hks⟩
    exact zback hkc hks hcont hC hS hl hln hr
  | _ => exact hsp.elim
theorem zcalS (hM : zMet (zMu Y) y cc nL ret rm sp) (ix n : Nat) (hw : ∀ w ∈ [Cond.methodLink (zMo Y) ix y, Cond.initialized y.cls, Cond.code y cc nL ret, Cond.static y], w ∈ zts)
    (hd : y.cls ≠ "java/lang/invoke/MethodHandle" ∧ y.cls ≠ "java/lang/invoke/VarHandle" ∧ (parseMethodDescriptor y.desc).map (fun d => d.parameters.length) = some n) (hn : n ≤ nL) (hR : rm.frames + 1 ≤ (zMr Y).frames ∧ 8 + (nL + 11) + rm.locals ≤ (zMr Y).locals) :
    zCal Y false ix n rm.cells rm.slots sp := by
  intro pc hdg ok ex ls as r kc ks F ok' hlen hall hwt hkc hks hsp hcont
  intro p l e s m args below meth c D cA ad hC H locs lsl hP hS hl hln _ _
  obtain ⟨hx, hb, hrt, hml, hown, hts, hlocks, hout, hK, hZ, hinj, hfl⟩ := id hC
  have cb := zcalB (Y := Y) (cc := cc) (nL := nL) (ret := ret) (rm := rm) ix n hts (fun w h => hw w (List.mem_append_left [Cond.static y] h)) hd hR
  have hr := vx_runS (e := e) (below := below) (locs := locs) (cells := kc) (slots := ks) (As := as.map (zv ad)) (rest := r.map (zv ad)) (g := F0 m pc lsl ((List.reverse as ++ r).map (zv ad))) (meth := meth) ⟨hx, hb, hml, hown, hts⟩ (hM l hfl D cA ad F H.size _ ok' ex hsp hinj hall (by rw [hlen]; exact hn)) ⟨cb, hts _ (hw _ (by simp))⟩
    ⟨zB.blind, fun U hU hW => ⟨rfl, zpreB hC hP hS U hU hW⟩⟩ rfl (by simp [hlen]) hl.1 (by simp) (lv_room (by rw [zwt_cat]; exact hwt)) hdg ⟨hkc, hks⟩
  exact zback hkc hks hcont hC hS hl hln hr
end ZCal
end ZM
end
section
/-! the tables of fields, by class; helps for a method's own data -/
section ZT
def zlk {α : Type} : List (Nat × α) → Nat → Option α
  | [], _ => none
  | (k, v) :: r, n => match Nat.beq k n with
    | true => some v
    | false => zlk r n
theorem zlk_mem {α : Type} {l : List (Nat × α)} {n : Nat} {v : α} (h : zlk l n = some v) : (n, v) ∈ l := by
  induction l with
  | nil => cases h
  | cons q r ih =>
    obtain ⟨k, w⟩ := q
    simp only [zlk] at h
    split at h
    · rename_i hb
      have := Nat.eq_of_beq_eq_true hb
      subst this
      cases h
      exact List.mem_cons_self
    · exact List.mem_cons_of_mem _ (ih h)
def zfokb (own : String) (ix ci n w : Nat) : Bool := match zcl[ci]? with
  | some (_, T, N) => Nat.blt n N && ((decide (Cond.fieldLink own ix (T n).1 (T n).2.1 (T n).2.2.1 ∈ zts) || decide (Cond.fieldLinkNest own ix (T n).1 (T n).2.1 (T n).2.2.1 "LockMaster" ∈ znw)) && (decide (w = 1 → (T n).2.2.2 = false ∧ (T n).2.2.1 = "I") && decide (w = 2 → (T n).2.2.2 = false ∧ (T n).2.2.1 = "Z")))
  | none => false
theorem zfok_of {own : String} {ix ci n w : Nat} (h : zfokb own ix ci n w = true) : zfok own ix ci n w := by
  unfold zfokb at h
  split at h
  · rename_i C T N hc
    simp only [Bool.and_eq_true, Bool.or_eq_true] at h
    obtain ⟨h1, h2, h3, h4⟩ := h
    exact ⟨C, T, N, hc, by simpa using h1, h2.imp of_decide_eq_true of_decide_eq_true, of_decide_eq_true h3, of_decide_eq_true h4⟩
  · cases h
def zcs (vl sl : List (Nat × Nat × Nat × Nat × zSp)) : Bool → Nat → Option (Nat × Nat × Nat × zSp) := fun b => match b with
  | true => zlk vl
  | false => zlk sl
theorem zYok_of {own : String} {cc : ByteArray} {nL : Nat} {ret : Option FieldType} {rm : Room} {U : zU} {fl : List (Nat × Nat × Nat × Nat)} {vl sl : List (Nat × Nat × Nat × Nat × zSp)} (hf : fl.all (fun q => zfokb own q.1 q.2.1 q.2.2.1 q.2.2.2) = true)
    (hv : ∀ q ∈ vl, zCal (own, cc, nL, ret, rm, U, zlk fl, zcs vl sl) true q.1 q.2.1 q.2.2.1 q.2.2.2.1 q.2.2.2.2) (hs : ∀ q ∈ sl, zCal (own, cc, nL, ret, rm, U, zlk fl, zcs vl sl) false q.1 q.2.1 q.2.2.1 q.2.2.2.1 q.2.2.2.2) : zYok (own, cc, nL, ret, rm, U, zlk fl, zcs vl sl) := by
  refine ⟨fun ix ci n w h => ?_, fun b ix n mc ms sp h => ?_⟩
  · exact zfok_of (List.all_eq_true.mp hf _ (zlk_mem h))
  · cases b with
    | true => exact hv _ (zlk_mem h)
    | false => exact hs _ (zlk_mem h)
theorem zall {α : Type} {p : α → Prop} {a : α} {l : List α} (h : p a) (t : ∀ q ∈ l, p q) : ∀ q ∈ a :: l, p q := List.forall_mem_cons.mpr ⟨h, t⟩
theorem znil {α : Type} {p : α → Prop} : ∀ q ∈ ([] : List α), p q := fun _ h => nomatch h
theorem zno {Y : zM} {ok : zO} {ex : zX} : ∀ t I, zi0 t = some I → ∀ ls st kc ks F, I ls st kc ks F → zWP Y ok ex t ls st kc ks F := fun _ _ h => nomatch h
theorem zone {Y : zM} {ok : zO} {ex : zX} {h : Nat} {I : zJ} (hI : ∀ ls st kc ks F, I ls st kc ks F → zWP Y ok ex h ls st kc ks F) : ∀ t J, zi1 h I t = some J → ∀ ls st kc ks F, J ls st kc ks F → zWP Y ok ex t ls st kc ks F := by
  intro t J hJ
  unfold zi1 at hJ
  split at hJ
  · rename_i hb
    have := Nat.eq_of_beq_eq_true hb
    subst this
    cases hJ
    exact hI
  · cases hJ
theorem ztwo {Y : zM} {ok : zO} {ex : zX} {h h' : Nat} {I I' : zJ} (hI : ∀ ls st kc ks F, I ls st kc ks F → zWP Y ok ex h ls st kc ks F) (hI' : ∀ ls st kc ks F, I' ls st kc ks F → zWP Y ok ex h' ls st kc ks F) : ∀ t J, zi2 h I h' I' t = some J → ∀ ls st kc ks F, J ls st kc ks F → zWP Y ok ex t ls st kc ks F := by
  intro t J hJ
  unfold zi2 at hJ
  split at hJ
  · rename_i hb
    have := Nat.eq_of_beq_eq_true hb
    subst this
    cases hJ
    exact hI
  · split at hJ
    · rename_i hb
      have := Nat.eq_of_beq_eq_true hb
      subst this
      cases hJ
      exact hI'
    · cases hJ
theorem zleaf (ok : zO) {r r' : Option Value} {F F' : zF} (h : ok r F) (h1 : r = r') (h2 : F = F') : ok r' F' := by rw [← h1, ← h2]; exact h
theorem zleax (ex : zX) {E E' : String} {F F' : zF} (h : ex E F) (h1 : E = E') (h2 : F = F') : ex E' F' := by rw [← h1, ← h2]; exact h
end ZT
end
section
/-! the fields by index, class by class -/
section ZTb
def fX0 : List (Nat × Nat × Nat × Nat) := [(14, 0, 0, 0), (20, 0, 1, 0), (23, 0, 2, 0), (26, 0, 3, 0), (29, 0, 4, 0), (32, 0, 5, 1), (36, 0, 6, 1)]
set_option maxRecDepth 20000 in
theorem fX0_ok : fX0.all (fun q => zfokb RX0 q.1 q.2.1 q.2.2.1 q.2.2.2) = true := by decide +kernel
def fX1 : List (Nat × Nat × Nat × Nat) := [(12, 1, 0, 0), (21, 1, 1, 0), (28, 1, 2, 0), (35, 1, 3, 0), (39, 1, 4, 1), (43, 1, 5, 1), (46, 1, 6, 1), (49, 1, 7, 1), (52, 1, 8, 1), (55, 1, 9, 1), (58, 1, 10, 1), (68, 3, 4, 0), (72, 5, 9, 1), (81, 3, 5, 0), (97, 3, 9, 1), (124, 5, 0, 0), (131, 4, 0, 1), (137, 4, 2, 1), (150, 6, 2, 0), (156, 5, 3, 0), (159, 5, 2, 0), (162, 5, 1, 0), (202, 3, 8, 0), (208, 5, 6, 0), (211, 5, 7, 0)]
set_option maxRecDepth 20000 in
theorem fX1_ok : fX1.all (fun q => zfokb RX1 q.1 q.2.1 q.2.2.1 q.2.2.2) = true := by decide +kernel
def fX2 : List (Nat × Nat × Nat × Nat) := [(11, 2, 0, 0), (17, 2, 1, 1), (21, 2, 2, 1)]
set_option maxRecDepth 20000 in
theorem fX2_ok : fX2.all (fun q => zfokb RX2 q.1 q.2.1 q.2.2.1 q.2.2.2) = true := by decide +kernel
def fX3 : List (Nat × Nat × Nat × Nat) := [(14, 3, 0, 0), (20, 3, 1, 0), (23, 3, 2, 0), (26, 3, 3, 0), (29, 3, 4, 0), (32, 3, 5, 0), (35, 3, 6, 0), (38, 3, 7, 0), (41, 3, 8, 0), (44, 3, 9, 1)]
set_option maxRecDepth 20000 in
theorem fX3_ok : fX3.all (fun q => zfokb RX3 q.1 q.2.1 q.2.2.1 q.2.2.2) = true := by decide +kernel
def fX4 : List (Nat × Nat × Nat × Nat) := [(9, 4, 0, 1), (15, 4, 1, 1), (18, 4, 2, 1), (21, 4, 3, 1), (24, 3, 0, 0), (36, 3, 1, 0), (44, 3, 2, 0), (50, 3, 8, 0)]
set_option maxRecDepth 20000 in
theorem fX4_ok : fX4.all (fun q => zfokb RX4 q.1 q.2.1 q.2.2.1 q.2.2.2) = true := by decide +kernel
def fX5 : List (Nat × Nat × Nat × Nat) := [(14, 5, 0, 0), (20, 5, 1, 0), (23, 5, 2, 0), (26, 5, 3, 0), (29, 5, 4, 0), (32, 5, 5, 0), (35, 5, 6, 0), (38, 5, 7, 0), (41, 5, 8, 1), (45, 5, 9, 1)]
set_option maxRecDepth 20000 in
theorem fX5_ok : fX5.all (fun q => zfokb RX5 q.1 q.2.1 q.2.2.1 q.2.2.2) = true := by decide +kernel
def fX6 : List (Nat × Nat × Nat × Nat) := [(14, 6, 0, 0), (20, 6, 1, 0), (23, 6, 2, 0), (26, 6, 3, 1)]
set_option maxRecDepth 20000 in
theorem fX6_ok : fX6.all (fun q => zfokb RX6 q.1 q.2.1 q.2.2.1 q.2.2.2) = true := by decide +kernel
def fX7 : List (Nat × Nat × Nat × Nat) := [(7, 7, 0, 0)]
set_option maxRecDepth 20000 in
theorem fX7_ok : fX7.all (fun q => zfokb RX7 q.1 q.2.1 q.2.2.1 q.2.2.2) = true := by decide +kernel
def fX8 : List (Nat × Nat × Nat × Nat) := [(10, 8, 0, 0), (16, 8, 1, 0), (19, 8, 2, 0), (25, 8, 3, 0), (32, 8, 4, 0), (36, 8, 5, 2), (40, 8, 6, 1), (44, 8, 7, 1), (55, 1, 0, 0), (59, 6, 3, 1), (64, 1, 2, 0), (68, 3, 9, 1), (78, 1, 1, 0), (103, 6, 0, 0), (112, 6, 1, 0), (115, 6, 2, 0), (127, 5, 9, 1), (128, 5, 0, 0), (131, 5, 1, 0), (134, 5, 3, 0), (137, 5, 2, 0), (140, 5, 4, 0), (143, 5, 5, 0), (152, 5, 6, 0), (155, 5, 7, 0), (169, 0, 5, 1), (179, 0, 6, 1), (182, 0, 1, 0), (185, 0, 2, 0), (188, 0, 3, 0), (191, 0, 4, 0), (197, 3, 7, 0), (215, 3, 0, 0), (218, 3, 1, 0), (221, 3, 2, 0), (224, 3, 3, 0), (230, 3, 4, 0), (240, 3, 6, 0), (255, 1, 7, 1), (276, 1, 8, 1), (279, 1, 9, 1), (282, 5, 8, 1), (285, 1, 10, 1), (295, 2, 2, 1)]
set_option maxRecDepth 20000 in
theorem fX8_ok : fX8.all (fun q => zfokb RX8 q.1 q.2.1 q.2.2.1 q.2.2.2) = true := by decide +kernel
def fX9 : List (Nat × Nat × Nat × Nat) := [(9, 9, 1, 0), (13, 9, 2, 0), (16, 9, 4, 0), (19, 9, 6, 0), (22, 9, 7, 0), (25, 9, 10, 1), (29, 9, 12, 0), (32, 9, 13, 0), (35, 9, 15, 0), (38, 9, 17, 0), (42, 9, 0, 1), (45, 9, 11, 1), (52, 9, 3, 1), (100, 9, 14, 1), (117, 9, 8, 1), (120, 9, 9, 1), (159, 9, 16, 1), (178, 9, 18, 1), (199, 9, 5, 2)]
set_option maxRecDepth 20000 in
theorem fX9_ok : fX9.all (fun q => zfokb RX9 q.1 q.2.1 q.2.2.1 q.2.2.2) = true := by decide +kernel
end ZTb
end
section
/-! the words of each call, by class and index -/
section ZTc
theorem zmem {w : Cond} (i : Nat) (h : lw_tbl[i]? = some w) (hg : goodWord w = true) : w ∈ zts := List.mem_filter.mpr ⟨List.mem_of_getElem? h, hg⟩
set_option maxRecDepth 20000
theorem wX0_39 : ∀ w ∈ [Cond.methodLink RX0 39 yX7_put, Cond.initialized yX7_put.cls, Cond.code yX7_put cX7_put 3 (none), Cond.instanceMethod yX7_put, Cond.selects yX7_put.cls yX7_put yX7_put], w ∈ zts := (zall (zmem 719 (by decide +kernel) (by decide +kernel)) (zall (zmem 62 (by decide +kernel) (by decide +kernel)) (zall (zmem 548 (by decide +kernel) (by decide +kernel)) (zall (zmem 546 (by decide +kernel) (by decide +kernel)) (zall (zmem 547 (by decide +kernel) (by decide +kernel)) znil)))))
theorem wX0_43 : ∀ w ∈ [Cond.methodLink RX0 43 yX7_at, Cond.initialized yX7_at.cls, Cond.code yX7_at cX7_at 2 (some .int), Cond.instanceMethod yX7_at, Cond.selects yX7_at.cls yX7_at yX7_at], w ∈ zts := (zall (zmem 731 (by decide +kernel) (by decide +kernel)) (zall (zmem 62 (by decide +kernel) (by decide +kernel)) (zall (zmem 412 (by decide +kernel) (by decide +kernel)) (zall (zmem 410 (by decide +kernel) (by decide +kernel)) (zall (zmem 411 (by decide +kernel) (by decide +kernel)) znil)))))
theorem wX0_47 : ∀ w ∈ [Cond.methodLink RX0 47 yX0_stateBehind, Cond.initialized yX0_stateBehind.cls, Cond.code yX0_stateBehind cX0_stateBehind 4 (some .int), Cond.instanceMethod yX0_stateBehind, Cond.selects yX0_stateBehind.cls yX0_stateBehind yX0_stateBehind], w ∈ zts := (zall (zmem 732 (by decide +kernel) (by decide +kernel)) (zall (zmem 67 (by decide +kernel) (by decide +kernel)) (zall (zmem 735 (by decide +kernel) (by decide +kernel)) (zall (zmem 734 (by decide +kernel) (by decide +kernel)) (zall (zmem 4 (by decide +kernel) (by decide +kernel)) znil)))))
theorem wX0_51 : ∀ w ∈ [Cond.methodLink RX0 51 yX0_begin, Cond.initialized yX0_begin.cls, Cond.code yX0_begin cX0_begin 2 (some .int), Cond.instanceMethod yX0_begin, Cond.selects yX0_begin.cls yX0_begin yX0_begin], w ∈ zts := (zall (zmem 736 (by decide +kernel) (by decide +kernel)) (zall (zmem 67 (by decide +kernel) (by decide +kernel)) (zall (zmem 739 (by decide +kernel) (by decide +kernel)) (zall (zmem 738 (by decide +kernel) (by decide +kernel)) (zall (zmem 5 (by decide +kernel) (by decide +kernel)) znil)))))
theorem wX0_55 : ∀ w ∈ [Cond.methodLink RX0 55 yX0_take, Cond.initialized yX0_take.cls, Cond.code yX0_take cX0_take 4 (some .int), Cond.instanceMethod yX0_take, Cond.selects yX0_take.cls yX0_take yX0_take], w ∈ zts := (zall (zmem 740 (by decide +kernel) (by decide +kernel)) (zall (zmem 67 (by decide +kernel) (by decide +kernel)) (zall (zmem 743 (by decide +kernel) (by decide +kernel)) (zall (zmem 742 (by decide +kernel) (by decide +kernel)) (zall (zmem 6 (by decide +kernel) (by decide +kernel)) znil)))))
theorem wX0_59 : ∀ w ∈ [Cond.methodLink RX0 59 yX0_stateBehindDraught, Cond.initialized yX0_stateBehindDraught.cls, Cond.code yX0_stateBehindDraught cX0_stateBehindDraught 2 (some .int), Cond.instanceMethod yX0_stateBehindDraught, Cond.selects yX0_stateBehindDraught.cls yX0_stateBehindDraught yX0_stateBehindDraught], w ∈ zts := (zall (zmem 744 (by decide +kernel) (by decide +kernel)) (zall (zmem 67 (by decide +kernel) (by decide +kernel)) (zall (zmem 747 (by decide +kernel) (by decide +kernel)) (zall (zmem 746 (by decide +kernel) (by decide +kernel)) (zall (zmem 7 (by decide +kernel) (by decide +kernel)) znil)))))
theorem wX1_61 : ∀ w ∈ [Cond.methodLink RX1 61 yX6_make, Cond.initialized yX6_make.cls, Cond.code yX6_make cX6_make 3 (some .int), Cond.instanceMethod yX6_make, Cond.selects yX6_make.cls yX6_make yX6_make], w ∈ zts := (zall (zmem 553 (by decide +kernel) (by decide +kernel)) (zall (zmem 61 (by decide +kernel) (by decide +kernel)) (zall (zmem 556 (by decide +kernel) (by decide +kernel)) (zall (zmem 554 (by decide +kernel) (by decide +kernel)) (zall (zmem 555 (by decide +kernel) (by decide +kernel)) znil)))))
theorem wX1_65 : ∀ w ∈ [Cond.methodLink RX1 65 yX3_make, Cond.initialized yX3_make.cls, Cond.code yX3_make cX3_make 6 (some .int), Cond.instanceMethod yX3_make, Cond.selects yX3_make.cls yX3_make yX3_make], w ∈ zts := (zall (zmem 702 (by decide +kernel) (by decide +kernel)) (zall (zmem 64 (by decide +kernel) (by decide +kernel)) (zall (zmem 705 (by decide +kernel) (by decide +kernel)) (zall (zmem 703 (by decide +kernel) (by decide +kernel)) (zall (zmem 704 (by decide +kernel) (by decide +kernel)) znil)))))
theorem wX1_75 : ∀ w ∈ [Cond.methodLink RX1 75 yX7_put, Cond.initialized yX7_put.cls, Cond.code yX7_put cX7_put 3 (none), Cond.instanceMethod yX7_put, Cond.selects yX7_put.cls yX7_put yX7_put], w ∈ zts := (zall (zmem 707 (by decide +kernel) (by decide +kernel)) (zall (zmem 62 (by decide +kernel) (by decide +kernel)) (zall (zmem 548 (by decide +kernel) (by decide +kernel)) (zall (zmem 546 (by decide +kernel) (by decide +kernel)) (zall (zmem 547 (by decide +kernel) (by decide +kernel)) znil)))))
theorem wX1_84 : ∀ w ∈ [Cond.methodLink RX1 84 yX7_at, Cond.initialized yX7_at.cls, Cond.code yX7_at cX7_at 2 (some .int), Cond.instanceMethod yX7_at, Cond.selects yX7_at.cls yX7_at yX7_at], w ∈ zts := (zall (zmem 839 (by decide +kernel) (by decide +kernel)) (zall (zmem 62 (by decide +kernel) (by decide +kernel)) (zall (zmem 412 (by decide +kernel) (by decide +kernel)) (zall (zmem 410 (by decide +kernel) (by decide +kernel)) (zall (zmem 411 (by decide +kernel) (by decide +kernel)) znil)))))
theorem wX1_88 : ∀ w ∈ [Cond.methodLink RX1 88 yX1_waitedBy, Cond.initialized yX1_waitedBy.cls, Cond.code yX1_waitedBy cX1_waitedBy 2 (some .int), Cond.instanceMethod yX1_waitedBy, Cond.selects yX1_waitedBy.cls yX1_waitedBy yX1_waitedBy], w ∈ zts := (zall (zmem 872 (by decide +kernel) (by decide +kernel)) (zall (zmem 60 (by decide +kernel) (by decide +kernel)) (zall (zmem 838 (by decide +kernel) (by decide +kernel)) (zall (zmem 836 (by decide +kernel) (by decide +kernel)) (zall (zmem 837 (by decide +kernel) (by decide +kernel)) znil)))))
theorem wX1_91 : ∀ w ∈ [Cond.methodLink RX1 91 yX3_greatestRank, Cond.initialized yX3_greatestRank.cls, Cond.code yX3_greatestRank cX3_greatestRank 5 (some .int), Cond.instanceMethod yX3_greatestRank, Cond.selects yX3_greatestRank.cls yX3_greatestRank yX3_greatestRank], w ∈ zts := (zall (zmem 873 (by decide +kernel) (by decide +kernel)) (zall (zmem 64 (by decide +kernel) (by decide +kernel)) (zall (zmem 876 (by decide +kernel) (by decide +kernel)) (zall (zmem 874 (by decide +kernel) (by decide +kernel)) (zall (zmem 875 (by decide +kernel) (by decide +kernel)) znil)))))
theorem wX1_94 : ∀ w ∈ [Cond.methodLink RX1 94 yX3_convoysAt, Cond.initialized yX3_convoysAt.cls, Cond.code yX3_convoysAt cX3_convoysAt 4 (some .int), Cond.instanceMethod yX3_convoysAt, Cond.selects yX3_convoysAt.cls yX3_convoysAt yX3_convoysAt], w ∈ zts := (zall (zmem 1025 (by decide +kernel) (by decide +kernel)) (zall (zmem 64 (by decide +kernel) (by decide +kernel)) (zall (zmem 661 (by decide +kernel) (by decide +kernel)) (zall (zmem 659 (by decide +kernel) (by decide +kernel)) (zall (zmem 660 (by decide +kernel) (by decide +kernel)) znil)))))
theorem wX1_98 : ∀ w ∈ [Cond.methodLink RX1 98 yX3_isFirstAt, Cond.initialized yX3_isFirstAt.cls, Cond.code yX3_isFirstAt cX3_isFirstAt 3 (some .boolean), Cond.instanceMethod yX3_isFirstAt, Cond.selects yX3_isFirstAt.cls yX3_isFirstAt yX3_isFirstAt], w ∈ zts := (zall (zmem 859 (by decide +kernel) (by decide +kernel)) (zall (zmem 64 (by decide +kernel) (by decide +kernel)) (zall (zmem 665 (by decide +kernel) (by decide +kernel)) (zall (zmem 663 (by decide +kernel) (by decide +kernel)) (zall (zmem 664 (by decide +kernel) (by decide +kernel)) znil)))))
theorem wX1_102 : ∀ w ∈ [Cond.methodLink RX1 102 yX1_convoysAheadOf, Cond.initialized yX1_convoysAheadOf.cls, Cond.code yX1_convoysAheadOf cX1_convoysAheadOf 5 (some .int), Cond.instanceMethod yX1_convoysAheadOf, Cond.selects yX1_convoysAheadOf.cls yX1_convoysAheadOf yX1_convoysAheadOf], w ∈ zts := (zall (zmem 860 (by decide +kernel) (by decide +kernel)) (zall (zmem 60 (by decide +kernel) (by decide +kernel)) (zall (zmem 863 (by decide +kernel) (by decide +kernel)) (zall (zmem 862 (by decide +kernel) (by decide +kernel)) (zall (zmem 12 (by decide +kernel) (by decide +kernel)) znil)))))
theorem wX1_105 : ∀ w ∈ [Cond.methodLink RX1 105 yX1_comesBefore, Cond.initialized yX1_comesBefore.cls, Cond.code yX1_comesBefore cX1_comesBefore 4 (some .boolean), Cond.instanceMethod yX1_comesBefore, Cond.selects yX1_comesBefore.cls yX1_comesBefore yX1_comesBefore], w ∈ zts := (zall (zmem 864 (by decide +kernel) (by decide +kernel)) (zall (zmem 60 (by decide +kernel) (by decide +kernel)) (zall (zmem 867 (by decide +kernel) (by decide +kernel)) (zall (zmem 866 (by decide +kernel) (by decide +kernel)) (zall (zmem 13 (by decide +kernel) (by decide +kernel)) znil)))))
theorem wX1_108 : ∀ w ∈ [Cond.methodLink RX1 108 yX1_priorityOf, Cond.initialized yX1_priorityOf.cls, Cond.code yX1_priorityOf cX1_priorityOf 3 (some .int), Cond.instanceMethod yX1_priorityOf, Cond.selects yX1_priorityOf.cls yX1_priorityOf yX1_priorityOf], w ∈ zts := (zall (zmem 868 (by decide +kernel) (by decide +kernel)) (zall (zmem 60 (by decide +kernel) (by decide +kernel)) (zall (zmem 871 (by decide +kernel) (by decide +kernel)) (zall (zmem 869 (by decide +kernel) (by decide +kernel)) (zall (zmem 870 (by decide +kernel) (by decide +kernel)) znil)))))
theorem wX1_111 : ∀ w ∈ [Cond.methodLink RX1 111 yX1_hindranceByRules, Cond.initialized yX1_hindranceByRules.cls, Cond.code yX1_hindranceByRules cX1_hindranceByRules 5 (some .int), Cond.instanceMethod yX1_hindranceByRules, Cond.selects yX1_hindranceByRules.cls yX1_hindranceByRules yX1_hindranceByRules], w ∈ zts := (zall (zmem 899 (by decide +kernel) (by decide +kernel)) (zall (zmem 60 (by decide +kernel) (by decide +kernel)) (zall (zmem 902 (by decide +kernel) (by decide +kernel)) (zall (zmem 901 (by decide +kernel) (by decide +kernel)) (zall (zmem 14 (by decide +kernel) (by decide +kernel)) znil)))))
theorem wX1_114 : ∀ w ∈ [Cond.methodLink RX1 114 yX3_goesUp, Cond.initialized yX3_goesUp.cls, Cond.code yX3_goesUp cX3_goesUp 2 (some .boolean), Cond.instanceMethod yX3_goesUp, Cond.selects yX3_goesUp.cls yX3_goesUp yX3_goesUp], w ∈ zts := (zall (zmem 916 (by decide +kernel) (by decide +kernel)) (zall (zmem 64 (by decide +kernel) (by decide +kernel)) (zall (zmem 919 (by decide +kernel) (by decide +kernel)) (zall (zmem 917 (by decide +kernel) (by decide +kernel)) (zall (zmem 918 (by decide +kernel) (by decide +kernel)) znil)))))
theorem wX1_118 : ∀ w ∈ [Cond.methodLink RX1 118 yX1_canFillForUp, Cond.initialized yX1_canFillForUp.cls, Cond.code yX1_canFillForUp cX1_canFillForUp 4 (some .boolean), Cond.instanceMethod yX1_canFillForUp, Cond.selects yX1_canFillForUp.cls yX1_canFillForUp yX1_canFillForUp], w ∈ zts := (zall (zmem 920 (by decide +kernel) (by decide +kernel)) (zall (zmem 60 (by decide +kernel) (by decide +kernel)) (zall (zmem 923 (by decide +kernel) (by decide +kernel)) (zall (zmem 922 (by decide +kernel) (by decide +kernel)) (zall (zmem 15 (by decide +kernel) (by decide +kernel)) znil)))))
theorem wX1_121 : ∀ w ∈ [Cond.methodLink RX1 121 yX1_canBeReadyForDown, Cond.initialized yX1_canBeReadyForDown.cls, Cond.code yX1_canBeReadyForDown cX1_canBeReadyForDown 2 (some .boolean), Cond.instanceMethod yX1_canBeReadyForDown, Cond.selects yX1_canBeReadyForDown.cls yX1_canBeReadyForDown yX1_canBeReadyForDown], w ∈ zts := (zall (zmem 932 (by decide +kernel) (by decide +kernel)) (zall (zmem 60 (by decide +kernel) (by decide +kernel)) (zall (zmem 935 (by decide +kernel) (by decide +kernel)) (zall (zmem 934 (by decide +kernel) (by decide +kernel)) (zall (zmem 16 (by decide +kernel) (by decide +kernel)) znil)))))
theorem wX1_127 : ∀ w ∈ [Cond.methodLink RX1 127 yX4_lookAt, Cond.initialized yX4_lookAt.cls, Cond.code yX4_lookAt cX4_lookAt 5 (none), Cond.instanceMethod yX4_lookAt, Cond.selects yX4_lookAt.cls yX4_lookAt yX4_lookAt], w ∈ zts := (zall (zmem 903 (by decide +kernel) (by decide +kernel)) (zall (zmem 65 (by decide +kernel) (by decide +kernel)) (zall (zmem 906 (by decide +kernel) (by decide +kernel)) (zall (zmem 904 (by decide +kernel) (by decide +kernel)) (zall (zmem 905 (by decide +kernel) (by decide +kernel)) znil)))))
theorem wX1_134 : ∀ w ∈ [Cond.methodLink RX1 134 yX6_levelOf, Cond.initialized yX6_levelOf.cls, Cond.code yX6_levelOf cX6_levelOf 3 (some .int), Cond.instanceMethod yX6_levelOf, Cond.selects yX6_levelOf.cls yX6_levelOf yX6_levelOf], w ∈ zts := (zall (zmem 910 (by decide +kernel) (by decide +kernel)) (zall (zmem 61 (by decide +kernel) (by decide +kernel)) (zall (zmem 623 (by decide +kernel) (by decide +kernel)) (zall (zmem 621 (by decide +kernel) (by decide +kernel)) (zall (zmem 622 (by decide +kernel) (by decide +kernel)) znil)))))
theorem wX1_140 : ∀ w ∈ [Cond.methodLink RX1 140 yX6_drynessOf, Cond.initialized yX6_drynessOf.cls, Cond.code yX6_drynessOf cX6_drynessOf 3 (some .int), Cond.instanceMethod yX6_drynessOf, Cond.selects yX6_drynessOf.cls yX6_drynessOf yX6_drynessOf], w ∈ zts := (zall (zmem 911 (by decide +kernel) (by decide +kernel)) (zall (zmem 61 (by decide +kernel) (by decide +kernel)) (zall (zmem 628 (by decide +kernel) (by decide +kernel)) (zall (zmem 626 (by decide +kernel) (by decide +kernel)) (zall (zmem 627 (by decide +kernel) (by decide +kernel)) znil)))))
theorem wX1_143 : ∀ w ∈ [Cond.methodLink RX1 143 yX4_isHeldBack, Cond.initialized yX4_isHeldBack.cls, Cond.code yX4_isHeldBack cX4_isHeldBack 4 (some .boolean), Cond.instanceMethod yX4_isHeldBack, Cond.selects yX4_isHeldBack.cls yX4_isHeldBack yX4_isHeldBack], w ∈ zts := (zall (zmem 912 (by decide +kernel) (by decide +kernel)) (zall (zmem 65 (by decide +kernel) (by decide +kernel)) (zall (zmem 915 (by decide +kernel) (by decide +kernel)) (zall (zmem 913 (by decide +kernel) (by decide +kernel)) (zall (zmem 914 (by decide +kernel) (by decide +kernel)) znil)))))
theorem wX1_147 : ∀ w ∈ [Cond.methodLink RX1 147 yX5_isFull, Cond.initialized yX5_isFull.cls, Cond.code yX5_isFull cX5_isFull 2 (some .boolean), Cond.instanceMethod yX5_isFull, Cond.selects yX5_isFull.cls yX5_isFull yX5_isFull], w ∈ zts := (zall (zmem 924 (by decide +kernel) (by decide +kernel)) (zall (zmem 63 (by decide +kernel) (by decide +kernel)) (zall (zmem 927 (by decide +kernel) (by decide +kernel)) (zall (zmem 925 (by decide +kernel) (by decide +kernel)) (zall (zmem 926 (by decide +kernel) (by decide +kernel)) znil)))))
theorem wX1_153 : ∀ w ∈ [Cond.methodLink RX1 153 yX5_lackingToFill, Cond.initialized yX5_lackingToFill.cls, Cond.code yX5_lackingToFill cX5_lackingToFill 2 (some .int), Cond.instanceMethod yX5_lackingToFill, Cond.selects yX5_lackingToFill.cls yX5_lackingToFill yX5_lackingToFill], w ∈ zts := (zall (zmem 928 (by decide +kernel) (by decide +kernel)) (zall (zmem 63 (by decide +kernel) (by decide +kernel)) (zall (zmem 931 (by decide +kernel) (by decide +kernel)) (zall (zmem 929 (by decide +kernel) (by decide +kernel)) (zall (zmem 930 (by decide +kernel) (by decide +kernel)) znil)))))
theorem wX1_165 : ∀ w ∈ [Cond.methodLink RX1 165 yX1_takeTurn, Cond.initialized yX1_takeTurn.cls, Cond.code yX1_takeTurn cX1_takeTurn 4 (none), Cond.instanceMethod yX1_takeTurn, Cond.selects yX1_takeTurn.cls yX1_takeTurn yX1_takeTurn], w ∈ zts := (zall (zmem 952 (by decide +kernel) (by decide +kernel)) (zall (zmem 60 (by decide +kernel) (by decide +kernel)) (zall (zmem 955 (by decide +kernel) (by decide +kernel)) (zall (zmem 954 (by decide +kernel) (by decide +kernel)) (zall (zmem 17 (by decide +kernel) (by decide +kernel)) znil)))))
theorem wX1_169 : ∀ w ∈ [Cond.methodLink RX1 169 yX7_add, Cond.initialized yX7_add.cls, Cond.code yX7_add cX7_add 3 (none), Cond.instanceMethod yX7_add, Cond.selects yX7_add.cls yX7_add yX7_add], w ∈ zts := (zall (zmem 972 (by decide +kernel) (by decide +kernel)) (zall (zmem 62 (by decide +kernel) (by decide +kernel)) (zall (zmem 975 (by decide +kernel) (by decide +kernel)) (zall (zmem 973 (by decide +kernel) (by decide +kernel)) (zall (zmem 974 (by decide +kernel) (by decide +kernel)) znil)))))
theorem wX1_172 : ∀ w ∈ [Cond.methodLink RX1 172 yX6_spill, Cond.initialized yX6_spill.cls, Cond.code yX6_spill cX6_spill 3 (some .int), Cond.instanceMethod yX6_spill, Cond.selects yX6_spill.cls yX6_spill yX6_spill], w ∈ zts := (zall (zmem 1001 (by decide +kernel) (by decide +kernel)) (zall (zmem 61 (by decide +kernel) (by decide +kernel)) (zall (zmem 1004 (by decide +kernel) (by decide +kernel)) (zall (zmem 1002 (by decide +kernel) (by decide +kernel)) (zall (zmem 1003 (by decide +kernel) (by decide +kernel)) znil)))))
theorem wX1_176 : ∀ w ∈ [Cond.methodLink RX1 176 yX1_chosenConvoy, Cond.initialized yX1_chosenConvoy.cls, Cond.code yX1_chosenConvoy cX1_chosenConvoy 7 (some .int), Cond.instanceMethod yX1_chosenConvoy, Cond.selects yX1_chosenConvoy.cls yX1_chosenConvoy yX1_chosenConvoy], w ∈ zts := (zall (zmem 956 (by decide +kernel) (by decide +kernel)) (zall (zmem 60 (by decide +kernel) (by decide +kernel)) (zall (zmem 959 (by decide +kernel) (by decide +kernel)) (zall (zmem 958 (by decide +kernel) (by decide +kernel)) (zall (zmem 18 (by decide +kernel) (by decide +kernel)) znil)))))
theorem wX1_180 : ∀ w ∈ [Cond.methodLink RX1 180 yX1_turnChamber, Cond.initialized yX1_turnChamber.cls, Cond.code yX1_turnChamber cX1_turnChamber 2 (none), Cond.instanceMethod yX1_turnChamber, Cond.selects yX1_turnChamber.cls yX1_turnChamber yX1_turnChamber], w ∈ zts := (zall (zmem 964 (by decide +kernel) (by decide +kernel)) (zall (zmem 60 (by decide +kernel) (by decide +kernel)) (zall (zmem 967 (by decide +kernel) (by decide +kernel)) (zall (zmem 966 (by decide +kernel) (by decide +kernel)) (zall (zmem 20 (by decide +kernel) (by decide +kernel)) znil)))))
theorem wX1_183 : ∀ w ∈ [Cond.methodLink RX1 183 yX1_lockRow, Cond.initialized yX1_lockRow.cls, Cond.code yX1_lockRow cX1_lockRow 7 (none), Cond.instanceMethod yX1_lockRow, Cond.selects yX1_lockRow.cls yX1_lockRow yX1_lockRow], w ∈ zts := (zall (zmem 985 (by decide +kernel) (by decide +kernel)) (zall (zmem 60 (by decide +kernel) (by decide +kernel)) (zall (zmem 988 (by decide +kernel) (by decide +kernel)) (zall (zmem 987 (by decide +kernel) (by decide +kernel)) (zall (zmem 21 (by decide +kernel) (by decide +kernel)) znil)))))
theorem wX1_187 : ∀ w ∈ [Cond.methodLink RX1 187 yX1_wasLockedNow, Cond.initialized yX1_wasLockedNow.cls, Cond.code yX1_wasLockedNow cX1_wasLockedNow 2 (some .boolean), Cond.instanceMethod yX1_wasLockedNow, Cond.selects yX1_wasLockedNow.cls yX1_wasLockedNow yX1_wasLockedNow], w ∈ zts := (zall (zmem 960 (by decide +kernel) (by decide +kernel)) (zall (zmem 60 (by decide +kernel) (by decide +kernel)) (zall (zmem 963 (by decide +kernel) (by decide +kernel)) (zall (zmem 962 (by decide +kernel) (by decide +kernel)) (zall (zmem 19 (by decide +kernel) (by decide +kernel)) znil)))))
theorem wX1_190 : ∀ w ∈ [Cond.methodLink RX1 190 yX5_leftBeyondBasins, Cond.initialized yX5_leftBeyondBasins.cls, Cond.code yX5_leftBeyondBasins cX5_leftBeyondBasins 3 (some .int), Cond.instanceMethod yX5_leftBeyondBasins, Cond.selects yX5_leftBeyondBasins.cls yX5_leftBeyondBasins yX5_leftBeyondBasins], w ∈ zts := (zall (zmem 968 (by decide +kernel) (by decide +kernel)) (zall (zmem 63 (by decide +kernel) (by decide +kernel)) (zall (zmem 971 (by decide +kernel) (by decide +kernel)) (zall (zmem 969 (by decide +kernel) (by decide +kernel)) (zall (zmem 970 (by decide +kernel) (by decide +kernel)) znil)))))
theorem wX1_193 : ∀ w ∈ [Cond.methodLink RX1 193 yX5_empty, Cond.initialized yX5_empty.cls, Cond.code yX5_empty cX5_empty 2 (none), Cond.instanceMethod yX5_empty, Cond.selects yX5_empty.cls yX5_empty yX5_empty], w ∈ zts := (zall (zmem 977 (by decide +kernel) (by decide +kernel)) (zall (zmem 63 (by decide +kernel) (by decide +kernel)) (zall (zmem 980 (by decide +kernel) (by decide +kernel)) (zall (zmem 978 (by decide +kernel) (by decide +kernel)) (zall (zmem 979 (by decide +kernel) (by decide +kernel)) znil)))))
theorem wX1_196 : ∀ w ∈ [Cond.methodLink RX1 196 yX5_fill, Cond.initialized yX5_fill.cls, Cond.code yX5_fill cX5_fill 2 (none), Cond.instanceMethod yX5_fill, Cond.selects yX5_fill.cls yX5_fill yX5_fill], w ∈ zts := (zall (zmem 981 (by decide +kernel) (by decide +kernel)) (zall (zmem 63 (by decide +kernel) (by decide +kernel)) (zall (zmem 984 (by decide +kernel) (by decide +kernel)) (zall (zmem 982 (by decide +kernel) (by decide +kernel)) (zall (zmem 983 (by decide +kernel) (by decide +kernel)) znil)))))
theorem wX1_199 : ∀ w ∈ [Cond.methodLink RX1 199 yX3_cutBehind, Cond.initialized yX3_cutBehind.cls, Cond.code yX3_cutBehind cX3_cutBehind 4 (none), Cond.instanceMethod yX3_cutBehind, Cond.selects yX3_cutBehind.cls yX3_cutBehind yX3_cutBehind], w ∈ zts := (zall (zmem 989 (by decide +kernel) (by decide +kernel)) (zall (zmem 64 (by decide +kernel) (by decide +kernel)) (zall (zmem 992 (by decide +kernel) (by decide +kernel)) (zall (zmem 990 (by decide +kernel) (by decide +kernel)) (zall (zmem 991 (by decide +kernel) (by decide +kernel)) znil)))))
theorem wX1_205 : ∀ w ∈ [Cond.methodLink RX1 205 yX1_moveOn, Cond.initialized yX1_moveOn.cls, Cond.code yX1_moveOn cX1_moveOn 3 (none), Cond.instanceMethod yX1_moveOn, Cond.selects yX1_moveOn.cls yX1_moveOn yX1_moveOn], w ∈ zts := (zall (zmem 993 (by decide +kernel) (by decide +kernel)) (zall (zmem 60 (by decide +kernel) (by decide +kernel)) (zall (zmem 996 (by decide +kernel) (by decide +kernel)) (zall (zmem 995 (by decide +kernel) (by decide +kernel)) (zall (zmem 22 (by decide +kernel) (by decide +kernel)) znil)))))
theorem wX1_214 : ∀ w ∈ [Cond.methodLink RX1 214 yX3_leave, Cond.initialized yX3_leave.cls, Cond.code yX3_leave cX3_leave 3 (none), Cond.instanceMethod yX3_leave, Cond.selects yX3_leave.cls yX3_leave yX3_leave], w ∈ zts := (zall (zmem 997 (by decide +kernel) (by decide +kernel)) (zall (zmem 64 (by decide +kernel) (by decide +kernel)) (zall (zmem 1000 (by decide +kernel) (by decide +kernel)) (zall (zmem 998 (by decide +kernel) (by decide +kernel)) (zall (zmem 999 (by decide +kernel) (by decide +kernel)) znil)))))
theorem wX1_217 : ∀ w ∈ [Cond.methodLink RX1 217 yX6_copyFrom, Cond.initialized yX6_copyFrom.cls, Cond.code yX6_copyFrom cX6_copyFrom 2 (none), Cond.instanceMethod yX6_copyFrom, Cond.selects yX6_copyFrom.cls yX6_copyFrom yX6_copyFrom], w ∈ zts := (zall (zmem 401 (by decide +kernel) (by decide +kernel)) (zall (zmem 61 (by decide +kernel) (by decide +kernel)) (zall (zmem 404 (by decide +kernel) (by decide +kernel)) (zall (zmem 402 (by decide +kernel) (by decide +kernel)) (zall (zmem 403 (by decide +kernel) (by decide +kernel)) znil)))))
theorem wX1_221 : ∀ w ∈ [Cond.methodLink RX1 221 yX5_copyFrom, Cond.initialized yX5_copyFrom.cls, Cond.code yX5_copyFrom cX5_copyFrom 2 (none), Cond.instanceMethod yX5_copyFrom, Cond.selects yX5_copyFrom.cls yX5_copyFrom yX5_copyFrom], w ∈ zts := (zall (zmem 413 (by decide +kernel) (by decide +kernel)) (zall (zmem 63 (by decide +kernel) (by decide +kernel)) (zall (zmem 416 (by decide +kernel) (by decide +kernel)) (zall (zmem 414 (by decide +kernel) (by decide +kernel)) (zall (zmem 415 (by decide +kernel) (by decide +kernel)) znil)))))
theorem wX1_224 : ∀ w ∈ [Cond.methodLink RX1 224 yX3_copyFrom, Cond.initialized yX3_copyFrom.cls, Cond.code yX3_copyFrom cX3_copyFrom 2 (none), Cond.instanceMethod yX3_copyFrom, Cond.selects yX3_copyFrom.cls yX3_copyFrom yX3_copyFrom], w ∈ zts := (zall (zmem 418 (by decide +kernel) (by decide +kernel)) (zall (zmem 64 (by decide +kernel) (by decide +kernel)) (zall (zmem 421 (by decide +kernel) (by decide +kernel)) (zall (zmem 419 (by decide +kernel) (by decide +kernel)) (zall (zmem 420 (by decide +kernel) (by decide +kernel)) znil)))))
theorem wX2_25 : ∀ w ∈ [Cond.methodLink RX2 25 yJ9_min_7cf53, Cond.initialized yJ9_min_7cf53.cls, Cond.code yJ9_min_7cf53 cJ9_min_7cf53 2 (some .int), Cond.static yJ9_min_7cf53], w ∈ zts := (zall (zmem 533 (by decide +kernel) (by decide +kernel)) (zall (zmem 74 (by decide +kernel) (by decide +kernel)) (zall (zmem 535 (by decide +kernel) (by decide +kernel)) (zall (zmem 534 (by decide +kernel) (by decide +kernel)) znil))))
theorem wX2_31 : ∀ w ∈ [Cond.methodLink RX2 31 yX2_newestKept, Cond.initialized yX2_newestKept.cls, Cond.code yX2_newestKept cX2_newestKept 1 (some (.object "LockMaster$Canal")), Cond.instanceMethod yX2_newestKept, Cond.selects yX2_newestKept.cls yX2_newestKept yX2_newestKept], w ∈ zts := (zall (zmem 536 (by decide +kernel) (by decide +kernel)) (zall (zmem 66 (by decide +kernel) (by decide +kernel)) (zall (zmem 539 (by decide +kernel) (by decide +kernel)) (zall (zmem 538 (by decide +kernel) (by decide +kernel)) (zall (zmem 1 (by decide +kernel) (by decide +kernel)) znil)))))
theorem wX2_35 : ∀ w ∈ [Cond.methodLink RX2 35 yX1_copyFrom, Cond.initialized yX1_copyFrom.cls, Cond.code yX1_copyFrom cX1_copyFrom 2 (none), Cond.instanceMethod yX1_copyFrom, Cond.selects yX1_copyFrom.cls yX1_copyFrom yX1_copyFrom], w ∈ zts := (zall (zmem 540 (by decide +kernel) (by decide +kernel)) (zall (zmem 60 (by decide +kernel) (by decide +kernel)) (zall (zmem 400 (by decide +kernel) (by decide +kernel)) (zall (zmem 398 (by decide +kernel) (by decide +kernel)) (zall (zmem 399 (by decide +kernel) (by decide +kernel)) znil)))))
theorem wX3_48 : ∀ w ∈ [Cond.methodLink RX3 48 yX7_put, Cond.initialized yX7_put.cls, Cond.code yX7_put cX7_put 3 (none), Cond.instanceMethod yX7_put, Cond.selects yX7_put.cls yX7_put yX7_put], w ∈ zts := (zall (zmem 706 (by decide +kernel) (by decide +kernel)) (zall (zmem 62 (by decide +kernel) (by decide +kernel)) (zall (zmem 548 (by decide +kernel) (by decide +kernel)) (zall (zmem 546 (by decide +kernel) (by decide +kernel)) (zall (zmem 547 (by decide +kernel) (by decide +kernel)) znil)))))
theorem wX3_52 : ∀ w ∈ [Cond.methodLink RX3 52 yX7_at, Cond.initialized yX7_at.cls, Cond.code yX7_at cX7_at 2 (some .int), Cond.instanceMethod yX7_at, Cond.selects yX7_at.cls yX7_at yX7_at], w ∈ zts := (zall (zmem 641 (by decide +kernel) (by decide +kernel)) (zall (zmem 62 (by decide +kernel) (by decide +kernel)) (zall (zmem 412 (by decide +kernel) (by decide +kernel)) (zall (zmem 410 (by decide +kernel) (by decide +kernel)) (zall (zmem 411 (by decide +kernel) (by decide +kernel)) znil)))))
theorem wX3_56 : ∀ w ∈ [Cond.methodLink RX3 56 yX3_hasLeft, Cond.initialized yX3_hasLeft.cls, Cond.code yX3_hasLeft cX3_hasLeft 2 (some .boolean), Cond.instanceMethod yX3_hasLeft, Cond.selects yX3_hasLeft.cls yX3_hasLeft yX3_hasLeft], w ∈ zts := (zall (zmem 637 (by decide +kernel) (by decide +kernel)) (zall (zmem 64 (by decide +kernel) (by decide +kernel)) (zall (zmem 640 (by decide +kernel) (by decide +kernel)) (zall (zmem 638 (by decide +kernel) (by decide +kernel)) (zall (zmem 639 (by decide +kernel) (by decide +kernel)) znil)))))
theorem wX3_60 : ∀ w ∈ [Cond.methodLink RX3 60 yX3_isFirstAt, Cond.initialized yX3_isFirstAt.cls, Cond.code yX3_isFirstAt cX3_isFirstAt 3 (some .boolean), Cond.instanceMethod yX3_isFirstAt, Cond.selects yX3_isFirstAt.cls yX3_isFirstAt yX3_isFirstAt], w ∈ zts := (zall (zmem 662 (by decide +kernel) (by decide +kernel)) (zall (zmem 64 (by decide +kernel) (by decide +kernel)) (zall (zmem 665 (by decide +kernel) (by decide +kernel)) (zall (zmem 663 (by decide +kernel) (by decide +kernel)) (zall (zmem 664 (by decide +kernel) (by decide +kernel)) znil)))))
theorem wX3_64 : ∀ w ∈ [Cond.methodLink RX3 64 yX3_reachOf, Cond.initialized yX3_reachOf.cls, Cond.code yX3_reachOf cX3_reachOf 2 (some .int), Cond.instanceMethod yX3_reachOf, Cond.selects yX3_reachOf.cls yX3_reachOf yX3_reachOf], w ∈ zts := (zall (zmem 633 (by decide +kernel) (by decide +kernel)) (zall (zmem 64 (by decide +kernel) (by decide +kernel)) (zall (zmem 636 (by decide +kernel) (by decide +kernel)) (zall (zmem 634 (by decide +kernel) (by decide +kernel)) (zall (zmem 635 (by decide +kernel) (by decide +kernel)) znil)))))
theorem wX3_67 : ∀ w ∈ [Cond.methodLink RX3 67 yX3_shipsInReach, Cond.initialized yX3_shipsInReach.cls, Cond.code yX3_shipsInReach cX3_shipsInReach 4 (some .int), Cond.instanceMethod yX3_shipsInReach, Cond.selects yX3_shipsInReach.cls yX3_shipsInReach yX3_shipsInReach], w ∈ zts := (zall (zmem 947 (by decide +kernel) (by decide +kernel)) (zall (zmem 64 (by decide +kernel) (by decide +kernel)) (zall (zmem 632 (by decide +kernel) (by decide +kernel)) (zall (zmem 630 (by decide +kernel) (by decide +kernel)) (zall (zmem 631 (by decide +kernel) (by decide +kernel)) znil)))))
theorem wX3_70 : ∀ w ∈ [Cond.methodLink RX3 70 yJ9_max_7cf53, Cond.initialized yJ9_max_7cf53.cls, Cond.code yJ9_max_7cf53 cJ9_max_7cf53 2 (some .int), Cond.static yJ9_max_7cf53], w ∈ zts := (zall (zmem 877 (by decide +kernel) (by decide +kernel)) (zall (zmem 74 (by decide +kernel) (by decide +kernel)) (zall (zmem 879 (by decide +kernel) (by decide +kernel)) (zall (zmem 878 (by decide +kernel) (by decide +kernel)) znil))))
theorem wX3_76 : ∀ w ∈ [Cond.methodLink RX3 76 yX3_shipsInConvoy, Cond.initialized yX3_shipsInConvoy.cls, Cond.code yX3_shipsInConvoy cX3_shipsInConvoy 4 (some .int), Cond.instanceMethod yX3_shipsInConvoy, Cond.selects yX3_shipsInConvoy.cls yX3_shipsInConvoy yX3_shipsInConvoy], w ∈ zts := (zall (zmem 768 (by decide +kernel) (by decide +kernel)) (zall (zmem 64 (by decide +kernel) (by decide +kernel)) (zall (zmem 771 (by decide +kernel) (by decide +kernel)) (zall (zmem 769 (by decide +kernel) (by decide +kernel)) (zall (zmem 770 (by decide +kernel) (by decide +kernel)) znil)))))
theorem wX3_79 : ∀ w ∈ [Cond.methodLink RX3 79 yX3_shipOfConvoy, Cond.initialized yX3_shipOfConvoy.cls, Cond.code yX3_shipOfConvoy cX3_shipOfConvoy 5 (some .int), Cond.instanceMethod yX3_shipOfConvoy, Cond.selects yX3_shipOfConvoy.cls yX3_shipOfConvoy yX3_shipOfConvoy], w ∈ zts := (zall (zmem 772 (by decide +kernel) (by decide +kernel)) (zall (zmem 64 (by decide +kernel) (by decide +kernel)) (zall (zmem 775 (by decide +kernel) (by decide +kernel)) (zall (zmem 773 (by decide +kernel) (by decide +kernel)) (zall (zmem 774 (by decide +kernel) (by decide +kernel)) znil)))))
theorem wX3_82 : ∀ w ∈ [Cond.methodLink RX3 82 yX3_nameFirst, Cond.initialized yX3_nameFirst.cls, Cond.code yX3_nameFirst cX3_nameFirst 5 (none), Cond.instanceMethod yX3_nameFirst, Cond.selects yX3_nameFirst.cls yX3_nameFirst yX3_nameFirst], w ∈ zts := (zall (zmem 776 (by decide +kernel) (by decide +kernel)) (zall (zmem 64 (by decide +kernel) (by decide +kernel)) (zall (zmem 779 (by decide +kernel) (by decide +kernel)) (zall (zmem 778 (by decide +kernel) (by decide +kernel)) (zall (zmem 9 (by decide +kernel) (by decide +kernel)) znil)))))
theorem wX3_85 : ∀ w ∈ [Cond.methodLink RX3 85 yX3_shipAheadOf, Cond.initialized yX3_shipAheadOf.cls, Cond.code yX3_shipAheadOf cX3_shipAheadOf 3 (some .int), Cond.instanceMethod yX3_shipAheadOf, Cond.selects yX3_shipAheadOf.cls yX3_shipAheadOf yX3_shipAheadOf], w ∈ zts := (zall (zmem 796 (by decide +kernel) (by decide +kernel)) (zall (zmem 64 (by decide +kernel) (by decide +kernel)) (zall (zmem 799 (by decide +kernel) (by decide +kernel)) (zall (zmem 798 (by decide +kernel) (by decide +kernel)) (zall (zmem 11 (by decide +kernel) (by decide +kernel)) znil)))))
theorem wX3_88 : ∀ w ∈ [Cond.methodLink RX3 88 yX7_copyFrom, Cond.initialized yX7_copyFrom.cls, Cond.code yX7_copyFrom cX7_copyFrom 3 (none), Cond.instanceMethod yX7_copyFrom, Cond.selects yX7_copyFrom.cls yX7_copyFrom yX7_copyFrom], w ∈ zts := (zall (zmem 422 (by decide +kernel) (by decide +kernel)) (zall (zmem 62 (by decide +kernel) (by decide +kernel)) (zall (zmem 408 (by decide +kernel) (by decide +kernel)) (zall (zmem 406 (by decide +kernel) (by decide +kernel)) (zall (zmem 407 (by decide +kernel) (by decide +kernel)) znil)))))
theorem wX4_30 : ∀ w ∈ [Cond.methodLink RX4 30 yX7_at, Cond.initialized yX7_at.cls, Cond.code yX7_at cX7_at 2 (some .int), Cond.instanceMethod yX7_at, Cond.selects yX7_at.cls yX7_at yX7_at], w ∈ zts := (zall (zmem 907 (by decide +kernel) (by decide +kernel)) (zall (zmem 62 (by decide +kernel) (by decide +kernel)) (zall (zmem 412 (by decide +kernel) (by decide +kernel)) (zall (zmem 410 (by decide +kernel) (by decide +kernel)) (zall (zmem 411 (by decide +kernel) (by decide +kernel)) znil)))))
theorem wX4_38 : ∀ w ∈ [Cond.methodLink RX4 38 yJ9_max_7cf53, Cond.initialized yJ9_max_7cf53.cls, Cond.code yJ9_max_7cf53 cJ9_max_7cf53 2 (some .int), Cond.static yJ9_max_7cf53], w ∈ zts := (zall (zmem 908 (by decide +kernel) (by decide +kernel)) (zall (zmem 74 (by decide +kernel) (by decide +kernel)) (zall (zmem 879 (by decide +kernel) (by decide +kernel)) (zall (zmem 878 (by decide +kernel) (by decide +kernel)) znil))))
theorem wX4_47 : ∀ w ∈ [Cond.methodLink RX4 47 yJ9_min_7cf53, Cond.initialized yJ9_min_7cf53.cls, Cond.code yJ9_min_7cf53 cJ9_min_7cf53 2 (some .int), Cond.static yJ9_min_7cf53], w ∈ zts := (zall (zmem 909 (by decide +kernel) (by decide +kernel)) (zall (zmem 74 (by decide +kernel) (by decide +kernel)) (zall (zmem 535 (by decide +kernel) (by decide +kernel)) (zall (zmem 534 (by decide +kernel) (by decide +kernel)) znil))))
theorem wX5_48 : ∀ w ∈ [Cond.methodLink RX5 48 yX7_put, Cond.initialized yX7_put.cls, Cond.code yX7_put cX7_put 3 (none), Cond.instanceMethod yX7_put, Cond.selects yX7_put.cls yX7_put yX7_put], w ∈ zts := (zall (zmem 545 (by decide +kernel) (by decide +kernel)) (zall (zmem 62 (by decide +kernel) (by decide +kernel)) (zall (zmem 548 (by decide +kernel) (by decide +kernel)) (zall (zmem 546 (by decide +kernel) (by decide +kernel)) (zall (zmem 547 (by decide +kernel) (by decide +kernel)) znil)))))
theorem wX5_52 : ∀ w ∈ [Cond.methodLink RX5 52 yX7_at, Cond.initialized yX7_at.cls, Cond.code yX7_at cX7_at 2 (some .int), Cond.instanceMethod yX7_at, Cond.selects yX7_at.cls yX7_at yX7_at], w ∈ zts := (zall (zmem 653 (by decide +kernel) (by decide +kernel)) (zall (zmem 62 (by decide +kernel) (by decide +kernel)) (zall (zmem 412 (by decide +kernel) (by decide +kernel)) (zall (zmem 410 (by decide +kernel) (by decide +kernel)) (zall (zmem 411 (by decide +kernel) (by decide +kernel)) znil)))))
theorem wX5_56 : ∀ w ∈ [Cond.methodLink RX5 56 yX5_inBasins, Cond.initialized yX5_inBasins.cls, Cond.code yX5_inBasins cX5_inBasins 2 (some .int), Cond.instanceMethod yX5_inBasins, Cond.selects yX5_inBasins.cls yX5_inBasins yX5_inBasins], w ∈ zts := (zall (zmem 654 (by decide +kernel) (by decide +kernel)) (zall (zmem 63 (by decide +kernel) (by decide +kernel)) (zall (zmem 657 (by decide +kernel) (by decide +kernel)) (zall (zmem 655 (by decide +kernel) (by decide +kernel)) (zall (zmem 656 (by decide +kernel) (by decide +kernel)) znil)))))
theorem wX5_59 : ∀ w ∈ [Cond.methodLink RX5 59 yX5_waterIn, Cond.initialized yX5_waterIn.cls, Cond.code yX5_waterIn cX5_waterIn 2 (some .int), Cond.instanceMethod yX5_waterIn, Cond.selects yX5_waterIn.cls yX5_waterIn yX5_waterIn], w ∈ zts := (zall (zmem 1034 (by decide +kernel) (by decide +kernel)) (zall (zmem 63 (by decide +kernel) (by decide +kernel)) (zall (zmem 652 (by decide +kernel) (by decide +kernel)) (zall (zmem 650 (by decide +kernel) (by decide +kernel)) (zall (zmem 651 (by decide +kernel) (by decide +kernel)) znil)))))
theorem wX5_62 : ∀ w ∈ [Cond.methodLink RX5 62 yX7_copyFrom, Cond.initialized yX7_copyFrom.cls, Cond.code yX7_copyFrom cX7_copyFrom 3 (none), Cond.instanceMethod yX7_copyFrom, Cond.selects yX7_copyFrom.cls yX7_copyFrom yX7_copyFrom], w ∈ zts := (zall (zmem 417 (by decide +kernel) (by decide +kernel)) (zall (zmem 62 (by decide +kernel) (by decide +kernel)) (zall (zmem 408 (by decide +kernel) (by decide +kernel)) (zall (zmem 406 (by decide +kernel) (by decide +kernel)) (zall (zmem 407 (by decide +kernel) (by decide +kernel)) znil)))))
theorem wX6_30 : ∀ w ∈ [Cond.methodLink RX6 30 yX7_put, Cond.initialized yX7_put.cls, Cond.code yX7_put cX7_put 3 (none), Cond.instanceMethod yX7_put, Cond.selects yX7_put.cls yX7_put yX7_put], w ∈ zts := (zall (zmem 557 (by decide +kernel) (by decide +kernel)) (zall (zmem 62 (by decide +kernel) (by decide +kernel)) (zall (zmem 548 (by decide +kernel) (by decide +kernel)) (zall (zmem 546 (by decide +kernel) (by decide +kernel)) (zall (zmem 547 (by decide +kernel) (by decide +kernel)) znil)))))
theorem wX6_34 : ∀ w ∈ [Cond.methodLink RX6 34 yX7_at, Cond.initialized yX7_at.cls, Cond.code yX7_at cX7_at 2 (some .int), Cond.instanceMethod yX7_at, Cond.selects yX7_at.cls yX7_at yX7_at], w ∈ zts := (zall (zmem 624 (by decide +kernel) (by decide +kernel)) (zall (zmem 62 (by decide +kernel) (by decide +kernel)) (zall (zmem 412 (by decide +kernel) (by decide +kernel)) (zall (zmem 410 (by decide +kernel) (by decide +kernel)) (zall (zmem 411 (by decide +kernel) (by decide +kernel)) znil)))))
theorem wX6_38 : ∀ w ∈ [Cond.methodLink RX6 38 yX7_add, Cond.initialized yX7_add.cls, Cond.code yX7_add cX7_add 3 (none), Cond.instanceMethod yX7_add, Cond.selects yX7_add.cls yX7_add yX7_add], w ∈ zts := (zall (zmem 1005 (by decide +kernel) (by decide +kernel)) (zall (zmem 62 (by decide +kernel) (by decide +kernel)) (zall (zmem 975 (by decide +kernel) (by decide +kernel)) (zall (zmem 973 (by decide +kernel) (by decide +kernel)) (zall (zmem 974 (by decide +kernel) (by decide +kernel)) znil)))))
theorem wX6_41 : ∀ w ∈ [Cond.methodLink RX6 41 yX6_levelOf, Cond.initialized yX6_levelOf.cls, Cond.code yX6_levelOf cX6_levelOf 3 (some .int), Cond.instanceMethod yX6_levelOf, Cond.selects yX6_levelOf.cls yX6_levelOf yX6_levelOf], w ∈ zts := (zall (zmem 1006 (by decide +kernel) (by decide +kernel)) (zall (zmem 61 (by decide +kernel) (by decide +kernel)) (zall (zmem 623 (by decide +kernel) (by decide +kernel)) (zall (zmem 621 (by decide +kernel) (by decide +kernel)) (zall (zmem 622 (by decide +kernel) (by decide +kernel)) znil)))))
theorem wX6_44 : ∀ w ∈ [Cond.methodLink RX6 44 yX7_copyFrom, Cond.initialized yX7_copyFrom.cls, Cond.code yX7_copyFrom cX7_copyFrom 3 (none), Cond.instanceMethod yX7_copyFrom, Cond.selects yX7_copyFrom.cls yX7_copyFrom yX7_copyFrom], w ∈ zts := (zall (zmem 405 (by decide +kernel) (by decide +kernel)) (zall (zmem 62 (by decide +kernel) (by decide +kernel)) (zall (zmem 408 (by decide +kernel) (by decide +kernel)) (zall (zmem 406 (by decide +kernel) (by decide +kernel)) (zall (zmem 407 (by decide +kernel) (by decide +kernel)) znil)))))
theorem wX7_13 : ∀ w ∈ [Cond.methodLink RX7 13 yX7_at, Cond.initialized yX7_at.cls, Cond.code yX7_at cX7_at 2 (some .int), Cond.instanceMethod yX7_at, Cond.selects yX7_at.cls yX7_at yX7_at], w ∈ zts := (zall (zmem 409 (by decide +kernel) (by decide +kernel)) (zall (zmem 62 (by decide +kernel) (by decide +kernel)) (zall (zmem 412 (by decide +kernel) (by decide +kernel)) (zall (zmem 410 (by decide +kernel) (by decide +kernel)) (zall (zmem 411 (by decide +kernel) (by decide +kernel)) znil)))))
theorem wX7_17 : ∀ w ∈ [Cond.methodLink RX7 17 yX7_put, Cond.initialized yX7_put.cls, Cond.code yX7_put cX7_put 3 (none), Cond.instanceMethod yX7_put, Cond.selects yX7_put.cls yX7_put yX7_put], w ∈ zts := (zall (zmem 976 (by decide +kernel) (by decide +kernel)) (zall (zmem 62 (by decide +kernel) (by decide +kernel)) (zall (zmem 548 (by decide +kernel) (by decide +kernel)) (zall (zmem 546 (by decide +kernel) (by decide +kernel)) (zall (zmem 547 (by decide +kernel) (by decide +kernel)) znil)))))
theorem wX8_47 : ∀ w ∈ [Cond.methodLink RX8 47 yX8_isWithin, Cond.initialized yX8_isWithin.cls, Cond.code yX8_isWithin cX8_isWithin 3 (some .boolean), Cond.static yX8_isWithin], w ∈ zts := (zall (zmem 432 (by decide +kernel) (by decide +kernel)) (zall (zmem 59 (by decide +kernel) (by decide +kernel)) (zall (zmem 434 (by decide +kernel) (by decide +kernel)) (zall (zmem 433 (by decide +kernel) (by decide +kernel)) znil))))
theorem wX8_51 : ∀ w ∈ [Cond.methodLink RX8 51 yX8_requireArgument, Cond.initialized yX8_requireArgument.cls, Cond.code yX8_requireArgument cX8_requireArgument 1 (none), Cond.static yX8_requireArgument], w ∈ zts := (zall (zmem 435 (by decide +kernel) (by decide +kernel)) (zall (zmem 59 (by decide +kernel) (by decide +kernel)) (zall (zmem 437 (by decide +kernel) (by decide +kernel)) (zall (zmem 436 (by decide +kernel) (by decide +kernel)) znil))))
theorem wX8_71 : ∀ w ∈ [Cond.methodLink RX8 71 yX8_requireState, Cond.initialized yX8_requireState.cls, Cond.code yX8_requireState cX8_requireState 1 (none), Cond.static yX8_requireState], w ∈ zts := (zall (zmem 510 (by decide +kernel) (by decide +kernel)) (zall (zmem 59 (by decide +kernel) (by decide +kernel)) (zall (zmem 512 (by decide +kernel) (by decide +kernel)) (zall (zmem 511 (by decide +kernel) (by decide +kernel)) znil))))
theorem wX8_74 : ∀ w ∈ [Cond.methodLink RX8 74 yX2_keep, Cond.initialized yX2_keep.cls, Cond.code yX2_keep cX2_keep 3 (none), Cond.instanceMethod yX2_keep, Cond.selects yX2_keep.cls yX2_keep yX2_keep], w ∈ zts := (zall (zmem 529 (by decide +kernel) (by decide +kernel)) (zall (zmem 66 (by decide +kernel) (by decide +kernel)) (zall (zmem 532 (by decide +kernel) (by decide +kernel)) (zall (zmem 530 (by decide +kernel) (by decide +kernel)) (zall (zmem 531 (by decide +kernel) (by decide +kernel)) znil)))))
theorem wX8_82 : ∀ w ∈ [Cond.methodLink RX8 82 yX5_make, Cond.initialized yX5_make.cls, Cond.code yX5_make cX5_make 4 (none), Cond.instanceMethod yX5_make, Cond.selects yX5_make.cls yX5_make yX5_make], w ∈ zts := (zall (zmem 541 (by decide +kernel) (by decide +kernel)) (zall (zmem 63 (by decide +kernel) (by decide +kernel)) (zall (zmem 544 (by decide +kernel) (by decide +kernel)) (zall (zmem 542 (by decide +kernel) (by decide +kernel)) (zall (zmem 543 (by decide +kernel) (by decide +kernel)) znil)))))
theorem wX8_88 : ∀ w ∈ [Cond.methodLink RX8 88 yX1_makeReach, Cond.initialized yX1_makeReach.cls, Cond.code yX1_makeReach cX1_makeReach 3 (some .int), Cond.instanceMethod yX1_makeReach, Cond.selects yX1_makeReach.cls yX1_makeReach yX1_makeReach], w ∈ zts := (zall (zmem 549 (by decide +kernel) (by decide +kernel)) (zall (zmem 60 (by decide +kernel) (by decide +kernel)) (zall (zmem 552 (by decide +kernel) (by decide +kernel)) (zall (zmem 550 (by decide +kernel) (by decide +kernel)) (zall (zmem 551 (by decide +kernel) (by decide +kernel)) znil)))))
theorem wX8_92 : ∀ w ∈ [Cond.methodLink RX8 92 yX8_requireIndex, Cond.initialized yX8_requireIndex.cls, Cond.code yX8_requireIndex cX8_requireIndex 2 (none), Cond.static yX8_requireIndex], w ∈ zts := (zall (zmem 589 (by decide +kernel) (by decide +kernel)) (zall (zmem 59 (by decide +kernel) (by decide +kernel)) (zall (zmem 591 (by decide +kernel) (by decide +kernel)) (zall (zmem 590 (by decide +kernel) (by decide +kernel)) znil))))
theorem wX8_96 : ∀ w ∈ [Cond.methodLink RX8 96 yX8_mostOfSetting, Cond.initialized yX8_mostOfSetting.cls, Cond.code yX8_mostOfSetting cX8_mostOfSetting 1 (some .int), Cond.static yX8_mostOfSetting], w ∈ zts := (zall (zmem 605 (by decide +kernel) (by decide +kernel)) (zall (zmem 59 (by decide +kernel) (by decide +kernel)) (zall (zmem 607 (by decide +kernel) (by decide +kernel)) (zall (zmem 606 (by decide +kernel) (by decide +kernel)) znil))))
theorem wX8_100 : ∀ w ∈ [Cond.methodLink RX8 100 yX1_change, Cond.initialized yX1_change.cls, Cond.code yX1_change cX1_change 4 (some .int), Cond.instanceMethod yX1_change, Cond.selects yX1_change.cls yX1_change yX1_change], w ∈ zts := (zall (zmem 608 (by decide +kernel) (by decide +kernel)) (zall (zmem 60 (by decide +kernel) (by decide +kernel)) (zall (zmem 611 (by decide +kernel) (by decide +kernel)) (zall (zmem 609 (by decide +kernel) (by decide +kernel)) (zall (zmem 610 (by decide +kernel) (by decide +kernel)) znil)))))
theorem wX8_107 : ∀ w ∈ [Cond.methodLink RX8 107 yX7_at, Cond.initialized yX7_at.cls, Cond.code yX7_at cX7_at 2 (some .int), Cond.instanceMethod yX7_at, Cond.selects yX7_at.cls yX7_at yX7_at], w ∈ zts := (zall (zmem 619 (by decide +kernel) (by decide +kernel)) (zall (zmem 62 (by decide +kernel) (by decide +kernel)) (zall (zmem 412 (by decide +kernel) (by decide +kernel)) (zall (zmem 410 (by decide +kernel) (by decide +kernel)) (zall (zmem 411 (by decide +kernel) (by decide +kernel)) znil)))))
theorem wX8_118 : ∀ w ∈ [Cond.methodLink RX8 118 yX6_levelOf, Cond.initialized yX6_levelOf.cls, Cond.code yX6_levelOf cX6_levelOf 3 (some .int), Cond.instanceMethod yX6_levelOf, Cond.selects yX6_levelOf.cls yX6_levelOf yX6_levelOf], w ∈ zts := (zall (zmem 620 (by decide +kernel) (by decide +kernel)) (zall (zmem 61 (by decide +kernel) (by decide +kernel)) (zall (zmem 623 (by decide +kernel) (by decide +kernel)) (zall (zmem 621 (by decide +kernel) (by decide +kernel)) (zall (zmem 622 (by decide +kernel) (by decide +kernel)) znil)))))
theorem wX8_121 : ∀ w ∈ [Cond.methodLink RX8 121 yX6_drynessOf, Cond.initialized yX6_drynessOf.cls, Cond.code yX6_drynessOf cX6_drynessOf 3 (some .int), Cond.instanceMethod yX6_drynessOf, Cond.selects yX6_drynessOf.cls yX6_drynessOf yX6_drynessOf], w ∈ zts := (zall (zmem 625 (by decide +kernel) (by decide +kernel)) (zall (zmem 61 (by decide +kernel) (by decide +kernel)) (zall (zmem 628 (by decide +kernel) (by decide +kernel)) (zall (zmem 626 (by decide +kernel) (by decide +kernel)) (zall (zmem 627 (by decide +kernel) (by decide +kernel)) znil)))))
theorem wX8_124 : ∀ w ∈ [Cond.methodLink RX8 124 yX3_shipsInReach, Cond.initialized yX3_shipsInReach.cls, Cond.code yX3_shipsInReach cX3_shipsInReach 4 (some .int), Cond.instanceMethod yX3_shipsInReach, Cond.selects yX3_shipsInReach.cls yX3_shipsInReach yX3_shipsInReach], w ∈ zts := (zall (zmem 629 (by decide +kernel) (by decide +kernel)) (zall (zmem 64 (by decide +kernel) (by decide +kernel)) (zall (zmem 632 (by decide +kernel) (by decide +kernel)) (zall (zmem 630 (by decide +kernel) (by decide +kernel)) (zall (zmem 631 (by decide +kernel) (by decide +kernel)) znil)))))
theorem wX8_146 : ∀ w ∈ [Cond.methodLink RX8 146 yX5_waterIn, Cond.initialized yX5_waterIn.cls, Cond.code yX5_waterIn cX5_waterIn 2 (some .int), Cond.instanceMethod yX5_waterIn, Cond.selects yX5_waterIn.cls yX5_waterIn yX5_waterIn], w ∈ zts := (zall (zmem 649 (by decide +kernel) (by decide +kernel)) (zall (zmem 63 (by decide +kernel) (by decide +kernel)) (zall (zmem 652 (by decide +kernel) (by decide +kernel)) (zall (zmem 650 (by decide +kernel) (by decide +kernel)) (zall (zmem 651 (by decide +kernel) (by decide +kernel)) znil)))))
theorem wX8_149 : ∀ w ∈ [Cond.methodLink RX8 149 yX3_convoysAt, Cond.initialized yX3_convoysAt.cls, Cond.code yX3_convoysAt cX3_convoysAt 4 (some .int), Cond.instanceMethod yX3_convoysAt, Cond.selects yX3_convoysAt.cls yX3_convoysAt yX3_convoysAt], w ∈ zts := (zall (zmem 658 (by decide +kernel) (by decide +kernel)) (zall (zmem 64 (by decide +kernel) (by decide +kernel)) (zall (zmem 661 (by decide +kernel) (by decide +kernel)) (zall (zmem 659 (by decide +kernel) (by decide +kernel)) (zall (zmem 660 (by decide +kernel) (by decide +kernel)) znil)))))
theorem wX8_158 : ∀ w ∈ [Cond.methodLink RX8 158 yX8_refusalOfShips, Cond.initialized yX8_refusalOfShips.cls, Cond.code yX8_refusalOfShips cX8_refusalOfShips 2 (some .int), Cond.instanceMethod yX8_refusalOfShips, Cond.selects yX8_refusalOfShips.cls yX8_refusalOfShips yX8_refusalOfShips], w ∈ zts := (zall (zmem 674 (by decide +kernel) (by decide +kernel)) (zall (zmem 59 (by decide +kernel) (by decide +kernel)) (zall (zmem 677 (by decide +kernel) (by decide +kernel)) (zall (zmem 676 (by decide +kernel) (by decide +kernel)) (zall (zmem 2 (by decide +kernel) (by decide +kernel)) znil)))))
theorem wX8_161 : ∀ w ∈ [Cond.methodLink RX8 161 yX8_refuseFor, Cond.initialized yX8_refuseFor.cls, Cond.code yX8_refuseFor cX8_refuseFor 2 (none), Cond.instanceMethod yX8_refuseFor, Cond.selects yX8_refuseFor.cls yX8_refuseFor yX8_refuseFor], w ∈ zts := (zall (zmem 678 (by decide +kernel) (by decide +kernel)) (zall (zmem 59 (by decide +kernel) (by decide +kernel)) (zall (zmem 681 (by decide +kernel) (by decide +kernel)) (zall (zmem 680 (by decide +kernel) (by decide +kernel)) (zall (zmem 3 (by decide +kernel) (by decide +kernel)) znil)))))
theorem wX8_165 : ∀ w ∈ [Cond.methodLink RX8 165 yX1_makeShip, Cond.initialized yX1_makeShip.cls, Cond.code yX1_makeShip cX1_makeShip 6 (some .int), Cond.instanceMethod yX1_makeShip, Cond.selects yX1_makeShip.cls yX1_makeShip yX1_makeShip], w ∈ zts := (zall (zmem 698 (by decide +kernel) (by decide +kernel)) (zall (zmem 60 (by decide +kernel) (by decide +kernel)) (zall (zmem 701 (by decide +kernel) (by decide +kernel)) (zall (zmem 699 (by decide +kernel) (by decide +kernel)) (zall (zmem 700 (by decide +kernel) (by decide +kernel)) znil)))))
theorem wX8_171 : ∀ w ∈ [Cond.methodLink RX8 171 yX0_put, Cond.initialized yX0_put.cls, Cond.code yX0_put cX0_put 2 (none), Cond.instanceMethod yX0_put, Cond.selects yX0_put.cls yX0_put yX0_put], w ∈ zts := (zall (zmem 715 (by decide +kernel) (by decide +kernel)) (zall (zmem 67 (by decide +kernel) (by decide +kernel)) (zall (zmem 718 (by decide +kernel) (by decide +kernel)) (zall (zmem 716 (by decide +kernel) (by decide +kernel)) (zall (zmem 717 (by decide +kernel) (by decide +kernel)) znil)))))
theorem wX8_175 : ∀ w ∈ [Cond.methodLink RX8 175 yX0_read, Cond.initialized yX0_read.cls, Cond.code yX0_read cX0_read 3 (some .int), Cond.instanceMethod yX0_read, Cond.selects yX0_read.cls yX0_read yX0_read], w ∈ zts := (zall (zmem 727 (by decide +kernel) (by decide +kernel)) (zall (zmem 67 (by decide +kernel) (by decide +kernel)) (zall (zmem 730 (by decide +kernel) (by decide +kernel)) (zall (zmem 728 (by decide +kernel) (by decide +kernel)) (zall (zmem 729 (by decide +kernel) (by decide +kernel)) znil)))))
theorem wX8_194 : ∀ w ∈ [Cond.methodLink RX8 194 yX8_refusalOfJoin, Cond.initialized yX8_refusalOfJoin.cls, Cond.code yX8_refusalOfJoin cX8_refusalOfJoin 5 (some .int), Cond.instanceMethod yX8_refusalOfJoin, Cond.selects yX8_refusalOfJoin.cls yX8_refusalOfJoin yX8_refusalOfJoin], w ∈ zts := (zall (zmem 755 (by decide +kernel) (by decide +kernel)) (zall (zmem 59 (by decide +kernel) (by decide +kernel)) (zall (zmem 758 (by decide +kernel) (by decide +kernel)) (zall (zmem 757 (by decide +kernel) (by decide +kernel)) (zall (zmem 8 (by decide +kernel) (by decide +kernel)) znil)))))
theorem wX8_200 : ∀ w ∈ [Cond.methodLink RX8 200 yX3_joinBehind, Cond.initialized yX3_joinBehind.cls, Cond.code yX3_joinBehind cX3_joinBehind 3 (none), Cond.instanceMethod yX3_joinBehind, Cond.selects yX3_joinBehind.cls yX3_joinBehind yX3_joinBehind], w ∈ zts := (zall (zmem 764 (by decide +kernel) (by decide +kernel)) (zall (zmem 64 (by decide +kernel) (by decide +kernel)) (zall (zmem 767 (by decide +kernel) (by decide +kernel)) (zall (zmem 765 (by decide +kernel) (by decide +kernel)) (zall (zmem 766 (by decide +kernel) (by decide +kernel)) znil)))))
theorem wX8_203 : ∀ w ∈ [Cond.methodLink RX8 203 yX3_shipsInConvoy, Cond.initialized yX3_shipsInConvoy.cls, Cond.code yX3_shipsInConvoy cX3_shipsInConvoy 4 (some .int), Cond.instanceMethod yX3_shipsInConvoy, Cond.selects yX3_shipsInConvoy.cls yX3_shipsInConvoy yX3_shipsInConvoy], w ∈ zts := (zall (zmem 780 (by decide +kernel) (by decide +kernel)) (zall (zmem 64 (by decide +kernel) (by decide +kernel)) (zall (zmem 771 (by decide +kernel) (by decide +kernel)) (zall (zmem 769 (by decide +kernel) (by decide +kernel)) (zall (zmem 770 (by decide +kernel) (by decide +kernel)) znil)))))
theorem wX8_206 : ∀ w ∈ [Cond.methodLink RX8 206 yX8_refusalOfPart, Cond.initialized yX8_refusalOfPart.cls, Cond.code yX8_refusalOfPart cX8_refusalOfPart 2 (some .int), Cond.instanceMethod yX8_refusalOfPart, Cond.selects yX8_refusalOfPart.cls yX8_refusalOfPart yX8_refusalOfPart], w ∈ zts := (zall (zmem 788 (by decide +kernel) (by decide +kernel)) (zall (zmem 59 (by decide +kernel) (by decide +kernel)) (zall (zmem 791 (by decide +kernel) (by decide +kernel)) (zall (zmem 790 (by decide +kernel) (by decide +kernel)) (zall (zmem 10 (by decide +kernel) (by decide +kernel)) znil)))))
theorem wX8_209 : ∀ w ∈ [Cond.methodLink RX8 209 yX3_takeOut, Cond.initialized yX3_takeOut.cls, Cond.code yX3_takeOut cX3_takeOut 4 (none), Cond.instanceMethod yX3_takeOut, Cond.selects yX3_takeOut.cls yX3_takeOut yX3_takeOut], w ∈ zts := (zall (zmem 792 (by decide +kernel) (by decide +kernel)) (zall (zmem 64 (by decide +kernel) (by decide +kernel)) (zall (zmem 795 (by decide +kernel) (by decide +kernel)) (zall (zmem 793 (by decide +kernel) (by decide +kernel)) (zall (zmem 794 (by decide +kernel) (by decide +kernel)) znil)))))
theorem wX8_212 : ∀ w ∈ [Cond.methodLink RX8 212 yX8_requireElement, Cond.initialized yX8_requireElement.cls, Cond.code yX8_requireElement cX8_requireElement 1 (none), Cond.static yX8_requireElement], w ∈ zts := (zall (zmem 808 (by decide +kernel) (by decide +kernel)) (zall (zmem 59 (by decide +kernel) (by decide +kernel)) (zall (zmem 810 (by decide +kernel) (by decide +kernel)) (zall (zmem 809 (by decide +kernel) (by decide +kernel)) znil))))
theorem wX8_227 : ∀ w ∈ [Cond.methodLink RX8 227 yX3_reachOf, Cond.initialized yX3_reachOf.cls, Cond.code yX3_reachOf cX3_reachOf 2 (some .int), Cond.instanceMethod yX3_reachOf, Cond.selects yX3_reachOf.cls yX3_reachOf yX3_reachOf], w ∈ zts := (zall (zmem 834 (by decide +kernel) (by decide +kernel)) (zall (zmem 64 (by decide +kernel) (by decide +kernel)) (zall (zmem 636 (by decide +kernel) (by decide +kernel)) (zall (zmem 634 (by decide +kernel) (by decide +kernel)) (zall (zmem 635 (by decide +kernel) (by decide +kernel)) znil)))))
theorem wX8_233 : ∀ w ∈ [Cond.methodLink RX8 233 yX3_hasLeft, Cond.initialized yX3_hasLeft.cls, Cond.code yX3_hasLeft cX3_hasLeft 2 (some .boolean), Cond.instanceMethod yX3_hasLeft, Cond.selects yX3_hasLeft.cls yX3_hasLeft yX3_hasLeft], w ∈ zts := (zall (zmem 763 (by decide +kernel) (by decide +kernel)) (zall (zmem 64 (by decide +kernel) (by decide +kernel)) (zall (zmem 640 (by decide +kernel) (by decide +kernel)) (zall (zmem 638 (by decide +kernel) (by decide +kernel)) (zall (zmem 639 (by decide +kernel) (by decide +kernel)) znil)))))
theorem wX8_237 : ∀ w ∈ [Cond.methodLink RX8 237 yX1_waitedBy, Cond.initialized yX1_waitedBy.cls, Cond.code yX1_waitedBy cX1_waitedBy 2 (some .int), Cond.instanceMethod yX1_waitedBy, Cond.selects yX1_waitedBy.cls yX1_waitedBy yX1_waitedBy], w ∈ zts := (zall (zmem 835 (by decide +kernel) (by decide +kernel)) (zall (zmem 60 (by decide +kernel) (by decide +kernel)) (zall (zmem 838 (by decide +kernel) (by decide +kernel)) (zall (zmem 836 (by decide +kernel) (by decide +kernel)) (zall (zmem 837 (by decide +kernel) (by decide +kernel)) znil)))))
theorem wX8_243 : ∀ w ∈ [Cond.methodLink RX8 243 yX3_shipOfConvoy, Cond.initialized yX3_shipOfConvoy.cls, Cond.code yX3_shipOfConvoy cX3_shipOfConvoy 5 (some .int), Cond.instanceMethod yX3_shipOfConvoy, Cond.selects yX3_shipOfConvoy.cls yX3_shipOfConvoy yX3_shipOfConvoy], w ∈ zts := (zall (zmem 847 (by decide +kernel) (by decide +kernel)) (zall (zmem 64 (by decide +kernel) (by decide +kernel)) (zall (zmem 775 (by decide +kernel) (by decide +kernel)) (zall (zmem 773 (by decide +kernel) (by decide +kernel)) (zall (zmem 774 (by decide +kernel) (by decide +kernel)) znil)))))
theorem wX8_246 : ∀ w ∈ [Cond.methodLink RX8 246 yX1_convoyInOrder, Cond.initialized yX1_convoyInOrder.cls, Cond.code yX1_convoyInOrder cX1_convoyInOrder 4 (some .int), Cond.instanceMethod yX1_convoyInOrder, Cond.selects yX1_convoyInOrder.cls yX1_convoyInOrder yX1_convoyInOrder], w ∈ zts := (zall (zmem 855 (by decide +kernel) (by decide +kernel)) (zall (zmem 60 (by decide +kernel) (by decide +kernel)) (zall (zmem 858 (by decide +kernel) (by decide +kernel)) (zall (zmem 856 (by decide +kernel) (by decide +kernel)) (zall (zmem 857 (by decide +kernel) (by decide +kernel)) znil)))))
theorem wX8_249 : ∀ w ∈ [Cond.methodLink RX8 249 yX1_priorityOf, Cond.initialized yX1_priorityOf.cls, Cond.code yX1_priorityOf cX1_priorityOf 3 (some .int), Cond.instanceMethod yX1_priorityOf, Cond.selects yX1_priorityOf.cls yX1_priorityOf yX1_priorityOf], w ∈ zts := (zall (zmem 887 (by decide +kernel) (by decide +kernel)) (zall (zmem 60 (by decide +kernel) (by decide +kernel)) (zall (zmem 871 (by decide +kernel) (by decide +kernel)) (zall (zmem 869 (by decide +kernel) (by decide +kernel)) (zall (zmem 870 (by decide +kernel) (by decide +kernel)) znil)))))
theorem wX8_252 : ∀ w ∈ [Cond.methodLink RX8 252 yX1_hindranceOf, Cond.initialized yX1_hindranceOf.cls, Cond.code yX1_hindranceOf cX1_hindranceOf 5 (some .int), Cond.instanceMethod yX1_hindranceOf, Cond.selects yX1_hindranceOf.cls yX1_hindranceOf yX1_hindranceOf], w ∈ zts := (zall (zmem 895 (by decide +kernel) (by decide +kernel)) (zall (zmem 60 (by decide +kernel) (by decide +kernel)) (zall (zmem 898 (by decide +kernel) (by decide +kernel)) (zall (zmem 896 (by decide +kernel) (by decide +kernel)) (zall (zmem 897 (by decide +kernel) (by decide +kernel)) znil)))))
theorem wX8_258 : ∀ w ∈ [Cond.methodLink RX8 258 yX3_shipsThatLeft, Cond.initialized yX3_shipsThatLeft.cls, Cond.code yX3_shipsThatLeft cX3_shipsThatLeft 1 (some .int), Cond.instanceMethod yX3_shipsThatLeft, Cond.selects yX3_shipsThatLeft.cls yX3_shipsThatLeft yX3_shipsThatLeft], w ∈ zts := (zall (zmem 943 (by decide +kernel) (by decide +kernel)) (zall (zmem 64 (by decide +kernel) (by decide +kernel)) (zall (zmem 946 (by decide +kernel) (by decide +kernel)) (zall (zmem 944 (by decide +kernel) (by decide +kernel)) (zall (zmem 945 (by decide +kernel) (by decide +kernel)) znil)))))
theorem wX8_261 : ∀ w ∈ [Cond.methodLink RX8 261 yX1_goOneTick, Cond.initialized yX1_goOneTick.cls, Cond.code yX1_goOneTick cX1_goOneTick 2 (none), Cond.instanceMethod yX1_goOneTick, Cond.selects yX1_goOneTick.cls yX1_goOneTick yX1_goOneTick], w ∈ zts := (zall (zmem 948 (by decide +kernel) (by decide +kernel)) (zall (zmem 60 (by decide +kernel) (by decide +kernel)) (zall (zmem 951 (by decide +kernel) (by decide +kernel)) (zall (zmem 949 (by decide +kernel) (by decide +kernel)) (zall (zmem 950 (by decide +kernel) (by decide +kernel)) znil)))))
theorem wX8_264 : ∀ w ∈ [Cond.methodLink RX8 264 yX1_copyFrom, Cond.initialized yX1_copyFrom.cls, Cond.code yX1_copyFrom cX1_copyFrom 2 (none), Cond.instanceMethod yX1_copyFrom, Cond.selects yX1_copyFrom.cls yX1_copyFrom yX1_copyFrom], w ∈ zts := (zall (zmem 397 (by decide +kernel) (by decide +kernel)) (zall (zmem 60 (by decide +kernel) (by decide +kernel)) (zall (zmem 400 (by decide +kernel) (by decide +kernel)) (zall (zmem 398 (by decide +kernel) (by decide +kernel)) (zall (zmem 399 (by decide +kernel) (by decide +kernel)) znil)))))
theorem wX8_267 : ∀ w ∈ [Cond.methodLink RX8 267 yX1_waitingConvoys, Cond.initialized yX1_waitingConvoys.cls, Cond.code yX1_waitingConvoys cX1_waitingConvoys 3 (some .int), Cond.instanceMethod yX1_waitingConvoys, Cond.selects yX1_waitingConvoys.cls yX1_waitingConvoys yX1_waitingConvoys], w ∈ zts := (zall (zmem 1021 (by decide +kernel) (by decide +kernel)) (zall (zmem 60 (by decide +kernel) (by decide +kernel)) (zall (zmem 1024 (by decide +kernel) (by decide +kernel)) (zall (zmem 1022 (by decide +kernel) (by decide +kernel)) (zall (zmem 1023 (by decide +kernel) (by decide +kernel)) znil)))))
theorem wX8_270 : ∀ w ∈ [Cond.methodLink RX8 270 yX7_sum, Cond.initialized yX7_sum.cls, Cond.code yX7_sum cX7_sum 3 (some .int), Cond.instanceMethod yX7_sum, Cond.selects yX7_sum.cls yX7_sum yX7_sum], w ∈ zts := (zall (zmem 1026 (by decide +kernel) (by decide +kernel)) (zall (zmem 62 (by decide +kernel) (by decide +kernel)) (zall (zmem 1029 (by decide +kernel) (by decide +kernel)) (zall (zmem 1027 (by decide +kernel) (by decide +kernel)) (zall (zmem 1028 (by decide +kernel) (by decide +kernel)) znil)))))
theorem wX8_273 : ∀ w ∈ [Cond.methodLink RX8 273 yX5_allWater, Cond.initialized yX5_allWater.cls, Cond.code yX5_allWater cX5_allWater 3 (some .int), Cond.instanceMethod yX5_allWater, Cond.selects yX5_allWater.cls yX5_allWater yX5_allWater], w ∈ zts := (zall (zmem 1030 (by decide +kernel) (by decide +kernel)) (zall (zmem 63 (by decide +kernel) (by decide +kernel)) (zall (zmem 1033 (by decide +kernel) (by decide +kernel)) (zall (zmem 1031 (by decide +kernel) (by decide +kernel)) (zall (zmem 1032 (by decide +kernel) (by decide +kernel)) znil)))))
theorem wX8_296 : ∀ w ∈ [Cond.methodLink RX8 296 yX2_takeBack, Cond.initialized yX2_takeBack.cls, Cond.code yX2_takeBack cX2_takeBack 3 (none), Cond.instanceMethod yX2_takeBack, Cond.selects yX2_takeBack.cls yX2_takeBack yX2_takeBack], w ∈ zts := (zall (zmem 1066 (by decide +kernel) (by decide +kernel)) (zall (zmem 66 (by decide +kernel) (by decide +kernel)) (zall (zmem 1069 (by decide +kernel) (by decide +kernel)) (zall (zmem 1067 (by decide +kernel) (by decide +kernel)) (zall (zmem 1068 (by decide +kernel) (by decide +kernel)) znil)))))
theorem wX8_299 : ∀ w ∈ [Cond.methodLink RX8 299 yX2_forget, Cond.initialized yX2_forget.cls, Cond.code yX2_forget cX2_forget 1 (none), Cond.instanceMethod yX2_forget, Cond.selects yX2_forget.cls yX2_forget yX2_forget], w ∈ zts := (zall (zmem 1077 (by decide +kernel) (by decide +kernel)) (zall (zmem 66 (by decide +kernel) (by decide +kernel)) (zall (zmem 1080 (by decide +kernel) (by decide +kernel)) (zall (zmem 1078 (by decide +kernel) (by decide +kernel)) (zall (zmem 1079 (by decide +kernel) (by decide +kernel)) znil)))))
theorem wX8_327 : ∀ w ∈ [Cond.methodLink RX8 327 yX3_has, Cond.initialized yX3_has.cls, Cond.code yX3_has cX3_has 2 (some .boolean), Cond.instanceMethod yX3_has, Cond.selects yX3_has.cls yX3_has yX3_has], w ∈ zts := (zall (zmem 759 (by decide +kernel) (by decide +kernel)) (zall (zmem 64 (by decide +kernel) (by decide +kernel)) (zall (zmem 762 (by decide +kernel) (by decide +kernel)) (zall (zmem 760 (by decide +kernel) (by decide +kernel)) (zall (zmem 761 (by decide +kernel) (by decide +kernel)) znil)))))
theorem wX9_48 : ∀ w ∈ [Cond.methodLink RX9 48 yX9_raises, Cond.initialized yX9_raises.cls, Cond.code yX9_raises cX9_raises 2 (some .int), Cond.instanceMethod yX9_raises, Cond.selects yX9_raises.cls yX9_raises yX9_raises], w ∈ zts := (zall (zmem 1157 (by decide +kernel) (by decide +kernel)) (zall (zmem 68 (by decide +kernel) (by decide +kernel)) (zall (zmem 1160 (by decide +kernel) (by decide +kernel)) (zall (zmem 1159 (by decide +kernel) (by decide +kernel)) (zall (zmem 23 (by decide +kernel) (by decide +kernel)) znil)))))
theorem wX9_55 : ∀ w ∈ [Cond.methodLink RX9 55 yX9_in, Cond.initialized yX9_in.cls, Cond.code yX9_in cX9_in 3 (some .boolean), Cond.static yX9_in], w ∈ zts := (zall (zmem 1154 (by decide +kernel) (by decide +kernel)) (zall (zmem 68 (by decide +kernel) (by decide +kernel)) (zall (zmem 1156 (by decide +kernel) (by decide +kernel)) (zall (zmem 1155 (by decide +kernel) (by decide +kernel)) znil))))
theorem wX9_59 : ∀ w ∈ [Cond.methodLink RX9 59 yX9_changes, Cond.initialized yX9_changes.cls, Cond.code yX9_changes cX9_changes 2 (none), Cond.instanceMethod yX9_changes, Cond.selects yX9_changes.cls yX9_changes yX9_changes], w ∈ zts := (zall (zmem 1161 (by decide +kernel) (by decide +kernel)) (zall (zmem 68 (by decide +kernel) (by decide +kernel)) (zall (zmem 1164 (by decide +kernel) (by decide +kernel)) (zall (zmem 1163 (by decide +kernel) (by decide +kernel)) (zall (zmem 24 (by decide +kernel) (by decide +kernel)) znil)))))
theorem wX9_62 : ∀ w ∈ [Cond.methodLink RX9 62 yX9_water, Cond.initialized yX9_water.cls, Cond.code yX9_water cX9_water 2 (some .int), Cond.instanceMethod yX9_water, Cond.selects yX9_water.cls yX9_water yX9_water], w ∈ zts := (zall (zmem 1181 (by decide +kernel) (by decide +kernel)) (zall (zmem 68 (by decide +kernel) (by decide +kernel)) (zall (zmem 1184 (by decide +kernel) (by decide +kernel)) (zall (zmem 1183 (by decide +kernel) (by decide +kernel)) (zall (zmem 27 (by decide +kernel) (by decide +kernel)) znil)))))
theorem wX9_65 : ∀ w ∈ [Cond.methodLink RX9 65 yX9_level, Cond.initialized yX9_level.cls, Cond.code yX9_level cX9_level 2 (some .int), Cond.instanceMethod yX9_level, Cond.selects yX9_level.cls yX9_level yX9_level], w ∈ zts := (zall (zmem 1177 (by decide +kernel) (by decide +kernel)) (zall (zmem 68 (by decide +kernel) (by decide +kernel)) (zall (zmem 1180 (by decide +kernel) (by decide +kernel)) (zall (zmem 1179 (by decide +kernel) (by decide +kernel)) (zall (zmem 26 (by decide +kernel) (by decide +kernel)) znil)))))
theorem wX9_68 : ∀ w ∈ [Cond.methodLink RX9 68 yX9_isReach, Cond.initialized yX9_isReach.cls, Cond.code yX9_isReach cX9_isReach 2 (some .boolean), Cond.instanceMethod yX9_isReach, Cond.selects yX9_isReach.cls yX9_isReach yX9_isReach], w ∈ zts := (zall (zmem 1173 (by decide +kernel) (by decide +kernel)) (zall (zmem 68 (by decide +kernel) (by decide +kernel)) (zall (zmem 1176 (by decide +kernel) (by decide +kernel)) (zall (zmem 1175 (by decide +kernel) (by decide +kernel)) (zall (zmem 25 (by decide +kernel) (by decide +kernel)) znil)))))
theorem wX9_72 : ∀ w ∈ [Cond.methodLink RX9 72 yX9_dryness, Cond.initialized yX9_dryness.cls, Cond.code yX9_dryness cX9_dryness 3 (some .int), Cond.instanceMethod yX9_dryness, Cond.selects yX9_dryness.cls yX9_dryness yX9_dryness], w ∈ zts := (zall (zmem 1185 (by decide +kernel) (by decide +kernel)) (zall (zmem 68 (by decide +kernel) (by decide +kernel)) (zall (zmem 1188 (by decide +kernel) (by decide +kernel)) (zall (zmem 1187 (by decide +kernel) (by decide +kernel)) (zall (zmem 28 (by decide +kernel) (by decide +kernel)) znil)))))
theorem wX9_75 : ∀ w ∈ [Cond.methodLink RX9 75 yX9_of, Cond.initialized yX9_of.cls, Cond.code yX9_of cX9_of 3 (some .int), Cond.instanceMethod yX9_of, Cond.selects yX9_of.cls yX9_of yX9_of], w ∈ zts := (zall (zmem 1189 (by decide +kernel) (by decide +kernel)) (zall (zmem 68 (by decide +kernel) (by decide +kernel)) (zall (zmem 1192 (by decide +kernel) (by decide +kernel)) (zall (zmem 1191 (by decide +kernel) (by decide +kernel)) (zall (zmem 29 (by decide +kernel) (by decide +kernel)) znil)))))
theorem wX9_79 : ∀ w ∈ [Cond.methodLink RX9 79 yX9_lockPart, Cond.initialized yX9_lockPart.cls, Cond.code yX9_lockPart cX9_lockPart 3 (some .int), Cond.instanceMethod yX9_lockPart, Cond.selects yX9_lockPart.cls yX9_lockPart yX9_lockPart], w ∈ zts := (zall (zmem 1201 (by decide +kernel) (by decide +kernel)) (zall (zmem 68 (by decide +kernel) (by decide +kernel)) (zall (zmem 1204 (by decide +kernel) (by decide +kernel)) (zall (zmem 1203 (by decide +kernel) (by decide +kernel)) (zall (zmem 31 (by decide +kernel) (by decide +kernel)) znil)))))
theorem wX9_82 : ∀ w ∈ [Cond.methodLink RX9 82 yX9_quarter, Cond.initialized yX9_quarter.cls, Cond.code yX9_quarter cX9_quarter 2 (some .int), Cond.instanceMethod yX9_quarter, Cond.selects yX9_quarter.cls yX9_quarter yX9_quarter], w ∈ zts := (zall (zmem 1205 (by decide +kernel) (by decide +kernel)) (zall (zmem 68 (by decide +kernel) (by decide +kernel)) (zall (zmem 1208 (by decide +kernel) (by decide +kernel)) (zall (zmem 1207 (by decide +kernel) (by decide +kernel)) (zall (zmem 32 (by decide +kernel) (by decide +kernel)) znil)))))
theorem wX9_85 : ∀ w ∈ [Cond.methodLink RX9 85 yJ6_bitCount_0f7a4, Cond.initialized yJ6_bitCount_0f7a4.cls, Cond.code yJ6_bitCount_0f7a4 cJ6_bitCount_0f7a4 1 (some .int), Cond.static yJ6_bitCount_0f7a4], w ∈ zts := (zall (zmem 1209 (by decide +kernel) (by decide +kernel)) (zall (zmem 78 (by decide +kernel) (by decide +kernel)) (zall (zmem 1211 (by decide +kernel) (by decide +kernel)) (zall (zmem 1210 (by decide +kernel) (by decide +kernel)) znil))))
theorem wX9_90 : ∀ w ∈ [Cond.methodLink RX9 90 yX9_isLock, Cond.initialized yX9_isLock.cls, Cond.code yX9_isLock cX9_isLock 2 (some .boolean), Cond.instanceMethod yX9_isLock, Cond.selects yX9_isLock.cls yX9_isLock yX9_isLock], w ∈ zts := (zall (zmem 1197 (by decide +kernel) (by decide +kernel)) (zall (zmem 68 (by decide +kernel) (by decide +kernel)) (zall (zmem 1200 (by decide +kernel) (by decide +kernel)) (zall (zmem 1199 (by decide +kernel) (by decide +kernel)) (zall (zmem 30 (by decide +kernel) (by decide +kernel)) znil)))))
theorem wX9_93 : ∀ w ∈ [Cond.methodLink RX9 93 yX9_held, Cond.initialized yX9_held.cls, Cond.code yX9_held cX9_held 2 (some .int), Cond.instanceMethod yX9_held, Cond.selects yX9_held.cls yX9_held yX9_held], w ∈ zts := (zall (zmem 1215 (by decide +kernel) (by decide +kernel)) (zall (zmem 68 (by decide +kernel) (by decide +kernel)) (zall (zmem 1218 (by decide +kernel) (by decide +kernel)) (zall (zmem 1217 (by decide +kernel) (by decide +kernel)) (zall (zmem 33 (by decide +kernel) (by decide +kernel)) znil)))))
theorem wX9_96 : ∀ w ∈ [Cond.methodLink RX9 96 yX9_orders, Cond.initialized yX9_orders.cls, Cond.code yX9_orders cX9_orders 4 (none), Cond.instanceMethod yX9_orders, Cond.selects yX9_orders.cls yX9_orders yX9_orders], w ∈ zts := (zall (zmem 1219 (by decide +kernel) (by decide +kernel)) (zall (zmem 68 (by decide +kernel) (by decide +kernel)) (zall (zmem 1222 (by decide +kernel) (by decide +kernel)) (zall (zmem 1221 (by decide +kernel) (by decide +kernel)) (zall (zmem 34 (by decide +kernel) (by decide +kernel)) znil)))))
theorem wX9_103 : ∀ w ∈ [Cond.methodLink RX9 103 yX9_lacks, Cond.initialized yX9_lacks.cls, Cond.code yX9_lacks cX9_lacks 3 (some .int), Cond.instanceMethod yX9_lacks, Cond.selects yX9_lacks.cls yX9_lacks yX9_lacks], w ∈ zts := (zall (zmem 1336 (by decide +kernel) (by decide +kernel)) (zall (zmem 68 (by decide +kernel) (by decide +kernel)) (zall (zmem 1339 (by decide +kernel) (by decide +kernel)) (zall (zmem 1338 (by decide +kernel) (by decide +kernel)) (zall (zmem 50 (by decide +kernel) (by decide +kernel)) znil)))))
theorem wX9_106 : ∀ w ∈ [Cond.methodLink RX9 106 yX9_puts, Cond.initialized yX9_puts.cls, Cond.code yX9_puts cX9_puts 4 (none), Cond.instanceMethod yX9_puts, Cond.selects yX9_puts.cls yX9_puts yX9_puts], w ∈ zts := (zall (zmem 1251 (by decide +kernel) (by decide +kernel)) (zall (zmem 68 (by decide +kernel) (by decide +kernel)) (zall (zmem 1254 (by decide +kernel) (by decide +kernel)) (zall (zmem 1253 (by decide +kernel) (by decide +kernel)) (zall (zmem 40 (by decide +kernel) (by decide +kernel)) znil)))))
theorem wX9_110 : ∀ w ∈ [Cond.methodLink RX9 110 yX9_refuses, Cond.initialized yX9_refuses.cls, Cond.code yX9_refuses cX9_refuses 3 (some .int), Cond.instanceMethod yX9_refuses, Cond.selects yX9_refuses.cls yX9_refuses yX9_refuses], w ∈ zts := (zall (zmem 1243 (by decide +kernel) (by decide +kernel)) (zall (zmem 68 (by decide +kernel) (by decide +kernel)) (zall (zmem 1246 (by decide +kernel) (by decide +kernel)) (zall (zmem 1245 (by decide +kernel) (by decide +kernel)) (zall (zmem 38 (by decide +kernel) (by decide +kernel)) znil)))))
theorem wX9_113 : ∀ w ∈ [Cond.methodLink RX9 113 yX9_newShip, Cond.initialized yX9_newShip.cls, Cond.code yX9_newShip cX9_newShip 6 (some .int), Cond.instanceMethod yX9_newShip, Cond.selects yX9_newShip.cls yX9_newShip yX9_newShip], w ∈ zts := (zall (zmem 1247 (by decide +kernel) (by decide +kernel)) (zall (zmem 68 (by decide +kernel) (by decide +kernel)) (zall (zmem 1250 (by decide +kernel) (by decide +kernel)) (zall (zmem 1249 (by decide +kernel) (by decide +kernel)) (zall (zmem 39 (by decide +kernel) (by decide +kernel)) znil)))))
theorem wX9_123 : ∀ w ∈ [Cond.methodLink RX9 123 yX9_here, Cond.initialized yX9_here.cls, Cond.code yX9_here cX9_here 1 (some .int), Cond.instanceMethod yX9_here, Cond.selects yX9_here.cls yX9_here yX9_here], w ∈ zts := (zall (zmem 1271 (by decide +kernel) (by decide +kernel)) (zall (zmem 68 (by decide +kernel) (by decide +kernel)) (zall (zmem 1274 (by decide +kernel) (by decide +kernel)) (zall (zmem 1273 (by decide +kernel) (by decide +kernel)) (zall (zmem 43 (by decide +kernel) (by decide +kernel)) znil)))))
theorem wX9_127 : ∀ w ∈ [Cond.methodLink RX9 127 yX9_takes, Cond.initialized yX9_takes.cls, Cond.code yX9_takes cX9_takes 2 (some .boolean), Cond.instanceMethod yX9_takes, Cond.selects yX9_takes.cls yX9_takes yX9_takes], w ∈ zts := (zall (zmem 1267 (by decide +kernel) (by decide +kernel)) (zall (zmem 68 (by decide +kernel) (by decide +kernel)) (zall (zmem 1270 (by decide +kernel) (by decide +kernel)) (zall (zmem 1269 (by decide +kernel) (by decide +kernel)) (zall (zmem 42 (by decide +kernel) (by decide +kernel)) znil)))))
theorem wX9_130 : ∀ w ∈ [Cond.methodLink RX9 130 yX9_arrives, Cond.initialized yX9_arrives.cls, Cond.code yX9_arrives cX9_arrives 4 (some .boolean), Cond.instanceMethod yX9_arrives, Cond.selects yX9_arrives.cls yX9_arrives yX9_arrives], w ∈ zts := (zall (zmem 1263 (by decide +kernel) (by decide +kernel)) (zall (zmem 68 (by decide +kernel) (by decide +kernel)) (zall (zmem 1266 (by decide +kernel) (by decide +kernel)) (zall (zmem 1265 (by decide +kernel) (by decide +kernel)) (zall (zmem 41 (by decide +kernel) (by decide +kernel)) znil)))))
theorem wX9_133 : ∀ w ∈ [Cond.methodLink RX9 133 yX9_isShip, Cond.initialized yX9_isShip.cls, Cond.code yX9_isShip cX9_isShip 2 (some .boolean), Cond.instanceMethod yX9_isShip, Cond.selects yX9_isShip.cls yX9_isShip yX9_isShip], w ∈ zts := (zall (zmem 1283 (by decide +kernel) (by decide +kernel)) (zall (zmem 68 (by decide +kernel) (by decide +kernel)) (zall (zmem 1286 (by decide +kernel) (by decide +kernel)) (zall (zmem 1285 (by decide +kernel) (by decide +kernel)) (zall (zmem 44 (by decide +kernel) (by decide +kernel)) znil)))))
theorem wX9_136 : ∀ w ∈ [Cond.methodLink RX9 136 yX9_lockOf, Cond.initialized yX9_lockOf.cls, Cond.code yX9_lockOf cX9_lockOf 2 (some .int), Cond.instanceMethod yX9_lockOf, Cond.selects yX9_lockOf.cls yX9_lockOf yX9_lockOf], w ∈ zts := (zall (zmem 1223 (by decide +kernel) (by decide +kernel)) (zall (zmem 68 (by decide +kernel) (by decide +kernel)) (zall (zmem 1226 (by decide +kernel) (by decide +kernel)) (zall (zmem 1225 (by decide +kernel) (by decide +kernel)) (zall (zmem 35 (by decide +kernel) (by decide +kernel)) znil)))))
theorem wX9_139 : ∀ w ∈ [Cond.methodLink RX9 139 yX9_sizeOf, Cond.initialized yX9_sizeOf.cls, Cond.code yX9_sizeOf cX9_sizeOf 4 (some .int), Cond.instanceMethod yX9_sizeOf, Cond.selects yX9_sizeOf.cls yX9_sizeOf yX9_sizeOf], w ∈ zts := (zall (zmem 1287 (by decide +kernel) (by decide +kernel)) (zall (zmem 68 (by decide +kernel) (by decide +kernel)) (zall (zmem 1290 (by decide +kernel) (by decide +kernel)) (zall (zmem 1289 (by decide +kernel) (by decide +kernel)) (zall (zmem 45 (by decide +kernel) (by decide +kernel)) znil)))))
theorem wX9_142 : ∀ w ∈ [Cond.methodLink RX9 142 yX9_shipIn, Cond.initialized yX9_shipIn.cls, Cond.code yX9_shipIn cX9_shipIn 4 (some .int), Cond.instanceMethod yX9_shipIn, Cond.selects yX9_shipIn.cls yX9_shipIn yX9_shipIn], w ∈ zts := (zall (zmem 1295 (by decide +kernel) (by decide +kernel)) (zall (zmem 68 (by decide +kernel) (by decide +kernel)) (zall (zmem 1298 (by decide +kernel) (by decide +kernel)) (zall (zmem 1297 (by decide +kernel) (by decide +kernel)) (zall (zmem 46 (by decide +kernel) (by decide +kernel)) znil)))))
theorem wX9_145 : ∀ w ∈ [Cond.methodLink RX9 145 yJ9_max_7cf53, Cond.initialized yJ9_max_7cf53.cls, Cond.code yJ9_max_7cf53 cJ9_max_7cf53 2 (some .int), Cond.static yJ9_max_7cf53], w ∈ zts := (zall (zmem 1231 (by decide +kernel) (by decide +kernel)) (zall (zmem 74 (by decide +kernel) (by decide +kernel)) (zall (zmem 879 (by decide +kernel) (by decide +kernel)) (zall (zmem 878 (by decide +kernel) (by decide +kernel)) znil))))
theorem wX9_150 : ∀ w ∈ [Cond.methodLink RX9 150 yX9_waited, Cond.initialized yX9_waited.cls, Cond.code yX9_waited cX9_waited 2 (some .int), Cond.instanceMethod yX9_waited, Cond.selects yX9_waited.cls yX9_waited yX9_waited], w ∈ zts := (zall (zmem 1232 (by decide +kernel) (by decide +kernel)) (zall (zmem 68 (by decide +kernel) (by decide +kernel)) (zall (zmem 1235 (by decide +kernel) (by decide +kernel)) (zall (zmem 1234 (by decide +kernel) (by decide +kernel)) (zall (zmem 37 (by decide +kernel) (by decide +kernel)) znil)))))
theorem wX9_153 : ∀ w ∈ [Cond.methodLink RX9 153 yJ9_floorDiv_7cf53, Cond.initialized yJ9_floorDiv_7cf53.cls, Cond.code yJ9_floorDiv_7cf53 cJ9_floorDiv_7cf53 3 (some .int), Cond.static yJ9_floorDiv_7cf53], w ∈ zts := (zall (zmem 1236 (by decide +kernel) (by decide +kernel)) (zall (zmem 74 (by decide +kernel) (by decide +kernel)) (zall (zmem 1238 (by decide +kernel) (by decide +kernel)) (zall (zmem 1237 (by decide +kernel) (by decide +kernel)) znil))))
theorem wX9_156 : ∀ w ∈ [Cond.methodLink RX9 156 yX9_priorityOf, Cond.initialized yX9_priorityOf.cls, Cond.code yX9_priorityOf cX9_priorityOf 4 (some .int), Cond.instanceMethod yX9_priorityOf, Cond.selects yX9_priorityOf.cls yX9_priorityOf yX9_priorityOf], w ∈ zts := (zall (zmem 1227 (by decide +kernel) (by decide +kernel)) (zall (zmem 68 (by decide +kernel) (by decide +kernel)) (zall (zmem 1230 (by decide +kernel) (by decide +kernel)) (zall (zmem 1229 (by decide +kernel) (by decide +kernel)) (zall (zmem 36 (by decide +kernel) (by decide +kernel)) znil)))))
theorem wX9_162 : ∀ w ∈ [Cond.methodLink RX9 162 yX9_rows, Cond.initialized yX9_rows.cls, Cond.code yX9_rows cX9_rows 7 (none), Cond.instanceMethod yX9_rows, Cond.selects yX9_rows.cls yX9_rows yX9_rows], w ∈ zts := (zall (zmem 1327 (by decide +kernel) (by decide +kernel)) (zall (zmem 68 (by decide +kernel) (by decide +kernel)) (zall (zmem 1330 (by decide +kernel) (by decide +kernel)) (zall (zmem 1329 (by decide +kernel) (by decide +kernel)) (zall (zmem 48 (by decide +kernel) (by decide +kernel)) znil)))))
theorem wX9_165 : ∀ w ∈ [Cond.methodLink RX9 165 yX9_next, Cond.initialized yX9_next.cls, Cond.code yX9_next cX9_next 2 (some .int), Cond.instanceMethod yX9_next, Cond.selects yX9_next.cls yX9_next yX9_next], w ∈ zts := (zall (zmem 1331 (by decide +kernel) (by decide +kernel)) (zall (zmem 68 (by decide +kernel) (by decide +kernel)) (zall (zmem 1334 (by decide +kernel) (by decide +kernel)) (zall (zmem 1333 (by decide +kernel) (by decide +kernel)) (zall (zmem 49 (by decide +kernel) (by decide +kernel)) znil)))))
theorem wX9_168 : ∀ w ∈ [Cond.methodLink RX9 168 yJ9_min_7cf53, Cond.initialized yJ9_min_7cf53.cls, Cond.code yJ9_min_7cf53 cJ9_min_7cf53 2 (some .int), Cond.static yJ9_min_7cf53], w ∈ zts := (zall (zmem 1335 (by decide +kernel) (by decide +kernel)) (zall (zmem 74 (by decide +kernel) (by decide +kernel)) (zall (zmem 535 (by decide +kernel) (by decide +kernel)) (zall (zmem 534 (by decide +kernel) (by decide +kernel)) znil))))
theorem wX9_171 : ∀ w ∈ [Cond.methodLink RX9 171 yX9_rules, Cond.initialized yX9_rules.cls, Cond.code yX9_rules cX9_rules 7 (some .int), Cond.instanceMethod yX9_rules, Cond.selects yX9_rules.cls yX9_rules yX9_rules], w ∈ zts := (zall (zmem 1323 (by decide +kernel) (by decide +kernel)) (zall (zmem 68 (by decide +kernel) (by decide +kernel)) (zall (zmem 1326 (by decide +kernel) (by decide +kernel)) (zall (zmem 1325 (by decide +kernel) (by decide +kernel)) (zall (zmem 47 (by decide +kernel) (by decide +kernel)) znil)))))
theorem wX9_174 : ∀ w ∈ [Cond.methodLink RX9 174 yX9_splits, Cond.initialized yX9_splits.cls, Cond.code yX9_splits cX9_splits 7 (none), Cond.instanceMethod yX9_splits, Cond.selects yX9_splits.cls yX9_splits yX9_splits], w ∈ zts := (zall (zmem 1368 (by decide +kernel) (by decide +kernel)) (zall (zmem 68 (by decide +kernel) (by decide +kernel)) (zall (zmem 1371 (by decide +kernel) (by decide +kernel)) (zall (zmem 1370 (by decide +kernel) (by decide +kernel)) (zall (zmem 57 (by decide +kernel) (by decide +kernel)) znil)))))
theorem wX9_181 : ∀ w ∈ [Cond.methodLink RX9 181 yX9_wasLocked, Cond.initialized yX9_wasLocked.cls, Cond.code yX9_wasLocked cX9_wasLocked 3 (some .boolean), Cond.instanceMethod yX9_wasLocked, Cond.selects yX9_wasLocked.cls yX9_wasLocked yX9_wasLocked], w ∈ zts := (zall (zmem 1352 (by decide +kernel) (by decide +kernel)) (zall (zmem 68 (by decide +kernel) (by decide +kernel)) (zall (zmem 1355 (by decide +kernel) (by decide +kernel)) (zall (zmem 1354 (by decide +kernel) (by decide +kernel)) (zall (zmem 53 (by decide +kernel) (by decide +kernel)) znil)))))
theorem wX9_184 : ∀ w ∈ [Cond.methodLink RX9 184 yX9_fills, Cond.initialized yX9_fills.cls, Cond.code yX9_fills cX9_fills 4 (some .boolean), Cond.instanceMethod yX9_fills, Cond.selects yX9_fills.cls yX9_fills yX9_fills], w ∈ zts := (zall (zmem 1356 (by decide +kernel) (by decide +kernel)) (zall (zmem 68 (by decide +kernel) (by decide +kernel)) (zall (zmem 1359 (by decide +kernel) (by decide +kernel)) (zall (zmem 1358 (by decide +kernel) (by decide +kernel)) (zall (zmem 54 (by decide +kernel) (by decide +kernel)) znil)))))
theorem wX9_187 : ∀ w ∈ [Cond.methodLink RX9 187 yX9_empties, Cond.initialized yX9_empties.cls, Cond.code yX9_empties cX9_empties 4 (none), Cond.instanceMethod yX9_empties, Cond.selects yX9_empties.cls yX9_empties yX9_empties], w ∈ zts := (zall (zmem 1360 (by decide +kernel) (by decide +kernel)) (zall (zmem 68 (by decide +kernel) (by decide +kernel)) (zall (zmem 1363 (by decide +kernel) (by decide +kernel)) (zall (zmem 1362 (by decide +kernel) (by decide +kernel)) (zall (zmem 55 (by decide +kernel) (by decide +kernel)) znil)))))
theorem wX9_190 : ∀ w ∈ [Cond.methodLink RX9 190 yX9_locks, Cond.initialized yX9_locks.cls, Cond.code yX9_locks cX9_locks 7 (none), Cond.instanceMethod yX9_locks, Cond.selects yX9_locks.cls yX9_locks yX9_locks], w ∈ zts := (zall (zmem 1364 (by decide +kernel) (by decide +kernel)) (zall (zmem 68 (by decide +kernel) (by decide +kernel)) (zall (zmem 1367 (by decide +kernel) (by decide +kernel)) (zall (zmem 1366 (by decide +kernel) (by decide +kernel)) (zall (zmem 56 (by decide +kernel) (by decide +kernel)) znil)))))
theorem wX9_193 : ∀ w ∈ [Cond.methodLink RX9 193 yX9_works, Cond.initialized yX9_works.cls, Cond.code yX9_works cX9_works 5 (none), Cond.instanceMethod yX9_works, Cond.selects yX9_works.cls yX9_works yX9_works], w ∈ zts := (zall (zmem 1348 (by decide +kernel) (by decide +kernel)) (zall (zmem 68 (by decide +kernel) (by decide +kernel)) (zall (zmem 1351 (by decide +kernel) (by decide +kernel)) (zall (zmem 1350 (by decide +kernel) (by decide +kernel)) (zall (zmem 52 (by decide +kernel) (by decide +kernel)) znil)))))
theorem wX9_196 : ∀ w ∈ [Cond.methodLink RX9 196 yX9_ticks, Cond.initialized yX9_ticks.cls, Cond.code yX9_ticks cX9_ticks 4 (none), Cond.instanceMethod yX9_ticks, Cond.selects yX9_ticks.cls yX9_ticks yX9_ticks], w ∈ zts := (zall (zmem 1344 (by decide +kernel) (by decide +kernel)) (zall (zmem 68 (by decide +kernel) (by decide +kernel)) (zall (zmem 1347 (by decide +kernel) (by decide +kernel)) (zall (zmem 1346 (by decide +kernel) (by decide +kernel)) (zall (zmem 51 (by decide +kernel) (by decide +kernel)) znil)))))
end ZTc
end
section
/-! a contract holds in every larger world -/
section ZLi
def zren (em : Nat → Nat) (q : zS) : zS := (q.1, q.2.1, q.2.2.map (Option.map em))
def zemb (U' U : zU) (em : Nat → Nat) : Prop := (∀ k, k < U'.1 → em k < U.1) ∧ (∀ i j, i < U'.1 → j < U'.1 → em i = em j → i = j) ∧ ∀ k, k < U'.1 → U.2 (em k) = zren em (U'.2 k)
def zspl (U' : zU) (em : Nat → Nat) (F F' F2 : zF) : Prop := (∀ k, k < U'.1 → F2 (em k) = F' k) ∧ ∀ j, (∀ k, k < U'.1 → em k ≠ j) → F2 j = F j
theorem zFs_ren (ad : Nat → Nat) (em : Nat → Nat) (f : Nat → Int32) (l : List (Option Nat)) : ∀ b, zFs ad f b (l.map (Option.map em)) = zFs (fun k => ad (em k)) f b l := by
  induction l with
  | nil => intro b; rfl
  | cons o r ih =>
    intro b
    cases o with
    | none => exact congrArg (List.cons _) (ih (b + 1))
    | some t => exact congrArg (List.cons _) (ih (b + 1))
theorem znth_map {α β : Type} (g : α → β) (l : List α) (n : Nat) : znth (l.map g) n = (znth l n).map g := by
  rw [znth_eq, znth_eq, List.getElem?_map]
theorem zE_ren (cA : zT) (ad : Nat → Nat) (em : Nat → Nat) (q : zS) (f : Nat → Int32) : zE cA ad (zren em q) f = zE cA (fun k => ad (em k)) q f := by
  obtain ⟨t, n, l⟩ := q
  rcases t with _ | _ | _ | _ | _ | t
  · exact congrArg (fun z => (Sum.inr (n, z) : va_E)) (zFs_ren ad em f l 0)
  · rfl
  · rfl
  · refine congrArg (fun z => (Sum.inl (cA.2.2.1, n, .inr (.inr (.inr (.inr z)))) : va_E)) ?_
    funext j
    show ((znth (l.map (Option.map em)) j).getD none).map ad = ((znth l j).getD none).map (fun k => ad (em k))
    rw [znth_map]
    cases znth l j with
    | none => rfl
    | some o => cases o <;> rfl
  · rfl
  · rfl
theorem zv_ren (ad em : Nat → Nat) (v : Value) : zv ad (zv em v) = zv (fun k => ad (em k)) v := by cases v <;> rfl
theorem zsm_ren (em : Nat → Nat) (v : Value) : zsm (zv em v) = zsm v := by cases v <;> rfl
theorem vx_mono {l : Launch} {y : MethodName} {ws : List Cond} {rm : Room} {Pc Pc' : Array Value → State → Prop} {Qc Qc' : Array Value → State → Outcome → State → Prop} {XC XC' : String → State → State → Prop} {mc ms : Nat} {A A' : Addr → Prop}
    (hM : vx_Met l y ws rm Pc' Qc' XC' mc ms A') (hp : ∀ a s, Pc a s → Pc' a s) (hq : ∀ a s o t, Pc a s → Qc' a s o t → Qc a s o t) (hx : ∀ a s E t, Pc a s → XC' E s t → XC E s t) (hA : ∀ q, A' q → A q) : vx_Met l y ws rm Pc Qc XC mc ms A := by
  intro p e ha hc hk s m args below hf happ hP hK
  obtain ⟨n, o, h1, h2, h3, h4⟩ := hM p e ha hc hk s m args below hf happ (hp _ _ hP) hK
  refine ⟨n, o, h1, h2, h3, ?_⟩
  rcases h4 with ⟨a1, L, a2, a3⟩ | ⟨q, rfl, E, ce, L, b1, b2, b3, b4, b5, b6, b7⟩
  · exact Or.inl ⟨hq _ _ _ _ hP a1, L, a2, fun q h => hA _ (a3 q h)⟩
  · exact Or.inr ⟨q, rfl, E, ce, L, hx _ _ _ _ hP b1, b2, b3, b4, b5, b6, fun z h => hA _ (b7 z h)⟩
theorem zlift {U' U : zU} {y : MethodName} {cc : ByteArray} {nL : Nat} {ret : Option FieldType} {rm : Room} {sp' sp : zSp} (hM : zMet U' y cc nL ret rm sp')
    (h : ∀ as F ok ex, sp as F ok ex → ∃ (em : Nat → Nat) (as' : List Value) (ok' : zO) (ex' : zX), zemb U' U em ∧ as = as'.map (zv em) ∧ sp' as' (fun k => F (em k)) ok' ex' ∧
      (∀ q F', ok' q F' → ∃ F2, zspl U' em F F' F2 ∧ ok (q.map (zv em)) F2) ∧ (∀ E F', ex' E F' → ∃ F2, zspl U' em F F' F2 ∧ ex E F2)) : zMet U y cc nL ret rm sp := by
  intro l hfl D cA ad F sz av ok ex hsp hinj hall hlen
  obtain ⟨em, as', ok', ex', ⟨he1, he2, he3⟩, has, hsp', hok, hex⟩ := h _ _ _ _ hsp
  have hcell : ∀ (G : zF) (k : Nat), k < U'.1 → zE cA ad (U.2 (em k)) (G (em k)) = zE cA (fun k => ad (em k)) (U'.2 k) (G (em k)) := fun G k hk => by rw [he3 k hk, zE_ren]
  have hinj' : zinj U' (fun k => ad (em k)) := fun i j hi hj hij => he2 i j hi hj (hinj _ _ (he1 i hi) (he1 j hj) hij)
  have hA : ∀ q, zA U' (fun k => ad (em k)) sz q → zA U ad sz q := fun q h => h.elim (fun ⟨k, hk, e⟩ => Or.inl ⟨em k, he1 k hk, e⟩) Or.inr
  have hP : ∀ (G : zF) (H : Heap), va_P D zcl (zWs cA U ad G) H → va_P D zcl (zWs cA U' (fun k => ad (em k)) (fun k => G (em k))) H := by
    intro G H hP k q hq
    obtain ⟨hk, rfl⟩ := zWs_in hq
    have := hP (em k) _ (zWs_at cA U ad G (he1 k hk))
    rw [hcell G k hk] at this
    exact this
  have back : ∀ (s t : State) (F' F2 : zF), va_P D zcl (zWs cA U ad F) s.heap → s.heap.size = sz → va_F (zA U' (fun k => ad (em k)) sz) s t → va_P D zcl (zWs cA U' (fun k => ad (em k)) F') t.heap → zspl U' em F F' F2 → va_P D zcl (zWs cA U ad F2) t.heap := by
    intro s t F' F2 hPs hsz hFr hPt hs k q hq
    obtain ⟨hk, rfl⟩ := zWs_in hq
    by_cases hin : ∃ k', k' < U'.1 ∧ em k' = k
    · obtain ⟨k', hk', rfl⟩ := hin
      have := hPt k' _ (zWs_at cA U' _ F' hk')
      rw [← hs.1 k' hk', ← hcell F2 k' hk'] at this
      exact this
    · have hout : ∀ k', k' < U'.1 → em k' ≠ k := fun k' hk' e => hin ⟨k', hk', e⟩
      rw [hs.2 k hout]
      have h0 := hPs k _ (zWs_at cA U ad F hk)
      refine h0.kept (hFr.2 _ h0.lt ?_)
      rintro (⟨k', hk', e⟩ | h9)
      · exact hout k' hk' (hinj _ _ (he1 k' hk') hk e.symm)
      · have h10 : ad k < s.heap.size := h0.lt
        have h11 : sz ≤ ad k := h9
        omega
  have hav : av.map (zv ad) = as'.map (zv fun k => ad (em k)) := by
    rw [has, List.map_map]
    exact List.map_congr_left fun v _ => zv_ren ad em v
  refine vx_mono (hM l hfl D cA (fun k => ad (em k)) (fun k => F (em k)) sz as' ok' ex' hsp' hinj' ?_ ?_) ?_ ?_ ?_ hA
  · rw [has] at hall
    rw [List.all_map] at hall
    simpa [Function.comp_def, zsm_ren] using hall
  · rw [has, List.length_map] at hlen
    exact hlen
  · rintro a s ⟨h1, h2, h3, h4, h5⟩
    exact ⟨by rw [h1, hav], h2, hP F _ h3, h4, h5.narrow hA⟩
  · rintro a s o t ⟨h1, h2, h3, h4, h5⟩ ⟨⟨q, F', e, g1, g2⟩, g3⟩
    obtain ⟨F2, k1, k2⟩ := hok _ _ g1
    refine ⟨⟨q.map (zv em), F2, ?_, k2, back s t F' F2 h3 h2 g3 g2 k1⟩, g3.1, fun z hz hn => g3.2 z hz fun hh => hn (hA z hh)⟩
    rw [e]
    cases q with
    | none => rfl
    | some v => exact congrArg (fun z => Outcome.returned (some z)) (zv_ren ad em v).symm
  · rintro a s E t ⟨h1, h2, h3, h4, h5⟩ ⟨⟨F', g1, g2⟩, g3⟩
    obtain ⟨F2, k1, k2⟩ := hex _ _ g1
    exact ⟨⟨F2, k2, back s t F' F2 h3 h2 g3 g2 k1⟩, g3.1, fun z hz hn => g3.2 z hz fun hh => hn (hA z hh)⟩
end ZLi
end
section
/-! LockMaster.Row: a row of numbers that no index can make throw -/
section ZR
theorem zcal_mono {Y : zM} {b : Bool} {ix n mc ms : Nat} {sp sp2 : zSp} (h : zCal Y b ix n mc ms sp) (h2 : ∀ as F ok ex, sp2 as F ok ex → sp as F ok ex) : zCal Y b ix n mc ms sp2 :=
  fun pc hd ok ex ls as r kc ks F ok' h3 h4 h5 h6 h7 h8 h9 => h pc hd ok ex ls as r kc ks F ok' h3 h4 h5 h6 h7 (h2 _ _ _ _ h8) h9
def uR (n : Nat) : zU := (2, fun k => match k with
  | 0 => (0, 7, [some 1])
  | _ => (1, n, []))
def uR2 (n : Nat) : zU := (4, fun k => match k with
  | 0 => (0, 7, [some 1])
  | 1 => (1, n, [])
  | 2 => (0, 7, [some 3])
  | _ => (1, n, []))
def zrd (n : Nat) (f : Nat → Int32) (i : Int32) : Int32 := if i < 0 then 0 else if i < Int32.ofNat n then f i.toNatClampNeg else 0
def zwr (n : Nat) (F : zF) (j : Nat) (i v : Int32) : zF := if i < 0 then F else if i < Int32.ofNat n then zup F j i.toNatClampNeg v else F
def zsum (f : Nat → Int32) : Nat → Int32
  | 0 => 0
  | n + 1 => zsum f n + f n
def zcpr (F : zF) (j i n : Nat) : zF := fun a b => if a = j then (if b < n then F i b else F j b) else F a b
theorem vp_in_lt {i : Int32} {n : Nat} (hn : n < 2 ^ 31) (h1 : ¬ i < 0) (h2 : i < Int32.ofNat n) : vp_in i n := by
  obtain ⟨j, hj, rfl⟩ := nI_of h1
  exact vp_in_nI ((nI_ltI hj hn).mp h2) hn
def sR_at (n : Nat) : zSp := fun as F ok _ => match as with
  | [.ref 0, .int i] => ok (some (.int (zrd n (F 1) i))) F
  | _ => False
def sR_put (n : Nat) : zSp := fun as F ok _ => match as with
  | [.ref 0, .int i, .int v] => ok none (zwr n F 1 i v)
  | _ => False
def sR_add (n : Nat) : zSp := fun as F ok _ => match as with
  | [.ref 0, .int i, .int v] => ok none (zwr n F 1 i (zrd n (F 1) i + v))
  | _ => False
def sR_sum (n : Nat) : zSp := fun as F ok _ => match as with
  | [.ref 0] => ok (some (.int (zsum (F 1) n))) F
  | _ => False
def sR_copy (n : Nat) : zSp := fun as F ok _ => match as with
  | [.ref 0, .ref 2] => ok none (zcpr F 1 3 n)
  | _ => False

def kX7_at : List zI := [
  (0, 1, .iload_n 1, [], 0),
  (1, 3, .ifCond .lt 12, [13], 0),
  (4, 1, .iload_n 1, [], 0),
  (5, 1, .aload_n 0, [], 0),
  (6, 3, .getfield 7, [], 0),
  (9, 1, .arraylength, [], 0),
  (10, 3, .if_icmp .lt 7, [17], 0),
  (13, 1, .iconst 0, [], 0),
  (14, 3, .goto 9, [23], 0),
  (17, 1, .aload_n 0, [], 0),
  (18, 3, .getfield 7, [], 0),
  (21, 1, .iload_n 1, [], 0),
  (22, 1, .iaload, [], 0),
  (23, 1, .ireturn, [], 0)]
theorem kX7_at_ok : kX7_at.all (zck cX7_at) = true := by decide +kernel

def rX7_at : Room := { frames := 0, cells := 0, slots := 0, locals := 0 }
abbrev YX7_at (n : Nat) : zM := (RX7, cX7_at, 2, some .int, rX7_at, uR n, zlk fX7, zcs [] [])
theorem YX7_at_ok (n : Nat) : zYok (YX7_at n) := zYok_of fX7_ok znil znil

theorem mX7_at (n : Nat) (hn : n < 2 ^ 31) : zMet (uR n) yX7_at cX7_at 2 (some .int) rX7_at (sR_at n) := by
  refine zmet (Y := YX7_at n) rfl (by decide +kernel) ?_
  intro av F ok ex h
  unfold sR_at at h
  split at h
  · rename_i i
    refine zgo_ok (YX7_at_ok n) zno kX7_at (List.all_eq_true.mp kX7_at_ok) 0 _ _ _ _ _ ?_
    repeat' (first
      | refine And.intro (fun h0 => absurd h0 (by decide)) (fun _ => ?_)
      | refine And.intro (fun _ => ?_) (fun h0 => absurd (by decide) h0)
      | refine And.intro (fun _ => ?_) (fun _ => ?_)
      | refine And.intro (fun _ => ?_) ?_
      | refine Exists.intro ?_ ?_)
    · rename_i h1
      exact zleaf ok h (by simp [zrd, h1]) rfl
    · rename_i h1 h2
      exact vp_in_lt hn h1 h2
    · rename_i h1 h2
      have h2 : i < Int32.ofNat n := h2
      exact zleaf ok h (by simp [zrd, h1, h2]) rfl
    · rename_i h1 h2
      have h2 : ¬ i < Int32.ofNat n := h2
      exact zleaf ok h (by simp [zrd, h1, h2]) rfl
  · exact h.elim

def kX7_put : List zI := [
  (0, 1, .iload_n 1, [], 0),
  (1, 3, .ifCond .lt 19, [20], 0),
  (4, 1, .iload_n 1, [], 0),
  (5, 1, .aload_n 0, [], 0),
  (6, 3, .getfield 7, [], 0),
  (9, 1, .arraylength, [], 0),
  (10, 3, .if_icmp .ge 10, [20], 0),
  (13, 1, .aload_n 0, [], 0),
  (14, 3, .getfield 7, [], 0),
  (17, 1, .iload_n 1, [], 0),
  (18, 1, .iload_n 2, [], 0),
  (19, 1, .iastore, [], 0),
  (20, 1, .return_, [], 0)]
theorem kX7_put_ok : kX7_put.all (zck cX7_put) = true := by decide +kernel

def rX7_put : Room := { frames := 0, cells := 0, slots := 0, locals := 0 }
abbrev YX7_put (n : Nat) : zM := (RX7, cX7_put, 3, none, rX7_put, uR n, zlk fX7, zcs [] [])
theorem YX7_put_ok (n : Nat) : zYok (YX7_put n) := zYok_of fX7_ok znil znil

theorem mX7_put (n : Nat) (hn : n < 2 ^ 31) : zMet (uR n) yX7_put cX7_put 3 (none) rX7_put (sR_put n) := by
  refine zmet (Y := YX7_put n) rfl (by decide +kernel) ?_
  intro av F ok ex h
  unfold sR_put at h
  split at h
  · rename_i i v
    refine zgo_ok (YX7_put_ok n) zno kX7_put (List.all_eq_true.mp kX7_put_ok) 0 _ _ _ _ _ ?_
    repeat' (first
      | refine And.intro (fun h0 => absurd h0 (by decide)) (fun _ => ?_)
      | refine And.intro (fun _ => ?_) (fun h0 => absurd (by decide) h0)
      | refine And.intro (fun _ => ?_) (fun _ => ?_)
      | refine And.intro (fun _ => ?_) ?_
      | refine Exists.intro ?_ ?_)
    · rename_i h1
      exact zleaf ok h rfl (by simp [zwr, h1])
    · rename_i h1 h2
      have h2 : Int32.ofNat n ≤ i := h2
      exact zleaf ok h rfl (by simp [zwr, h1, Int32.not_lt.mpr h2])
    · rename_i h1 h2
      have h2 : ¬ Int32.ofNat n ≤ i := h2
      exact vp_in_lt hn h1 (Int32.not_le.mp h2)
    · rename_i h1 h2
      have h2 : ¬ Int32.ofNat n ≤ i := h2
      exact zleaf ok h rfl (by simp [zwr, h1, Int32.not_le.mp h2])
  · exact h.elim

def kX7_add : List zI := [
  (0, 1, .aload_n 0, [], 0),
  (1, 1, .iload_n 1, [], 0),
  (2, 1, .aload_n 0, [], 0),
  (3, 1, .iload_n 1, [], 0),
  (4, 3, .invokevirtual 13, [], 0),
  (7, 1, .iload_n 2, [], 0),
  (8, 1, .iadd, [], 0),
  (9, 3, .invokevirtual 17, [], 0),
  (12, 1, .return_, [], 0)]
theorem kX7_add_ok : kX7_add.all (zck cX7_add) = true := by decide +kernel

def rX7_add : Room := { frames := 1, cells := 0, slots := 0, locals := 22 }
abbrev YX7_add (n : Nat) : zM := (RX7, cX7_add, 3, none, rX7_add, uR n, zlk fX7, zcs [(13, 2, 0, 0, zvs (uR n) 7 (sR_at n)), (17, 3, 0, 0, zvs (uR n) 7 (sR_put n))] [])
theorem YX7_add_ok (n : Nat) (hn : n < 2 ^ 31) : zYok (YX7_add n) := zYok_of fX7_ok (zall (zcal_mono (zcalV (Y := YX7_add n) (y := yX7_at) (cc := cX7_at) (nL := 2) (ret := some .int) (rm := rX7_at) (mX7_at n hn) 13 1 7 (T := TX7) rfl wX7_13 ⟨by decide +kernel, by decide +kernel, by decide +kernel⟩ (by decide) ⟨Nat.le_of_ble_eq_true rfl, Nat.le_of_ble_eq_true rfl⟩) (fun _ _ _ _ h => zvs_P h)) (zall (zcal_mono (zcalV (Y := YX7_add n) (y := yX7_put) (cc := cX7_put) (nL := 3) (ret := none) (rm := rX7_put) (mX7_put n hn) 17 2 7 (T := TX7) rfl wX7_17 ⟨by decide +kernel, by decide +kernel, by decide +kernel⟩ (by decide) ⟨Nat.le_of_ble_eq_true rfl, Nat.le_of_ble_eq_true rfl⟩) (fun _ _ _ _ h => zvs_P h)) znil)) znil

theorem mX7_add (n : Nat) (hn : n < 2 ^ 31) : zMet (uR n) yX7_add cX7_add 3 (none) rX7_add (sR_add n) := by
  refine zmet (Y := YX7_add n) rfl (by decide +kernel) ?_
  intro av F ok ex h
  unfold sR_add at h
  split at h
  · rename_i i v
    refine zgo_ok (YX7_add_ok n hn) zno kX7_add (List.all_eq_true.mp kX7_add_ok) 0 _ _ _ _ _ ?_
    exact h
  · exact h.elim

def kX7_sum : List zI := [
  (0, 1, .iconst 0, [], 0),
  (1, 1, .istore_n 1, [], 0),
  (2, 1, .iconst 0, [], 0),
  (3, 1, .istore_n 2, [], 0),
  (4, 1, .iload_n 2, [], 0),
  (5, 1, .aload_n 0, [], 0),
  (6, 3, .getfield 7, [], 0),
  (9, 1, .arraylength, [], 0),
  (10, 3, .if_icmp .ge 18, [28], 0),
  (13, 1, .iload_n 1, [], 0),
  (14, 1, .aload_n 0, [], 0),
  (15, 3, .getfield 7, [], 0),
  (18, 1, .iload_n 2, [], 0),
  (19, 1, .iaload, [], 0),
  (20, 1, .iadd, [], 0),
  (21, 1, .istore_n 1, [], 0),
  (22, 3, .iinc 2 1, [], 1),
  (25, 3, .goto (-21), [4], 0),
  (28, 1, .iload_n 1, [], 0),
  (29, 1, .ireturn, [], 0)]
theorem kX7_sum_ok : kX7_sum.all (zck cX7_sum) = true := by decide +kernel

def rX7_sum : Room := { frames := 0, cells := 0, slots := 0, locals := 0 }
abbrev YX7_sum (n : Nat) : zM := (RX7, cX7_sum, 3, some .int, rX7_sum, uR n, zlk fX7, zcs [] [])
theorem YX7_sum_ok (n : Nat) : zYok (YX7_sum n) := zYok_of fX7_ok znil znil

theorem lX7_sum (n : Nat) (hn : n < 2 ^ 31) (ok : zO) (ex : zX) (F : zF) (h : ok (some (.int (zsum (F 1) n))) F) : ∀ (d k : Nat), k + d = n → zWP (YX7_sum n) ok ex 4 [some (.ref 0), some (.int (zsum (F 1) k)), some (.int (nI k))] [] 0 0 F := by
  intro d
  induction d with
  | zero =>
    intro k hk
    refine zat_ok (YX7_sum_ok n) zno kX7_sum (List.all_eq_true.mp kX7_sum_ok) 4 _ _ _ _ _ ?_
    have hk : k = n := hk
    subst hk
    refine And.intro (fun _ => h) (fun h1 => absurd ?_ h1)
    exact nI_le (Nat.le_refl k) hn
  | succ d ih =>
    intro k hk
    have hlt : k < n := by omega
    refine zat_ok (YX7_sum_ok n) (inv := zi1 4 (fun ls st kc ks G => zWP (YX7_sum n) ok ex 4 ls st kc ks G)) (zone fun _ _ _ _ _ h => h) kX7_sum (List.all_eq_true.mp kX7_sum_ok) 4 _ _ _ _ _ ?_
    refine And.intro (fun h1 => absurd (show nI n ≤ nI k from h1) (nI_ge hlt hn)) (fun h1 => ?_)
    refine Exists.intro (vp_in_nI hlt hn) ?_
    have := ih (k + 1) (by omega)
    rw [← nI_1, show zsum (F 1) (k + 1) = zsum (F 1) k + F 1 (nI k).toNatClampNeg by rw [nI_clamp (by omega)]; rfl] at this
    exact this

theorem mX7_sum (n : Nat) (hn : n < 2 ^ 31) : zMet (uR n) yX7_sum cX7_sum 3 (some .int) rX7_sum (sR_sum n) := by
  refine zmet (Y := YX7_sum n) rfl (by decide +kernel) ?_
  intro av F ok ex h
  unfold sR_sum at h
  split at h
  · refine zgo_ok (YX7_sum_ok n) (inv := zi1 4 (fun ls st kc ks G => zWP (YX7_sum n) ok ex 4 ls st kc ks G)) (zone fun _ _ _ _ _ h => h) kX7_sum (List.all_eq_true.mp kX7_sum_ok) 0 _ _ _ _ _ ?_
    exact lX7_sum n hn ok ex F h n 0 (by omega)
  · exact h.elim

end ZR
end
section
/-! a row's copy; a row in any world -/
section ZRu
theorem zcpr_0 (F : zF) (j i : Nat) : zcpr F j i 0 = F := by
  funext a b
  simp only [zcpr, Nat.not_lt_zero, if_false]
  split
  · rename_i h; rw [h]
  · rfl
theorem zcpr_s (F : zF) {j i : Nat} (hji : i ≠ j) (k n : Nat) (hk : k < n) (hn : n < 2 ^ 31) : zup (zcpr F j i k) j (nI k).toNatClampNeg (zrd n (zcpr F j i k i) (nI k)) = zcpr F j i (k + 1) := by
  have hv : zrd n (zcpr F j i k i) (nI k) = F i k := by
    unfold zrd
    have h1 : nI k < Int32.ofNat n := (nI_ltI (Nat.lt_trans hk hn) hn).mpr hk
    rw [if_neg (nI_pos (Nat.lt_trans hk hn)), if_pos h1, nI_clamp (Nat.lt_trans hk hn)]
    simp [zcpr, hji]
  rw [hv, nI_clamp (by omega)]
  funext a b
  simp only [zup, zcpr]
  by_cases ha : a = j
  · simp only [ha, if_true]
    by_cases hb : b = k
    · simp [hb]
    · simp only [hb, if_false]
      by_cases hb2 : b < k
      · simp [hb2, Nat.lt_succ_of_lt hb2]
      · rw [if_neg hb2, if_neg (by omega)]
  · simp [ha]
def zrow (U : zU) (j : Nat) : Option Nat := match U.2 j with
  | (0, 7, [some t]) => match Nat.beq t (j + 1), U.2 (j + 1) with
    | true, (1, n, []) => match Nat.blt (j + 1) U.1 with
      | true => some n
      | false => none
    | _, _ => none
  | _ => none
theorem zrow_ok {U : zU} {j n : Nat} (h : zrow U j = some n) : j + 1 < U.1 ∧ U.2 j = (0, 7, [some (j + 1)]) ∧ U.2 (j + 1) = (1, n, []) := by
  unfold zrow at h
  split at h
  · rename_i t h1
    split at h
    · rename_i n' h2 h3
      have h2 := Nat.eq_of_beq_eq_true h2
      split at h
      · rename_i h4
        cases h
        subst h2
        exact ⟨by simpa using h4, h1, h3⟩
      · cases h
    · cases h
  · cases h
def zsmall (U : zU) : Prop := ∀ k, k < U.1 → (U.2 k).2.1 < 2 ^ 31
def sU_at (U : zU) : zSp := fun as F ok _ => match as with
  | [.ref j, .int i] => match zrow U j with
    | some n => ok (some (.int (zrd n (F (j + 1)) i))) F
    | none => False
  | _ => False
def sU_put (U : zU) : zSp := fun as F ok _ => match as with
  | [.ref j, .int i, .int v] => match zrow U j with
    | some n => ok none (zwr n F (j + 1) i v)
    | none => False
  | _ => False
def sU_add (U : zU) : zSp := fun as F ok _ => match as with
  | [.ref j, .int i, .int v] => match zrow U j with
    | some n => ok none (zwr n F (j + 1) i (zrd n (F (j + 1)) i + v))
    | none => False
  | _ => False
def sU_sum (U : zU) : zSp := fun as F ok _ => match as with
  | [.ref j] => match zrow U j with
    | some n => ok (some (.int (zsum (F (j + 1)) n))) F
    | none => False
  | _ => False
def sU_copy (U : zU) : zSp := fun as F ok _ => match as with
  | [.ref j, .ref i] => match zrow U j, zrow U i, Nat.beq i j with
    | some n, some n', false => match Nat.beq n n' with
      | true => ok none (zcpr F (j + 1) (i + 1) n)
      | false => False
    | _, _, _ => False
  | _ => False
theorem zemb_row {U : zU} {j n : Nat} (h : zrow U j = some n) : zemb (uR n) U (fun k => j + k) := by
  obtain ⟨h1, h2, h3⟩ := zrow_ok h
  refine ⟨fun k hk => ?_, fun a b _ _ hab => (by have hab : j + a = j + b := hab; omega), fun k hk => ?_⟩
  · have hk : k < 2 := hk
    show j + k < U.1
    omega
  · have hk : k < 2 := hk
    rcases (show k = 0 ∨ k = 1 by omega) with rfl | rfl
    · exact h2
    · exact h3
theorem zspl_rf {U' : zU} {em : Nat → Nat} {F : zF} : zspl U' em F (fun k => F (em k)) F := ⟨fun _ _ => rfl, fun _ _ => rfl⟩
theorem zspl_wr {n j : Nat} {F : zF} {i v : Int32} : zspl (uR n) (fun k => j + k) F (zwr n (fun k => F (j + k)) 1 i v) (zwr n F (j + 1) i v) := by
  refine ⟨fun k hk => ?_, fun k hk => ?_⟩
  · unfold zwr
    split
    · rfl
    · split
      · funext b
        simp only [zup]
        by_cases h : k = 1
        · subst h; simp
        · rw [if_neg (by omega), if_neg h]
      · rfl
  · have hk1 : k ≠ j + 1 := fun e => hk 1 (show 1 < 2 by omega) e.symm
    unfold zwr
    split
    · rfl
    · split
      · exact zup_ne F _ _ hk1
      · rfl
theorem mU_at (U : zU) (hU : zsmall U) : zMet U yX7_at cX7_at 2 (some .int) rX7_at (sU_at U) := by
  have hf : ∀ n, n < 2 ^ 31 → zMet (uR n) yX7_at cX7_at 2 (some .int) rX7_at (sR_at n) := mX7_at
  intro l hfl D cA ad F sz av ok ex hsp
  have h := hsp
  unfold sU_at at h
  split at h
  · rename_i j i
    split at h
    · rename_i n hn
      have hlt : n < 2 ^ 31 := by have := hU (j + 1) (zrow_ok hn).1; rw [(zrow_ok hn).2.2] at this; exact this
      exact zlift (sp := fun as G ok' _ => as = [.ref j, .int i] ∧ ok' (some (.int (zrd n (G (j + 1)) i))) G) (hf n hlt) (fun as G ok' ex' h => ⟨fun k => j + k, [.ref 0, .int i], fun q G' => q = some (.int (zrd n (G (j + 1)) i)) ∧ G' = fun k => G (j + k), fun _ _ => False, zemb_row hn, h.1, ⟨rfl, rfl⟩, fun q G' e => ⟨G, by rw [e.2]; exact zspl_rf, by rw [e.1]; exact h.2⟩, fun _ _ e => e.elim⟩) l hfl D cA ad F sz _ ok ex ⟨rfl, h⟩
    · exact h.elim
  · exact h.elim
theorem mU_put (U : zU) (hU : zsmall U) : zMet U yX7_put cX7_put 3 none rX7_put (sU_put U) := by
  intro l hfl D cA ad F sz av ok ex hsp
  have h := hsp
  unfold sU_put at h
  split at h
  · rename_i j i v
    split at h
    · rename_i n hn
      have hlt : n < 2 ^ 31 := by have := hU (j + 1) (zrow_ok hn).1; rw [(zrow_ok hn).2.2] at this; exact this
      exact zlift (sp := fun as G ok' _ => as = [.ref j, .int i, .int v] ∧ ok' none (zwr n G (j + 1) i v)) (mX7_put n hlt) (fun as G ok' ex' h => ⟨fun k => j + k, [.ref 0, .int i, .int v], fun q G' => q = none ∧ G' = zwr n (fun k => G (j + k)) 1 i v, fun _ _ => False, zemb_row hn, h.1, ⟨rfl, rfl⟩, fun q G' e => ⟨zwr n G (j + 1) i v, by rw [e.2]; exact zspl_wr, by rw [e.1]; exact h.2⟩, fun _ _ e => e.elim⟩) l hfl D cA ad F sz _ ok ex ⟨rfl, h⟩
    · exact h.elim
  · exact h.elim
theorem mU_add (U : zU) (hU : zsmall U) : zMet U yX7_add cX7_add 3 none rX7_add (sU_add U) := by
  intro l hfl D cA ad F sz av ok ex hsp
  have h := hsp
  unfold sU_add at h
  split at h
  · rename_i j i v
    split at h
    · rename_i n hn
      have hlt : n < 2 ^ 31 := by have := hU (j + 1) (zrow_ok hn).1; rw [(zrow_ok hn).2.2] at this; exact this
      exact zlift (sp := fun as G ok' _ => as = [.ref j, .int i, .int v] ∧ ok' none (zwr n G (j + 1) i (zrd n (G (j + 1)) i + v))) (mX7_add n hlt) (fun as G ok' ex' h => ⟨fun k => j + k, [.ref 0, .int i, .int v], fun q G' => q = none ∧ G' = zwr n (fun k => G (j + k)) 1 i (zrd n (G (j + 1)) i + v), fun _ _ => False, zemb_row hn, h.1, ⟨rfl, rfl⟩, fun q G' e => ⟨zwr n G (j + 1) i (zrd n (G (j + 1)) i + v), by rw [e.2]; exact zspl_wr, by rw [e.1]; exact h.2⟩, fun _ _ e => e.elim⟩) l hfl D cA ad F sz _ ok ex ⟨rfl, h⟩
    · exact h.elim
  · exact h.elim
theorem mU_sum (U : zU) (hU : zsmall U) : zMet U yX7_sum cX7_sum 3 (some .int) rX7_sum (sU_sum U) := by
  intro l hfl D cA ad F sz av ok ex hsp
  have h := hsp
  unfold sU_sum at h
  split at h
  · rename_i j
    split at h
    · rename_i n hn
      have hlt : n < 2 ^ 31 := by have := hU (j + 1) (zrow_ok hn).1; rw [(zrow_ok hn).2.2] at this; exact this
      exact zlift (sp := fun as G ok' _ => as = [.ref j] ∧ ok' (some (.int (zsum (G (j + 1)) n))) G) (mX7_sum n hlt) (fun as G ok' ex' h => ⟨fun k => j + k, [.ref 0], fun q G' => q = some (.int (zsum (G (j + 1)) n)) ∧ G' = fun k => G (j + k), fun _ _ => False, zemb_row hn, h.1, ⟨rfl, rfl⟩, fun q G' e => ⟨G, by rw [e.2]; exact zspl_rf, by rw [e.1]; exact h.2⟩, fun _ _ e => e.elim⟩) l hfl D cA ad F sz _ ok ex ⟨rfl, h⟩
    · exact h.elim
  · exact h.elim
theorem uR2_small (n : Nat) (hn : n < 2 ^ 31) : zsmall (uR2 n) := by
  intro k hk
  have hk : k < 4 := hk
  rcases (show k = 0 ∨ k = 1 ∨ k = 2 ∨ k = 3 by omega) with rfl | rfl | rfl | rfl
  · show 7 < 2 ^ 31; decide
  · exact hn
  · show 7 < 2 ^ 31; decide
  · exact hn

def kX7_copyFrom : List zI := [
  (0, 1, .iconst 0, [], 0),
  (1, 1, .istore_n 2, [], 0),
  (2, 1, .iload_n 2, [], 0),
  (3, 1, .aload_n 0, [], 0),
  (4, 3, .getfield 7, [], 0),
  (7, 1, .arraylength, [], 0),
  (8, 3, .if_icmp .ge 20, [28], 0),
  (11, 1, .aload_n 0, [], 0),
  (12, 3, .getfield 7, [], 0),
  (15, 1, .iload_n 2, [], 0),
  (16, 1, .aload_n 1, [], 0),
  (17, 1, .iload_n 2, [], 0),
  (18, 3, .invokevirtual 13, [], 0),
  (21, 1, .iastore, [], 0),
  (22, 3, .iinc 2 1, [], 1),
  (25, 3, .goto (-23), [2], 0),
  (28, 1, .return_, [], 0)]
theorem kX7_copyFrom_ok : kX7_copyFrom.all (zck cX7_copyFrom) = true := by decide +kernel

def rX7_copyFrom : Room := { frames := 1, cells := 0, slots := 0, locals := 21 }
abbrev YX7_copyFrom (n : Nat) : zM := (RX7, cX7_copyFrom, 3, none, rX7_copyFrom, uR2 n, zlk fX7, zcs [(13, 2, 0, 0, zvs (uR2 n) 7 (sU_at (uR2 n)))] [])
theorem YX7_copyFrom_ok (n : Nat) (hn : n < 2 ^ 31) : zYok (YX7_copyFrom n) := zYok_of fX7_ok (zall (zcal_mono (zcalV (Y := YX7_copyFrom n) (y := yX7_at) (cc := cX7_at) (nL := 2) (ret := some .int) (rm := rX7_at) (mU_at (uR2 n) (uR2_small n hn)) 13 1 7 (T := TX7) rfl wX7_13 ⟨by decide +kernel, by decide +kernel, by decide +kernel⟩ (by decide) ⟨Nat.le_of_ble_eq_true rfl, Nat.le_of_ble_eq_true rfl⟩) (fun _ _ _ _ h => zvs_P h)) znil) znil

theorem lX7_copyFrom (n : Nat) (hn : n < 2 ^ 31) (ok : zO) (ex : zX) (F : zF) (h : ok none (zcpr F 1 3 n)) : ∀ (d k : Nat), k + d = n → zWP (YX7_copyFrom n) ok ex 2 [some (.ref 0), some (.ref 2), some (.int (nI k))] [] 0 0 (zcpr F 1 3 k) := by
  intro d
  induction d with
  | zero =>
    intro k hk
    refine zat_ok (YX7_copyFrom_ok n hn) zno kX7_copyFrom (List.all_eq_true.mp kX7_copyFrom_ok) 2 _ _ _ _ _ ?_
    have hk : k = n := hk
    subst hk
    refine And.intro (fun _ => h) (fun h1 => absurd ?_ h1)
    exact nI_le (Nat.le_refl k) hn
  | succ d ih =>
    intro k hk
    have hlt : k < n := by omega
    refine zat_ok (YX7_copyFrom_ok n hn) (inv := zi1 2 (fun ls st kc ks G => zWP (YX7_copyFrom n) ok ex 2 ls st kc ks G)) (zone fun _ _ _ _ _ h => h) kX7_copyFrom (List.all_eq_true.mp kX7_copyFrom_ok) 2 _ _ _ _ _ ?_
    refine And.intro (fun h1 => absurd (show nI n ≤ nI k from h1) (nI_ge hlt hn)) (fun h1 => ?_)
    refine Exists.intro (vp_in_nI hlt hn) ?_
    have := ih (k + 1) (by omega)
    rw [← nI_1, ← zcpr_s F (by decide) k n hlt hn] at this
    exact this

theorem mX7_copyFrom (n : Nat) (hn : n < 2 ^ 31) : zMet (uR2 n) yX7_copyFrom cX7_copyFrom 3 (none) rX7_copyFrom (sR_copy n) := by
  refine zmet (Y := YX7_copyFrom n) rfl (by decide +kernel) ?_
  intro av F ok ex h
  unfold sR_copy at h
  split at h
  · refine zgo_ok (YX7_copyFrom_ok n hn) (inv := zi1 2 (fun ls st kc ks G => zWP (YX7_copyFrom n) ok ex 2 ls st kc ks G)) (zone fun _ _ _ _ _ h => h) kX7_copyFrom (List.all_eq_true.mp kX7_copyFrom_ok) 0 _ _ _ _ _ ?_
    have := lX7_copyFrom n hn ok ex F h n 0 (by omega)
    rw [zcpr_0] at this
    exact this
  · exact h.elim

theorem zemb_row2 {U : zU} {i j n : Nat} (h : zrow U j = some n) (h' : zrow U i = some n) (hij : i ≠ j) : zemb (uR2 n) U (fun k => if k < 2 then j + k else i + (k - 2)) := by
  obtain ⟨h1, h2, h3⟩ := zrow_ok h
  obtain ⟨h1', h2', h3'⟩ := zrow_ok h'
  have a1 : i + 1 ≠ j := fun e => by rw [e, h2] at h3'; cases h3'
  have a2 : j + 1 ≠ i := fun e => by rw [e, h2'] at h3; cases h3
  refine ⟨fun k hk => ?_, fun a b ha hb hab => ?_, fun k hk => ?_⟩
  · have hk : k < 4 := hk
    dsimp only
    split <;> omega
  · have ha : a < 4 := ha
    have hb : b < 4 := hb
    dsimp only at hab
    split at hab <;> split at hab <;> omega
  · have hk : k < 4 := hk
    rcases (show k = 0 ∨ k = 1 ∨ k = 2 ∨ k = 3 by omega) with rfl | rfl | rfl | rfl
    · exact h2
    · exact h3
    · exact h2'
    · exact h3'
theorem mU_copy (U : zU) (hU : zsmall U) : zMet U yX7_copyFrom cX7_copyFrom 3 none rX7_copyFrom (sU_copy U) := by
  intro l hfl D cA ad F sz av ok ex hsp
  have h := hsp
  unfold sU_copy at h
  split at h
  · rename_i j i
    split at h
    · rename_i n n' hn hn' hij
      split at h
      · rename_i hnn
        have hnn := Nat.eq_of_beq_eq_true hnn
        subst hnn
        have hij : i ≠ j := fun e => by rw [e] at hij; simp at hij
        have hlt : n < 2 ^ 31 := by have := hU (j + 1) (zrow_ok hn).1; rw [(zrow_ok hn).2.2] at this; exact this
        obtain ⟨-, q1, q2⟩ := zrow_ok hn
        obtain ⟨-, q3, q4⟩ := zrow_ok hn'
        have a1 : i + 1 ≠ j := fun e => by rw [e, q1] at q4; cases q4
        have a2 : j + 1 ≠ i := fun e => by rw [e, q3] at q2; cases q2
        refine zlift (sp := fun as G ok' _ => as = [.ref j, .ref i] ∧ ok' none (zcpr G (j + 1) (i + 1) n)) (mX7_copyFrom n hlt) (fun as G ok' ex' h => ⟨fun k => if k < 2 then j + k else i + (k - 2), [.ref 0, .ref 2], fun q G' => q = none ∧ G' = zcpr (fun k => G (if k < 2 then j + k else i + (k - 2))) 1 3 n, fun _ _ => False, zemb_row2 hn hn' hij, h.1, ⟨rfl, rfl⟩, fun q G' e => ⟨zcpr G (j + 1) (i + 1) n, ⟨fun k hk => ?_, fun k hk => ?_⟩, by rw [e.1]; exact h.2⟩, fun _ _ e => e.elim⟩) l hfl D cA ad F sz _ ok ex ⟨rfl, h⟩
        · have hk : k < 4 := hk
          rw [e.2]
          funext b
          rcases (show k = 0 ∨ k = 1 ∨ k = 2 ∨ k = 3 by omega) with rfl | rfl | rfl | rfl
          · simp [zcpr]
          · simp [zcpr]
          · simp [zcpr, a2.symm]
          · simp [zcpr, hij]
        · have hk1 : k ≠ j + 1 := fun e => hk 1 (show 1 < 4 by omega) e.symm
          funext b
          simp [zcpr, hk1]
      · exact h.elim
    · exact h.elim
  · exact h.elim
end ZRu
end
section
/-! the world of one canal; whole numbers of the JDK; loops that count -/
section ZC0
def lC : List zS := [(0, 1, [some 1, some 8, some 25, some 44, none, none, none, none, none, none, none]),
  (0, 6, [some 2, some 4, some 6, none]),
  (0, 7, [some 3]),
  (1, 5, []),
  (0, 7, [some 5]),
  (1, 5, []),
  (0, 7, [some 7]),
  (1, 5, []),
  (0, 5, [some 9, some 11, some 13, some 15, some 17, some 19, some 21, some 23, none, none]),
  (0, 7, [some 10]),
  (1, 4, []),
  (0, 7, [some 12]),
  (1, 4, []),
  (0, 7, [some 14]),
  (1, 4, []),
  (0, 7, [some 16]),
  (1, 4, []),
  (0, 7, [some 18]),
  (1, 4, []),
  (0, 7, [some 20]),
  (1, 4, []),
  (0, 7, [some 22]),
  (1, 4, []),
  (0, 7, [some 24]),
  (1, 4, []),
  (0, 3, [some 26, some 28, some 30, some 32, some 34, some 36, some 38, some 40, some 42, none]),
  (0, 7, [some 27]),
  (1, 16, []),
  (0, 7, [some 29]),
  (1, 16, []),
  (0, 7, [some 31]),
  (1, 16, []),
  (0, 7, [some 33]),
  (1, 16, []),
  (0, 7, [some 35]),
  (1, 16, []),
  (0, 7, [some 37]),
  (1, 16, []),
  (0, 7, [some 39]),
  (1, 16, []),
  (0, 7, [some 41]),
  (1, 16, []),
  (0, 7, [some 43]),
  (1, 16, []),
  (0, 4, [none, none, none, none])]
def UC : zU := (45, fun k => (znth lC k).getD (1, 0, []))
theorem UC_small : zsmall UC := by
  have h : ∀ k, k < 45 → (UC.2 k).2.1 < 2 ^ 31 := by decide +kernel
  exact h
theorem zcnt_lt {c : Int32} {k : Nat} (h : k < c.toNatClampNeg) : ¬ c ≤ nI k := by
  have h2 : c.toNatClampNeg = c.toInt.toNat := rfl
  have h3 := Int32.toInt_lt c
  intro h1
  have h4 := Int32.le_iff_toInt_le.mp h1
  rw [nI_toInt (by omega)] at h4
  omega
theorem zcnt_ge (c : Int32) : c ≤ nI c.toNatClampNeg := by
  have h2 : c.toNatClampNeg = c.toInt.toNat := rfl
  have h3 := Int32.toInt_lt c
  rw [Int32.le_iff_toInt_le, nI_toInt (by omega)]
  omega
theorem zcnt_bd (c : Int32) : c.toNatClampNeg < 2 ^ 31 := by
  have h2 : c.toNatClampNeg = c.toInt.toNat := rfl
  have h3 := Int32.toInt_lt c
  omega
theorem zwr_ne (n : Nat) (F : zF) {j k : Nat} (i v : Int32) (h : k ≠ j) : zwr n F j i v k = F k := by
  unfold zwr
  split
  · rfl
  · split
    · exact zup_ne F _ _ h
    · rfl
theorem zup_at (F : zF) (j i : Nat) (v : Int32) : zup F j i v j i = v := by simp [zup]
theorem zup_an (F : zF) (j : Nat) {i b : Nat} (v : Int32) (h : b ≠ i) : zup F j i v j b = F j b := by simp [zup, h]
/-- an answer of yes or no -/
def zbo (c : Prop) (F : zF) (ok : zO) : Prop := (c → ok (some (.int 1)) F) ∧ (¬ c → ok (some (.int 0)) F)
def imax (x y : Int32) : Int32 := if x < y then y else x
def imin (x y : Int32) : Int32 := if y < x then y else x
def sJ9_max_7cf53 : zSp := fun as F ok _ => match as with
  | [.int x, .int y] => ok (some (.int (imax x y))) F
  | _ => False
def sJ9_min_7cf53 : zSp := fun as F ok _ => match as with
  | [.int x, .int y] => ok (some (.int (imin x y))) F
  | _ => False

def kJ9_max_7cf53 : List zI := [
  (0, 1, .iload_n 0, [], 0),
  (1, 1, .iload_n 1, [], 0),
  (2, 3, .if_icmp .lt 7, [9], 0),
  (5, 1, .iload_n 0, [], 0),
  (6, 3, .goto 4, [10], 0),
  (9, 1, .iload_n 1, [], 0),
  (10, 1, .ireturn, [], 0)]
theorem kJ9_max_7cf53_ok : kJ9_max_7cf53.all (zck cJ9_max_7cf53) = true := by decide +kernel

def rJ9_max_7cf53 : Room := { frames := 0, cells := 0, slots := 0, locals := 0 }
abbrev YJ9_max_7cf53 (U : zU) : zM := (RJ9, cJ9_max_7cf53, 2, some .int, rJ9_max_7cf53, U, zlk ([] : List (Nat × Nat × Nat × Nat)), zcs [] [])
theorem YJ9_max_7cf53_ok (U : zU) : zYok (YJ9_max_7cf53 U) := zYok_of rfl znil znil

theorem mJ9_max_7cf53 (U : zU) : zMet (U) yJ9_max_7cf53 cJ9_max_7cf53 2 (some .int) rJ9_max_7cf53 (sJ9_max_7cf53) := by
  refine zmet (Y := YJ9_max_7cf53 U) rfl (by decide +kernel) ?_
  intro av F ok ex h
  unfold sJ9_max_7cf53 at h
  split at h
  · rename_i x y
    refine zgo_ok (YJ9_max_7cf53_ok U) zno kJ9_max_7cf53 (List.all_eq_true.mp kJ9_max_7cf53_ok) 0 _ _ _ _ _ ?_
    repeat' (first
      | refine And.intro (fun h0 => absurd h0 (by decide)) (fun _ => ?_)
      | refine And.intro (fun _ => ?_) (fun h0 => absurd (by decide) h0)
      | refine And.intro (fun _ => ?_) (fun _ => ?_)
      | refine And.intro (fun _ => ?_) ?_
      | refine Exists.intro ?_ ?_)
    · rename_i h1
      exact zleaf ok h (by simp [imax, h1]) rfl
    · rename_i h1
      exact zleaf ok h (by simp [imax, h1]) rfl
  · exact h.elim

def kJ9_min_7cf53 : List zI := [
  (0, 1, .iload_n 0, [], 0),
  (1, 1, .iload_n 1, [], 0),
  (2, 3, .if_icmp .gt 7, [9], 0),
  (5, 1, .iload_n 0, [], 0),
  (6, 3, .goto 4, [10], 0),
  (9, 1, .iload_n 1, [], 0),
  (10, 1, .ireturn, [], 0)]
theorem kJ9_min_7cf53_ok : kJ9_min_7cf53.all (zck cJ9_min_7cf53) = true := by decide +kernel

def rJ9_min_7cf53 : Room := { frames := 0, cells := 0, slots := 0, locals := 0 }
abbrev YJ9_min_7cf53 (U : zU) : zM := (RJ9, cJ9_min_7cf53, 2, some .int, rJ9_min_7cf53, U, zlk ([] : List (Nat × Nat × Nat × Nat)), zcs [] [])
theorem YJ9_min_7cf53_ok (U : zU) : zYok (YJ9_min_7cf53 U) := zYok_of rfl znil znil

theorem mJ9_min_7cf53 (U : zU) : zMet (U) yJ9_min_7cf53 cJ9_min_7cf53 2 (some .int) rJ9_min_7cf53 (sJ9_min_7cf53) := by
  refine zmet (Y := YJ9_min_7cf53 U) rfl (by decide +kernel) ?_
  intro av F ok ex h
  unfold sJ9_min_7cf53 at h
  split at h
  · rename_i x y
    refine zgo_ok (YJ9_min_7cf53_ok U) zno kJ9_min_7cf53 (List.all_eq_true.mp kJ9_min_7cf53_ok) 0 _ _ _ _ _ ?_
    repeat' (first
      | refine And.intro (fun h0 => absurd h0 (by decide)) (fun _ => ?_)
      | refine And.intro (fun _ => ?_) (fun h0 => absurd (by decide) h0)
      | refine And.intro (fun _ => ?_) (fun _ => ?_)
      | refine And.intro (fun _ => ?_) ?_
      | refine Exists.intro ?_ ?_)
    · rename_i h1
      exact zleaf ok h (by simp [imin, h1]) rfl
    · rename_i h1
      exact zleaf ok h (by simp [imin, h1]) rfl
  · exact h.elim

end ZC0
end
section
/-! LockMaster.Reaches, LockMaster.Locks, in the world of a canal -/
section ZRL
abbrev qA (F : zF) (i : Int32) : Int32 := zrd 5 (F 3) i
abbrev qN (F : zF) (i : Int32) : Int32 := zrd 5 (F 5) i
abbrev qW (F : zF) (i : Int32) : Int32 := zrd 5 (F 7) i
def qLev (F : zF) (i : Int32) : Int32 := if qA F i < 1 then 0 else qW F i / qA F i
def qLack (F : zF) (i : Int32) : Int32 := qA F i * qN F i - qW F i
def qDry (F : zF) (i : Int32) : Int32 := if qLack F i ≤ 2 * qA F i then 0 else if qLack F i ≤ 6 * qA F i then 1 else 2
def sX6_make : zSp := fun as F ok _ => match as with
  | [.ref 1, .int a, .int l] => ok (some (.int (F 1 3))) (zup (zwr 5 (zwr 5 (zwr 5 F 3 (F 1 3) a) 5 (F 1 3) l) 7 (F 1 3) (a * l)) 1 3 (F 1 3 + 1))
  | _ => False
def sX6_levelOf : zSp := fun as F ok _ => match as with
  | [.ref 1, .int i] => ok (some (.int (qLev F i))) F
  | _ => False
def sX6_drynessOf : zSp := fun as F ok _ => match as with
  | [.ref 1, .int i] => ok (some (.int (qDry F i))) F
  | _ => False
/-- one reach spills: what comes in, the reach -/
def qSp1 (F : zF) (c i : Int32) : zF × Int32 := if qN (zwr 5 F 7 i (qW F i + c)) i < qLev (zwr 5 F 7 i (qW F i + c)) i then
  (zwr 5 (zwr 5 F 7 i (qW F i + c)) 7 i (qW (zwr 5 F 7 i (qW F i + c)) i + -(qW (zwr 5 F 7 i (qW F i + c)) i - qA (zwr 5 F 7 i (qW F i + c)) i * qN (zwr 5 F 7 i (qW F i + c)) i)), qW (zwr 5 F 7 i (qW F i + c)) i - qA (zwr 5 F 7 i (qW F i + c)) i * qN (zwr 5 F 7 i (qW F i + c)) i)
  else (zwr 5 F 7 i (qW F i + c), 0)
def qSp (F : zF) : Nat → zF × Int32
  | 0 => (F, 0)
  | k + 1 => qSp1 (qSp F k).1 (qSp F k).2 (nI k)
theorem qSp1_3 (F : zF) (c i : Int32) (k : Nat) (h : k ≠ 7) : (qSp1 F c i).1 k = F k := by
  unfold qSp1
  split
  · show zwr 5 (zwr 5 F 7 i _) 7 i _ k = F k
    rw [zwr_ne _ _ _ _ h, zwr_ne _ _ _ _ h]
  · exact zwr_ne _ _ _ _ h
theorem qSp_3 (F : zF) (n k : Nat) (h : k ≠ 7) : (qSp F n).1 k = F k := by
  induction n with
  | zero => rfl
  | succ n ih => exact (qSp1_3 _ _ _ _ h).trans ih
def sX6_spill : zSp := fun as F ok _ => match as with
  | [.ref 1] => ok (some (.int (qSp F (F 1 3).toNatClampNeg).2)) (qSp F (F 1 3).toNatClampNeg).1
  | _ => False

def kX6_make : List zI := [
  (0, 1, .aload_n 0, [], 0),
  (1, 3, .getfield 14, [], 0),
  (4, 1, .aload_n 0, [], 0),
  (5, 3, .getfield 26, [], 0),
  (8, 1, .iload_n 1, [], 0),
  (9, 3, .invokevirtual 30, [], 0),
  (12, 1, .aload_n 0, [], 0),
  (13, 3, .getfield 20, [], 0),
  (16, 1, .aload_n 0, [], 0),
  (17, 3, .getfield 26, [], 0),
  (20, 1, .iload_n 2, [], 0),
  (21, 3, .invokevirtual 30, [], 0),
  (24, 1, .aload_n 0, [], 0),
  (25, 3, .getfield 23, [], 0),
  (28, 1, .aload_n 0, [], 0),
  (29, 3, .getfield 26, [], 0),
  (32, 1, .iload_n 1, [], 0),
  (33, 1, .iload_n 2, [], 0),
  (34, 1, .imul, [], 0),
  (35, 3, .invokevirtual 30, [], 0),
  (38, 1, .aload_n 0, [], 0),
  (39, 1, .dup, [], 0),
  (40, 3, .getfield 26, [], 0),
  (43, 1, .iconst 1, [], 1),
  (44, 1, .iadd, [], 0),
  (45, 3, .putfield 26, [], 0),
  (48, 1, .aload_n 0, [], 0),
  (49, 3, .getfield 26, [], 0),
  (52, 1, .iconst 1, [], 1),
  (53, 1, .isub, [], 0),
  (54, 1, .ireturn, [], 0)]
theorem kX6_make_ok : kX6_make.all (zck cX6_make) = true := by decide +kernel

def rX6_make : Room := { frames := 1, cells := 0, slots := 0, locals := 22 }
abbrev YX6_make : zM := (RX6, cX6_make, 3, some .int, rX6_make, UC, zlk fX6, zcs [(30, 3, 0, 0, zvs (UC) 7 (sU_put UC))] [])
theorem YX6_make_ok : zYok (YX6_make) := zYok_of fX6_ok (zall (zcal_mono (zcalV (Y := YX6_make) (y := yX7_put) (cc := cX7_put) (nL := 3) (ret := none) (rm := rX7_put) (mU_put UC UC_small) 30 2 7 (T := TX7) rfl wX6_30 ⟨by decide +kernel, by decide +kernel, by decide +kernel⟩ (by decide) ⟨Nat.le_of_ble_eq_true rfl, Nat.le_of_ble_eq_true rfl⟩) (fun _ _ _ _ h => zvs_P h)) znil) znil

theorem mX6_make : zMet (UC) yX6_make cX6_make 3 (some .int) rX6_make (sX6_make) := by
  refine zmet (Y := YX6_make) rfl (by decide +kernel) ?_
  intro av F ok ex h
  unfold sX6_make at h
  split at h
  · rename_i a l
    refine zgo_ok (YX6_make_ok) zno kX6_make (List.all_eq_true.mp kX6_make_ok) 0 _ _ _ _ _ ?_
    refine zleaf ok h ?_ ?_
    · congr 2
      show F 1 3 = zup _ 1 3 (zwr 5 (zwr 5 (zwr 5 F 3 (F 1 3) a) 5 _ l) 7 _ (a * l) 1 3 + 1) 1 3 - 1
      rw [zup_at, zwr_ne _ _ _ _ (by decide), zwr_ne _ _ _ _ (by decide), zwr_ne _ _ _ _ (by decide), Int32.add_sub_cancel]
    · show _ = zup (zwr 5 (zwr 5 (zwr 5 F 3 (F 1 3) a) 5 (zwr 5 F 3 (F 1 3) a 1 3) l) 7 (zwr 5 (zwr 5 F 3 (F 1 3) a) 5 (zwr 5 F 3 (F 1 3) a 1 3) l 1 3) (a * l)) 1 3 (zwr 5 (zwr 5 (zwr 5 F 3 (F 1 3) a) 5 (zwr 5 F 3 (F 1 3) a 1 3) l) 7 (zwr 5 (zwr 5 F 3 (F 1 3) a) 5 (zwr 5 F 3 (F 1 3) a 1 3) l 1 3) (a * l) 1 3 + 1)
      simp only [zwr_ne _ _ _ _ (show 1 ≠ 3 by decide), zwr_ne _ _ _ _ (show 1 ≠ 5 by decide), zwr_ne _ _ _ _ (show 1 ≠ 7 by decide)]
  · exact h.elim

def kX6_levelOf : List zI := [
  (0, 1, .aload_n 0, [], 0),
  (1, 3, .getfield 14, [], 0),
  (4, 1, .iload_n 1, [], 0),
  (5, 3, .invokevirtual 34, [], 0),
  (8, 1, .istore_n 2, [], 0),
  (9, 1, .iload_n 2, [], 0),
  (10, 1, .iconst 1, [], 1),
  (11, 3, .if_icmp .ge 7, [18], 0),
  (14, 1, .iconst 0, [], 0),
  (15, 3, .goto 13, [28], 0),
  (18, 1, .aload_n 0, [], 0),
  (19, 3, .getfield 23, [], 0),
  (22, 1, .iload_n 1, [], 0),
  (23, 3, .invokevirtual 34, [], 0),
  (26, 1, .iload_n 2, [], 0),
  (27, 1, .idiv, [], 0),
  (28, 1, .ireturn, [], 0)]
theorem kX6_levelOf_ok : kX6_levelOf.all (zck cX6_levelOf) = true := by decide +kernel

def rX6_levelOf : Room := { frames := 1, cells := 0, slots := 0, locals := 21 }
abbrev YX6_levelOf : zM := (RX6, cX6_levelOf, 3, some .int, rX6_levelOf, UC, zlk fX6, zcs [(34, 2, 0, 0, zvs (UC) 7 (sU_at UC))] [])
theorem YX6_levelOf_ok : zYok (YX6_levelOf) := zYok_of fX6_ok (zall (zcal_mono (zcalV (Y := YX6_levelOf) (y := yX7_at) (cc := cX7_at) (nL := 2) (ret := some .int) (rm := rX7_at) (mU_at UC UC_small) 34 1 7 (T := TX7) rfl wX6_34 ⟨by decide +kernel, by decide +kernel, by decide +kernel⟩ (by decide) ⟨Nat.le_of_ble_eq_true rfl, Nat.le_of_ble_eq_true rfl⟩) (fun _ _ _ _ h => zvs_P h)) znil) znil

theorem mX6_levelOf : zMet (UC) yX6_levelOf cX6_levelOf 3 (some .int) rX6_levelOf (sX6_levelOf) := by
  refine zmet (Y := YX6_levelOf) rfl (by decide +kernel) ?_
  intro av F ok ex h
  unfold sX6_levelOf at h
  split at h
  · rename_i i
    refine zgo_ok (YX6_levelOf_ok) zno kX6_levelOf (List.all_eq_true.mp kX6_levelOf_ok) 0 _ _ _ _ _ ?_
    repeat' (first
      | refine And.intro (fun h0 => absurd h0 (by decide)) (fun _ => ?_)
      | refine And.intro (fun _ => ?_) (fun h0 => absurd (by decide) h0)
      | refine And.intro (fun _ => ?_) (fun _ => ?_)
      | refine And.intro (fun _ => ?_) ?_
      | refine Exists.intro ?_ ?_)
    · rename_i h1
      have h1 : 1 ≤ qA F i := h1
      intro h2
      have h2 : qA F i = 0 := h2
      rw [h2] at h1
      exact absurd h1 (by decide)
    · rename_i h1
      have h1 : 1 ≤ qA F i := h1
      exact zleaf ok h (by simp only [qLev, if_neg (Int32.not_lt.mpr h1)]) rfl
    · rename_i h1
      have h1 : ¬ 1 ≤ qA F i := h1
      exact zleaf ok h (by simp only [qLev, if_pos (Int32.not_le.mp h1)]) rfl
  · exact h.elim

def kX6_drynessOf : List zI := [
  (0, 1, .aload_n 0, [], 0),
  (1, 3, .getfield 14, [], 0),
  (4, 1, .iload_n 1, [], 0),
  (5, 3, .invokevirtual 34, [], 0),
  (8, 1, .aload_n 0, [], 0),
  (9, 3, .getfield 20, [], 0),
  (12, 1, .iload_n 1, [], 0),
  (13, 3, .invokevirtual 34, [], 0),
  (16, 1, .imul, [], 0),
  (17, 1, .aload_n 0, [], 0),
  (18, 3, .getfield 23, [], 0),
  (21, 1, .iload_n 1, [], 0),
  (22, 3, .invokevirtual 34, [], 0),
  (25, 1, .isub, [], 0),
  (26, 1, .istore_n 2, [], 0),
  (27, 1, .iload_n 2, [], 0),
  (28, 1, .iconst 2, [], 2),
  (29, 1, .aload_n 0, [], 0),
  (30, 3, .getfield 14, [], 0),
  (33, 1, .iload_n 1, [], 0),
  (34, 3, .invokevirtual 34, [], 0),
  (37, 1, .imul, [], 0),
  (38, 3, .if_icmp .gt 7, [45], 0),
  (41, 1, .iconst 0, [], 0),
  (42, 3, .goto 23, [65], 0),
  (45, 1, .iload_n 2, [], 0),
  (46, 2, .bipush 6, [], 6),
  (48, 1, .aload_n 0, [], 0),
  (49, 3, .getfield 14, [], 0),
  (52, 1, .iload_n 1, [], 0),
  (53, 3, .invokevirtual 34, [], 0),
  (56, 1, .imul, [], 0),
  (57, 3, .if_icmp .gt 7, [64], 0),
  (60, 1, .iconst 1, [], 1),
  (61, 3, .goto 4, [65], 0),
  (64, 1, .iconst 2, [], 2),
  (65, 1, .ireturn, [], 0)]
theorem kX6_drynessOf_ok : kX6_drynessOf.all (zck cX6_drynessOf) = true := by decide +kernel

def rX6_drynessOf : Room := { frames := 1, cells := 0, slots := 0, locals := 21 }
abbrev YX6_drynessOf : zM := (RX6, cX6_drynessOf, 3, some .int, rX6_drynessOf, UC, zlk fX6, zcs [(34, 2, 0, 0, zvs (UC) 7 (sU_at UC))] [])
theorem YX6_drynessOf_ok : zYok (YX6_drynessOf) := zYok_of fX6_ok (zall (zcal_mono (zcalV (Y := YX6_drynessOf) (y := yX7_at) (cc := cX7_at) (nL := 2) (ret := some .int) (rm := rX7_at) (mU_at UC UC_small) 34 1 7 (T := TX7) rfl wX6_34 ⟨by decide +kernel, by decide +kernel, by decide +kernel⟩ (by decide) ⟨Nat.le_of_ble_eq_true rfl, Nat.le_of_ble_eq_true rfl⟩) (fun _ _ _ _ h => zvs_P h)) znil) znil

theorem mX6_drynessOf : zMet (UC) yX6_drynessOf cX6_drynessOf 3 (some .int) rX6_drynessOf (sX6_drynessOf) := by
  refine zmet (Y := YX6_drynessOf) rfl (by decide +kernel) ?_
  intro av F ok ex h
  unfold sX6_drynessOf at h
  split at h
  · rename_i i
    refine zgo_ok (YX6_drynessOf_ok) zno kX6_drynessOf (List.all_eq_true.mp kX6_drynessOf_ok) 0 _ _ _ _ _ ?_
    repeat' (first
      | refine And.intro (fun h0 => absurd h0 (by decide)) (fun _ => ?_)
      | refine And.intro (fun _ => ?_) (fun h0 => absurd (by decide) h0)
      | refine And.intro (fun _ => ?_) (fun _ => ?_)
      | refine And.intro (fun _ => ?_) ?_
      | refine Exists.intro ?_ ?_)
    · rename_i h1 h2
      have h1 : 2 * qA F i < qLack F i := h1
      have h2 : 6 * qA F i < qLack F i := h2
      exact zleaf ok h (by simp only [qDry, if_neg (Int32.not_le.mpr h1), if_neg (Int32.not_le.mpr h2)]) rfl
    · rename_i h1 h2
      have h1 : 2 * qA F i < qLack F i := h1
      have h2 : ¬ 6 * qA F i < qLack F i := h2
      exact zleaf ok h (by simp only [qDry, if_neg (Int32.not_le.mpr h1), if_pos (Int32.not_lt.mp h2)]) rfl
    · rename_i h1
      have h1 : ¬ 2 * qA F i < qLack F i := h1
      exact zleaf ok h (by simp only [qDry, if_pos (Int32.not_lt.mp h1)]) rfl
  · exact h.elim

def kX6_spill : List zI := [
  (0, 1, .iconst 0, [], 0),
  (1, 1, .istore_n 1, [], 0),
  (2, 1, .iconst 0, [], 0),
  (3, 1, .istore_n 2, [], 0),
  (4, 1, .iload_n 2, [], 0),
  (5, 1, .aload_n 0, [], 0),
  (6, 3, .getfield 26, [], 0),
  (9, 3, .if_icmp .ge 73, [82], 0),
  (12, 1, .aload_n 0, [], 0),
  (13, 3, .getfield 23, [], 0),
  (16, 1, .iload_n 2, [], 0),
  (17, 1, .iload_n 1, [], 0),
  (18, 3, .invokevirtual 38, [], 0),
  (21, 1, .iconst 0, [], 0),
  (22, 1, .istore_n 1, [], 0),
  (23, 1, .aload_n 0, [], 0),
  (24, 1, .iload_n 2, [], 0),
  (25, 3, .invokevirtual 41, [], 0),
  (28, 1, .aload_n 0, [], 0),
  (29, 3, .getfield 20, [], 0),
  (32, 1, .iload_n 2, [], 0),
  (33, 3, .invokevirtual 34, [], 0),
  (36, 3, .if_icmp .le 40, [76], 0),
  (39, 1, .aload_n 0, [], 0),
  (40, 3, .getfield 23, [], 0),
  (43, 1, .iload_n 2, [], 0),
  (44, 3, .invokevirtual 34, [], 0),
  (47, 1, .aload_n 0, [], 0),
  (48, 3, .getfield 14, [], 0),
  (51, 1, .iload_n 2, [], 0),
  (52, 3, .invokevirtual 34, [], 0),
  (55, 1, .aload_n 0, [], 0),
  (56, 3, .getfield 20, [], 0),
  (59, 1, .iload_n 2, [], 0),
  (60, 3, .invokevirtual 34, [], 0),
  (63, 1, .imul, [], 0),
  (64, 1, .isub, [], 0),
  (65, 1, .istore_n 1, [], 0),
  (66, 1, .aload_n 0, [], 0),
  (67, 3, .getfield 23, [], 0),
  (70, 1, .iload_n 2, [], 0),
  (71, 1, .iload_n 1, [], 0),
  (72, 1, .ineg, [], 0),
  (73, 3, .invokevirtual 38, [], 0),
  (76, 3, .iinc 2 1, [], 1),
  (79, 3, .goto (-75), [4], 0),
  (82, 1, .iload_n 1, [], 0),
  (83, 1, .ireturn, [], 0)]
theorem kX6_spill_ok : kX6_spill.all (zck cX6_spill) = true := by decide +kernel

def rX6_spill : Room := { frames := 2, cells := 0, slots := 0, locals := 44 }
abbrev YX6_spill : zM := (RX6, cX6_spill, 3, some .int, rX6_spill, UC, zlk fX6, zcs [(38, 3, 0, 0, zvs (UC) 7 (sU_add UC)), (41, 2, 0, 0, zvs (UC) 6 (sX6_levelOf)), (34, 2, 0, 0, zvs (UC) 7 (sU_at UC))] [])
theorem YX6_spill_ok : zYok (YX6_spill) := zYok_of fX6_ok (zall (zcal_mono (zcalV (Y := YX6_spill) (y := yX7_add) (cc := cX7_add) (nL := 3) (ret := none) (rm := rX7_add) (mU_add UC UC_small) 38 2 7 (T := TX7) rfl wX6_38 ⟨by decide +kernel, by decide +kernel, by decide +kernel⟩ (by decide) ⟨Nat.le_of_ble_eq_true rfl, Nat.le_of_ble_eq_true rfl⟩) (fun _ _ _ _ h => zvs_P h)) (zall (zcal_mono (zcalV (Y := YX6_spill) (y := yX6_levelOf) (cc := cX6_levelOf) (nL := 3) (ret := some .int) (rm := rX6_levelOf) (mX6_levelOf) 41 1 6 (T := TX6) rfl wX6_41 ⟨by decide +kernel, by decide +kernel, by decide +kernel⟩ (by decide) ⟨Nat.le_of_ble_eq_true rfl, Nat.le_of_ble_eq_true rfl⟩) (fun _ _ _ _ h => zvs_P h)) (zall (zcal_mono (zcalV (Y := YX6_spill) (y := yX7_at) (cc := cX7_at) (nL := 2) (ret := some .int) (rm := rX7_at) (mU_at UC UC_small) 34 1 7 (T := TX7) rfl wX6_34 ⟨by decide +kernel, by decide +kernel, by decide +kernel⟩ (by decide) ⟨Nat.le_of_ble_eq_true rfl, Nat.le_of_ble_eq_true rfl⟩) (fun _ _ _ _ h => zvs_P h)) znil))) znil

theorem lX6_spill (ok : zO) (ex : zX) (F : zF) (h : ok (some (.int (qSp F (F 1 3).toNatClampNeg).2)) (qSp F (F 1 3).toNatClampNeg).1) : ∀ (d k : Nat), k + d = (F 1 3).toNatClampNeg → zWP YX6_spill ok ex 4 [some (.ref 1), some (.int (qSp F k).2), some (.int (nI k))] [] 0 0 (qSp F k).1 := by
  intro d
  induction d with
  | zero =>
    intro k hk
    have hk : k = (F 1 3).toNatClampNeg := hk
    refine zat_ok YX6_spill_ok zno kX6_spill (List.all_eq_true.mp kX6_spill_ok) 4 _ _ _ _ _ ?_
    refine And.intro (fun _ => by rw [hk]; exact h) (fun h1 => absurd ?_ h1)
    show (qSp F k).1 1 3 ≤ nI k
    rw [qSp_3 F k 1 (by decide), hk]
    exact zcnt_ge _
  | succ d ih =>
    intro k hk
    refine zat_ok YX6_spill_ok (inv := zi1 4 (fun ls st kc ks G => zWP YX6_spill ok ex 4 ls st kc ks G)) (zone fun _ _ _ _ _ h => h) kX6_spill (List.all_eq_true.mp kX6_spill_ok) 4 _ _ _ _ _ ?_
    refine And.intro (fun h1 => absurd ?_ (zcnt_lt (c := F 1 3) (k := k) (by omega))) (fun h1 => ?_)
    · have h1 : (qSp F k).1 1 3 ≤ nI k := h1
      rw [qSp_3 F k 1 (by decide)] at h1
      exact h1
    have ih := ih (k + 1) (by omega)
    have e : qSp F (k + 1) = qSp1 (qSp F k).1 (qSp F k).2 (nI k) := rfl
    rw [e, ← nI_1] at ih
    generalize (qSp F k).1 = G at ih ⊢
    generalize (qSp F k).2 = c at ih ⊢
    refine And.intro (fun h2 => ?_) (fun h2 => ?_)
    · have h2 : qLev (zwr 5 G 7 (nI k) (qW G (nI k) + c)) (nI k) ≤ qN (zwr 5 G 7 (nI k) (qW G (nI k) + c)) (nI k) := h2
      unfold qSp1 at ih
      rw [if_neg (Int32.not_lt.mpr h2)] at ih
      exact ih
    · have h2 : ¬ qLev (zwr 5 G 7 (nI k) (qW G (nI k) + c)) (nI k) ≤ qN (zwr 5 G 7 (nI k) (qW G (nI k) + c)) (nI k) := h2
      unfold qSp1 at ih
      rw [if_pos (Int32.not_le.mp h2)] at ih
      exact ih

theorem mX6_spill : zMet (UC) yX6_spill cX6_spill 3 (some .int) rX6_spill (sX6_spill) := by
  refine zmet (Y := YX6_spill) rfl (by decide +kernel) ?_
  intro av F ok ex h
  unfold sX6_spill at h
  split at h
  · refine zgo_ok (YX6_spill_ok) (inv := zi1 4 (fun ls st kc ks G => zWP YX6_spill ok ex 4 ls st kc ks G)) (zone fun _ _ _ _ _ h => h) kX6_spill (List.all_eq_true.mp kX6_spill_ok) 0 _ _ _ _ _ ?_
    exact lX6_spill ok ex F h _ 0 (Nat.zero_add _)
  · exact h.elim

/-! the locks: length 10, chamber 12, quarter 14, basins 16, full 18, full basins 20, ships 22, lockings 24; 8: water of basins, count -/
abbrev qLen (F : zF) (i : Int32) : Int32 := zrd 4 (F 10) i
abbrev qCh (F : zF) (i : Int32) : Int32 := zrd 4 (F 12) i
abbrev qQu (F : zF) (i : Int32) : Int32 := zrd 4 (F 14) i
abbrev qBa (F : zF) (i : Int32) : Int32 := zrd 4 (F 16) i
abbrev qFu (F : zF) (i : Int32) : Int32 := zrd 4 (F 18) i
abbrev qFb (F : zF) (i : Int32) : Int32 := zrd 4 (F 20) i
abbrev qInB (F : zF) (i : Int32) : Int32 := qFb F i * qQu F i
abbrev qWin (F : zF) (i : Int32) : Int32 := qFu F i * qCh F i + qInB F i
abbrev qLk (F : zF) (i : Int32) : Int32 := qCh F i - qInB F i
def qMkL (F : zF) (a b c : Int32) : zF := zup (zwr 4 (zwr 4 (zwr 4 (zwr 4 F 10 (F 8 9) a) 12 (F 8 9) b) 14 (F 8 9) (b / 4)) 16 (F 8 9) c) 8 9 (F 8 9 + 1)
def qFill (F : zF) (i : Int32) : zF := zwr 4 (zwr 4 (zup F 8 8 (F 8 8 + qInB F i)) 20 i 0) 18 i 1
def qLeft (F : zF) (i : Int32) : Int32 := qCh F i - (qBa F i - qFb F i) * qQu F i
def qEmp (F : zF) (i : Int32) : zF := zwr 4 (zwr 4 F 20 i (qBa F i)) 18 i 0
def qAllW (F : zF) : Nat → Int32
  | 0 => 0
  | k + 1 => qAllW F k + qWin F (nI k)
def sX5_make : zSp := fun as F ok _ => match as with
  | [.ref 8, .int a, .int b, .int c] => ok none (qMkL F a b c)
  | _ => False
def sX5_isFull : zSp := fun as F ok _ => match as with
  | [.ref 8, .int i] => zbo (qFu F i = 1) F ok
  | _ => False
def sX5_inBasins : zSp := fun as F ok _ => match as with
  | [.ref 8, .int i] => ok (some (.int (qInB F i))) F
  | _ => False
def sX5_waterIn : zSp := fun as F ok _ => match as with
  | [.ref 8, .int i] => ok (some (.int (qWin F i))) F
  | _ => False
def sX5_allWater : zSp := fun as F ok _ => match as with
  | [.ref 8] => ok (some (.int (qAllW F (F 8 9).toNatClampNeg))) F
  | _ => False
def sX5_lackingToFill : zSp := fun as F ok _ => match as with
  | [.ref 8, .int i] => ok (some (.int (qLk F i))) F
  | _ => False
def sX5_fill : zSp := fun as F ok _ => match as with
  | [.ref 8, .int i] => ok none (qFill F i)
  | _ => False
def sX5_leftBeyondBasins : zSp := fun as F ok _ => match as with
  | [.ref 8, .int i] => ok (some (.int (qLeft F i))) F
  | _ => False
def sX5_empty : zSp := fun as F ok _ => match as with
  | [.ref 8, .int i] => ok none (qEmp F i)
  | _ => False

def kX5_make : List zI := [
  (0, 1, .aload_n 0, [], 0),
  (1, 3, .getfield 14, [], 0),
  (4, 1, .aload_n 0, [], 0),
  (5, 3, .getfield 45, [], 0),
  (8, 1, .iload_n 1, [], 0),
  (9, 3, .invokevirtual 48, [], 0),
  (12, 1, .aload_n 0, [], 0),
  (13, 3, .getfield 20, [], 0),
  (16, 1, .aload_n 0, [], 0),
  (17, 3, .getfield 45, [], 0),
  (20, 1, .iload_n 2, [], 0),
  (21, 3, .invokevirtual 48, [], 0),
  (24, 1, .aload_n 0, [], 0),
  (25, 3, .getfield 23, [], 0),
  (28, 1, .aload_n 0, [], 0),
  (29, 3, .getfield 45, [], 0),
  (32, 1, .iload_n 2, [], 0),
  (33, 1, .iconst 4, [], 4),
  (34, 1, .idiv, [], 0),
  (35, 3, .invokevirtual 48, [], 0),
  (38, 1, .aload_n 0, [], 0),
  (39, 3, .getfield 26, [], 0),
  (42, 1, .aload_n 0, [], 0),
  (43, 3, .getfield 45, [], 0),
  (46, 1, .iload_n 3, [], 0),
  (47, 3, .invokevirtual 48, [], 0),
  (50, 1, .aload_n 0, [], 0),
  (51, 1, .dup, [], 0),
  (52, 3, .getfield 45, [], 0),
  (55, 1, .iconst 1, [], 1),
  (56, 1, .iadd, [], 0),
  (57, 3, .putfield 45, [], 0),
  (60, 1, .return_, [], 0)]
theorem kX5_make_ok : kX5_make.all (zck cX5_make) = true := by decide +kernel

def rX5_make : Room := { frames := 1, cells := 0, slots := 0, locals := 22 }
abbrev YX5_make : zM := (RX5, cX5_make, 4, none, rX5_make, UC, zlk fX5, zcs [(48, 3, 0, 0, zvs (UC) 7 (sU_put UC))] [])
theorem YX5_make_ok : zYok (YX5_make) := zYok_of fX5_ok (zall (zcal_mono (zcalV (Y := YX5_make) (y := yX7_put) (cc := cX7_put) (nL := 3) (ret := none) (rm := rX7_put) (mU_put UC UC_small) 48 2 7 (T := TX7) rfl wX5_48 ⟨by decide +kernel, by decide +kernel, by decide +kernel⟩ (by decide) ⟨Nat.le_of_ble_eq_true rfl, Nat.le_of_ble_eq_true rfl⟩) (fun _ _ _ _ h => zvs_P h)) znil) znil

theorem mX5_make : zMet (UC) yX5_make cX5_make 4 (none) rX5_make (sX5_make) := by
  refine zmet (Y := YX5_make) rfl (by decide +kernel) ?_
  intro av F ok ex h
  unfold sX5_make at h
  split at h
  · rename_i a b c
    refine zgo_ok (YX5_make_ok) zno kX5_make (List.all_eq_true.mp kX5_make_ok) 0 _ _ _ _ _ ?_
    refine Exists.intro (by decide) ?_
    refine zleaf ok h rfl ?_
    unfold qMkL
    show _ = zup (zwr 4 (zwr 4 (zwr 4 (zwr 4 F 10 (F 8 9) a) 12 (zwr 4 F 10 (F 8 9) a 8 9) b) 14 (zwr 4 (zwr 4 F 10 (F 8 9) a) 12 (zwr 4 F 10 (F 8 9) a 8 9) b 8 9) (b / 4)) 16 (zwr 4 (zwr 4 (zwr 4 F 10 (F 8 9) a) 12 (zwr 4 F 10 (F 8 9) a 8 9) b) 14 (zwr 4 (zwr 4 F 10 (F 8 9) a) 12 (zwr 4 F 10 (F 8 9) a 8 9) b 8 9) (b / 4) 8 9) c) 8 9 (zwr 4 (zwr 4 (zwr 4 (zwr 4 F 10 (F 8 9) a) 12 (zwr 4 F 10 (F 8 9) a 8 9) b) 14 (zwr 4 (zwr 4 F 10 (F 8 9) a) 12 (zwr 4 F 10 (F 8 9) a 8 9) b 8 9) (b / 4)) 16 (zwr 4 (zwr 4 (zwr 4 F 10 (F 8 9) a) 12 (zwr 4 F 10 (F 8 9) a 8 9) b) 14 (zwr 4 (zwr 4 F 10 (F 8 9) a) 12 (zwr 4 F 10 (F 8 9) a 8 9) b 8 9) (b / 4) 8 9) c 8 9 + 1)
    simp only [zwr_ne _ _ _ _ (show 8 ≠ 10 by decide), zwr_ne _ _ _ _ (show 8 ≠ 12 by decide), zwr_ne _ _ _ _ (show 8 ≠ 14 by decide), zwr_ne _ _ _ _ (show 8 ≠ 16 by decide)]
  · exact h.elim

def kX5_isFull : List zI := [
  (0, 1, .aload_n 0, [], 0),
  (1, 3, .getfield 29, [], 0),
  (4, 1, .iload_n 1, [], 0),
  (5, 3, .invokevirtual 52, [], 0),
  (8, 1, .iconst 1, [], 1),
  (9, 3, .if_icmp .ne 7, [16], 0),
  (12, 1, .iconst 1, [], 1),
  (13, 3, .goto 4, [17], 0),
  (16, 1, .iconst 0, [], 0),
  (17, 1, .ireturn, [], 0)]
theorem kX5_isFull_ok : kX5_isFull.all (zck cX5_isFull) = true := by decide +kernel

def rX5_isFull : Room := { frames := 1, cells := 0, slots := 0, locals := 21 }
abbrev YX5_isFull : zM := (RX5, cX5_isFull, 2, some .boolean, rX5_isFull, UC, zlk fX5, zcs [(52, 2, 0, 0, zvs (UC) 7 (sU_at UC))] [])
theorem YX5_isFull_ok : zYok (YX5_isFull) := zYok_of fX5_ok (zall (zcal_mono (zcalV (Y := YX5_isFull) (y := yX7_at) (cc := cX7_at) (nL := 2) (ret := some .int) (rm := rX7_at) (mU_at UC UC_small) 52 1 7 (T := TX7) rfl wX5_52 ⟨by decide +kernel, by decide +kernel, by decide +kernel⟩ (by decide) ⟨Nat.le_of_ble_eq_true rfl, Nat.le_of_ble_eq_true rfl⟩) (fun _ _ _ _ h => zvs_P h)) znil) znil

theorem mX5_isFull : zMet (UC) yX5_isFull cX5_isFull 2 (some .boolean) rX5_isFull (sX5_isFull) := by
  refine zmet (Y := YX5_isFull) rfl (by decide +kernel) ?_
  intro av F ok ex h
  unfold sX5_isFull at h
  split at h
  · rename_i i
    refine zgo_ok (YX5_isFull_ok) zno kX5_isFull (List.all_eq_true.mp kX5_isFull_ok) 0 _ _ _ _ _ ?_
    refine And.intro (fun h1 => ?_) (fun h1 => ?_)
    · refine Exists.intro (Or.inl rfl) ?_
      exact h.2 h1
    · refine Exists.intro (Or.inr rfl) ?_
      exact h.1 h1
  · exact h.elim

def kX5_inBasins : List zI := [
  (0, 1, .aload_n 0, [], 0),
  (1, 3, .getfield 32, [], 0),
  (4, 1, .iload_n 1, [], 0),
  (5, 3, .invokevirtual 52, [], 0),
  (8, 1, .aload_n 0, [], 0),
  (9, 3, .getfield 23, [], 0),
  (12, 1, .iload_n 1, [], 0),
  (13, 3, .invokevirtual 52, [], 0),
  (16, 1, .imul, [], 0),
  (17, 1, .ireturn, [], 0)]
theorem kX5_inBasins_ok : kX5_inBasins.all (zck cX5_inBasins) = true := by decide +kernel

def rX5_inBasins : Room := { frames := 1, cells := 0, slots := 0, locals := 21 }
abbrev YX5_inBasins : zM := (RX5, cX5_inBasins, 2, some .int, rX5_inBasins, UC, zlk fX5, zcs [(52, 2, 0, 0, zvs (UC) 7 (sU_at UC))] [])
theorem YX5_inBasins_ok : zYok (YX5_inBasins) := zYok_of fX5_ok (zall (zcal_mono (zcalV (Y := YX5_inBasins) (y := yX7_at) (cc := cX7_at) (nL := 2) (ret := some .int) (rm := rX7_at) (mU_at UC UC_small) 52 1 7 (T := TX7) rfl wX5_52 ⟨by decide +kernel, by decide +kernel, by decide +kernel⟩ (by decide) ⟨Nat.le_of_ble_eq_true rfl, Nat.le_of_ble_eq_true rfl⟩) (fun _ _ _ _ h => zvs_P h)) znil) znil

theorem mX5_inBasins : zMet (UC) yX5_inBasins cX5_inBasins 2 (some .int) rX5_inBasins (sX5_inBasins) := by
  refine zmet (Y := YX5_inBasins) rfl (by decide +kernel) ?_
  intro av F ok ex h
  unfold sX5_inBasins at h
  split at h
  · rename_i i
    refine zgo_ok (YX5_inBasins_ok) zno kX5_inBasins (List.all_eq_true.mp kX5_inBasins_ok) 0 _ _ _ _ _ ?_
    exact h
  · exact h.elim

def kX5_waterIn : List zI := [
  (0, 1, .aload_n 0, [], 0),
  (1, 3, .getfield 29, [], 0),
  (4, 1, .iload_n 1, [], 0),
  (5, 3, .invokevirtual 52, [], 0),
  (8, 1, .aload_n 0, [], 0),
  (9, 3, .getfield 20, [], 0),
  (12, 1, .iload_n 1, [], 0),
  (13, 3, .invokevirtual 52, [], 0),
  (16, 1, .imul, [], 0),
  (17, 1, .aload_n 0, [], 0),
  (18, 1, .iload_n 1, [], 0),
  (19, 3, .invokevirtual 56, [], 0),
  (22, 1, .iadd, [], 0),
  (23, 1, .ireturn, [], 0)]
theorem kX5_waterIn_ok : kX5_waterIn.all (zck cX5_waterIn) = true := by decide +kernel

def rX5_waterIn : Room := { frames := 2, cells := 0, slots := 0, locals := 42 }
abbrev YX5_waterIn : zM := (RX5, cX5_waterIn, 2, some .int, rX5_waterIn, UC, zlk fX5, zcs [(52, 2, 0, 0, zvs (UC) 7 (sU_at UC)), (56, 2, 0, 0, zvs (UC) 5 (sX5_inBasins))] [])
theorem YX5_waterIn_ok : zYok (YX5_waterIn) := zYok_of fX5_ok (zall (zcal_mono (zcalV (Y := YX5_waterIn) (y := yX7_at) (cc := cX7_at) (nL := 2) (ret := some .int) (rm := rX7_at) (mU_at UC UC_small) 52 1 7 (T := TX7) rfl wX5_52 ⟨by decide +kernel, by decide +kernel, by decide +kernel⟩ (by decide) ⟨Nat.le_of_ble_eq_true rfl, Nat.le_of_ble_eq_true rfl⟩) (fun _ _ _ _ h => zvs_P h)) (zall (zcal_mono (zcalV (Y := YX5_waterIn) (y := yX5_inBasins) (cc := cX5_inBasins) (nL := 2) (ret := some .int) (rm := rX5_inBasins) (mX5_inBasins) 56 1 5 (T := TX5) rfl wX5_56 ⟨by decide +kernel, by decide +kernel, by decide +kernel⟩ (by decide) ⟨Nat.le_of_ble_eq_true rfl, Nat.le_of_ble_eq_true rfl⟩) (fun _ _ _ _ h => zvs_P h)) znil)) znil

theorem mX5_waterIn : zMet (UC) yX5_waterIn cX5_waterIn 2 (some .int) rX5_waterIn (sX5_waterIn) := by
  refine zmet (Y := YX5_waterIn) rfl (by decide +kernel) ?_
  intro av F ok ex h
  unfold sX5_waterIn at h
  split at h
  · rename_i i
    refine zgo_ok (YX5_waterIn_ok) zno kX5_waterIn (List.all_eq_true.mp kX5_waterIn_ok) 0 _ _ _ _ _ ?_
    exact h
  · exact h.elim

def kX5_allWater : List zI := [
  (0, 1, .iconst 0, [], 0),
  (1, 1, .istore_n 1, [], 0),
  (2, 1, .iconst 0, [], 0),
  (3, 1, .istore_n 2, [], 0),
  (4, 1, .iload_n 2, [], 0),
  (5, 1, .aload_n 0, [], 0),
  (6, 3, .getfield 45, [], 0),
  (9, 3, .if_icmp .ge 17, [26], 0),
  (12, 1, .iload_n 1, [], 0),
  (13, 1, .aload_n 0, [], 0),
  (14, 1, .iload_n 2, [], 0),
  (15, 3, .invokevirtual 59, [], 0),
  (18, 1, .iadd, [], 0),
  (19, 1, .istore_n 1, [], 0),
  (20, 3, .iinc 2 1, [], 1),
  (23, 3, .goto (-19), [4], 0),
  (26, 1, .iload_n 1, [], 0),
  (27, 1, .ireturn, [], 0)]
theorem kX5_allWater_ok : kX5_allWater.all (zck cX5_allWater) = true := by decide +kernel

def rX5_allWater : Room := { frames := 3, cells := 0, slots := 0, locals := 63 }
abbrev YX5_allWater : zM := (RX5, cX5_allWater, 3, some .int, rX5_allWater, UC, zlk fX5, zcs [(59, 2, 0, 0, zvs (UC) 5 (sX5_waterIn))] [])
theorem YX5_allWater_ok : zYok (YX5_allWater) := zYok_of fX5_ok (zall (zcal_mono (zcalV (Y := YX5_allWater) (y := yX5_waterIn) (cc := cX5_waterIn) (nL := 2) (ret := some .int) (rm := rX5_waterIn) (mX5_waterIn) 59 1 5 (T := TX5) rfl wX5_59 ⟨by decide +kernel, by decide +kernel, by decide +kernel⟩ (by decide) ⟨Nat.le_of_ble_eq_true rfl, Nat.le_of_ble_eq_true rfl⟩) (fun _ _ _ _ h => zvs_P h)) znil) znil

theorem lX5_allWater (ok : zO) (ex : zX) (F : zF) (h : ok (some (.int (qAllW F (F 8 9).toNatClampNeg))) F) : ∀ (d k : Nat), k + d = (F 8 9).toNatClampNeg → zWP YX5_allWater ok ex 4 [some (.ref 8), some (.int (qAllW F k)), some (.int (nI k))] [] 0 0 F := by
  intro d
  induction d with
  | zero =>
    intro k hk
    have hk : k = (F 8 9).toNatClampNeg := hk
    subst hk
    refine zat_ok YX5_allWater_ok zno kX5_allWater (List.all_eq_true.mp kX5_allWater_ok) 4 _ _ _ _ _ ?_
    exact And.intro (fun _ => h) (fun h1 => absurd (zcnt_ge _) h1)
  | succ d ih =>
    intro k hk
    refine zat_ok YX5_allWater_ok (inv := zi1 4 (fun ls st kc ks G => zWP YX5_allWater ok ex 4 ls st kc ks G)) (zone fun _ _ _ _ _ h => h) kX5_allWater (List.all_eq_true.mp kX5_allWater_ok) 4 _ _ _ _ _ ?_
    refine And.intro (fun h1 => absurd h1 (zcnt_lt (c := F 8 9) (k := k) (by omega))) (fun h1 => ?_)
    have ih := ih (k + 1) (by omega)
    rw [← nI_1] at ih
    exact ih

theorem mX5_allWater : zMet (UC) yX5_allWater cX5_allWater 3 (some .int) rX5_allWater (sX5_allWater) := by
  refine zmet (Y := YX5_allWater) rfl (by decide +kernel) ?_
  intro av F ok ex h
  unfold sX5_allWater at h
  split at h
  · refine zgo_ok (YX5_allWater_ok) (inv := zi1 4 (fun ls st kc ks G => zWP YX5_allWater ok ex 4 ls st kc ks G)) (zone fun _ _ _ _ _ h => h) kX5_allWater (List.all_eq_true.mp kX5_allWater_ok) 0 _ _ _ _ _ ?_
    exact lX5_allWater ok ex F h _ 0 (Nat.zero_add _)
  · exact h.elim

def kX5_lackingToFill : List zI := [
  (0, 1, .aload_n 0, [], 0),
  (1, 3, .getfield 20, [], 0),
  (4, 1, .iload_n 1, [], 0),
  (5, 3, .invokevirtual 52, [], 0),
  (8, 1, .aload_n 0, [], 0),
  (9, 1, .iload_n 1, [], 0),
  (10, 3, .invokevirtual 56, [], 0),
  (13, 1, .isub, [], 0),
  (14, 1, .ireturn, [], 0)]
theorem kX5_lackingToFill_ok : kX5_lackingToFill.all (zck cX5_lackingToFill) = true := by decide +kernel

def rX5_lackingToFill : Room := { frames := 2, cells := 0, slots := 0, locals := 42 }
abbrev YX5_lackingToFill : zM := (RX5, cX5_lackingToFill, 2, some .int, rX5_lackingToFill, UC, zlk fX5, zcs [(52, 2, 0, 0, zvs (UC) 7 (sU_at UC)), (56, 2, 0, 0, zvs (UC) 5 (sX5_inBasins))] [])
theorem YX5_lackingToFill_ok : zYok (YX5_lackingToFill) := zYok_of fX5_ok (zall (zcal_mono (zcalV (Y := YX5_lackingToFill) (y := yX7_at) (cc := cX7_at) (nL := 2) (ret := some .int) (rm := rX7_at) (mU_at UC UC_small) 52 1 7 (T := TX7) rfl wX5_52 ⟨by decide +kernel, by decide +kernel, by decide +kernel⟩ (by decide) ⟨Nat.le_of_ble_eq_true rfl, Nat.le_of_ble_eq_true rfl⟩) (fun _ _ _ _ h => zvs_P h)) (zall (zcal_mono (zcalV (Y := YX5_lackingToFill) (y := yX5_inBasins) (cc := cX5_inBasins) (nL := 2) (ret := some .int) (rm := rX5_inBasins) (mX5_inBasins) 56 1 5 (T := TX5) rfl wX5_56 ⟨by decide +kernel, by decide +kernel, by decide +kernel⟩ (by decide) ⟨Nat.le_of_ble_eq_true rfl, Nat.le_of_ble_eq_true rfl⟩) (fun _ _ _ _ h => zvs_P h)) znil)) znil

theorem mX5_lackingToFill : zMet (UC) yX5_lackingToFill cX5_lackingToFill 2 (some .int) rX5_lackingToFill (sX5_lackingToFill) := by
  refine zmet (Y := YX5_lackingToFill) rfl (by decide +kernel) ?_
  intro av F ok ex h
  unfold sX5_lackingToFill at h
  split at h
  · rename_i i
    refine zgo_ok (YX5_lackingToFill_ok) zno kX5_lackingToFill (List.all_eq_true.mp kX5_lackingToFill_ok) 0 _ _ _ _ _ ?_
    exact h
  · exact h.elim

def kX5_leftBeyondBasins : List zI := [
  (0, 1, .aload_n 0, [], 0),
  (1, 3, .getfield 26, [], 0),
  (4, 1, .iload_n 1, [], 0),
  (5, 3, .invokevirtual 52, [], 0),
  (8, 1, .aload_n 0, [], 0),
  (9, 3, .getfield 32, [], 0),
  (12, 1, .iload_n 1, [], 0),
  (13, 3, .invokevirtual 52, [], 0),
  (16, 1, .isub, [], 0),
  (17, 1, .istore_n 2, [], 0),
  (18, 1, .aload_n 0, [], 0),
  (19, 3, .getfield 20, [], 0),
  (22, 1, .iload_n 1, [], 0),
  (23, 3, .invokevirtual 52, [], 0),
  (26, 1, .iload_n 2, [], 0),
  (27, 1, .aload_n 0, [], 0),
  (28, 3, .getfield 23, [], 0),
  (31, 1, .iload_n 1, [], 0),
  (32, 3, .invokevirtual 52, [], 0),
  (35, 1, .imul, [], 0),
  (36, 1, .isub, [], 0),
  (37, 1, .ireturn, [], 0)]
theorem kX5_leftBeyondBasins_ok : kX5_leftBeyondBasins.all (zck cX5_leftBeyondBasins) = true := by decide +kernel

def rX5_leftBeyondBasins : Room := { frames := 1, cells := 0, slots := 0, locals := 21 }
abbrev YX5_leftBeyondBasins : zM := (RX5, cX5_leftBeyondBasins, 3, some .int, rX5_leftBeyondBasins, UC, zlk fX5, zcs [(52, 2, 0, 0, zvs (UC) 7 (sU_at UC))] [])
theorem YX5_leftBeyondBasins_ok : zYok (YX5_leftBeyondBasins) := zYok_of fX5_ok (zall (zcal_mono (zcalV (Y := YX5_leftBeyondBasins) (y := yX7_at) (cc := cX7_at) (nL := 2) (ret := some .int) (rm := rX7_at) (mU_at UC UC_small) 52 1 7 (T := TX7) rfl wX5_52 ⟨by decide +kernel, by decide +kernel, by decide +kernel⟩ (by decide) ⟨Nat.le_of_ble_eq_true rfl, Nat.le_of_ble_eq_true rfl⟩) (fun _ _ _ _ h => zvs_P h)) znil) znil

theorem mX5_leftBeyondBasins : zMet (UC) yX5_leftBeyondBasins cX5_leftBeyondBasins 3 (some .int) rX5_leftBeyondBasins (sX5_leftBeyondBasins) := by
  refine zmet (Y := YX5_leftBeyondBasins) rfl (by decide +kernel) ?_
  intro av F ok ex h
  unfold sX5_leftBeyondBasins at h
  split at h
  · rename_i i
    refine zgo_ok (YX5_leftBeyondBasins_ok) zno kX5_leftBeyondBasins (List.all_eq_true.mp kX5_leftBeyondBasins_ok) 0 _ _ _ _ _ ?_
    exact h
  · exact h.elim

def kX5_empty : List zI := [
  (0, 1, .aload_n 0, [], 0),
  (1, 3, .getfield 32, [], 0),
  (4, 1, .iload_n 1, [], 0),
  (5, 1, .aload_n 0, [], 0),
  (6, 3, .getfield 26, [], 0),
  (9, 1, .iload_n 1, [], 0),
  (10, 3, .invokevirtual 52, [], 0),
  (13, 3, .invokevirtual 48, [], 0),
  (16, 1, .aload_n 0, [], 0),
  (17, 3, .getfield 29, [], 0),
  (20, 1, .iload_n 1, [], 0),
  (21, 1, .iconst 0, [], 0),
  (22, 3, .invokevirtual 48, [], 0),
  (25, 1, .return_, [], 0)]
theorem kX5_empty_ok : kX5_empty.all (zck cX5_empty) = true := by decide +kernel

def rX5_empty : Room := { frames := 1, cells := 0, slots := 0, locals := 22 }
abbrev YX5_empty : zM := (RX5, cX5_empty, 2, none, rX5_empty, UC, zlk fX5, zcs [(52, 2, 0, 0, zvs (UC) 7 (sU_at UC)), (48, 3, 0, 0, zvs (UC) 7 (sU_put UC))] [])
theorem YX5_empty_ok : zYok (YX5_empty) := zYok_of fX5_ok (zall (zcal_mono (zcalV (Y := YX5_empty) (y := yX7_at) (cc := cX7_at) (nL := 2) (ret := some .int) (rm := rX7_at) (mU_at UC UC_small) 52 1 7 (T := TX7) rfl wX5_52 ⟨by decide +kernel, by decide +kernel, by decide +kernel⟩ (by decide) ⟨Nat.le_of_ble_eq_true rfl, Nat.le_of_ble_eq_true rfl⟩) (fun _ _ _ _ h => zvs_P h)) (zall (zcal_mono (zcalV (Y := YX5_empty) (y := yX7_put) (cc := cX7_put) (nL := 3) (ret := none) (rm := rX7_put) (mU_put UC UC_small) 48 2 7 (T := TX7) rfl wX5_48 ⟨by decide +kernel, by decide +kernel, by decide +kernel⟩ (by decide) ⟨Nat.le_of_ble_eq_true rfl, Nat.le_of_ble_eq_true rfl⟩) (fun _ _ _ _ h => zvs_P h)) znil)) znil

theorem mX5_empty : zMet (UC) yX5_empty cX5_empty 2 (none) rX5_empty (sX5_empty) := by
  refine zmet (Y := YX5_empty) rfl (by decide +kernel) ?_
  intro av F ok ex h
  unfold sX5_empty at h
  split at h
  · rename_i i
    refine zgo_ok (YX5_empty_ok) zno kX5_empty (List.all_eq_true.mp kX5_empty_ok) 0 _ _ _ _ _ ?_
    exact h
  · exact h.elim

def kX5_fill : List zI := [
  (0, 1, .aload_n 0, [], 0),
  (1, 1, .dup, [], 0),
  (2, 3, .getfield 41, [], 0),
  (5, 1, .aload_n 0, [], 0),
  (6, 1, .iload_n 1, [], 0),
  (7, 3, .invokevirtual 56, [], 0),
  (10, 1, .iadd, [], 0),
  (11, 3, .putfield 41, [], 0),
  (14, 1, .aload_n 0, [], 0),
  (15, 3, .getfield 32, [], 0),
  (18, 1, .iload_n 1, [], 0),
  (19, 1, .iconst 0, [], 0),
  (20, 3, .invokevirtual 48, [], 0),
  (23, 1, .aload_n 0, [], 0),
  (24, 3, .getfield 29, [], 0),
  (27, 1, .iload_n 1, [], 0),
  (28, 1, .iconst 1, [], 1),
  (29, 3, .invokevirtual 48, [], 0),
  (32, 1, .return_, [], 0)]
theorem kX5_fill_ok : kX5_fill.all (zck cX5_fill) = true := by decide +kernel

def rX5_fill : Room := { frames := 2, cells := 0, slots := 0, locals := 42 }
abbrev YX5_fill : zM := (RX5, cX5_fill, 2, none, rX5_fill, UC, zlk fX5, zcs [(56, 2, 0, 0, zvs (UC) 5 (sX5_inBasins)), (48, 3, 0, 0, zvs (UC) 7 (sU_put UC))] [])
theorem YX5_fill_ok : zYok (YX5_fill) := zYok_of fX5_ok (zall (zcal_mono (zcalV (Y := YX5_fill) (y := yX5_inBasins) (cc := cX5_inBasins) (nL := 2) (ret := some .int) (rm := rX5_inBasins) (mX5_inBasins) 56 1 5 (T := TX5) rfl wX5_56 ⟨by decide +kernel, by decide +kernel, by decide +kernel⟩ (by decide) ⟨Nat.le_of_ble_eq_true rfl, Nat.le_of_ble_eq_true rfl⟩) (fun _ _ _ _ h => zvs_P h)) (zall (zcal_mono (zcalV (Y := YX5_fill) (y := yX7_put) (cc := cX7_put) (nL := 3) (ret := none) (rm := rX7_put) (mU_put UC UC_small) 48 2 7 (T := TX7) rfl wX5_48 ⟨by decide +kernel, by decide +kernel, by decide +kernel⟩ (by decide) ⟨Nat.le_of_ble_eq_true rfl, Nat.le_of_ble_eq_true rfl⟩) (fun _ _ _ _ h => zvs_P h)) znil)) znil

theorem mX5_fill : zMet (UC) yX5_fill cX5_fill 2 (none) rX5_fill (sX5_fill) := by
  refine zmet (Y := YX5_fill) rfl (by decide +kernel) ?_
  intro av F ok ex h
  unfold sX5_fill at h
  split at h
  · rename_i i
    refine zgo_ok (YX5_fill_ok) zno kX5_fill (List.all_eq_true.mp kX5_fill_ok) 0 _ _ _ _ _ ?_
    exact h
  · exact h.elim

end ZRL
end
section
/-! LockMaster.Fleet: size 27, draught 29, rank 31, up 33, waitsAt 35, since 37, leftAt 39, first 41, next 43; 25: count -/
section ZFl
abbrev qSz (F : zF) (i : Int32) : Int32 := zrd 16 (F 27) i
abbrev qDr (F : zF) (i : Int32) : Int32 := zrd 16 (F 29) i
abbrev qRk (F : zF) (i : Int32) : Int32 := zrd 16 (F 31) i
abbrev qUp (F : zF) (i : Int32) : Int32 := zrd 16 (F 33) i
abbrev qWa (F : zF) (i : Int32) : Int32 := zrd 16 (F 35) i
abbrev qSi (F : zF) (i : Int32) : Int32 := zrd 16 (F 37) i
abbrev qLf (F : zF) (i : Int32) : Int32 := zrd 16 (F 39) i
abbrev qFi (F : zF) (i : Int32) : Int32 := zrd 16 (F 41) i
abbrev qNx (F : zF) (i : Int32) : Int32 := zrd 16 (F 43) i
def qMkS (F : zF) (s d r b : Int32) : zF := zup (zwr 16 (zwr 16 (zwr 16 (zwr 16 (zwr 16 (zwr 16 (zwr 16 F 27 (F 25 9) s) 29 (F 25 9) d) 31 (F 25 9) r) 33 (F 25 9) b) 39 (F 25 9) (-1)) 41 (F 25 9) (F 25 9)) 43 (F 25 9) (-1)) 25 9 (F 25 9 + 1)
def qRe (F : zF) (i : Int32) : Int32 := if qWa F i = -1 then -1 else qWa F i + qUp F i
def qCva (F : zF) (l : Int32) : Nat → Int32
  | 0 => 0
  | k + 1 => qCva F l k + (if qFi F (nI k) = nI k ∧ qWa F (nI k) = l then 1 else 0)
def qSir (F : zF) (r : Int32) : Nat → Int32
  | 0 => 0
  | k + 1 => qSir F r k + (if qRe F (nI k) = r then 1 else 0)
def qLenC (F : zF) : Nat → Int32 → Nat
  | 0, _ => 0
  | f + 1, i => if i = -1 then 0 else qLenC F f (qNx F i) + 1
def qNth (F : zF) (x : Int32) : Nat → Nat → Int32 → Int32
  | 0, _, _ => -1
  | f + 1, k, i => if i = -1 then -1 else if nI k = x then i else qNth F x f (k + 1) (qNx F i)
def qGr (F : zF) : Nat → Int32 → Int32 → Int32
  | 0, _, a => a
  | f + 1, i, a => if i = -1 then a else qGr F f (qNx F i) (imax a (qRk F i))
def qNm (h : Int32) : Nat → zF → Int32 → zF
  | 0, F, _ => F
  | f + 1, F, i => if i = -1 then F else qNm h f (zwr 16 F 41 i h) (qNx (zwr 16 F 41 i h) i)
def qAh (F : zF) (s : Int32) : Nat → Nat → Int32
  | 0, _ => -1
  | d + 1, k => if qNx F (nI k) = s then nI k else qAh F s d (k + 1)
def qSOC (F : zF) (s x : Int32) : Int32 := qNth F x 16 0 (qFi F s)
def qSIC (F : zF) (s : Int32) : Int32 := nI (qLenC F 16 (qFi F s))
def qJn (F : zF) (a b : Int32) : zF := qNm a 16 (zwr 16 F 43 (qSOC F a (qSIC F a - 1)) b) b
def qLv (F : zF) (s t : Int32) : zF := zwr 16 (zwr 16 (zwr 16 (zwr 16 F 35 s (-1)) 39 s t) 41 s s) 43 s (-1)
def qTk (F : zF) (s : Int32) : zF := zwr 16 (zwr 16 (if qFi F s = s then qNm (qNx F s) 16 F (qNx F s) else zwr 16 F 43 (qAh F s (F 25 9).toNatClampNeg 0) (qNx F s)) 41 s s) 43 s (-1)
def qCt (F : zF) (a r : Int32) : zF := qNm (qSOC F a r) 16 (zwr 16 F 43 (qSOC F a (r - 1)) (-1)) (qSOC F a r)
def sX3_make : zSp := fun as F ok _ => match as with
  | [.ref 25, .int s, .int d, .int r, .int b] => ok (some (.int (F 25 9))) (qMkS F s d r (if b = 0 then 0 else 1))
  | _ => False
def sX3_has : zSp := fun as F ok _ => match as with
  | [.ref 25, .int i] => zbo (0 ≤ i ∧ i < F 25 9) F ok
  | _ => False
def sX3_hasLeft : zSp := fun as F ok _ => match as with
  | [.ref 25, .int i] => zbo (qWa F i = -1) F ok
  | _ => False
def sX3_goesUp : zSp := fun as F ok _ => match as with
  | [.ref 25, .int i] => zbo (qUp F i = 1) F ok
  | _ => False
def sX3_reachOf : zSp := fun as F ok _ => match as with
  | [.ref 25, .int i] => ok (some (.int (qRe F i))) F
  | _ => False
def sX3_isFirstAt : zSp := fun as F ok _ => match as with
  | [.ref 25, .int i, .int l] => zbo (qFi F i = i ∧ qWa F i = l) F ok
  | _ => False
def sX3_convoysAt : zSp := fun as F ok _ => match as with
  | [.ref 25, .int l] => ok (some (.int (qCva F l (F 25 9).toNatClampNeg))) F
  | _ => False
def sX3_shipsInReach : zSp := fun as F ok _ => match as with
  | [.ref 25, .int r] => ok (some (.int (qSir F r (F 25 9).toNatClampNeg))) F
  | _ => False
def sX3_shipsThatLeft : zSp := fun as F ok _ => match as with
  | [.ref 25] => ok (some (.int (qSir F (-1) (F 25 9).toNatClampNeg))) F
  | _ => False
def sX3_shipsInConvoy : zSp := fun as F ok _ => match as with
  | [.ref 25, .int s] => ok (some (.int (qSIC F s))) F
  | _ => False
def sX3_shipOfConvoy : zSp := fun as F ok _ => match as with
  | [.ref 25, .int s, .int x] => ok (some (.int (qSOC F s x))) F
  | _ => False
def sX3_greatestRank : zSp := fun as F ok _ => match as with
  | [.ref 25, .int s] => ok (some (.int (qGr F 16 s 0))) F
  | _ => False
def sX3_joinBehind : zSp := fun as F ok _ => match as with
  | [.ref 25, .int a, .int b] => ok none (qJn F a b)
  | _ => False
def sX3_takeOut : zSp := fun as F ok _ => match as with
  | [.ref 25, .int s] => ok none (qTk F s)
  | _ => False
def sX3_cutBehind : zSp := fun as F ok _ => match as with
  | [.ref 25, .int a, .int r] => ok none (qCt F a r)
  | _ => False
def sX3_leave : zSp := fun as F ok _ => match as with
  | [.ref 25, .int s, .int t] => ok none (qLv F s t)
  | _ => False
def sX3_shipAheadOf : zSp := fun as F ok _ => match as with
  | [.ref 25, .int s] => ok (some (.int (qAh F s (F 25 9).toNatClampNeg 0))) F
  | _ => False
def sX3_nameFirst : zSp := fun as F ok _ => match as with
  | [.ref 25, .int i, .int h] => ok none (qNm h 16 F i)
  | _ => False

def kX3_make : List zI := [
  (0, 1, .aload_n 0, [], 0),
  (1, 3, .getfield 44, [], 0),
  (4, 2, .istore 5, [], 0),
  (6, 1, .aload_n 0, [], 0),
  (7, 3, .getfield 14, [], 0),
  (10, 2, .iload 5, [], 0),
  (12, 1, .iload_n 1, [], 0),
  (13, 3, .invokevirtual 48, [], 0),
  (16, 1, .aload_n 0, [], 0),
  (17, 3, .getfield 20, [], 0),
  (20, 2, .iload 5, [], 0),
  (22, 1, .iload_n 2, [], 0),
  (23, 3, .invokevirtual 48, [], 0),
  (26, 1, .aload_n 0, [], 0),
  (27, 3, .getfield 23, [], 0),
  (30, 2, .iload 5, [], 0),
  (32, 1, .iload_n 3, [], 0),
  (33, 3, .invokevirtual 48, [], 0),
  (36, 1, .aload_n 0, [], 0),
  (37, 3, .getfield 26, [], 0),
  (40, 2, .iload 5, [], 0),
  (42, 2, .iload 4, [], 0),
  (44, 3, .ifCond .eq 7, [51], 0),
  (47, 1, .iconst 1, [], 1),
  (48, 3, .goto 4, [52], 0),
  (51, 1, .iconst 0, [], 0),
  (52, 3, .invokevirtual 48, [], 0),
  (55, 1, .aload_n 0, [], 0),
  (56, 3, .getfield 35, [], 0),
  (59, 2, .iload 5, [], 0),
  (61, 1, .iconst (-1), [], (-1)),
  (62, 3, .invokevirtual 48, [], 0),
  (65, 1, .aload_n 0, [], 0),
  (66, 3, .getfield 38, [], 0),
  (69, 2, .iload 5, [], 0),
  (71, 2, .iload 5, [], 0),
  (73, 3, .invokevirtual 48, [], 0),
  (76, 1, .aload_n 0, [], 0),
  (77, 3, .getfield 41, [], 0),
  (80, 2, .iload 5, [], 0),
  (82, 1, .iconst (-1), [], (-1)),
  (83, 3, .invokevirtual 48, [], 0),
  (86, 1, .aload_n 0, [], 0),
  (87, 1, .dup, [], 0),
  (88, 3, .getfield 44, [], 0),
  (91, 1, .iconst 1, [], 1),
  (92, 1, .iadd, [], 0),
  (93, 3, .putfield 44, [], 0),
  (96, 2, .iload 5, [], 0),
  (98, 1, .ireturn, [], 0)]
theorem kX3_make_ok : kX3_make.all (zck cX3_make) = true := by decide +kernel

def rX3_make : Room := { frames := 1, cells := 0, slots := 0, locals := 22 }
abbrev YX3_make : zM := (RX3, cX3_make, 6, some .int, rX3_make, UC, zlk fX3, zcs [(48, 3, 0, 0, zvs (UC) 7 (sU_put UC))] [])
theorem YX3_make_ok : zYok (YX3_make) := zYok_of fX3_ok (zall (zcal_mono (zcalV (Y := YX3_make) (y := yX7_put) (cc := cX7_put) (nL := 3) (ret := none) (rm := rX7_put) (mU_put UC UC_small) 48 2 7 (T := TX7) rfl wX3_48 ⟨by decide +kernel, by decide +kernel, by decide +kernel⟩ (by decide) ⟨Nat.le_of_ble_eq_true rfl, Nat.le_of_ble_eq_true rfl⟩) (fun _ _ _ _ h => zvs_P h)) znil) znil

theorem mX3_make : zMet (UC) yX3_make cX3_make 6 (some .int) rX3_make (sX3_make) := by
  refine zmet (Y := YX3_make) rfl (by decide +kernel) ?_
  intro av F ok ex h
  unfold sX3_make at h
  split at h
  · rename_i s d r b
    refine zgo_ok (YX3_make_ok) zno kX3_make (List.all_eq_true.mp kX3_make_ok) 0 _ _ _ _ _ ?_
    refine And.intro (fun h1 => ?_) (fun h1 => ?_)
    · rw [if_pos h1] at h
      refine zleaf ok h rfl ?_
      unfold qMkS
      simp only [zwr_ne _ _ _ _ (show 25 ≠ 27 by decide), zwr_ne _ _ _ _ (show 25 ≠ 29 by decide), zwr_ne _ _ _ _ (show 25 ≠ 31 by decide), zwr_ne _ _ _ _ (show 25 ≠ 33 by decide), zwr_ne _ _ _ _ (show 25 ≠ 39 by decide), zwr_ne _ _ _ _ (show 25 ≠ 41 by decide), zwr_ne _ _ _ _ (show 25 ≠ 43 by decide)]
    · rw [if_neg h1] at h
      refine zleaf ok h rfl ?_
      unfold qMkS
      simp only [zwr_ne _ _ _ _ (show 25 ≠ 27 by decide), zwr_ne _ _ _ _ (show 25 ≠ 29 by decide), zwr_ne _ _ _ _ (show 25 ≠ 31 by decide), zwr_ne _ _ _ _ (show 25 ≠ 33 by decide), zwr_ne _ _ _ _ (show 25 ≠ 39 by decide), zwr_ne _ _ _ _ (show 25 ≠ 41 by decide), zwr_ne _ _ _ _ (show 25 ≠ 43 by decide)]
  · exact h.elim

def kX3_has : List zI := [
  (0, 1, .iload_n 1, [], 0),
  (1, 3, .ifCond .lt 15, [16], 0),
  (4, 1, .iload_n 1, [], 0),
  (5, 1, .aload_n 0, [], 0),
  (6, 3, .getfield 44, [], 0),
  (9, 3, .if_icmp .ge 7, [16], 0),
  (12, 1, .iconst 1, [], 1),
  (13, 3, .goto 4, [17], 0),
  (16, 1, .iconst 0, [], 0),
  (17, 1, .ireturn, [], 0)]
theorem kX3_has_ok : kX3_has.all (zck cX3_has) = true := by decide +kernel

def rX3_has : Room := { frames := 0, cells := 0, slots := 0, locals := 0 }
abbrev YX3_has : zM := (RX3, cX3_has, 2, some .boolean, rX3_has, UC, zlk fX3, zcs [] [])
theorem YX3_has_ok : zYok (YX3_has) := zYok_of fX3_ok znil znil

theorem mX3_has : zMet (UC) yX3_has cX3_has 2 (some .boolean) rX3_has (sX3_has) := by
  refine zmet (Y := YX3_has) rfl (by decide +kernel) ?_
  intro av F ok ex h
  unfold sX3_has at h
  split at h
  · rename_i i
    refine zgo_ok (YX3_has_ok) zno kX3_has (List.all_eq_true.mp kX3_has_ok) 0 _ _ _ _ _ ?_
    refine And.intro (fun h1 => ?_) (fun h1 => ?_)
    · exact Exists.intro (Or.inl rfl) (h.2 fun hc => Int32.not_le.mpr h1 hc.1)
    · refine And.intro (fun h2 => ?_) (fun h2 => ?_)
      · exact Exists.intro (Or.inl rfl) (h.2 fun hc => Int32.not_lt.mpr h2 hc.2)
      · exact Exists.intro (Or.inr rfl) (h.1 ⟨Int32.not_lt.mp h1, Int32.not_le.mp h2⟩)
  · exact h.elim

def kX3_hasLeft : List zI := [
  (0, 1, .aload_n 0, [], 0),
  (1, 3, .getfield 29, [], 0),
  (4, 1, .iload_n 1, [], 0),
  (5, 3, .invokevirtual 52, [], 0),
  (8, 1, .iconst (-1), [], (-1)),
  (9, 3, .if_icmp .ne 7, [16], 0),
  (12, 1, .iconst 1, [], 1),
  (13, 3, .goto 4, [17], 0),
  (16, 1, .iconst 0, [], 0),
  (17, 1, .ireturn, [], 0)]
theorem kX3_hasLeft_ok : kX3_hasLeft.all (zck cX3_hasLeft) = true := by decide +kernel

def rX3_hasLeft : Room := { frames := 1, cells := 0, slots := 0, locals := 21 }
abbrev YX3_hasLeft : zM := (RX3, cX3_hasLeft, 2, some .boolean, rX3_hasLeft, UC, zlk fX3, zcs [(52, 2, 0, 0, zvs (UC) 7 (sU_at UC))] [])
theorem YX3_hasLeft_ok : zYok (YX3_hasLeft) := zYok_of fX3_ok (zall (zcal_mono (zcalV (Y := YX3_hasLeft) (y := yX7_at) (cc := cX7_at) (nL := 2) (ret := some .int) (rm := rX7_at) (mU_at UC UC_small) 52 1 7 (T := TX7) rfl wX3_52 ⟨by decide +kernel, by decide +kernel, by decide +kernel⟩ (by decide) ⟨Nat.le_of_ble_eq_true rfl, Nat.le_of_ble_eq_true rfl⟩) (fun _ _ _ _ h => zvs_P h)) znil) znil

theorem mX3_hasLeft : zMet (UC) yX3_hasLeft cX3_hasLeft 2 (some .boolean) rX3_hasLeft (sX3_hasLeft) := by
  refine zmet (Y := YX3_hasLeft) rfl (by decide +kernel) ?_
  intro av F ok ex h
  unfold sX3_hasLeft at h
  split at h
  · rename_i i
    refine zgo_ok (YX3_hasLeft_ok) zno kX3_hasLeft (List.all_eq_true.mp kX3_hasLeft_ok) 0 _ _ _ _ _ ?_
    refine And.intro (fun h1 => ?_) (fun h1 => ?_)
    · exact Exists.intro (Or.inl rfl) (h.2 h1)
    · exact Exists.intro (Or.inr rfl) (h.1 h1)
  · exact h.elim

def kX3_goesUp : List zI := [
  (0, 1, .aload_n 0, [], 0),
  (1, 3, .getfield 26, [], 0),
  (4, 1, .iload_n 1, [], 0),
  (5, 3, .invokevirtual 52, [], 0),
  (8, 1, .iconst 1, [], 1),
  (9, 3, .if_icmp .ne 7, [16], 0),
  (12, 1, .iconst 1, [], 1),
  (13, 3, .goto 4, [17], 0),
  (16, 1, .iconst 0, [], 0),
  (17, 1, .ireturn, [], 0)]
theorem kX3_goesUp_ok : kX3_goesUp.all (zck cX3_goesUp) = true := by decide +kernel

def rX3_goesUp : Room := { frames := 1, cells := 0, slots := 0, locals := 21 }
abbrev YX3_goesUp : zM := (RX3, cX3_goesUp, 2, some .boolean, rX3_goesUp, UC, zlk fX3, zcs [(52, 2, 0, 0, zvs (UC) 7 (sU_at UC))] [])
theorem YX3_goesUp_ok : zYok (YX3_goesUp) := zYok_of fX3_ok (zall (zcal_mono (zcalV (Y := YX3_goesUp) (y := yX7_at) (cc := cX7_at) (nL := 2) (ret := some .int) (rm := rX7_at) (mU_at UC UC_small) 52 1 7 (T := TX7) rfl wX3_52 ⟨by decide +kernel, by decide +kernel, by decide +kernel⟩ (by decide) ⟨Nat.le_of_ble_eq_true rfl, Nat.le_of_ble_eq_true rfl⟩) (fun _ _ _ _ h => zvs_P h)) znil) znil

theorem mX3_goesUp : zMet (UC) yX3_goesUp cX3_goesUp 2 (some .boolean) rX3_goesUp (sX3_goesUp) := by
  refine zmet (Y := YX3_goesUp) rfl (by decide +kernel) ?_
  intro av F ok ex h
  unfold sX3_goesUp at h
  split at h
  · rename_i i
    refine zgo_ok (YX3_goesUp_ok) zno kX3_goesUp (List.all_eq_true.mp kX3_goesUp_ok) 0 _ _ _ _ _ ?_
    refine And.intro (fun h1 => ?_) (fun h1 => ?_)
    · exact Exists.intro (Or.inl rfl) (h.2 h1)
    · exact Exists.intro (Or.inr rfl) (h.1 h1)
  · exact h.elim

def kX3_reachOf : List zI := [
  (0, 1, .aload_n 0, [], 0),
  (1, 1, .iload_n 1, [], 0),
  (2, 3, .invokevirtual 56, [], 0),
  (5, 3, .ifCond .eq 7, [12], 0),
  (8, 1, .iconst (-1), [], (-1)),
  (9, 3, .goto 20, [29], 0),
  (12, 1, .aload_n 0, [], 0),
  (13, 3, .getfield 29, [], 0),
  (16, 1, .iload_n 1, [], 0),
  (17, 3, .invokevirtual 52, [], 0),
  (20, 1, .aload_n 0, [], 0),
  (21, 3, .getfield 26, [], 0),
  (24, 1, .iload_n 1, [], 0),
  (25, 3, .invokevirtual 52, [], 0),
  (28, 1, .iadd, [], 0),
  (29, 1, .ireturn, [], 0)]
theorem kX3_reachOf_ok : kX3_reachOf.all (zck cX3_reachOf) = true := by decide +kernel

def rX3_reachOf : Room := { frames := 2, cells := 0, slots := 0, locals := 42 }
abbrev YX3_reachOf : zM := (RX3, cX3_reachOf, 2, some .int, rX3_reachOf, UC, zlk fX3, zcs [(56, 2, 0, 0, zvs (UC) 3 (sX3_hasLeft)), (52, 2, 0, 0, zvs (UC) 7 (sU_at UC))] [])
theorem YX3_reachOf_ok : zYok (YX3_reachOf) := zYok_of fX3_ok (zall (zcal_mono (zcalV (Y := YX3_reachOf) (y := yX3_hasLeft) (cc := cX3_hasLeft) (nL := 2) (ret := some .boolean) (rm := rX3_hasLeft) (mX3_hasLeft) 56 1 3 (T := TX3) rfl wX3_56 ⟨by decide +kernel, by decide +kernel, by decide +kernel⟩ (by decide) ⟨Nat.le_of_ble_eq_true rfl, Nat.le_of_ble_eq_true rfl⟩) (fun _ _ _ _ h => zvs_P h)) (zall (zcal_mono (zcalV (Y := YX3_reachOf) (y := yX7_at) (cc := cX7_at) (nL := 2) (ret := some .int) (rm := rX7_at) (mU_at UC UC_small) 52 1 7 (T := TX7) rfl wX3_52 ⟨by decide +kernel, by decide +kernel, by decide +kernel⟩ (by decide) ⟨Nat.le_of_ble_eq_true rfl, Nat.le_of_ble_eq_true rfl⟩) (fun _ _ _ _ h => zvs_P h)) znil)) znil

theorem mX3_reachOf : zMet (UC) yX3_reachOf cX3_reachOf 2 (some .int) rX3_reachOf (sX3_reachOf) := by
  refine zmet (Y := YX3_reachOf) rfl (by decide +kernel) ?_
  intro av F ok ex h
  unfold sX3_reachOf at h
  split at h
  · rename_i i
    refine zgo_ok (YX3_reachOf_ok) zno kX3_reachOf (List.all_eq_true.mp kX3_reachOf_ok) 0 _ _ _ _ _ ?_
    repeat' (first
      | refine And.intro (fun h0 => absurd h0 (by decide)) (fun _ => ?_)
      | refine And.intro (fun _ => ?_) (fun h0 => absurd (by decide) h0)
      | refine And.intro (fun _ => ?_) (fun _ => ?_)
      | refine And.intro (fun _ => ?_) ?_
      | refine Exists.intro ?_ ?_)
    · rename_i h1 _
      exact zleaf ok h (by simp only [qRe, if_pos h1]) rfl
    · rename_i h1 _
      exact zleaf ok h (by simp only [qRe, if_neg h1]) rfl
  · exact h.elim

def kX3_isFirstAt : List zI := [
  (0, 1, .aload_n 0, [], 0),
  (1, 3, .getfield 38, [], 0),
  (4, 1, .iload_n 1, [], 0),
  (5, 3, .invokevirtual 52, [], 0),
  (8, 1, .iload_n 1, [], 0),
  (9, 3, .if_icmp .ne 19, [28], 0),
  (12, 1, .aload_n 0, [], 0),
  (13, 3, .getfield 29, [], 0),
  (16, 1, .iload_n 1, [], 0),
  (17, 3, .invokevirtual 52, [], 0),
  (20, 1, .iload_n 2, [], 0),
  (21, 3, .if_icmp .ne 7, [28], 0),
  (24, 1, .iconst 1, [], 1),
  (25, 3, .goto 4, [29], 0),
  (28, 1, .iconst 0, [], 0),
  (29, 1, .ireturn, [], 0)]
theorem kX3_isFirstAt_ok : kX3_isFirstAt.all (zck cX3_isFirstAt) = true := by decide +kernel

def rX3_isFirstAt : Room := { frames := 1, cells := 0, slots := 0, locals := 21 }
abbrev YX3_isFirstAt : zM := (RX3, cX3_isFirstAt, 3, some .boolean, rX3_isFirstAt, UC, zlk fX3, zcs [(52, 2, 0, 0, zvs (UC) 7 (sU_at UC))] [])
theorem YX3_isFirstAt_ok : zYok (YX3_isFirstAt) := zYok_of fX3_ok (zall (zcal_mono (zcalV (Y := YX3_isFirstAt) (y := yX7_at) (cc := cX7_at) (nL := 2) (ret := some .int) (rm := rX7_at) (mU_at UC UC_small) 52 1 7 (T := TX7) rfl wX3_52 ⟨by decide +kernel, by decide +kernel, by decide +kernel⟩ (by decide) ⟨Nat.le_of_ble_eq_true rfl, Nat.le_of_ble_eq_true rfl⟩) (fun _ _ _ _ h => zvs_P h)) znil) znil

theorem mX3_isFirstAt : zMet (UC) yX3_isFirstAt cX3_isFirstAt 3 (some .boolean) rX3_isFirstAt (sX3_isFirstAt) := by
  refine zmet (Y := YX3_isFirstAt) rfl (by decide +kernel) ?_
  intro av F ok ex h
  unfold sX3_isFirstAt at h
  split at h
  · rename_i i l
    refine zgo_ok (YX3_isFirstAt_ok) zno kX3_isFirstAt (List.all_eq_true.mp kX3_isFirstAt_ok) 0 _ _ _ _ _ ?_
    refine And.intro (fun h1 => ?_) (fun h1 => ?_)
    · exact Exists.intro (Or.inl rfl) (h.2 fun hc => h1 hc.1)
    · refine And.intro (fun h2 => ?_) (fun h2 => ?_)
      · exact Exists.intro (Or.inl rfl) (h.2 fun hc => h2 hc.2)
      · exact Exists.intro (Or.inr rfl) (h.1 ⟨h1, h2⟩)
  · exact h.elim

def kX3_convoysAt : List zI := [
  (0, 1, .iconst 0, [], 0),
  (1, 1, .istore_n 2, [], 0),
  (2, 1, .iconst 0, [], 0),
  (3, 1, .istore_n 3, [], 0),
  (4, 1, .iload_n 3, [], 0),
  (5, 1, .aload_n 0, [], 0),
  (6, 3, .getfield 44, [], 0),
  (9, 3, .if_icmp .ge 26, [35], 0),
  (12, 1, .iload_n 2, [], 0),
  (13, 1, .aload_n 0, [], 0),
  (14, 1, .iload_n 3, [], 0),
  (15, 1, .iload_n 1, [], 0),
  (16, 3, .invokevirtual 60, [], 0),
  (19, 3, .ifCond .eq 7, [26], 0),
  (22, 1, .iconst 1, [], 1),
  (23, 3, .goto 4, [27], 0),
  (26, 1, .iconst 0, [], 0),
  (27, 1, .iadd, [], 0),
  (28, 1, .istore_n 2, [], 0),
  (29, 3, .iinc 3 1, [], 1),
  (32, 3, .goto (-28), [4], 0),
  (35, 1, .iload_n 2, [], 0),
  (36, 1, .ireturn, [], 0)]
theorem kX3_convoysAt_ok : kX3_convoysAt.all (zck cX3_convoysAt) = true := by decide +kernel

def rX3_convoysAt : Room := { frames := 2, cells := 0, slots := 0, locals := 43 }
abbrev YX3_convoysAt : zM := (RX3, cX3_convoysAt, 4, some .int, rX3_convoysAt, UC, zlk fX3, zcs [(60, 3, 0, 0, zvs (UC) 3 (sX3_isFirstAt))] [])
theorem YX3_convoysAt_ok : zYok (YX3_convoysAt) := zYok_of fX3_ok (zall (zcal_mono (zcalV (Y := YX3_convoysAt) (y := yX3_isFirstAt) (cc := cX3_isFirstAt) (nL := 3) (ret := some .boolean) (rm := rX3_isFirstAt) (mX3_isFirstAt) 60 2 3 (T := TX3) rfl wX3_60 ⟨by decide +kernel, by decide +kernel, by decide +kernel⟩ (by decide) ⟨Nat.le_of_ble_eq_true rfl, Nat.le_of_ble_eq_true rfl⟩) (fun _ _ _ _ h => zvs_P h)) znil) znil

theorem lX3_convoysAt (ok : zO) (ex : zX) (F : zF) (l : Int32) (h : ok (some (.int (qCva F l (F 25 9).toNatClampNeg))) F) : ∀ (d k : Nat), k + d = (F 25 9).toNatClampNeg → zWP YX3_convoysAt ok ex 4 [some (.ref 25), some (.int l), some (.int (qCva F l k)), some (.int (nI k))] [] 0 0 F := by
  intro d
  induction d with
  | zero =>
    intro k hk
    have hk : k = (F 25 9).toNatClampNeg := hk
    subst hk
    refine zat_ok YX3_convoysAt_ok zno kX3_convoysAt (List.all_eq_true.mp kX3_convoysAt_ok) 4 _ _ _ _ _ ?_
    exact And.intro (fun _ => h) (fun h1 => absurd (zcnt_ge _) h1)
  | succ d ih =>
    intro k hk
    refine zat_ok YX3_convoysAt_ok (inv := zi1 4 (fun ls st kc ks G => zWP YX3_convoysAt ok ex 4 ls st kc ks G)) (zone fun _ _ _ _ _ h => h) kX3_convoysAt (List.all_eq_true.mp kX3_convoysAt_ok) 4 _ _ _ _ _ ?_
    refine And.intro (fun h1 => absurd h1 (zcnt_lt (c := F 25 9) (k := k) (by omega))) (fun h1 => ?_)
    have ih := ih (k + 1) (by omega)
    have e : qCva F l (k + 1) = qCva F l k + (if qFi F (nI k) = nI k ∧ qWa F (nI k) = l then 1 else 0) := rfl
    rw [e, ← nI_1] at ih
    refine And.intro (fun hc => ?_) (fun hc => ?_)
    · rw [if_pos hc] at ih
      exact And.intro (fun h0 => absurd h0 (by decide)) (fun _ => ih)
    · rw [if_neg hc] at ih
      exact And.intro (fun _ => ih) (fun h0 => absurd rfl h0)

theorem mX3_convoysAt : zMet (UC) yX3_convoysAt cX3_convoysAt 4 (some .int) rX3_convoysAt (sX3_convoysAt) := by
  refine zmet (Y := YX3_convoysAt) rfl (by decide +kernel) ?_
  intro av F ok ex h
  unfold sX3_convoysAt at h
  split at h
  · rename_i l
    refine zgo_ok (YX3_convoysAt_ok) (inv := zi1 4 (fun ls st kc ks G => zWP YX3_convoysAt ok ex 4 ls st kc ks G)) (zone fun _ _ _ _ _ h => h) kX3_convoysAt (List.all_eq_true.mp kX3_convoysAt_ok) 0 _ _ _ _ _ ?_
    exact lX3_convoysAt ok ex F l h _ 0 (Nat.zero_add _)
  · exact h.elim

def kX3_shipsInReach : List zI := [
  (0, 1, .iconst 0, [], 0),
  (1, 1, .istore_n 2, [], 0),
  (2, 1, .iconst 0, [], 0),
  (3, 1, .istore_n 3, [], 0),
  (4, 1, .iload_n 3, [], 0),
  (5, 1, .aload_n 0, [], 0),
  (6, 3, .getfield 44, [], 0),
  (9, 3, .if_icmp .ge 26, [35], 0),
  (12, 1, .iload_n 2, [], 0),
  (13, 1, .aload_n 0, [], 0),
  (14, 1, .iload_n 3, [], 0),
  (15, 3, .invokevirtual 64, [], 0),
  (18, 1, .iload_n 1, [], 0),
  (19, 3, .if_icmp .ne 7, [26], 0),
  (22, 1, .iconst 1, [], 1),
  (23, 3, .goto 4, [27], 0),
  (26, 1, .iconst 0, [], 0),
  (27, 1, .iadd, [], 0),
  (28, 1, .istore_n 2, [], 0),
  (29, 3, .iinc 3 1, [], 1),
  (32, 3, .goto (-28), [4], 0),
  (35, 1, .iload_n 2, [], 0),
  (36, 1, .ireturn, [], 0)]
theorem kX3_shipsInReach_ok : kX3_shipsInReach.all (zck cX3_shipsInReach) = true := by decide +kernel

def rX3_shipsInReach : Room := { frames := 3, cells := 0, slots := 0, locals := 63 }
abbrev YX3_shipsInReach : zM := (RX3, cX3_shipsInReach, 4, some .int, rX3_shipsInReach, UC, zlk fX3, zcs [(64, 2, 0, 0, zvs (UC) 3 (sX3_reachOf))] [])
theorem YX3_shipsInReach_ok : zYok (YX3_shipsInReach) := zYok_of fX3_ok (zall (zcal_mono (zcalV (Y := YX3_shipsInReach) (y := yX3_reachOf) (cc := cX3_reachOf) (nL := 2) (ret := some .int) (rm := rX3_reachOf) (mX3_reachOf) 64 1 3 (T := TX3) rfl wX3_64 ⟨by decide +kernel, by decide +kernel, by decide +kernel⟩ (by decide) ⟨Nat.le_of_ble_eq_true rfl, Nat.le_of_ble_eq_true rfl⟩) (fun _ _ _ _ h => zvs_P h)) znil) znil

theorem lX3_shipsInReach (ok : zO) (ex : zX) (F : zF) (r : Int32) (h : ok (some (.int (qSir F r (F 25 9).toNatClampNeg))) F) : ∀ (d k : Nat), k + d = (F 25 9).toNatClampNeg → zWP YX3_shipsInReach ok ex 4 [some (.ref 25), some (.int r), some (.int (qSir F r k)), some (.int (nI k))] [] 0 0 F := by
  intro d
  induction d with
  | zero =>
    intro k hk
    have hk : k = (F 25 9).toNatClampNeg := hk
    subst hk
    refine zat_ok YX3_shipsInReach_ok zno kX3_shipsInReach (List.all_eq_true.mp kX3_shipsInReach_ok) 4 _ _ _ _ _ ?_
    exact And.intro (fun _ => h) (fun h1 => absurd (zcnt_ge _) h1)
  | succ d ih =>
    intro k hk
    refine zat_ok YX3_shipsInReach_ok (inv := zi1 4 (fun ls st kc ks G => zWP YX3_shipsInReach ok ex 4 ls st kc ks G)) (zone fun _ _ _ _ _ h => h) kX3_shipsInReach (List.all_eq_true.mp kX3_shipsInReach_ok) 4 _ _ _ _ _ ?_
    refine And.intro (fun h1 => absurd h1 (zcnt_lt (c := F 25 9) (k := k) (by omega))) (fun h1 => ?_)
    have ih := ih (k + 1) (by omega)
    have e : qSir F r (k + 1) = qSir F r k + (if qRe F (nI k) = r then 1 else 0) := rfl
    rw [e, ← nI_1] at ih
    refine And.intro (fun hc => ?_) (fun hc => ?_)
    · rw [if_neg hc] at ih
      exact ih
    · rw [if_pos hc] at ih
      exact ih

theorem mX3_shipsInReach : zMet (UC) yX3_shipsInReach cX3_shipsInReach 4 (some .int) rX3_shipsInReach (sX3_shipsInReach) := by
  refine zmet (Y := YX3_shipsInReach) rfl (by decide +kernel) ?_
  intro av F ok ex h
  unfold sX3_shipsInReach at h
  split at h
  · rename_i r
    refine zgo_ok (YX3_shipsInReach_ok) (inv := zi1 4 (fun ls st kc ks G => zWP YX3_shipsInReach ok ex 4 ls st kc ks G)) (zone fun _ _ _ _ _ h => h) kX3_shipsInReach (List.all_eq_true.mp kX3_shipsInReach_ok) 0 _ _ _ _ _ ?_
    exact lX3_shipsInReach ok ex F r h _ 0 (Nat.zero_add _)
  · exact h.elim

def kX3_shipsThatLeft : List zI := [
  (0, 1, .aload_n 0, [], 0),
  (1, 1, .iconst (-1), [], (-1)),
  (2, 3, .invokevirtual 67, [], 0),
  (5, 1, .ireturn, [], 0)]
theorem kX3_shipsThatLeft_ok : kX3_shipsThatLeft.all (zck cX3_shipsThatLeft) = true := by decide +kernel

def rX3_shipsThatLeft : Room := { frames := 4, cells := 0, slots := 0, locals := 86 }
abbrev YX3_shipsThatLeft : zM := (RX3, cX3_shipsThatLeft, 1, some .int, rX3_shipsThatLeft, UC, zlk fX3, zcs [(67, 2, 0, 0, zvs (UC) 3 (sX3_shipsInReach))] [])
theorem YX3_shipsThatLeft_ok : zYok (YX3_shipsThatLeft) := zYok_of fX3_ok (zall (zcal_mono (zcalV (Y := YX3_shipsThatLeft) (y := yX3_shipsInReach) (cc := cX3_shipsInReach) (nL := 4) (ret := some .int) (rm := rX3_shipsInReach) (mX3_shipsInReach) 67 1 3 (T := TX3) rfl wX3_67 ⟨by decide +kernel, by decide +kernel, by decide +kernel⟩ (by decide) ⟨Nat.le_of_ble_eq_true rfl, Nat.le_of_ble_eq_true rfl⟩) (fun _ _ _ _ h => zvs_P h)) znil) znil

theorem mX3_shipsThatLeft : zMet (UC) yX3_shipsThatLeft cX3_shipsThatLeft 1 (some .int) rX3_shipsThatLeft (sX3_shipsThatLeft) := by
  refine zmet (Y := YX3_shipsThatLeft) rfl (by decide +kernel) ?_
  intro av F ok ex h
  unfold sX3_shipsThatLeft at h
  split at h
  · refine zgo_ok (YX3_shipsThatLeft_ok) zno kX3_shipsThatLeft (List.all_eq_true.mp kX3_shipsThatLeft_ok) 0 _ _ _ _ _ ?_
    exact h
  · exact h.elim

theorem z16_lt {k f : Nat} (h : k + f = 16) (hf : 0 < f) : ¬ (16 : Int32) ≤ nI k := by
  have h1 := nI_ge (a := k) (b := 16) (by omega) (by decide)
  exact h1
theorem z16_ge : (16 : Int32) ≤ nI 16 := by decide

def kX3_shipsInConvoy : List zI := [
  (0, 1, .iconst 0, [], 0),
  (1, 1, .istore_n 2, [], 0),
  (2, 1, .aload_n 0, [], 0),
  (3, 3, .getfield 38, [], 0),
  (6, 1, .iload_n 1, [], 0),
  (7, 3, .invokevirtual 52, [], 0),
  (10, 1, .istore_n 3, [], 0),
  (11, 1, .iload_n 3, [], 0),
  (12, 1, .iconst (-1), [], (-1)),
  (13, 3, .if_icmp .eq 24, [37], 0),
  (16, 1, .iload_n 2, [], 0),
  (17, 2, .bipush 16, [], 16),
  (19, 3, .if_icmp .ge 18, [37], 0),
  (22, 3, .iinc 2 1, [], 1),
  (25, 1, .aload_n 0, [], 0),
  (26, 3, .getfield 41, [], 0),
  (29, 1, .iload_n 3, [], 0),
  (30, 3, .invokevirtual 52, [], 0),
  (33, 1, .istore_n 3, [], 0),
  (34, 3, .goto (-23), [11], 0),
  (37, 1, .iload_n 2, [], 0),
  (38, 1, .ireturn, [], 0)]
theorem kX3_shipsInConvoy_ok : kX3_shipsInConvoy.all (zck cX3_shipsInConvoy) = true := by decide +kernel

def rX3_shipsInConvoy : Room := { frames := 1, cells := 0, slots := 0, locals := 21 }
abbrev YX3_shipsInConvoy : zM := (RX3, cX3_shipsInConvoy, 4, some .int, rX3_shipsInConvoy, UC, zlk fX3, zcs [(52, 2, 0, 0, zvs (UC) 7 (sU_at UC))] [])
theorem YX3_shipsInConvoy_ok : zYok (YX3_shipsInConvoy) := zYok_of fX3_ok (zall (zcal_mono (zcalV (Y := YX3_shipsInConvoy) (y := yX7_at) (cc := cX7_at) (nL := 2) (ret := some .int) (rm := rX7_at) (mU_at UC UC_small) 52 1 7 (T := TX7) rfl wX3_52 ⟨by decide +kernel, by decide +kernel, by decide +kernel⟩ (by decide) ⟨Nat.le_of_ble_eq_true rfl, Nat.le_of_ble_eq_true rfl⟩) (fun _ _ _ _ h => zvs_P h)) znil) znil

theorem lX3_shipsInConvoy (ok : zO) (ex : zX) (F : zF) (s : Int32) : ∀ (f k : Nat) (i : Int32), k + f = 16 → ok (some (.int (nI (k + qLenC F f i)))) F → zWP YX3_shipsInConvoy ok ex 11 [some (.ref 25), some (.int s), some (.int (nI k)), some (.int i)] [] 0 0 F := by
  intro f
  induction f with
  | zero =>
    intro k i hk h
    have hk : k = 16 := hk
    subst hk
    refine zat_ok YX3_shipsInConvoy_ok zno kX3_shipsInConvoy (List.all_eq_true.mp kX3_shipsInConvoy_ok) 11 _ _ _ _ _ ?_
    exact And.intro (fun _ => h) (fun _ => And.intro (fun _ => h) (fun h1 => absurd z16_ge h1))
  | succ f ih =>
    intro k i hk h
    refine zat_ok YX3_shipsInConvoy_ok (inv := zi1 11 (fun ls st kc ks G => zWP YX3_shipsInConvoy ok ex 11 ls st kc ks G)) (zone fun _ _ _ _ _ h => h) kX3_shipsInConvoy (List.all_eq_true.mp kX3_shipsInConvoy_ok) 11 _ _ _ _ _ ?_
    refine And.intro (fun h1 => ?_) (fun h1 => And.intro (fun h2 => absurd h2 (z16_lt hk (by omega))) (fun _ => ?_))
    · have e : qLenC F (f + 1) i = 0 := by simp only [qLenC]; exact if_pos h1
      rw [e] at h
      exact h
    · have e : qLenC F (f + 1) i = qLenC F f (qNx F i) + 1 := by simp only [qLenC]; exact if_neg h1
      rw [e, show k + (qLenC F f (qNx F i) + 1) = (k + 1) + qLenC F f (qNx F i) by omega] at h
      have := ih (k + 1) (qNx F i) (by omega) h
      rw [← nI_1] at this
      exact this

theorem mX3_shipsInConvoy : zMet (UC) yX3_shipsInConvoy cX3_shipsInConvoy 4 (some .int) rX3_shipsInConvoy (sX3_shipsInConvoy) := by
  refine zmet (Y := YX3_shipsInConvoy) rfl (by decide +kernel) ?_
  intro av F ok ex h
  unfold sX3_shipsInConvoy at h
  split at h
  · rename_i s
    refine zgo_ok (YX3_shipsInConvoy_ok) (inv := zi1 11 (fun ls st kc ks G => zWP YX3_shipsInConvoy ok ex 11 ls st kc ks G)) (zone fun _ _ _ _ _ h => h) kX3_shipsInConvoy (List.all_eq_true.mp kX3_shipsInConvoy_ok) 0 _ _ _ _ _ ?_
    exact lX3_shipsInConvoy ok ex F s 16 0 (qFi F s) rfl (by rw [Nat.zero_add]; exact h)
  · exact h.elim

def kX3_shipOfConvoy : List zI := [
  (0, 1, .iconst 0, [], 0),
  (1, 1, .istore_n 3, [], 0),
  (2, 1, .aload_n 0, [], 0),
  (3, 3, .getfield 38, [], 0),
  (6, 1, .iload_n 1, [], 0),
  (7, 3, .invokevirtual 52, [], 0),
  (10, 2, .istore 4, [], 0),
  (12, 2, .iload 4, [], 0),
  (14, 1, .iconst (-1), [], (-1)),
  (15, 3, .if_icmp .eq 34, [49], 0),
  (18, 1, .iload_n 3, [], 0),
  (19, 2, .bipush 16, [], 16),
  (21, 3, .if_icmp .ge 28, [49], 0),
  (24, 1, .iload_n 3, [], 0),
  (25, 1, .iload_n 2, [], 0),
  (26, 3, .if_icmp .ne 6, [32], 0),
  (29, 2, .iload 4, [], 0),
  (31, 1, .ireturn, [], 0),
  (32, 3, .iinc 3 1, [], 1),
  (35, 1, .aload_n 0, [], 0),
  (36, 3, .getfield 41, [], 0),
  (39, 2, .iload 4, [], 0),
  (41, 3, .invokevirtual 52, [], 0),
  (44, 2, .istore 4, [], 0),
  (46, 3, .goto (-34), [12], 0),
  (49, 1, .iconst (-1), [], (-1)),
  (50, 1, .ireturn, [], 0)]
theorem kX3_shipOfConvoy_ok : kX3_shipOfConvoy.all (zck cX3_shipOfConvoy) = true := by decide +kernel

def rX3_shipOfConvoy : Room := { frames := 1, cells := 0, slots := 0, locals := 21 }
abbrev YX3_shipOfConvoy : zM := (RX3, cX3_shipOfConvoy, 5, some .int, rX3_shipOfConvoy, UC, zlk fX3, zcs [(52, 2, 0, 0, zvs (UC) 7 (sU_at UC))] [])
theorem YX3_shipOfConvoy_ok : zYok (YX3_shipOfConvoy) := zYok_of fX3_ok (zall (zcal_mono (zcalV (Y := YX3_shipOfConvoy) (y := yX7_at) (cc := cX7_at) (nL := 2) (ret := some .int) (rm := rX7_at) (mU_at UC UC_small) 52 1 7 (T := TX7) rfl wX3_52 ⟨by decide +kernel, by decide +kernel, by decide +kernel⟩ (by decide) ⟨Nat.le_of_ble_eq_true rfl, Nat.le_of_ble_eq_true rfl⟩) (fun _ _ _ _ h => zvs_P h)) znil) znil

theorem lX3_shipOfConvoy (ok : zO) (ex : zX) (F : zF) (s x : Int32) : ∀ (f k : Nat) (i : Int32), k + f = 16 → ok (some (.int (qNth F x f k i))) F → zWP YX3_shipOfConvoy ok ex 12 [some (.ref 25), some (.int s), some (.int x), some (.int (nI k)), some (.int i)] [] 0 0 F := by
  intro f
  induction f with
  | zero =>
    intro k i hk h
    have hk : k = 16 := hk
    subst hk
    refine zat_ok YX3_shipOfConvoy_ok zno kX3_shipOfConvoy (List.all_eq_true.mp kX3_shipOfConvoy_ok) 12 _ _ _ _ _ ?_
    exact And.intro (fun _ => h) (fun _ => And.intro (fun _ => h) (fun h1 => absurd z16_ge h1))
  | succ f ih =>
    intro k i hk h
    refine zat_ok YX3_shipOfConvoy_ok (inv := zi1 12 (fun ls st kc ks G => zWP YX3_shipOfConvoy ok ex 12 ls st kc ks G)) (zone fun _ _ _ _ _ h => h) kX3_shipOfConvoy (List.all_eq_true.mp kX3_shipOfConvoy_ok) 12 _ _ _ _ _ ?_
    refine And.intro (fun h1 => ?_) (fun h1 => And.intro (fun h2 => absurd h2 (z16_lt hk (by omega))) (fun _ => And.intro (fun h3 => ?_) (fun h3 => ?_)))
    · have e : qNth F x (f + 1) k i = -1 := by simp only [qNth]; exact if_pos h1
      rw [e] at h
      exact h
    · have e : qNth F x (f + 1) k i = qNth F x f (k + 1) (qNx F i) := by simp only [qNth]; rw [if_neg h1]; exact if_neg h3
      rw [e] at h
      have := ih (k + 1) (qNx F i) (by omega) h
      rw [← nI_1] at this
      exact this
    · have e : qNth F x (f + 1) k i = i := by simp only [qNth]; rw [if_neg h1]; exact if_pos h3
      rw [e] at h
      exact h

theorem mX3_shipOfConvoy : zMet (UC) yX3_shipOfConvoy cX3_shipOfConvoy 5 (some .int) rX3_shipOfConvoy (sX3_shipOfConvoy) := by
  refine zmet (Y := YX3_shipOfConvoy) rfl (by decide +kernel) ?_
  intro av F ok ex h
  unfold sX3_shipOfConvoy at h
  split at h
  · rename_i s x
    refine zgo_ok (YX3_shipOfConvoy_ok) (inv := zi1 12 (fun ls st kc ks G => zWP YX3_shipOfConvoy ok ex 12 ls st kc ks G)) (zone fun _ _ _ _ _ h => h) kX3_shipOfConvoy (List.all_eq_true.mp kX3_shipOfConvoy_ok) 0 _ _ _ _ _ ?_
    exact lX3_shipOfConvoy ok ex F s x 16 0 (qFi F s) rfl h
  · exact h.elim

def kX3_greatestRank : List zI := [
  (0, 1, .iconst 0, [], 0),
  (1, 1, .istore_n 2, [], 0),
  (2, 1, .iconst 0, [], 0),
  (3, 1, .istore_n 3, [], 0),
  (4, 1, .iload_n 1, [], 0),
  (5, 2, .istore 4, [], 0),
  (7, 2, .iload 4, [], 0),
  (9, 1, .iconst (-1), [], (-1)),
  (10, 3, .if_icmp .eq 40, [50], 0),
  (13, 1, .iload_n 3, [], 0),
  (14, 2, .bipush 16, [], 16),
  (16, 3, .if_icmp .ge 34, [50], 0),
  (19, 1, .iload_n 2, [], 0),
  (20, 1, .aload_n 0, [], 0),
  (21, 3, .getfield 23, [], 0),
  (24, 2, .iload 4, [], 0),
  (26, 3, .invokevirtual 52, [], 0),
  (29, 3, .invokestatic 70, [], 0),
  (32, 1, .istore_n 2, [], 0),
  (33, 3, .iinc 3 1, [], 1),
  (36, 1, .aload_n 0, [], 0),
  (37, 3, .getfield 41, [], 0),
  (40, 2, .iload 4, [], 0),
  (42, 3, .invokevirtual 52, [], 0),
  (45, 2, .istore 4, [], 0),
  (47, 3, .goto (-40), [7], 0),
  (50, 1, .iload_n 2, [], 0),
  (51, 1, .ireturn, [], 0)]
theorem kX3_greatestRank_ok : kX3_greatestRank.all (zck cX3_greatestRank) = true := by decide +kernel

def rX3_greatestRank : Room := { frames := 1, cells := 0, slots := 0, locals := 21 }
abbrev YX3_greatestRank : zM := (RX3, cX3_greatestRank, 5, some .int, rX3_greatestRank, UC, zlk fX3, zcs [(52, 2, 0, 0, zvs (UC) 7 (sU_at UC))] [(70, 2, 0, 0, sJ9_max_7cf53)])
theorem YX3_greatestRank_ok : zYok (YX3_greatestRank) := zYok_of fX3_ok (zall (zcal_mono (zcalV (Y := YX3_greatestRank) (y := yX7_at) (cc := cX7_at) (nL := 2) (ret := some .int) (rm := rX7_at) (mU_at UC UC_small) 52 1 7 (T := TX7) rfl wX3_52 ⟨by decide +kernel, by decide +kernel, by decide +kernel⟩ (by decide) ⟨Nat.le_of_ble_eq_true rfl, Nat.le_of_ble_eq_true rfl⟩) (fun _ _ _ _ h => zvs_P h)) znil) (zall (zcalS (Y := YX3_greatestRank) (y := yJ9_max_7cf53) (cc := cJ9_max_7cf53) (nL := 2) (ret := some .int) (rm := rJ9_max_7cf53) (mJ9_max_7cf53 UC) 70 2 wX3_70 ⟨by decide +kernel, by decide +kernel, by decide +kernel⟩ (by decide) ⟨Nat.le_of_ble_eq_true rfl, Nat.le_of_ble_eq_true rfl⟩) znil)

theorem lX3_greatestRank (ok : zO) (ex : zX) (F : zF) (s : Int32) : ∀ (f k : Nat) (i a : Int32), k + f = 16 → ok (some (.int (qGr F f i a))) F → zWP YX3_greatestRank ok ex 7 [some (.ref 25), some (.int s), some (.int a), some (.int (nI k)), some (.int i)] [] 0 0 F := by
  intro f
  induction f with
  | zero =>
    intro k i a hk h
    have hk : k = 16 := hk
    subst hk
    refine zat_ok YX3_greatestRank_ok zno kX3_greatestRank (List.all_eq_true.mp kX3_greatestRank_ok) 7 _ _ _ _ _ ?_
    exact And.intro (fun _ => h) (fun _ => And.intro (fun _ => h) (fun h1 => absurd z16_ge h1))
  | succ f ih =>
    intro k i a hk h
    refine zat_ok YX3_greatestRank_ok (inv := zi1 7 (fun ls st kc ks G => zWP YX3_greatestRank ok ex 7 ls st kc ks G)) (zone fun _ _ _ _ _ h => h) kX3_greatestRank (List.all_eq_true.mp kX3_greatestRank_ok) 7 _ _ _ _ _ ?_
    refine And.intro (fun h1 => ?_) (fun h1 => And.intro (fun h2 => absurd h2 (z16_lt hk (by omega))) (fun _ => ?_))
    · have e : qGr F (f + 1) i a = a := by simp only [qGr]; exact if_pos h1
      rw [e] at h
      exact h
    · have e : qGr F (f + 1) i a = qGr F f (qNx F i) (imax a (qRk F i)) := by simp only [qGr]; exact if_neg h1
      rw [e] at h
      have := ih (k + 1) (qNx F i) _ (by omega) h
      rw [← nI_1] at this
      exact this

theorem mX3_greatestRank : zMet (UC) yX3_greatestRank cX3_greatestRank 5 (some .int) rX3_greatestRank (sX3_greatestRank) := by
  refine zmet (Y := YX3_greatestRank) rfl (by decide +kernel) ?_
  intro av F ok ex h
  unfold sX3_greatestRank at h
  split at h
  · rename_i s
    refine zgo_ok (YX3_greatestRank_ok) (inv := zi1 7 (fun ls st kc ks G => zWP YX3_greatestRank ok ex 7 ls st kc ks G)) (zone fun _ _ _ _ _ h => h) kX3_greatestRank (List.all_eq_true.mp kX3_greatestRank_ok) 0 _ _ _ _ _ ?_
    exact lX3_greatestRank ok ex F s 16 0 s 0 rfl h
  · exact h.elim

def kX3_nameFirst : List zI := [
  (0, 1, .iconst 0, [], 0),
  (1, 1, .istore_n 3, [], 0),
  (2, 1, .iload_n 1, [], 0),
  (3, 2, .istore 4, [], 0),
  (5, 2, .iload 4, [], 0),
  (7, 1, .iconst (-1), [], (-1)),
  (8, 3, .if_icmp .eq 36, [44], 0),
  (11, 1, .iload_n 3, [], 0),
  (12, 2, .bipush 16, [], 16),
  (14, 3, .if_icmp .ge 30, [44], 0),
  (17, 1, .aload_n 0, [], 0),
  (18, 3, .getfield 38, [], 0),
  (21, 2, .iload 4, [], 0),
  (23, 1, .iload_n 2, [], 0),
  (24, 3, .invokevirtual 48, [], 0),
  (27, 3, .iinc 3 1, [], 1),
  (30, 1, .aload_n 0, [], 0),
  (31, 3, .getfield 41, [], 0),
  (34, 2, .iload 4, [], 0),
  (36, 3, .invokevirtual 52, [], 0),
  (39, 2, .istore 4, [], 0),
  (41, 3, .goto (-36), [5], 0),
  (44, 1, .return_, [], 0)]
theorem kX3_nameFirst_ok : kX3_nameFirst.all (zck cX3_nameFirst) = true := by decide +kernel

def rX3_nameFirst : Room := { frames := 1, cells := 0, slots := 0, locals := 22 }
abbrev YX3_nameFirst : zM := (RX3, cX3_nameFirst, 5, none, rX3_nameFirst, UC, zlk fX3, zcs [(48, 3, 0, 0, zvs (UC) 7 (sU_put UC)), (52, 2, 0, 0, zvs (UC) 7 (sU_at UC))] [])
theorem YX3_nameFirst_ok : zYok (YX3_nameFirst) := zYok_of fX3_ok (zall (zcal_mono (zcalV (Y := YX3_nameFirst) (y := yX7_put) (cc := cX7_put) (nL := 3) (ret := none) (rm := rX7_put) (mU_put UC UC_small) 48 2 7 (T := TX7) rfl wX3_48 ⟨by decide +kernel, by decide +kernel, by decide +kernel⟩ (by decide) ⟨Nat.le_of_ble_eq_true rfl, Nat.le_of_ble_eq_true rfl⟩) (fun _ _ _ _ h => zvs_P h)) (zall (zcal_mono (zcalV (Y := YX3_nameFirst) (y := yX7_at) (cc := cX7_at) (nL := 2) (ret := some .int) (rm := rX7_at) (mU_at UC UC_small) 52 1 7 (T := TX7) rfl wX3_52 ⟨by decide +kernel, by decide +kernel, by decide +kernel⟩ (by decide) ⟨Nat.le_of_ble_eq_true rfl, Nat.le_of_ble_eq_true rfl⟩) (fun _ _ _ _ h => zvs_P h)) znil)) znil

theorem lX3_nameFirst (ok : zO) (ex : zX) (x v : Int32) : ∀ (f k : Nat) (i : Int32) (F : zF), k + f = 16 → ok none (qNm v f F i) → zWP YX3_nameFirst ok ex 5 [some (.ref 25), some (.int x), some (.int v), some (.int (nI k)), some (.int i)] [] 0 0 F := by
  intro f
  induction f with
  | zero =>
    intro k i F hk h
    have hk : k = 16 := hk
    subst hk
    refine zat_ok YX3_nameFirst_ok zno kX3_nameFirst (List.all_eq_true.mp kX3_nameFirst_ok) 5 _ _ _ _ _ ?_
    exact And.intro (fun _ => h) (fun _ => And.intro (fun _ => h) (fun h1 => absurd z16_ge h1))
  | succ f ih =>
    intro k i F hk h
    refine zat_ok YX3_nameFirst_ok (inv := zi1 5 (fun ls st kc ks G => zWP YX3_nameFirst ok ex 5 ls st kc ks G)) (zone fun _ _ _ _ _ h => h) kX3_nameFirst (List.all_eq_true.mp kX3_nameFirst_ok) 5 _ _ _ _ _ ?_
    refine And.intro (fun h1 => ?_) (fun h1 => And.intro (fun h2 => absurd h2 (z16_lt hk (by omega))) (fun _ => ?_))
    · have e : qNm v (f + 1) F i = F := by simp only [qNm]; exact if_pos h1
      rw [e] at h
      exact h
    · have e : qNm v (f + 1) F i = qNm v f (zwr 16 F 41 i v) (qNx (zwr 16 F 41 i v) i) := by simp only [qNm]; exact if_neg h1
      rw [e] at h
      have := ih (k + 1) _ _ (by omega) h
      rw [← nI_1] at this
      exact this

theorem mX3_nameFirst : zMet (UC) yX3_nameFirst cX3_nameFirst 5 (none) rX3_nameFirst (sX3_nameFirst) := by
  refine zmet (Y := YX3_nameFirst) rfl (by decide +kernel) ?_
  intro av F ok ex h
  unfold sX3_nameFirst at h
  split at h
  · rename_i i v
    refine zgo_ok (YX3_nameFirst_ok) (inv := zi1 5 (fun ls st kc ks G => zWP YX3_nameFirst ok ex 5 ls st kc ks G)) (zone fun _ _ _ _ _ h => h) kX3_nameFirst (List.all_eq_true.mp kX3_nameFirst_ok) 0 _ _ _ _ _ ?_
    exact lX3_nameFirst ok ex i v 16 0 i F rfl h
  · exact h.elim

def kX3_shipAheadOf : List zI := [
  (0, 1, .iconst 0, [], 0),
  (1, 1, .istore_n 2, [], 0),
  (2, 1, .iload_n 2, [], 0),
  (3, 1, .aload_n 0, [], 0),
  (4, 3, .getfield 44, [], 0),
  (7, 3, .if_icmp .ge 23, [30], 0),
  (10, 1, .aload_n 0, [], 0),
  (11, 3, .getfield 41, [], 0),
  (14, 1, .iload_n 2, [], 0),
  (15, 3, .invokevirtual 52, [], 0),
  (18, 1, .iload_n 1, [], 0),
  (19, 3, .if_icmp .ne 5, [24], 0),
  (22, 1, .iload_n 2, [], 0),
  (23, 1, .ireturn, [], 0),
  (24, 3, .iinc 2 1, [], 1),
  (27, 3, .goto (-25), [2], 0),
  (30, 1, .iconst (-1), [], (-1)),
  (31, 1, .ireturn, [], 0)]
theorem kX3_shipAheadOf_ok : kX3_shipAheadOf.all (zck cX3_shipAheadOf) = true := by decide +kernel

def rX3_shipAheadOf : Room := { frames := 1, cells := 0, slots := 0, locals := 21 }
abbrev YX3_shipAheadOf : zM := (RX3, cX3_shipAheadOf, 3, some .int, rX3_shipAheadOf, UC, zlk fX3, zcs [(52, 2, 0, 0, zvs (UC) 7 (sU_at UC))] [])
theorem YX3_shipAheadOf_ok : zYok (YX3_shipAheadOf) := zYok_of fX3_ok (zall (zcal_mono (zcalV (Y := YX3_shipAheadOf) (y := yX7_at) (cc := cX7_at) (nL := 2) (ret := some .int) (rm := rX7_at) (mU_at UC UC_small) 52 1 7 (T := TX7) rfl wX3_52 ⟨by decide +kernel, by decide +kernel, by decide +kernel⟩ (by decide) ⟨Nat.le_of_ble_eq_true rfl, Nat.le_of_ble_eq_true rfl⟩) (fun _ _ _ _ h => zvs_P h)) znil) znil

theorem lX3_shipAheadOf (ok : zO) (ex : zX) (F : zF) (s : Int32) : ∀ (d k : Nat), k + d = (F 25 9).toNatClampNeg → ok (some (.int (qAh F s d k))) F → zWP YX3_shipAheadOf ok ex 2 [some (.ref 25), some (.int s), some (.int (nI k))] [] 0 0 F := by
  intro d
  induction d with
  | zero =>
    intro k hk h
    have hk : k = (F 25 9).toNatClampNeg := hk
    subst hk
    refine zat_ok YX3_shipAheadOf_ok zno kX3_shipAheadOf (List.all_eq_true.mp kX3_shipAheadOf_ok) 2 _ _ _ _ _ ?_
    exact And.intro (fun _ => h) (fun h1 => absurd (zcnt_ge _) h1)
  | succ d ih =>
    intro k hk h
    refine zat_ok YX3_shipAheadOf_ok (inv := zi1 2 (fun ls st kc ks G => zWP YX3_shipAheadOf ok ex 2 ls st kc ks G)) (zone fun _ _ _ _ _ h => h) kX3_shipAheadOf (List.all_eq_true.mp kX3_shipAheadOf_ok) 2 _ _ _ _ _ ?_
    refine And.intro (fun h1 => absurd h1 (zcnt_lt (c := F 25 9) (k := k) (by omega))) (fun h1 => And.intro (fun h2 => ?_) (fun h2 => ?_))
    · have e : qAh F s (d + 1) k = qAh F s d (k + 1) := by simp only [qAh]; exact if_neg h2
      rw [e] at h
      have := ih (k + 1) (by omega) h
      rw [← nI_1] at this
      exact this
    · have e : qAh F s (d + 1) k = nI k := by simp only [qAh]; exact if_pos h2
      rw [e] at h
      exact h

theorem mX3_shipAheadOf : zMet (UC) yX3_shipAheadOf cX3_shipAheadOf 3 (some .int) rX3_shipAheadOf (sX3_shipAheadOf) := by
  refine zmet (Y := YX3_shipAheadOf) rfl (by decide +kernel) ?_
  intro av F ok ex h
  unfold sX3_shipAheadOf at h
  split at h
  · rename_i s
    refine zgo_ok (YX3_shipAheadOf_ok) (inv := zi1 2 (fun ls st kc ks G => zWP YX3_shipAheadOf ok ex 2 ls st kc ks G)) (zone fun _ _ _ _ _ h => h) kX3_shipAheadOf (List.all_eq_true.mp kX3_shipAheadOf_ok) 0 _ _ _ _ _ ?_
    exact lX3_shipAheadOf ok ex F s _ 0 (Nat.zero_add _) h
  · exact h.elim

def kX3_joinBehind : List zI := [
  (0, 1, .aload_n 0, [], 0),
  (1, 3, .getfield 41, [], 0),
  (4, 1, .aload_n 0, [], 0),
  (5, 1, .iload_n 1, [], 0),
  (6, 1, .aload_n 0, [], 0),
  (7, 1, .iload_n 1, [], 0),
  (8, 3, .invokevirtual 76, [], 0),
  (11, 1, .iconst 1, [], 1),
  (12, 1, .isub, [], 0),
  (13, 3, .invokevirtual 79, [], 0),
  (16, 1, .iload_n 2, [], 0),
  (17, 3, .invokevirtual 48, [], 0),
  (20, 1, .aload_n 0, [], 0),
  (21, 1, .iload_n 2, [], 0),
  (22, 1, .iload_n 1, [], 0),
  (23, 3, .invokevirtual 82, [], 0),
  (26, 1, .return_, [], 0)]
theorem kX3_joinBehind_ok : kX3_joinBehind.all (zck cX3_joinBehind) = true := by decide +kernel

def rX3_joinBehind : Room := { frames := 2, cells := 0, slots := 0, locals := 46 }
abbrev YX3_joinBehind : zM := (RX3, cX3_joinBehind, 3, none, rX3_joinBehind, UC, zlk fX3, zcs [(76, 2, 0, 0, zvs (UC) 3 (sX3_shipsInConvoy)), (79, 3, 0, 0, zvs (UC) 3 (sX3_shipOfConvoy)), (48, 3, 0, 0, zvs (UC) 7 (sU_put UC)), (82, 3, 0, 0, zvs (UC) 3 (sX3_nameFirst))] [])
theorem YX3_joinBehind_ok : zYok (YX3_joinBehind) := zYok_of fX3_ok (zall (zcal_mono (zcalV (Y := YX3_joinBehind) (y := yX3_shipsInConvoy) (cc := cX3_shipsInConvoy) (nL := 4) (ret := some .int) (rm := rX3_shipsInConvoy) (mX3_shipsInConvoy) 76 1 3 (T := TX3) rfl wX3_76 ⟨by decide +kernel, by decide +kernel, by decide +kernel⟩ (by decide) ⟨Nat.le_of_ble_eq_true rfl, Nat.le_of_ble_eq_true rfl⟩) (fun _ _ _ _ h => zvs_P h)) (zall (zcal_mono (zcalV (Y := YX3_joinBehind) (y := yX3_shipOfConvoy) (cc := cX3_shipOfConvoy) (nL := 5) (ret := some .int) (rm := rX3_shipOfConvoy) (mX3_shipOfConvoy) 79 2 3 (T := TX3) rfl wX3_79 ⟨by decide +kernel, by decide +kernel, by decide +kernel⟩ (by decide) ⟨Nat.le_of_ble_eq_true rfl, Nat.le_of_ble_eq_true rfl⟩) (fun _ _ _ _ h => zvs_P h)) (zall (zcal_mono (zcalV (Y := YX3_joinBehind) (y := yX7_put) (cc := cX7_put) (nL := 3) (ret := none) (rm := rX7_put) (mU_put UC UC_small) 48 2 7 (T := TX7) rfl wX3_48 ⟨by decide +kernel, by decide +kernel, by decide +kernel⟩ (by decide) ⟨Nat.le_of_ble_eq_true rfl, Nat.le_of_ble_eq_true rfl⟩) (fun _ _ _ _ h => zvs_P h)) (zall (zcal_mono (zcalV (Y := YX3_joinBehind) (y := yX3_nameFirst) (cc := cX3_nameFirst) (nL := 5) (ret := none) (rm := rX3_nameFirst) (mX3_nameFirst) 82 2 3 (T := TX3) rfl wX3_82 ⟨by decide +kernel, by decide +kernel, by decide +kernel⟩ (by decide) ⟨Nat.le_of_ble_eq_true rfl, Nat.le_of_ble_eq_true rfl⟩) (fun _ _ _ _ h => zvs_P h)) znil)))) znil

theorem mX3_joinBehind : zMet (UC) yX3_joinBehind cX3_joinBehind 3 (none) rX3_joinBehind (sX3_joinBehind) := by
  refine zmet (Y := YX3_joinBehind) rfl (by decide +kernel) ?_
  intro av F ok ex h
  unfold sX3_joinBehind at h
  split at h
  · rename_i a b
    refine zgo_ok (YX3_joinBehind_ok) zno kX3_joinBehind (List.all_eq_true.mp kX3_joinBehind_ok) 0 _ _ _ _ _ ?_
    exact h
  · exact h.elim

def kX3_cutBehind : List zI := [
  (0, 1, .aload_n 0, [], 0),
  (1, 1, .iload_n 1, [], 0),
  (2, 1, .iload_n 2, [], 0),
  (3, 3, .invokevirtual 79, [], 0),
  (6, 1, .istore_n 3, [], 0),
  (7, 1, .aload_n 0, [], 0),
  (8, 3, .getfield 41, [], 0),
  (11, 1, .aload_n 0, [], 0),
  (12, 1, .iload_n 1, [], 0),
  (13, 1, .iload_n 2, [], 0),
  (14, 1, .iconst 1, [], 1),
  (15, 1, .isub, [], 0),
  (16, 3, .invokevirtual 79, [], 0),
  (19, 1, .iconst (-1), [], (-1)),
  (20, 3, .invokevirtual 48, [], 0),
  (23, 1, .aload_n 0, [], 0),
  (24, 1, .iload_n 3, [], 0),
  (25, 1, .iload_n 3, [], 0),
  (26, 3, .invokevirtual 82, [], 0),
  (29, 1, .return_, [], 0)]
theorem kX3_cutBehind_ok : kX3_cutBehind.all (zck cX3_cutBehind) = true := by decide +kernel

def rX3_cutBehind : Room := { frames := 2, cells := 0, slots := 0, locals := 46 }
abbrev YX3_cutBehind : zM := (RX3, cX3_cutBehind, 4, none, rX3_cutBehind, UC, zlk fX3, zcs [(79, 3, 0, 0, zvs (UC) 3 (sX3_shipOfConvoy)), (48, 3, 0, 0, zvs (UC) 7 (sU_put UC)), (82, 3, 0, 0, zvs (UC) 3 (sX3_nameFirst))] [])
theorem YX3_cutBehind_ok : zYok (YX3_cutBehind) := zYok_of fX3_ok (zall (zcal_mono (zcalV (Y := YX3_cutBehind) (y := yX3_shipOfConvoy) (cc := cX3_shipOfConvoy) (nL := 5) (ret := some .int) (rm := rX3_shipOfConvoy) (mX3_shipOfConvoy) 79 2 3 (T := TX3) rfl wX3_79 ⟨by decide +kernel, by decide +kernel, by decide +kernel⟩ (by decide) ⟨Nat.le_of_ble_eq_true rfl, Nat.le_of_ble_eq_true rfl⟩) (fun _ _ _ _ h => zvs_P h)) (zall (zcal_mono (zcalV (Y := YX3_cutBehind) (y := yX7_put) (cc := cX7_put) (nL := 3) (ret := none) (rm := rX7_put) (mU_put UC UC_small) 48 2 7 (T := TX7) rfl wX3_48 ⟨by decide +kernel, by decide +kernel, by decide +kernel⟩ (by decide) ⟨Nat.le_of_ble_eq_true rfl, Nat.le_of_ble_eq_true rfl⟩) (fun _ _ _ _ h => zvs_P h)) (zall (zcal_mono (zcalV (Y := YX3_cutBehind) (y := yX3_nameFirst) (cc := cX3_nameFirst) (nL := 5) (ret := none) (rm := rX3_nameFirst) (mX3_nameFirst) 82 2 3 (T := TX3) rfl wX3_82 ⟨by decide +kernel, by decide +kernel, by decide +kernel⟩ (by decide) ⟨Nat.le_of_ble_eq_true rfl, Nat.le_of_ble_eq_true rfl⟩) (fun _ _ _ _ h => zvs_P h)) znil))) znil

theorem mX3_cutBehind : zMet (UC) yX3_cutBehind cX3_cutBehind 4 (none) rX3_cutBehind (sX3_cutBehind) := by
  refine zmet (Y := YX3_cutBehind) rfl (by decide +kernel) ?_
  intro av F ok ex h
  unfold sX3_cutBehind at h
  split at h
  · rename_i a r
    refine zgo_ok (YX3_cutBehind_ok) zno kX3_cutBehind (List.all_eq_true.mp kX3_cutBehind_ok) 0 _ _ _ _ _ ?_
    exact h
  · exact h.elim

def kX3_leave : List zI := [
  (0, 1, .aload_n 0, [], 0),
  (1, 3, .getfield 29, [], 0),
  (4, 1, .iload_n 1, [], 0),
  (5, 1, .iconst (-1), [], (-1)),
  (6, 3, .invokevirtual 48, [], 0),
  (9, 1, .aload_n 0, [], 0),
  (10, 3, .getfield 35, [], 0),
  (13, 1, .iload_n 1, [], 0),
  (14, 1, .iload_n 2, [], 0),
  (15, 3, .invokevirtual 48, [], 0),
  (18, 1, .aload_n 0, [], 0),
  (19, 3, .getfield 38, [], 0),
  (22, 1, .iload_n 1, [], 0),
  (23, 1, .iload_n 1, [], 0),
  (24, 3, .invokevirtual 48, [], 0),
  (27, 1, .aload_n 0, [], 0),
  (28, 3, .getfield 41, [], 0),
  (31, 1, .iload_n 1, [], 0),
  (32, 1, .iconst (-1), [], (-1)),
  (33, 3, .invokevirtual 48, [], 0),
  (36, 1, .return_, [], 0)]
theorem kX3_leave_ok : kX3_leave.all (zck cX3_leave) = true := by decide +kernel

def rX3_leave : Room := { frames := 1, cells := 0, slots := 0, locals := 22 }
abbrev YX3_leave : zM := (RX3, cX3_leave, 3, none, rX3_leave, UC, zlk fX3, zcs [(48, 3, 0, 0, zvs (UC) 7 (sU_put UC))] [])
theorem YX3_leave_ok : zYok (YX3_leave) := zYok_of fX3_ok (zall (zcal_mono (zcalV (Y := YX3_leave) (y := yX7_put) (cc := cX7_put) (nL := 3) (ret := none) (rm := rX7_put) (mU_put UC UC_small) 48 2 7 (T := TX7) rfl wX3_48 ⟨by decide +kernel, by decide +kernel, by decide +kernel⟩ (by decide) ⟨Nat.le_of_ble_eq_true rfl, Nat.le_of_ble_eq_true rfl⟩) (fun _ _ _ _ h => zvs_P h)) znil) znil

theorem mX3_leave : zMet (UC) yX3_leave cX3_leave 3 (none) rX3_leave (sX3_leave) := by
  refine zmet (Y := YX3_leave) rfl (by decide +kernel) ?_
  intro av F ok ex h
  unfold sX3_leave at h
  split at h
  · rename_i s t
    refine zgo_ok (YX3_leave_ok) zno kX3_leave (List.all_eq_true.mp kX3_leave_ok) 0 _ _ _ _ _ ?_
    exact h
  · exact h.elim

def kX3_takeOut : List zI := [
  (0, 1, .aload_n 0, [], 0),
  (1, 3, .getfield 38, [], 0),
  (4, 1, .iload_n 1, [], 0),
  (5, 3, .invokevirtual 52, [], 0),
  (8, 1, .istore_n 2, [], 0),
  (9, 1, .aload_n 0, [], 0),
  (10, 3, .getfield 41, [], 0),
  (13, 1, .iload_n 1, [], 0),
  (14, 3, .invokevirtual 52, [], 0),
  (17, 1, .istore_n 3, [], 0),
  (18, 1, .iload_n 2, [], 0),
  (19, 1, .iload_n 1, [], 0),
  (20, 3, .if_icmp .ne 12, [32], 0),
  (23, 1, .aload_n 0, [], 0),
  (24, 1, .iload_n 3, [], 0),
  (25, 1, .iload_n 3, [], 0),
  (26, 3, .invokevirtual 82, [], 0),
  (29, 3, .goto 16, [45], 0),
  (32, 1, .aload_n 0, [], 0),
  (33, 3, .getfield 41, [], 0),
  (36, 1, .aload_n 0, [], 0),
  (37, 1, .iload_n 1, [], 0),
  (38, 3, .invokevirtual 85, [], 0),
  (41, 1, .iload_n 3, [], 0),
  (42, 3, .invokevirtual 48, [], 0),
  (45, 1, .aload_n 0, [], 0),
  (46, 3, .getfield 38, [], 0),
  (49, 1, .iload_n 1, [], 0),
  (50, 1, .iload_n 1, [], 0),
  (51, 3, .invokevirtual 48, [], 0),
  (54, 1, .aload_n 0, [], 0),
  (55, 3, .getfield 41, [], 0),
  (58, 1, .iload_n 1, [], 0),
  (59, 1, .iconst (-1), [], (-1)),
  (60, 3, .invokevirtual 48, [], 0),
  (63, 1, .return_, [], 0)]
theorem kX3_takeOut_ok : kX3_takeOut.all (zck cX3_takeOut) = true := by decide +kernel

def rX3_takeOut : Room := { frames := 2, cells := 0, slots := 0, locals := 46 }
abbrev YX3_takeOut : zM := (RX3, cX3_takeOut, 4, none, rX3_takeOut, UC, zlk fX3, zcs [(52, 2, 0, 0, zvs (UC) 7 (sU_at UC)), (82, 3, 0, 0, zvs (UC) 3 (sX3_nameFirst)), (85, 2, 0, 0, zvs (UC) 3 (sX3_shipAheadOf)), (48, 3, 0, 0, zvs (UC) 7 (sU_put UC))] [])
theorem YX3_takeOut_ok : zYok (YX3_takeOut) := zYok_of fX3_ok (zall (zcal_mono (zcalV (Y := YX3_takeOut) (y := yX7_at) (cc := cX7_at) (nL := 2) (ret := some .int) (rm := rX7_at) (mU_at UC UC_small) 52 1 7 (T := TX7) rfl wX3_52 ⟨by decide +kernel, by decide +kernel, by decide +kernel⟩ (by decide) ⟨Nat.le_of_ble_eq_true rfl, Nat.le_of_ble_eq_true rfl⟩) (fun _ _ _ _ h => zvs_P h)) (zall (zcal_mono (zcalV (Y := YX3_takeOut) (y := yX3_nameFirst) (cc := cX3_nameFirst) (nL := 5) (ret := none) (rm := rX3_nameFirst) (mX3_nameFirst) 82 2 3 (T := TX3) rfl wX3_82 ⟨by decide +kernel, by decide +kernel, by decide +kernel⟩ (by decide) ⟨Nat.le_of_ble_eq_true rfl, Nat.le_of_ble_eq_true rfl⟩) (fun _ _ _ _ h => zvs_P h)) (zall (zcal_mono (zcalV (Y := YX3_takeOut) (y := yX3_shipAheadOf) (cc := cX3_shipAheadOf) (nL := 3) (ret := some .int) (rm := rX3_shipAheadOf) (mX3_shipAheadOf) 85 1 3 (T := TX3) rfl wX3_85 ⟨by decide +kernel, by decide +kernel, by decide +kernel⟩ (by decide) ⟨Nat.le_of_ble_eq_true rfl, Nat.le_of_ble_eq_true rfl⟩) (fun _ _ _ _ h => zvs_P h)) (zall (zcal_mono (zcalV (Y := YX3_takeOut) (y := yX7_put) (cc := cX7_put) (nL := 3) (ret := none) (rm := rX7_put) (mU_put UC UC_small) 48 2 7 (T := TX7) rfl wX3_48 ⟨by decide +kernel, by decide +kernel, by decide +kernel⟩ (by decide) ⟨Nat.le_of_ble_eq_true rfl, Nat.le_of_ble_eq_true rfl⟩) (fun _ _ _ _ h => zvs_P h)) znil)))) znil

theorem mX3_takeOut : zMet (UC) yX3_takeOut cX3_takeOut 4 (none) rX3_takeOut (sX3_takeOut) := by
  refine zmet (Y := YX3_takeOut) rfl (by decide +kernel) ?_
  intro av F ok ex h
  unfold sX3_takeOut at h
  split at h
  · rename_i s
    refine zgo_ok (YX3_takeOut_ok) zno kX3_takeOut (List.all_eq_true.mp kX3_takeOut_ok) 0 _ _ _ _ _ ?_
    unfold qTk at h
    refine And.intro (fun h1 => ?_) (fun h1 => ?_)
    · rw [if_neg h1] at h
      exact h
    · rw [if_pos h1] at h
      exact h
  · exact h.elim

end ZFl
end
section
/-! LockMaster.GoingRow: 44: ships, sizes, draught, least rank -/
section ZGo
def qLk1 (F : zF) (i : Int32) : zF := zup (zup (zup (zup F 44 0 (F 44 0 + 1)) 44 1 (F 44 1 + qSz F i)) 44 2 (imax (F 44 2) (qDr F i))) 44 3 (imin (F 44 3) (qRk F i))
def qLk0 (F : zF) : zF := zup (zup (zup (zup F 44 0 0) 44 1 0) 44 2 0) 44 3 3
def qLok (len : Int32) : Nat → zF → Int32 → zF
  | 0, F, _ => F
  | f + 1, F, i => if i = -1 then F else if len < F 44 1 + qSz F i then F else qLok len f (qLk1 F i) (qNx F i)
def qLook (F : zF) (h len : Int32) : zF := qLok len 16 (qLk0 F) h
abbrev qHb (F : zF) (d l b : Int32) : Prop := (d = 2 ∧ F 44 3 < 3) ∨ (d ≠ 2 ∧ d = 1 ∧ 2 * F 44 1 < l ∧ b = 0)
def sX4_lookAt : zSp := fun as F ok _ => match as with
  | [.ref 44, .ref 25, .int h, .int l] => ok none (qLook F h l)
  | _ => False
def sX4_isHeldBack : zSp := fun as F ok _ => match as with
  | [.ref 44, .int d, .int l, .int b] => zbo (qHb F d l b) F ok
  | _ => False
theorem qLk1_0 (F : zF) (i : Int32) : qLk1 F i 44 0 = F 44 0 + 1 := by simp [qLk1, zup]
theorem qLk1_o (F : zF) (i : Int32) {k : Nat} (h : k ≠ 44) : qLk1 F i k = F k := by simp only [qLk1, zup_ne _ _ _ h]

def kX4_lookAt : List zI := [
  (0, 1, .aload_n 0, [], 0),
  (1, 1, .iconst 0, [], 0),
  (2, 3, .putfield 9, [], 0),
  (5, 1, .aload_n 0, [], 0),
  (6, 1, .iconst 0, [], 0),
  (7, 3, .putfield 15, [], 0),
  (10, 1, .aload_n 0, [], 0),
  (11, 1, .iconst 0, [], 0),
  (12, 3, .putfield 18, [], 0),
  (15, 1, .aload_n 0, [], 0),
  (16, 1, .iconst 3, [], 3),
  (17, 3, .putfield 21, [], 0),
  (20, 1, .iload_n 2, [], 0),
  (21, 2, .istore 4, [], 0),
  (23, 2, .iload 4, [], 0),
  (25, 1, .iconst (-1), [], (-1)),
  (26, 3, .if_icmp .eq 113, [139], 0),
  (29, 1, .aload_n 0, [], 0),
  (30, 3, .getfield 9, [], 0),
  (33, 2, .bipush 16, [], 16),
  (35, 3, .if_icmp .ge 104, [139], 0),
  (38, 1, .aload_n 0, [], 0),
  (39, 3, .getfield 15, [], 0),
  (42, 1, .aload_n 1, [], 0),
  (43, 3, .getfield 24, [], 0),
  (46, 2, .iload 4, [], 0),
  (48, 3, .invokevirtual 30, [], 0),
  (51, 1, .iadd, [], 0),
  (52, 1, .iload_n 3, [], 0),
  (53, 3, .if_icmp .le 4, [57], 0),
  (56, 1, .return_, [], 0),
  (57, 1, .aload_n 0, [], 0),
  (58, 1, .dup, [], 0),
  (59, 3, .getfield 9, [], 0),
  (62, 1, .iconst 1, [], 1),
  (63, 1, .iadd, [], 0),
  (64, 3, .putfield 9, [], 0),
  (67, 1, .aload_n 0, [], 0),
  (68, 1, .dup, [], 0),
  (69, 3, .getfield 15, [], 0),
  (72, 1, .aload_n 1, [], 0),
  (73, 3, .getfield 24, [], 0),
  (76, 2, .iload 4, [], 0),
  (78, 3, .invokevirtual 30, [], 0),
  (81, 1, .iadd, [], 0),
  (82, 3, .putfield 15, [], 0),
  (85, 1, .aload_n 0, [], 0),
  (86, 1, .aload_n 0, [], 0),
  (87, 3, .getfield 18, [], 0),
  (90, 1, .aload_n 1, [], 0),
  (91, 3, .getfield 36, [], 0),
  (94, 2, .iload 4, [], 0),
  (96, 3, .invokevirtual 30, [], 0),
  (99, 3, .invokestatic 38, [], 0),
  (102, 3, .putfield 18, [], 0),
  (105, 1, .aload_n 0, [], 0),
  (106, 1, .aload_n 0, [], 0),
  (107, 3, .getfield 21, [], 0),
  (110, 1, .aload_n 1, [], 0),
  (111, 3, .getfield 44, [], 0),
  (114, 2, .iload 4, [], 0),
  (116, 3, .invokevirtual 30, [], 0),
  (119, 3, .invokestatic 47, [], 0),
  (122, 3, .putfield 21, [], 0),
  (125, 1, .aload_n 1, [], 0),
  (126, 3, .getfield 50, [], 0),
  (129, 2, .iload 4, [], 0),
  (131, 3, .invokevirtual 30, [], 0),
  (134, 2, .istore 4, [], 0),
  (136, 3, .goto (-113), [23], 0),
  (139, 1, .return_, [], 0)]
theorem kX4_lookAt_ok : kX4_lookAt.all (zck cX4_lookAt) = true := by decide +kernel

def rX4_lookAt : Room := { frames := 1, cells := 0, slots := 0, locals := 21 }
abbrev YX4_lookAt : zM := (RX4, cX4_lookAt, 5, none, rX4_lookAt, UC, zlk fX4, zcs [(30, 2, 0, 0, zvs (UC) 7 (sU_at UC))] [(38, 2, 0, 0, sJ9_max_7cf53), (47, 2, 0, 0, sJ9_min_7cf53)])
theorem YX4_lookAt_ok : zYok (YX4_lookAt) := zYok_of fX4_ok (zall (zcal_mono (zcalV (Y := YX4_lookAt) (y := yX7_at) (cc := cX7_at) (nL := 2) (ret := some .int) (rm := rX7_at) (mU_at UC UC_small) 30 1 7 (T := TX7) rfl wX4_30 ⟨by decide +kernel, by decide +kernel, by decide +kernel⟩ (by decide) ⟨Nat.le_of_ble_eq_true rfl, Nat.le_of_ble_eq_true rfl⟩) (fun _ _ _ _ h => zvs_P h)) znil) (zall (zcalS (Y := YX4_lookAt) (y := yJ9_max_7cf53) (cc := cJ9_max_7cf53) (nL := 2) (ret := some .int) (rm := rJ9_max_7cf53) (mJ9_max_7cf53 UC) 38 2 wX4_38 ⟨by decide +kernel, by decide +kernel, by decide +kernel⟩ (by decide) ⟨Nat.le_of_ble_eq_true rfl, Nat.le_of_ble_eq_true rfl⟩) (zall (zcalS (Y := YX4_lookAt) (y := yJ9_min_7cf53) (cc := cJ9_min_7cf53) (nL := 2) (ret := some .int) (rm := rJ9_min_7cf53) (mJ9_min_7cf53 UC) 47 2 wX4_47 ⟨by decide +kernel, by decide +kernel, by decide +kernel⟩ (by decide) ⟨Nat.le_of_ble_eq_true rfl, Nat.le_of_ble_eq_true rfl⟩) znil))

theorem lX4_lookAt (ok : zO) (ex : zX) (x l : Int32) : ∀ (f k : Nat) (i : Int32) (F : zF), k + f = 16 → F 44 0 = nI k → ok none (qLok l f F i) → zWP YX4_lookAt ok ex 23 [some (.ref 44), some (.ref 25), some (.int x), some (.int l), some (.int i)] [] 0 0 F := by
  intro f
  induction f with
  | zero =>
    intro k i F hk hF h
    have hk : k = 16 := hk
    subst hk
    refine zat_ok YX4_lookAt_ok zno kX4_lookAt (List.all_eq_true.mp kX4_lookAt_ok) 23 _ _ _ _ _ ?_
    refine And.intro (fun _ => h) (fun _ => And.intro (fun _ => h) (fun h1 => absurd ?_ h1))
    show (16 : Int32) ≤ F 44 0
    rw [hF]
    exact z16_ge
  | succ f ih =>
    intro k i F hk hF h
    refine zat_ok YX4_lookAt_ok (inv := zi1 23 (fun ls st kc ks G => zWP YX4_lookAt ok ex 23 ls st kc ks G)) (zone fun _ _ _ _ _ h => h) kX4_lookAt (List.all_eq_true.mp kX4_lookAt_ok) 23 _ _ _ _ _ ?_
    refine And.intro (fun h1 => ?_) (fun h1 => And.intro (fun h2 => absurd ?_ (z16_lt hk (by omega))) (fun _ => And.intro (fun h3 => ?_) (fun h3 => ?_)))
    · have e : qLok l (f + 1) F i = F := by simp only [qLok]; exact if_pos h1
      rw [e] at h
      exact h
    · rw [← hF]
      exact h2
    · have h3 : F 44 1 + qSz F i ≤ l := h3
      have e : qLok l (f + 1) F i = qLok l f (qLk1 F i) (qNx F i) := by simp only [qLok]; rw [if_neg h1]; exact if_neg (Int32.not_lt.mpr h3)
      rw [e] at h
      have := ih (k + 1) (qNx F i) (qLk1 F i) (by omega) (by rw [qLk1_0, hF, nI_1]) h
      unfold qLk1 at this
      have e2 : ∀ (G : zF) (n : Nat) (v : Int32), zup G 44 n v 27 = G 27 ∧ zup G 44 n v 29 = G 29 ∧ zup G 44 n v 31 = G 31 ∧ zup G 44 n v 43 = G 43 := fun G n v => ⟨zup_ne _ _ _ (by decide), zup_ne _ _ _ (by decide), zup_ne _ _ _ (by decide), zup_ne _ _ _ (by decide)⟩
      refine Eq.mp ?_ this
      congr 1
    · have h3 : ¬ F 44 1 + qSz F i ≤ l := h3
      have e : qLok l (f + 1) F i = F := by simp only [qLok]; rw [if_neg h1]; exact if_pos (Int32.not_le.mp h3)
      rw [e] at h
      exact h

theorem mX4_lookAt : zMet (UC) yX4_lookAt cX4_lookAt 5 (none) rX4_lookAt (sX4_lookAt) := by
  refine zmet (Y := YX4_lookAt) rfl (by decide +kernel) ?_
  intro av F ok ex h
  unfold sX4_lookAt at h
  split at h
  · rename_i hd l
    refine zgo_ok (YX4_lookAt_ok) (inv := zi1 23 (fun ls st kc ks G => zWP YX4_lookAt ok ex 23 ls st kc ks G)) (zone fun _ _ _ _ _ h => h) kX4_lookAt (List.all_eq_true.mp kX4_lookAt_ok) 0 _ _ _ _ _ ?_
    exact lX4_lookAt ok ex hd l 16 0 hd (qLk0 F) rfl (by simp [qLk0, zup, nI]) h
  · exact h.elim

def kX4_isHeldBack : List zI := [
  (0, 1, .iload_n 1, [], 0),
  (1, 1, .iconst 2, [], 2),
  (2, 3, .if_icmp .ne 17, [19], 0),
  (5, 1, .aload_n 0, [], 0),
  (6, 3, .getfield 21, [], 0),
  (9, 1, .iconst 3, [], 3),
  (10, 3, .if_icmp .ge 7, [17], 0),
  (13, 1, .iconst 1, [], 1),
  (14, 3, .goto 4, [18], 0),
  (17, 1, .iconst 0, [], 0),
  (18, 1, .ireturn, [], 0),
  (19, 1, .iload_n 1, [], 0),
  (20, 1, .iconst 1, [], 1),
  (21, 3, .if_icmp .ne 21, [42], 0),
  (24, 1, .iconst 2, [], 2),
  (25, 1, .aload_n 0, [], 0),
  (26, 3, .getfield 15, [], 0),
  (29, 1, .imul, [], 0),
  (30, 1, .iload_n 2, [], 0),
  (31, 3, .if_icmp .ge 11, [42], 0),
  (34, 1, .iload_n 3, [], 0),
  (35, 3, .ifCond .ne 7, [42], 0),
  (38, 1, .iconst 1, [], 1),
  (39, 3, .goto 4, [43], 0),
  (42, 1, .iconst 0, [], 0),
  (43, 1, .ireturn, [], 0)]
theorem kX4_isHeldBack_ok : kX4_isHeldBack.all (zck cX4_isHeldBack) = true := by decide +kernel

def rX4_isHeldBack : Room := { frames := 0, cells := 0, slots := 0, locals := 0 }
abbrev YX4_isHeldBack : zM := (RX4, cX4_isHeldBack, 4, some .boolean, rX4_isHeldBack, UC, zlk fX4, zcs [] [])
theorem YX4_isHeldBack_ok : zYok (YX4_isHeldBack) := zYok_of fX4_ok znil znil

theorem mX4_isHeldBack : zMet (UC) yX4_isHeldBack cX4_isHeldBack 4 (some .boolean) rX4_isHeldBack (sX4_isHeldBack) := by
  refine zmet (Y := YX4_isHeldBack) rfl (by decide +kernel) ?_
  intro av F ok ex h
  unfold sX4_isHeldBack at h
  split at h
  · rename_i d l b
    refine zgo_ok (YX4_isHeldBack_ok) zno kX4_isHeldBack (List.all_eq_true.mp kX4_isHeldBack_ok) 0 _ _ _ _ _ ?_
    refine And.intro (fun h1 => ?_) (fun h1 => ?_)
    · refine And.intro (fun h2 => ?_) (fun h2 => ?_)
      · exact Exists.intro (Or.inl rfl) (h.2 fun hc => hc.elim (fun q => h1 q.1) (fun q => h2 q.2.1))
      · refine And.intro (fun h3 => ?_) (fun h3 => ?_)
        · exact Exists.intro (Or.inl rfl) (h.2 fun hc => hc.elim (fun q => h1 q.1) (fun q => Int32.not_lt.mpr h3 q.2.2.1))
        · refine And.intro (fun h4 => ?_) (fun h4 => ?_)
          · exact Exists.intro (Or.inl rfl) (h.2 fun hc => hc.elim (fun q => h1 q.1) (fun q => h4 q.2.2.2))
          · exact Exists.intro (Or.inr rfl) (h.1 (Or.inr ⟨h1, h2, Int32.not_le.mp h3, h4⟩))
    · refine And.intro (fun h2 => ?_) (fun h2 => ?_)
      · exact Exists.intro (Or.inl rfl) (h.2 fun hc => hc.elim (fun q => Int32.not_lt.mpr h2 q.2) (fun q => q.1 h1))
      · exact Exists.intro (Or.inr rfl) (h.1 (Or.inl ⟨h1, Int32.not_le.mp h2⟩))
  · exact h.elim

end ZGo
end
section
/-! LockMaster.Canal: 0: patience 4, grace 5, inflow 6, tick 7, inflow so far 8, outflow 9, water at first 10 -/
section ZCa
def qWt (F : zF) (i : Int32) : Int32 := F 0 7 - qSi F i
def qPr (F : zF) (i : Int32) : Int32 := 4 * qGr F 16 i 0 + (if F 0 4 < 1 then 0 else qWt F i / F 0 4)
def qWcv (F : zF) : Nat → Int32
  | 0 => 0
  | k + 1 => qWcv F k + qCva F (nI k) (F 25 9).toNatClampNeg
abbrev qCB (F : zF) (a b : Int32) : Prop := 0 < qPr F a - qPr F b ∨ (qPr F a - qPr F b = 0 ∧ a < b)
abbrev qFA (F : zF) (i l : Int32) : Prop := qFi F i = i ∧ qWa F i = l
def qCAh (F : zF) (h l : Int32) : Nat → Int32
  | 0 => 0
  | k + 1 => qCAh F h l k + (if qFA F (nI k) l ∧ qCB F (nI k) h then 1 else 0)
def qCIO (F : zF) (l x : Int32) : Nat → Nat → Int32
  | 0, _ => -1
  | d + 1, k => if qFA F (nI k) l ∧ qCAh F (nI k) l (F 25 9).toNatClampNeg = x then nI k else qCIO F l x d (k + 1)
def qHR (F G : zF) (h l : Int32) : Int32 := if G 44 0 = 0 then 1 else if qLev G l < G 44 2 ∨ qLev G (l + 1) < G 44 2 then 2 else if qHb G (qDry G l) (qLen F l) (if qWt G h < G 0 5 then 0 else 1) then 3 else 0
abbrev qCBR (F : zF) (l : Int32) : Prop := qFu F l = 1 ∨ qLk F l ≤ qW F l
def qLkU (F : zF) (l : Int32) : Int32 := if qFu F l = 1 then qCh F l - qBa F l * qQu F l else qLk F l
abbrev qCFU (F : zF) (l : Int32) : Prop := qLkU F l ≤ qW F l
def qHO (F G : zF) (h : Int32) : Int32 := if qHR F G h (qWa F h) = 0 then (if (qUp G h = 1 ∧ qCFU G (qWa F h)) ∨ (¬ qUp G h = 1 ∧ qCBR G (qWa F h)) then 0 else 4) else qHR F G h (qWa F h)
def qTC (F : zF) (l : Int32) : zF := if qFu F l = 1 then qEmp (zwr 5 F 7 (l + 1) (qW F (l + 1) + qLeft F l)) l else qFill (zwr 5 F 7 l (qW F l + -(qLk F l))) l
def qNL (F : zF) (s : Int32) : Int32 := qWa F s + (if qUp F s = 1 then -1 else 1)
def qMO (F : zF) (s : Int32) : zF := if 0 ≤ qNL F s ∧ qNL F s < F 8 9 then zwr 16 (zwr 16 F 35 s (qNL F s)) 37 s (F 0 7 + 1) else qLv F s (F 0 7)
def qMv : Nat → zF → Int32 → zF
  | 0, F, _ => F
  | d + 1, F, s => qMv d (qMO F s) (qNx F s)
def qLR (F : zF) (h r l : Int32) : zF := zwr 4 (zwr 4 (qMv r.toNatClampNeg (qCt F h r) h) 22 l (zrd 4 (qMv r.toNatClampNeg (qCt F h r) h 22) l + r)) 24 l (zrd 4 (zwr 4 (qMv r.toNatClampNeg (qCt F h r) h) 22 l (zrd 4 (qMv r.toNatClampNeg (qCt F h r) h 22) l + r) 24) l + 1)
def sX1_makeReach : zSp := fun as F ok _ => match as with
  | [.ref 0, .int a, .int l] => ok (some (.int (F 1 3))) (zup (zwr 5 (zwr 5 (zwr 5 (zup F 0 10 (F 0 10 + a * l)) 3 (F 1 3) a) 5 (F 1 3) l) 7 (F 1 3) (a * l)) 1 3 (F 1 3 + 1))
  | _ => False
def qMkC (F : zF) (s d r b : Int32) : zF := zwr 16 (zwr 16 (qMkS F s d r (if b = 0 then 0 else 1)) 35 (F 25 9) (if b = 0 then 0 else F 8 9 - 1)) 37 (F 25 9) (F 0 7)
theorem qMkS_0 (F : zF) (s d r b : Int32) : qMkS F s d r b 0 = F 0 := by
  unfold qMkS
  rw [zup_ne _ _ _ (by decide), zwr_ne _ _ _ _ (by decide), zwr_ne _ _ _ _ (by decide), zwr_ne _ _ _ _ (by decide), zwr_ne _ _ _ _ (by decide), zwr_ne _ _ _ _ (by decide), zwr_ne _ _ _ _ (by decide), zwr_ne _ _ _ _ (by decide)]
theorem qMkS_8 (F : zF) (s d r b : Int32) : qMkS F s d r b 8 = F 8 := by
  unfold qMkS
  rw [zup_ne _ _ _ (by decide), zwr_ne _ _ _ _ (by decide), zwr_ne _ _ _ _ (by decide), zwr_ne _ _ _ _ (by decide), zwr_ne _ _ _ _ (by decide), zwr_ne _ _ _ _ (by decide), zwr_ne _ _ _ _ (by decide), zwr_ne _ _ _ _ (by decide)]
def sX1_makeShip : zSp := fun as F ok _ => match as with
  | [.ref 0, .int s, .int d, .int r, .int b] => ok (some (.int (F 25 9))) (qMkC F s d r b)
  | _ => False
def sX1_change : zSp := fun as F ok _ => match as with
  | [.ref 0, .int s, .int v] => ok (some (.int (if s = 0 then F 0 4 else if s = 1 then F 0 5 else F 0 6))) (if s = 0 then zup F 0 4 v else if s = 1 then zup F 0 5 v else zup F 0 6 v)
  | _ => False
def sX1_waitedBy : zSp := fun as F ok _ => match as with
  | [.ref 0, .int i] => ok (some (.int (qWt F i))) F
  | _ => False
def sX1_priorityOf : zSp := fun as F ok _ => match as with
  | [.ref 0, .int i] => ok (some (.int (qPr F i))) F
  | _ => False
def sX1_waitingConvoys : zSp := fun as F ok _ => match as with
  | [.ref 0] => ok (some (.int (qWcv F (F 8 9).toNatClampNeg))) F
  | _ => False
def sX1_comesBefore : zSp := fun as F ok _ => match as with
  | [.ref 0, .int a, .int b] => zbo (qCB F a b) F ok
  | _ => False
def sX1_convoysAheadOf : zSp := fun as F ok _ => match as with
  | [.ref 0, .int h, .int l] => ok (some (.int (qCAh F h l (F 25 9).toNatClampNeg))) F
  | _ => False
def sX1_convoyInOrder : zSp := fun as F ok _ => match as with
  | [.ref 0, .int l, .int x] => ok (some (.int (qCIO F l x (F 25 9).toNatClampNeg 0))) F
  | _ => False
def sX1_hindranceByRules : zSp := fun as F ok _ => match as with
  | [.ref 0, .int h, .int l] => ok (some (.int (qHR F (qLook F h (qLen F l)) h l))) (qLook F h (qLen F l))
  | _ => False
def sX1_canBeReadyForDown : zSp := fun as F ok _ => match as with
  | [.ref 0, .int l] => zbo (qCBR F l) F ok
  | _ => False
def sX1_canFillForUp : zSp := fun as F ok _ => match as with
  | [.ref 0, .int l] => zbo (qCFU F l) F ok
  | _ => False
def sX1_hindranceOf : zSp := fun as F ok _ => match as with
  | [.ref 0, .int h] => ok (some (.int (qHO F (qLook F h (qLen F (qWa F h))) h))) (qLook F h (qLen F (qWa F h)))
  | _ => False
def sX1_wasLockedNow : zSp := fun as F ok _ => match as with
  | [.ref 0, .int i] => zbo (F 0 7 < qSi F i) F ok
  | _ => False
def sX1_turnChamber : zSp := fun as F ok _ => match as with
  | [.ref 0, .int l] => ok none (qTC F l)
  | _ => False
def sX1_moveOn : zSp := fun as F ok _ => match as with
  | [.ref 0, .int s] => ok none (qMO F s)
  | _ => False
def sX1_lockRow : zSp := fun as F ok _ => match as with
  | [.ref 0, .int h, .int r, .int l] => ok none (qLR F h r l)
  | _ => False

def kX1_makeReach : List zI := [
  (0, 1, .aload_n 0, [], 0),
  (1, 1, .dup, [], 0),
  (2, 3, .getfield 58, [], 0),
  (5, 1, .iload_n 1, [], 0),
  (6, 1, .iload_n 2, [], 0),
  (7, 1, .imul, [], 0),
  (8, 1, .iadd, [], 0),
  (9, 3, .putfield 58, [], 0),
  (12, 1, .aload_n 0, [], 0),
  (13, 3, .getfield 12, [], 0),
  (16, 1, .iload_n 1, [], 0),
  (17, 1, .iload_n 2, [], 0),
  (18, 3, .invokevirtual 61, [], 0),
  (21, 1, .ireturn, [], 0)]
theorem kX1_makeReach_ok : kX1_makeReach.all (zck cX1_makeReach) = true := by decide +kernel

def rX1_makeReach : Room := { frames := 2, cells := 0, slots := 0, locals := 44 }
abbrev YX1_makeReach : zM := (RX1, cX1_makeReach, 3, some .int, rX1_makeReach, UC, zlk fX1, zcs [(61, 3, 0, 0, zvs (UC) 6 (sX6_make))] [])
theorem YX1_makeReach_ok : zYok (YX1_makeReach) := zYok_of fX1_ok (zall (zcal_mono (zcalV (Y := YX1_makeReach) (y := yX6_make) (cc := cX6_make) (nL := 3) (ret := some .int) (rm := rX6_make) (mX6_make) 61 2 6 (T := TX6) rfl wX1_61 ⟨by decide +kernel, by decide +kernel, by decide +kernel⟩ (by decide) ⟨Nat.le_of_ble_eq_true rfl, Nat.le_of_ble_eq_true rfl⟩) (fun _ _ _ _ h => zvs_P h)) znil) znil

theorem mX1_makeReach : zMet (UC) yX1_makeReach cX1_makeReach 3 (some .int) rX1_makeReach (sX1_makeReach) := by
  refine zmet (Y := YX1_makeReach) rfl (by decide +kernel) ?_
  intro av F ok ex h
  unfold sX1_makeReach at h
  split at h
  · rename_i a l
    refine zgo_ok (YX1_makeReach_ok) zno kX1_makeReach (List.all_eq_true.mp kX1_makeReach_ok) 0 _ _ _ _ _ ?_
    refine zleaf ok h ?_ ?_
    · rfl
    · rfl
  · exact h.elim

def kX1_makeShip : List zI := [
  (0, 1, .aload_n 0, [], 0),
  (1, 3, .getfield 28, [], 0),
  (4, 1, .iload_n 1, [], 0),
  (5, 1, .iload_n 2, [], 0),
  (6, 1, .iload_n 3, [], 0),
  (7, 2, .iload 4, [], 0),
  (9, 3, .invokevirtual 65, [], 0),
  (12, 2, .istore 5, [], 0),
  (14, 1, .aload_n 0, [], 0),
  (15, 3, .getfield 28, [], 0),
  (18, 3, .getfield 68, [], 0),
  (21, 2, .iload 5, [], 0),
  (23, 2, .iload 4, [], 0),
  (25, 3, .ifCond .eq 15, [40], 0),
  (28, 1, .aload_n 0, [], 0),
  (29, 3, .getfield 21, [], 0),
  (32, 3, .getfield 72, [], 0),
  (35, 1, .iconst 1, [], 1),
  (36, 1, .isub, [], 0),
  (37, 3, .goto 4, [41], 0),
  (40, 1, .iconst 0, [], 0),
  (41, 3, .invokevirtual 75, [], 0),
  (44, 1, .aload_n 0, [], 0),
  (45, 3, .getfield 28, [], 0),
  (48, 3, .getfield 81, [], 0),
  (51, 2, .iload 5, [], 0),
  (53, 1, .aload_n 0, [], 0),
  (54, 3, .getfield 49, [], 0),
  (57, 3, .invokevirtual 75, [], 0),
  (60, 2, .iload 5, [], 0),
  (62, 1, .ireturn, [], 0)]
theorem kX1_makeShip_ok : kX1_makeShip.all (zck cX1_makeShip) = true := by decide +kernel

def rX1_makeShip : Room := { frames := 2, cells := 0, slots := 0, locals := 47 }
abbrev YX1_makeShip : zM := (RX1, cX1_makeShip, 6, some .int, rX1_makeShip, UC, zlk fX1, zcs [(65, 5, 0, 0, zvs (UC) 3 (sX3_make)), (75, 3, 0, 0, zvs (UC) 7 (sU_put UC))] [])
theorem YX1_makeShip_ok : zYok (YX1_makeShip) := zYok_of fX1_ok (zall (zcal_mono (zcalV (Y := YX1_makeShip) (y := yX3_make) (cc := cX3_make) (nL := 6) (ret := some .int) (rm := rX3_make) (mX3_make) 65 4 3 (T := TX3) rfl wX1_65 ⟨by decide +kernel, by decide +kernel, by decide +kernel⟩ (by decide) ⟨Nat.le_of_ble_eq_true rfl, Nat.le_of_ble_eq_true rfl⟩) (fun _ _ _ _ h => zvs_P h)) (zall (zcal_mono (zcalV (Y := YX1_makeShip) (y := yX7_put) (cc := cX7_put) (nL := 3) (ret := none) (rm := rX7_put) (mU_put UC UC_small) 75 2 7 (T := TX7) rfl wX1_75 ⟨by decide +kernel, by decide +kernel, by decide +kernel⟩ (by decide) ⟨Nat.le_of_ble_eq_true rfl, Nat.le_of_ble_eq_true rfl⟩) (fun _ _ _ _ h => zvs_P h)) znil)) znil

theorem mX1_makeShip : zMet (UC) yX1_makeShip cX1_makeShip 6 (some .int) rX1_makeShip (sX1_makeShip) := by
  refine zmet (Y := YX1_makeShip) rfl (by decide +kernel) ?_
  intro av F ok ex h
  unfold sX1_makeShip at h
  split at h
  · rename_i s d r b
    refine zgo_ok (YX1_makeShip_ok) zno kX1_makeShip (List.all_eq_true.mp kX1_makeShip_ok) 0 _ _ _ _ _ ?_
    unfold qMkC at h
    refine And.intro (fun h1 => ?_) (fun h1 => ?_)
    · rw [if_pos h1, if_pos h1] at h
      refine zleaf ok h rfl ?_
      show _ = zwr 16 (zwr 16 (qMkS F s d r (if b = 0 then 0 else 1)) 35 (F 25 9) 0) 37 (F 25 9) (zwr 16 (qMkS F s d r (if b = 0 then 0 else 1)) 35 (F 25 9) 0 0 7)
      rw [if_pos h1, zwr_ne _ _ _ _ (show 0 ≠ 35 by decide), qMkS_0]
    · rw [if_neg h1, if_neg h1] at h
      refine zleaf ok h rfl ?_
      show _ = zwr 16 (zwr 16 (qMkS F s d r (if b = 0 then 0 else 1)) 35 (F 25 9) (qMkS F s d r (if b = 0 then 0 else 1) 8 9 - 1)) 37 (F 25 9) (zwr 16 (qMkS F s d r (if b = 0 then 0 else 1)) 35 (F 25 9) (qMkS F s d r (if b = 0 then 0 else 1) 8 9 - 1) 0 7)
      rw [if_neg h1, zwr_ne _ _ _ _ (show 0 ≠ 35 by decide), qMkS_0, qMkS_8]
  · exact h.elim

def kX1_change : List zI := [
  (0, 1, .iload_n 1, [], 0),
  (1, 3, .ifCond .ne 10, [11], 0),
  (4, 1, .aload_n 0, [], 0),
  (5, 3, .getfield 39, [], 0),
  (8, 3, .goto 19, [27], 0),
  (11, 1, .iload_n 1, [], 0),
  (12, 1, .iconst 1, [], 1),
  (13, 3, .if_icmp .ne 10, [23], 0),
  (16, 1, .aload_n 0, [], 0),
  (17, 3, .getfield 43, [], 0),
  (20, 3, .goto 7, [27], 0),
  (23, 1, .aload_n 0, [], 0),
  (24, 3, .getfield 46, [], 0),
  (27, 1, .istore_n 3, [], 0),
  (28, 1, .iload_n 1, [], 0),
  (29, 3, .ifCond .ne 11, [40], 0),
  (32, 1, .aload_n 0, [], 0),
  (33, 1, .iload_n 2, [], 0),
  (34, 3, .putfield 39, [], 0),
  (37, 3, .goto 21, [58], 0),
  (40, 1, .iload_n 1, [], 0),
  (41, 1, .iconst 1, [], 1),
  (42, 3, .if_icmp .ne 11, [53], 0),
  (45, 1, .aload_n 0, [], 0),
  (46, 1, .iload_n 2, [], 0),
  (47, 3, .putfield 43, [], 0),
  (50, 3, .goto 8, [58], 0),
  (53, 1, .aload_n 0, [], 0),
  (54, 1, .iload_n 2, [], 0),
  (55, 3, .putfield 46, [], 0),
  (58, 1, .iload_n 3, [], 0),
  (59, 1, .ireturn, [], 0)]
theorem kX1_change_ok : kX1_change.all (zck cX1_change) = true := by decide +kernel

def rX1_change : Room := { frames := 0, cells := 0, slots := 0, locals := 0 }
abbrev YX1_change : zM := (RX1, cX1_change, 4, some .int, rX1_change, UC, zlk fX1, zcs [] [])
theorem YX1_change_ok : zYok (YX1_change) := zYok_of fX1_ok znil znil

theorem mX1_change : zMet (UC) yX1_change cX1_change 4 (some .int) rX1_change (sX1_change) := by
  refine zmet (Y := YX1_change) rfl (by decide +kernel) ?_
  intro av F ok ex h
  unfold sX1_change at h
  split at h
  · rename_i s v
    refine zgo_ok (YX1_change_ok) zno kX1_change (List.all_eq_true.mp kX1_change_ok) 0 _ _ _ _ _ ?_
    repeat' (first
      | refine And.intro (fun h0 => absurd h0 (by decide)) (fun _ => ?_)
      | refine And.intro (fun _ => ?_) (fun h0 => absurd (by decide) h0)
      | refine And.intro (fun _ => ?_) (fun _ => ?_)
      | refine And.intro (fun _ => ?_) ?_
      | refine Exists.intro ?_ ?_)
    all_goals first
      | exact zleaf ok h (by simp_all) (by simp_all)
      | (exfalso; simp_all; done)
  · exact h.elim

def kX1_waitedBy : List zI := [
  (0, 1, .aload_n 0, [], 0),
  (1, 3, .getfield 49, [], 0),
  (4, 1, .aload_n 0, [], 0),
  (5, 3, .getfield 28, [], 0),
  (8, 3, .getfield 81, [], 0),
  (11, 1, .iload_n 1, [], 0),
  (12, 3, .invokevirtual 84, [], 0),
  (15, 1, .isub, [], 0),
  (16, 1, .ireturn, [], 0)]
theorem kX1_waitedBy_ok : kX1_waitedBy.all (zck cX1_waitedBy) = true := by decide +kernel

def rX1_waitedBy : Room := { frames := 1, cells := 0, slots := 0, locals := 21 }
abbrev YX1_waitedBy : zM := (RX1, cX1_waitedBy, 2, some .int, rX1_waitedBy, UC, zlk fX1, zcs [(84, 2, 0, 0, zvs (UC) 7 (sU_at UC))] [])
theorem YX1_waitedBy_ok : zYok (YX1_waitedBy) := zYok_of fX1_ok (zall (zcal_mono (zcalV (Y := YX1_waitedBy) (y := yX7_at) (cc := cX7_at) (nL := 2) (ret := some .int) (rm := rX7_at) (mU_at UC UC_small) 84 1 7 (T := TX7) rfl wX1_84 ⟨by decide +kernel, by decide +kernel, by decide +kernel⟩ (by decide) ⟨Nat.le_of_ble_eq_true rfl, Nat.le_of_ble_eq_true rfl⟩) (fun _ _ _ _ h => zvs_P h)) znil) znil

theorem mX1_waitedBy : zMet (UC) yX1_waitedBy cX1_waitedBy 2 (some .int) rX1_waitedBy (sX1_waitedBy) := by
  refine zmet (Y := YX1_waitedBy) rfl (by decide +kernel) ?_
  intro av F ok ex h
  unfold sX1_waitedBy at h
  split at h
  · rename_i i
    refine zgo_ok (YX1_waitedBy_ok) zno kX1_waitedBy (List.all_eq_true.mp kX1_waitedBy_ok) 0 _ _ _ _ _ ?_
    exact h
  · exact h.elim

def kX1_priorityOf : List zI := [
  (0, 1, .aload_n 0, [], 0),
  (1, 3, .getfield 39, [], 0),
  (4, 1, .iconst 1, [], 1),
  (5, 3, .if_icmp .ge 7, [12], 0),
  (8, 1, .iconst 0, [], 0),
  (9, 3, .goto 13, [22], 0),
  (12, 1, .aload_n 0, [], 0),
  (13, 1, .iload_n 1, [], 0),
  (14, 3, .invokevirtual 88, [], 0),
  (17, 1, .aload_n 0, [], 0),
  (18, 3, .getfield 39, [], 0),
  (21, 1, .idiv, [], 0),
  (22, 1, .istore_n 2, [], 0),
  (23, 1, .iconst 4, [], 4),
  (24, 1, .aload_n 0, [], 0),
  (25, 3, .getfield 28, [], 0),
  (28, 1, .iload_n 1, [], 0),
  (29, 3, .invokevirtual 91, [], 0),
  (32, 1, .imul, [], 0),
  (33, 1, .iload_n 2, [], 0),
  (34, 1, .iadd, [], 0),
  (35, 1, .ireturn, [], 0)]
theorem kX1_priorityOf_ok : kX1_priorityOf.all (zck cX1_priorityOf) = true := by decide +kernel

def rX1_priorityOf : Room := { frames := 2, cells := 0, slots := 0, locals := 45 }
abbrev YX1_priorityOf : zM := (RX1, cX1_priorityOf, 3, some .int, rX1_priorityOf, UC, zlk fX1, zcs [(88, 2, 0, 0, zvs (UC) 1 (sX1_waitedBy)), (91, 2, 0, 0, zvs (UC) 3 (sX3_greatestRank))] [])
theorem YX1_priorityOf_ok : zYok (YX1_priorityOf) := zYok_of fX1_ok (zall (zcal_mono (zcalV (Y := YX1_priorityOf) (y := yX1_waitedBy) (cc := cX1_waitedBy) (nL := 2) (ret := some .int) (rm := rX1_waitedBy) (mX1_waitedBy) 88 1 1 (T := TX1) rfl wX1_88 ⟨by decide +kernel, by decide +kernel, by decide +kernel⟩ (by decide) ⟨Nat.le_of_ble_eq_true rfl, Nat.le_of_ble_eq_true rfl⟩) (fun _ _ _ _ h => zvs_P h)) (zall (zcal_mono (zcalV (Y := YX1_priorityOf) (y := yX3_greatestRank) (cc := cX3_greatestRank) (nL := 5) (ret := some .int) (rm := rX3_greatestRank) (mX3_greatestRank) 91 1 3 (T := TX3) rfl wX1_91 ⟨by decide +kernel, by decide +kernel, by decide +kernel⟩ (by decide) ⟨Nat.le_of_ble_eq_true rfl, Nat.le_of_ble_eq_true rfl⟩) (fun _ _ _ _ h => zvs_P h)) znil)) znil

theorem mX1_priorityOf : zMet (UC) yX1_priorityOf cX1_priorityOf 3 (some .int) rX1_priorityOf (sX1_priorityOf) := by
  refine zmet (Y := YX1_priorityOf) rfl (by decide +kernel) ?_
  intro av F ok ex h
  unfold sX1_priorityOf at h
  split at h
  · rename_i i
    refine zgo_ok (YX1_priorityOf_ok) zno kX1_priorityOf (List.all_eq_true.mp kX1_priorityOf_ok) 0 _ _ _ _ _ ?_
    refine And.intro (fun h1 => ?_) (fun h1 => ?_)
    · have h1 : 1 ≤ F 0 4 := h1
      refine Exists.intro ?_ ?_
      · intro h2
        have h2 : F 0 4 = 0 := h2
        rw [h2] at h1
        exact absurd h1 (by decide)
      · unfold qPr at h
        rw [if_neg (Int32.not_lt.mpr h1)] at h
        exact h
    · have h1 : ¬ 1 ≤ F 0 4 := h1
      unfold qPr at h
      rw [if_pos (Int32.not_le.mp h1)] at h
      exact h
  · exact h.elim

def kX1_waitingConvoys : List zI := [
  (0, 1, .iconst 0, [], 0),
  (1, 1, .istore_n 1, [], 0),
  (2, 1, .iconst 0, [], 0),
  (3, 1, .istore_n 2, [], 0),
  (4, 1, .iload_n 2, [], 0),
  (5, 1, .aload_n 0, [], 0),
  (6, 3, .getfield 21, [], 0),
  (9, 3, .getfield 72, [], 0),
  (12, 3, .if_icmp .ge 20, [32], 0),
  (15, 1, .iload_n 1, [], 0),
  (16, 1, .aload_n 0, [], 0),
  (17, 3, .getfield 28, [], 0),
  (20, 1, .iload_n 2, [], 0),
  (21, 3, .invokevirtual 94, [], 0),
  (24, 1, .iadd, [], 0),
  (25, 1, .istore_n 1, [], 0),
  (26, 3, .iinc 2 1, [], 1),
  (29, 3, .goto (-25), [4], 0),
  (32, 1, .iload_n 1, [], 0),
  (33, 1, .ireturn, [], 0)]
theorem kX1_waitingConvoys_ok : kX1_waitingConvoys.all (zck cX1_waitingConvoys) = true := by decide +kernel

def rX1_waitingConvoys : Room := { frames := 3, cells := 0, slots := 0, locals := 66 }
abbrev YX1_waitingConvoys : zM := (RX1, cX1_waitingConvoys, 3, some .int, rX1_waitingConvoys, UC, zlk fX1, zcs [(94, 2, 0, 0, zvs (UC) 3 (sX3_convoysAt))] [])
theorem YX1_waitingConvoys_ok : zYok (YX1_waitingConvoys) := zYok_of fX1_ok (zall (zcal_mono (zcalV (Y := YX1_waitingConvoys) (y := yX3_convoysAt) (cc := cX3_convoysAt) (nL := 4) (ret := some .int) (rm := rX3_convoysAt) (mX3_convoysAt) 94 1 3 (T := TX3) rfl wX1_94 ⟨by decide +kernel, by decide +kernel, by decide +kernel⟩ (by decide) ⟨Nat.le_of_ble_eq_true rfl, Nat.le_of_ble_eq_true rfl⟩) (fun _ _ _ _ h => zvs_P h)) znil) znil

theorem lX1_waitingConvoys (ok : zO) (ex : zX) (F : zF) (h : ok (some (.int (qWcv F (F 8 9).toNatClampNeg))) F) : ∀ (d k : Nat), k + d = (F 8 9).toNatClampNeg → zWP YX1_waitingConvoys ok ex 4 [some (.ref 0), some (.int (qWcv F k)), some (.int (nI k))] [] 0 0 F := by
  intro d
  induction d with
  | zero =>
    intro k hk
    have hk : k = (F 8 9).toNatClampNeg := hk
    subst hk
    refine zat_ok YX1_waitingConvoys_ok zno kX1_waitingConvoys (List.all_eq_true.mp kX1_waitingConvoys_ok) 4 _ _ _ _ _ ?_
    exact And.intro (fun _ => h) (fun h1 => absurd (zcnt_ge _) h1)
  | succ d ih =>
    intro k hk
    refine zat_ok YX1_waitingConvoys_ok (inv := zi1 4 (fun ls st kc ks G => zWP YX1_waitingConvoys ok ex 4 ls st kc ks G)) (zone fun _ _ _ _ _ h => h) kX1_waitingConvoys (List.all_eq_true.mp kX1_waitingConvoys_ok) 4 _ _ _ _ _ ?_
    refine And.intro (fun h1 => absurd h1 (zcnt_lt (c := F 8 9) (k := k) (by omega))) (fun h1 => ?_)
    have ih := ih (k + 1) (by omega)
    rw [← nI_1] at ih
    exact ih

theorem mX1_waitingConvoys : zMet (UC) yX1_waitingConvoys cX1_waitingConvoys 3 (some .int) rX1_waitingConvoys (sX1_waitingConvoys) := by
  refine zmet (Y := YX1_waitingConvoys) rfl (by decide +kernel) ?_
  intro av F ok ex h
  unfold sX1_waitingConvoys at h
  split at h
  · refine zgo_ok (YX1_waitingConvoys_ok) (inv := zi1 4 (fun ls st kc ks G => zWP YX1_waitingConvoys ok ex 4 ls st kc ks G)) (zone fun _ _ _ _ _ h => h) kX1_waitingConvoys (List.all_eq_true.mp kX1_waitingConvoys_ok) 0 _ _ _ _ _ ?_
    exact lX1_waitingConvoys ok ex F h _ 0 (Nat.zero_add _)
  · exact h.elim

def kX1_comesBefore : List zI := [
  (0, 1, .aload_n 0, [], 0),
  (1, 1, .iload_n 1, [], 0),
  (2, 3, .invokevirtual 108, [], 0),
  (5, 1, .aload_n 0, [], 0),
  (6, 1, .iload_n 2, [], 0),
  (7, 3, .invokevirtual 108, [], 0),
  (10, 1, .isub, [], 0),
  (11, 1, .istore_n 3, [], 0),
  (12, 1, .iload_n 3, [], 0),
  (13, 3, .ifCond .gt 12, [25], 0),
  (16, 1, .iload_n 3, [], 0),
  (17, 3, .ifCond .ne 12, [29], 0),
  (20, 1, .iload_n 1, [], 0),
  (21, 1, .iload_n 2, [], 0),
  (22, 3, .if_icmp .ge 7, [29], 0),
  (25, 1, .iconst 1, [], 1),
  (26, 3, .goto 4, [30], 0),
  (29, 1, .iconst 0, [], 0),
  (30, 1, .ireturn, [], 0)]
theorem kX1_comesBefore_ok : kX1_comesBefore.all (zck cX1_comesBefore) = true := by decide +kernel

def rX1_comesBefore : Room := { frames := 3, cells := 0, slots := 0, locals := 67 }
abbrev YX1_comesBefore : zM := (RX1, cX1_comesBefore, 4, some .boolean, rX1_comesBefore, UC, zlk fX1, zcs [(108, 2, 0, 0, zvs (UC) 1 (sX1_priorityOf))] [])
theorem YX1_comesBefore_ok : zYok (YX1_comesBefore) := zYok_of fX1_ok (zall (zcal_mono (zcalV (Y := YX1_comesBefore) (y := yX1_priorityOf) (cc := cX1_priorityOf) (nL := 3) (ret := some .int) (rm := rX1_priorityOf) (mX1_priorityOf) 108 1 1 (T := TX1) rfl wX1_108 ⟨by decide +kernel, by decide +kernel, by decide +kernel⟩ (by decide) ⟨Nat.le_of_ble_eq_true rfl, Nat.le_of_ble_eq_true rfl⟩) (fun _ _ _ _ h => zvs_P h)) znil) znil

theorem mX1_comesBefore : zMet (UC) yX1_comesBefore cX1_comesBefore 4 (some .boolean) rX1_comesBefore (sX1_comesBefore) := by
  refine zmet (Y := YX1_comesBefore) rfl (by decide +kernel) ?_
  intro av F ok ex h
  unfold sX1_comesBefore at h
  split at h
  · rename_i a b
    refine zgo_ok (YX1_comesBefore_ok) zno kX1_comesBefore (List.all_eq_true.mp kX1_comesBefore_ok) 0 _ _ _ _ _ ?_
    refine And.intro (fun h1 => ?_) (fun h1 => And.intro (fun h2 => ?_) (fun h2 => And.intro (fun h3 => ?_) (fun h3 => ?_)))
    · exact Exists.intro (Or.inr rfl) (h.1 (Or.inl h1))
    · exact Exists.intro (Or.inl rfl) (h.2 fun hc => hc.elim h1 (fun q => h2 q.1))
    · exact Exists.intro (Or.inl rfl) (h.2 fun hc => hc.elim h1 (fun q => Int32.not_lt.mpr h3 q.2))
    · exact Exists.intro (Or.inr rfl) (h.1 (Or.inr ⟨h2, Int32.not_le.mp h3⟩))
  · exact h.elim

def kX1_convoysAheadOf : List zI := [
  (0, 1, .iconst 0, [], 0),
  (1, 1, .istore_n 3, [], 0),
  (2, 1, .iconst 0, [], 0),
  (3, 2, .istore 4, [], 0),
  (5, 2, .iload 4, [], 0),
  (7, 1, .aload_n 0, [], 0),
  (8, 3, .getfield 28, [], 0),
  (11, 3, .getfield 97, [], 0),
  (14, 3, .if_icmp .ge 40, [54], 0),
  (17, 1, .iload_n 3, [], 0),
  (18, 1, .aload_n 0, [], 0),
  (19, 3, .getfield 28, [], 0),
  (22, 2, .iload 4, [], 0),
  (24, 1, .iload_n 2, [], 0),
  (25, 3, .invokevirtual 98, [], 0),
  (28, 3, .ifCond .eq 17, [45], 0),
  (31, 1, .aload_n 0, [], 0),
  (32, 2, .iload 4, [], 0),
  (34, 1, .iload_n 1, [], 0),
  (35, 3, .invokevirtual 105, [], 0),
  (38, 3, .ifCond .eq 7, [45], 0),
  (41, 1, .iconst 1, [], 1),
  (42, 3, .goto 4, [46], 0),
  (45, 1, .iconst 0, [], 0),
  (46, 1, .iadd, [], 0),
  (47, 1, .istore_n 3, [], 0),
  (48, 3, .iinc 4 1, [], 1),
  (51, 3, .goto (-46), [5], 0),
  (54, 1, .iload_n 3, [], 0),
  (55, 1, .ireturn, [], 0)]
theorem kX1_convoysAheadOf_ok : kX1_convoysAheadOf.all (zck cX1_convoysAheadOf) = true := by decide +kernel

def rX1_convoysAheadOf : Room := { frames := 4, cells := 0, slots := 0, locals := 90 }
abbrev YX1_convoysAheadOf : zM := (RX1, cX1_convoysAheadOf, 5, some .int, rX1_convoysAheadOf, UC, zlk fX1, zcs [(98, 3, 0, 0, zvs (UC) 3 (sX3_isFirstAt)), (105, 3, 0, 0, zvs (UC) 1 (sX1_comesBefore))] [])
theorem YX1_convoysAheadOf_ok : zYok (YX1_convoysAheadOf) := zYok_of fX1_ok (zall (zcal_mono (zcalV (Y := YX1_convoysAheadOf) (y := yX3_isFirstAt) (cc := cX3_isFirstAt) (nL := 3) (ret := some .boolean) (rm := rX3_isFirstAt) (mX3_isFirstAt) 98 2 3 (T := TX3) rfl wX1_98 ⟨by decide +kernel, by decide +kernel, by decide +kernel⟩ (by decide) ⟨Nat.le_of_ble_eq_true rfl, Nat.le_of_ble_eq_true rfl⟩) (fun _ _ _ _ h => zvs_P h)) (zall (zcal_mono (zcalV (Y := YX1_convoysAheadOf) (y := yX1_comesBefore) (cc := cX1_comesBefore) (nL := 4) (ret := some .boolean) (rm := rX1_comesBefore) (mX1_comesBefore) 105 2 1 (T := TX1) rfl wX1_105 ⟨by decide +kernel, by decide +kernel, by decide +kernel⟩ (by decide) ⟨Nat.le_of_ble_eq_true rfl, Nat.le_of_ble_eq_true rfl⟩) (fun _ _ _ _ h => zvs_P h)) znil)) znil

theorem lX1_convoysAheadOf (ok : zO) (ex : zX) (F : zF) (hd l : Int32) (h : ok (some (.int (qCAh F hd l (F 25 9).toNatClampNeg))) F) : ∀ (d k : Nat), k + d = (F 25 9).toNatClampNeg → zWP YX1_convoysAheadOf ok ex 5 [some (.ref 0), some (.int hd), some (.int l), some (.int (qCAh F hd l k)), some (.int (nI k))] [] 0 0 F := by
  intro d
  induction d with
  | zero =>
    intro k hk
    have hk : k = (F 25 9).toNatClampNeg := hk
    subst hk
    refine zat_ok YX1_convoysAheadOf_ok zno kX1_convoysAheadOf (List.all_eq_true.mp kX1_convoysAheadOf_ok) 5 _ _ _ _ _ ?_
    exact And.intro (fun _ => h) (fun h1 => absurd (zcnt_ge _) h1)
  | succ d ih =>
    intro k hk
    refine zat_ok YX1_convoysAheadOf_ok (inv := zi1 5 (fun ls st kc ks G => zWP YX1_convoysAheadOf ok ex 5 ls st kc ks G)) (zone fun _ _ _ _ _ h => h) kX1_convoysAheadOf (List.all_eq_true.mp kX1_convoysAheadOf_ok) 5 _ _ _ _ _ ?_
    refine And.intro (fun h1 => absurd h1 (zcnt_lt (c := F 25 9) (k := k) (by omega))) (fun h1 => ?_)
    have ih := ih (k + 1) (by omega)
    have e : qCAh F hd l (k + 1) = qCAh F hd l k + (if qFA F (nI k) l ∧ qCB F (nI k) hd then 1 else 0) := rfl
    rw [e, ← nI_1] at ih
    refine And.intro (fun hc => ?_) (fun hc => ?_)
    · refine And.intro (fun h0 => absurd h0 (by decide)) (fun _ => ?_)
      refine And.intro (fun hb => ?_) (fun hb => ?_)
      · rw [if_pos ⟨hc, hb⟩] at ih
        exact And.intro (fun h0 => absurd h0 (by decide)) (fun _ => ih)
      · rw [if_neg (fun q => hb q.2)] at ih
        exact And.intro (fun _ => ih) (fun h0 => absurd rfl h0)
    · rw [if_neg (fun q => hc q.1)] at ih
      exact And.intro (fun _ => ih) (fun h0 => absurd rfl h0)

theorem mX1_convoysAheadOf : zMet (UC) yX1_convoysAheadOf cX1_convoysAheadOf 5 (some .int) rX1_convoysAheadOf (sX1_convoysAheadOf) := by
  refine zmet (Y := YX1_convoysAheadOf) rfl (by decide +kernel) ?_
  intro av F ok ex h
  unfold sX1_convoysAheadOf at h
  split at h
  · rename_i hd l
    refine zgo_ok (YX1_convoysAheadOf_ok) (inv := zi1 5 (fun ls st kc ks G => zWP YX1_convoysAheadOf ok ex 5 ls st kc ks G)) (zone fun _ _ _ _ _ h => h) kX1_convoysAheadOf (List.all_eq_true.mp kX1_convoysAheadOf_ok) 0 _ _ _ _ _ ?_
    exact lX1_convoysAheadOf ok ex F hd l h _ 0 (Nat.zero_add _)
  · exact h.elim

def kX1_convoyInOrder : List zI := [
  (0, 1, .iconst 0, [], 0),
  (1, 1, .istore_n 3, [], 0),
  (2, 1, .iload_n 3, [], 0),
  (3, 1, .aload_n 0, [], 0),
  (4, 3, .getfield 28, [], 0),
  (7, 3, .getfield 97, [], 0),
  (10, 3, .if_icmp .ge 33, [43], 0),
  (13, 1, .aload_n 0, [], 0),
  (14, 3, .getfield 28, [], 0),
  (17, 1, .iload_n 3, [], 0),
  (18, 1, .iload_n 1, [], 0),
  (19, 3, .invokevirtual 98, [], 0),
  (22, 3, .ifCond .eq 15, [37], 0),
  (25, 1, .aload_n 0, [], 0),
  (26, 1, .iload_n 3, [], 0),
  (27, 1, .iload_n 1, [], 0),
  (28, 3, .invokevirtual 102, [], 0),
  (31, 1, .iload_n 2, [], 0),
  (32, 3, .if_icmp .ne 5, [37], 0),
  (35, 1, .iload_n 3, [], 0),
  (36, 1, .ireturn, [], 0),
  (37, 3, .iinc 3 1, [], 1),
  (40, 3, .goto (-38), [2], 0),
  (43, 1, .iconst (-1), [], (-1)),
  (44, 1, .ireturn, [], 0)]
theorem kX1_convoyInOrder_ok : kX1_convoyInOrder.all (zck cX1_convoyInOrder) = true := by decide +kernel

def rX1_convoyInOrder : Room := { frames := 5, cells := 0, slots := 0, locals := 114 }
abbrev YX1_convoyInOrder : zM := (RX1, cX1_convoyInOrder, 4, some .int, rX1_convoyInOrder, UC, zlk fX1, zcs [(98, 3, 0, 0, zvs (UC) 3 (sX3_isFirstAt)), (102, 3, 0, 0, zvs (UC) 1 (sX1_convoysAheadOf))] [])
theorem YX1_convoyInOrder_ok : zYok (YX1_convoyInOrder) := zYok_of fX1_ok (zall (zcal_mono (zcalV (Y := YX1_convoyInOrder) (y := yX3_isFirstAt) (cc := cX3_isFirstAt) (nL := 3) (ret := some .boolean) (rm := rX3_isFirstAt) (mX3_isFirstAt) 98 2 3 (T := TX3) rfl wX1_98 ⟨by decide +kernel, by decide +kernel, by decide +kernel⟩ (by decide) ⟨Nat.le_of_ble_eq_true rfl, Nat.le_of_ble_eq_true rfl⟩) (fun _ _ _ _ h => zvs_P h)) (zall (zcal_mono (zcalV (Y := YX1_convoyInOrder) (y := yX1_convoysAheadOf) (cc := cX1_convoysAheadOf) (nL := 5) (ret := some .int) (rm := rX1_convoysAheadOf) (mX1_convoysAheadOf) 102 2 1 (T := TX1) rfl wX1_102 ⟨by decide +kernel, by decide +kernel, by decide +kernel⟩ (by decide) ⟨Nat.le_of_ble_eq_true rfl, Nat.le_of_ble_eq_true rfl⟩) (fun _ _ _ _ h => zvs_P h)) znil)) znil

theorem lX1_convoyInOrder (ok : zO) (ex : zX) (F : zF) (l x : Int32) : ∀ (d k : Nat), k + d = (F 25 9).toNatClampNeg → ok (some (.int (qCIO F l x d k))) F → zWP YX1_convoyInOrder ok ex 2 [some (.ref 0), some (.int l), some (.int x), some (.int (nI k))] [] 0 0 F := by
  intro d
  induction d with
  | zero =>
    intro k hk h
    have hk : k = (F 25 9).toNatClampNeg := hk
    subst hk
    refine zat_ok YX1_convoyInOrder_ok zno kX1_convoyInOrder (List.all_eq_true.mp kX1_convoyInOrder_ok) 2 _ _ _ _ _ ?_
    exact And.intro (fun _ => h) (fun h1 => absurd (zcnt_ge _) h1)
  | succ d ih =>
    intro k hk h
    refine zat_ok YX1_convoyInOrder_ok (inv := zi1 2 (fun ls st kc ks G => zWP YX1_convoyInOrder ok ex 2 ls st kc ks G)) (zone fun _ _ _ _ _ h => h) kX1_convoyInOrder (List.all_eq_true.mp kX1_convoyInOrder_ok) 2 _ _ _ _ _ ?_
    refine And.intro (fun h1 => absurd h1 (zcnt_lt (c := F 25 9) (k := k) (by omega))) (fun h1 => ?_)
    have e : qCIO F l x (d + 1) k = if qFA F (nI k) l ∧ qCAh F (nI k) l (F 25 9).toNatClampNeg = x then nI k else qCIO F l x d (k + 1) := rfl
    rw [e] at h
    refine And.intro (fun hc => ?_) (fun hc => ?_)
    · refine And.intro (fun h0 => absurd h0 (by decide)) (fun _ => ?_)
      refine And.intro (fun hb => ?_) (fun hb => ?_)
      · rw [if_neg (fun q => hb q.2)] at h
        have := ih (k + 1) (by omega) h
        rw [← nI_1] at this
        exact this
      · rw [if_pos ⟨hc, hb⟩] at h
        exact h
    · rw [if_neg (fun q => hc q.1)] at h
      have := ih (k + 1) (by omega) h
      rw [← nI_1] at this
      exact And.intro (fun _ => this) (fun h0 => absurd rfl h0)

theorem mX1_convoyInOrder : zMet (UC) yX1_convoyInOrder cX1_convoyInOrder 4 (some .int) rX1_convoyInOrder (sX1_convoyInOrder) := by
  refine zmet (Y := YX1_convoyInOrder) rfl (by decide +kernel) ?_
  intro av F ok ex h
  unfold sX1_convoyInOrder at h
  split at h
  · rename_i l x
    refine zgo_ok (YX1_convoyInOrder_ok) (inv := zi1 2 (fun ls st kc ks G => zWP YX1_convoyInOrder ok ex 2 ls st kc ks G)) (zone fun _ _ _ _ _ h => h) kX1_convoyInOrder (List.all_eq_true.mp kX1_convoyInOrder_ok) 0 _ _ _ _ _ ?_
    exact lX1_convoyInOrder ok ex F l x _ 0 (Nat.zero_add _) h
  · exact h.elim

def kX1_hindranceByRules : List zI := [
  (0, 1, .aload_n 0, [], 0),
  (1, 3, .getfield 21, [], 0),
  (4, 3, .getfield 124, [], 0),
  (7, 1, .iload_n 2, [], 0),
  (8, 3, .invokevirtual 84, [], 0),
  (11, 1, .istore_n 3, [], 0),
  (12, 1, .aload_n 0, [], 0),
  (13, 3, .getfield 35, [], 0),
  (16, 1, .aload_n 0, [], 0),
  (17, 3, .getfield 28, [], 0),
  (20, 1, .iload_n 1, [], 0),
  (21, 1, .iload_n 3, [], 0),
  (22, 3, .invokevirtual 127, [], 0),
  (25, 1, .aload_n 0, [], 0),
  (26, 3, .getfield 35, [], 0),
  (29, 3, .getfield 131, [], 0),
  (32, 3, .ifCond .ne 5, [37], 0),
  (35, 1, .iconst 1, [], 1),
  (36, 1, .ireturn, [], 0),
  (37, 1, .aload_n 0, [], 0),
  (38, 3, .getfield 12, [], 0),
  (41, 1, .iload_n 2, [], 0),
  (42, 3, .invokevirtual 134, [], 0),
  (45, 1, .aload_n 0, [], 0),
  (46, 3, .getfield 35, [], 0),
  (49, 3, .getfield 137, [], 0),
  (52, 3, .if_icmp .lt 23, [75], 0),
  (55, 1, .aload_n 0, [], 0),
  (56, 3, .getfield 12, [], 0),
  (59, 1, .iload_n 2, [], 0),
  (60, 1, .iconst 1, [], 1),
  (61, 1, .iadd, [], 0),
  (62, 3, .invokevirtual 134, [], 0),
  (65, 1, .aload_n 0, [], 0),
  (66, 3, .getfield 35, [], 0),
  (69, 3, .getfield 137, [], 0),
  (72, 3, .if_icmp .ge 5, [77], 0),
  (75, 1, .iconst 2, [], 2),
  (76, 1, .ireturn, [], 0),
  (77, 1, .aload_n 0, [], 0),
  (78, 3, .getfield 35, [], 0),
  (81, 1, .aload_n 0, [], 0),
  (82, 3, .getfield 12, [], 0),
  (85, 1, .iload_n 2, [], 0),
  (86, 3, .invokevirtual 140, [], 0),
  (89, 1, .iload_n 3, [], 0),
  (90, 1, .aload_n 0, [], 0),
  (91, 1, .iload_n 1, [], 0),
  (92, 3, .invokevirtual 88, [], 0),
  (95, 1, .aload_n 0, [], 0),
  (96, 3, .getfield 43, [], 0),
  (99, 3, .if_icmp .lt 7, [106], 0),
  (102, 1, .iconst 1, [], 1),
  (103, 3, .goto 4, [107], 0),
  (106, 1, .iconst 0, [], 0),
  (107, 3, .invokevirtual 143, [], 0),
  (110, 2, .istore 4, [], 0),
  (112, 2, .iload 4, [], 0),
  (114, 3, .ifCond .eq 7, [121], 0),
  (117, 1, .iconst 3, [], 3),
  (118, 3, .goto 4, [122], 0),
  (121, 1, .iconst 0, [], 0),
  (122, 1, .ireturn, [], 0)]
theorem kX1_hindranceByRules_ok : kX1_hindranceByRules.all (zck cX1_hindranceByRules) = true := by decide +kernel

def rX1_hindranceByRules : Room := { frames := 2, cells := 0, slots := 0, locals := 45 }
abbrev YX1_hindranceByRules : zM := (RX1, cX1_hindranceByRules, 5, some .int, rX1_hindranceByRules, UC, zlk fX1, zcs [(84, 2, 0, 0, zvs (UC) 7 (sU_at UC)), (127, 4, 0, 0, zvs (UC) 4 (sX4_lookAt)), (134, 2, 0, 0, zvs (UC) 6 (sX6_levelOf)), (140, 2, 0, 0, zvs (UC) 6 (sX6_drynessOf)), (88, 2, 0, 0, zvs (UC) 1 (sX1_waitedBy)), (143, 4, 0, 0, zvs (UC) 4 (sX4_isHeldBack))] [])
theorem YX1_hindranceByRules_ok : zYok (YX1_hindranceByRules) := zYok_of fX1_ok (zall (zcal_mono (zcalV (Y := YX1_hindranceByRules) (y := yX7_at) (cc := cX7_at) (nL := 2) (ret := some .int) (rm := rX7_at) (mU_at UC UC_small) 84 1 7 (T := TX7) rfl wX1_84 ⟨by decide +kernel, by decide +kernel, by decide +kernel⟩ (by decide) ⟨Nat.le_of_ble_eq_true rfl, Nat.le_of_ble_eq_true rfl⟩) (fun _ _ _ _ h => zvs_P h)) (zall (zcal_mono (zcalV (Y := YX1_hindranceByRules) (y := yX4_lookAt) (cc := cX4_lookAt) (nL := 5) (ret := none) (rm := rX4_lookAt) (mX4_lookAt) 127 3 4 (T := TX4) rfl wX1_127 ⟨by decide +kernel, by decide +kernel, by decide +kernel⟩ (by decide) ⟨Nat.le_of_ble_eq_true rfl, Nat.le_of_ble_eq_true rfl⟩) (fun _ _ _ _ h => zvs_P h)) (zall (zcal_mono (zcalV (Y := YX1_hindranceByRules) (y := yX6_levelOf) (cc := cX6_levelOf) (nL := 3) (ret := some .int) (rm := rX6_levelOf) (mX6_levelOf) 134 1 6 (T := TX6) rfl wX1_134 ⟨by decide +kernel, by decide +kernel, by decide +kernel⟩ (by decide) ⟨Nat.le_of_ble_eq_true rfl, Nat.le_of_ble_eq_true rfl⟩) (fun _ _ _ _ h => zvs_P h)) (zall (zcal_mono (zcalV (Y := YX1_hindranceByRules) (y := yX6_drynessOf) (cc := cX6_drynessOf) (nL := 3) (ret := some .int) (rm := rX6_drynessOf) (mX6_drynessOf) 140 1 6 (T := TX6) rfl wX1_140 ⟨by decide +kernel, by decide +kernel, by decide +kernel⟩ (by decide) ⟨Nat.le_of_ble_eq_true rfl, Nat.le_of_ble_eq_true rfl⟩) (fun _ _ _ _ h => zvs_P h)) (zall (zcal_mono (zcalV (Y := YX1_hindranceByRules) (y := yX1_waitedBy) (cc := cX1_waitedBy) (nL := 2) (ret := some .int) (rm := rX1_waitedBy) (mX1_waitedBy) 88 1 1 (T := TX1) rfl wX1_88 ⟨by decide +kernel, by decide +kernel, by decide +kernel⟩ (by decide) ⟨Nat.le_of_ble_eq_true rfl, Nat.le_of_ble_eq_true rfl⟩) (fun _ _ _ _ h => zvs_P h)) (zall (zcal_mono (zcalV (Y := YX1_hindranceByRules) (y := yX4_isHeldBack) (cc := cX4_isHeldBack) (nL := 4) (ret := some .boolean) (rm := rX4_isHeldBack) (mX4_isHeldBack) 143 3 4 (T := TX4) rfl wX1_143 ⟨by decide +kernel, by decide +kernel, by decide +kernel⟩ (by decide) ⟨Nat.le_of_ble_eq_true rfl, Nat.le_of_ble_eq_true rfl⟩) (fun _ _ _ _ h => zvs_P h)) znil)))))) znil

theorem mX1_hindranceByRules : zMet (UC) yX1_hindranceByRules cX1_hindranceByRules 5 (some .int) rX1_hindranceByRules (sX1_hindranceByRules) := by
  refine zmet (Y := YX1_hindranceByRules) rfl (by decide +kernel) ?_
  intro av F ok ex h
  unfold sX1_hindranceByRules at h
  split at h
  · rename_i hd l
    refine zgo_ok (YX1_hindranceByRules_ok) zno kX1_hindranceByRules (List.all_eq_true.mp kX1_hindranceByRules_ok) 0 _ _ _ _ _ ?_
    generalize hG : qLook F hd (qLen F l) = G at h
    have e : qLook F hd (zrd 4 (F (9 + 1)) l) = G := hG
    have q5 : G 0 5 = F 0 5 ∨ True := Or.inr trivial
    unfold qHR at h
    refine Eq.mp (congrArg (fun z => zgo YX1_hindranceByRules ok ex zi0 (kX1_hindranceByRules.drop 12) 25 [some (.ref 0), some (.int hd), some (.int l), some (.int (zrd 4 (F (9 + 1)) l)), none] [] 0 0 z) e.symm) ?_
    refine And.intro (fun h1 => ?_) (fun h1 => ?_)
    · rw [if_neg h1] at h
      refine And.intro (fun h2 => ?_) (fun h2 => And.intro (fun h3 => ?_) (fun h3 => ?_))
      · rw [if_pos (Or.inl h2)] at h
        exact h
      · rw [if_neg (fun q => q.elim h2 (Int32.not_lt.mpr h3))] at h
        refine And.intro (fun h4 => ?_) (fun h4 => ?_)
        · have h4 : qWt G hd < G 0 5 := h4
          rw [if_pos h4] at h
          refine And.intro (fun h5 => ?_) (fun h5 => ?_)
          · rw [if_pos h5] at h
            exact And.intro (fun h0 => absurd h0 (by decide)) (fun _ => h)
          · rw [if_neg h5] at h
            exact And.intro (fun _ => h) (fun h0 => absurd rfl h0)
        · have h4 : ¬ qWt G hd < G 0 5 := h4
          rw [if_neg h4] at h
          refine And.intro (fun h5 => ?_) (fun h5 => ?_)
          · rw [if_pos h5] at h
            exact And.intro (fun h0 => absurd h0 (by decide)) (fun _ => h)
          · rw [if_neg h5] at h
            exact And.intro (fun _ => h) (fun h0 => absurd rfl h0)
      · rw [if_pos (Or.inr (Int32.not_le.mp h3))] at h
        exact h
    · rw [if_pos h1] at h
      exact h
  · exact h.elim

def kX1_canBeReadyForDown : List zI := [
  (0, 1, .aload_n 0, [], 0),
  (1, 3, .getfield 21, [], 0),
  (4, 1, .iload_n 1, [], 0),
  (5, 3, .invokevirtual 147, [], 0),
  (8, 3, .ifCond .ne 25, [33], 0),
  (11, 1, .aload_n 0, [], 0),
  (12, 3, .getfield 12, [], 0),
  (15, 3, .getfield 150, [], 0),
  (18, 1, .iload_n 1, [], 0),
  (19, 3, .invokevirtual 84, [], 0),
  (22, 1, .aload_n 0, [], 0),
  (23, 3, .getfield 21, [], 0),
  (26, 1, .iload_n 1, [], 0),
  (27, 3, .invokevirtual 153, [], 0),
  (30, 3, .if_icmp .lt 7, [37], 0),
  (33, 1, .iconst 1, [], 1),
  (34, 3, .goto 4, [38], 0),
  (37, 1, .iconst 0, [], 0),
  (38, 1, .ireturn, [], 0)]
theorem kX1_canBeReadyForDown_ok : kX1_canBeReadyForDown.all (zck cX1_canBeReadyForDown) = true := by decide +kernel

def rX1_canBeReadyForDown : Room := { frames := 3, cells := 0, slots := 0, locals := 63 }
abbrev YX1_canBeReadyForDown : zM := (RX1, cX1_canBeReadyForDown, 2, some .boolean, rX1_canBeReadyForDown, UC, zlk fX1, zcs [(147, 2, 0, 0, zvs (UC) 5 (sX5_isFull)), (84, 2, 0, 0, zvs (UC) 7 (sU_at UC)), (153, 2, 0, 0, zvs (UC) 5 (sX5_lackingToFill))] [])
theorem YX1_canBeReadyForDown_ok : zYok (YX1_canBeReadyForDown) := zYok_of fX1_ok (zall (zcal_mono (zcalV (Y := YX1_canBeReadyForDown) (y := yX5_isFull) (cc := cX5_isFull) (nL := 2) (ret := some .boolean) (rm := rX5_isFull) (mX5_isFull) 147 1 5 (T := TX5) rfl wX1_147 ⟨by decide +kernel, by decide +kernel, by decide +kernel⟩ (by decide) ⟨Nat.le_of_ble_eq_true rfl, Nat.le_of_ble_eq_true rfl⟩) (fun _ _ _ _ h => zvs_P h)) (zall (zcal_mono (zcalV (Y := YX1_canBeReadyForDown) (y := yX7_at) (cc := cX7_at) (nL := 2) (ret := some .int) (rm := rX7_at) (mU_at UC UC_small) 84 1 7 (T := TX7) rfl wX1_84 ⟨by decide +kernel, by decide +kernel, by decide +kernel⟩ (by decide) ⟨Nat.le_of_ble_eq_true rfl, Nat.le_of_ble_eq_true rfl⟩) (fun _ _ _ _ h => zvs_P h)) (zall (zcal_mono (zcalV (Y := YX1_canBeReadyForDown) (y := yX5_lackingToFill) (cc := cX5_lackingToFill) (nL := 2) (ret := some .int) (rm := rX5_lackingToFill) (mX5_lackingToFill) 153 1 5 (T := TX5) rfl wX1_153 ⟨by decide +kernel, by decide +kernel, by decide +kernel⟩ (by decide) ⟨Nat.le_of_ble_eq_true rfl, Nat.le_of_ble_eq_true rfl⟩) (fun _ _ _ _ h => zvs_P h)) znil))) znil

theorem mX1_canBeReadyForDown : zMet (UC) yX1_canBeReadyForDown cX1_canBeReadyForDown 2 (some .boolean) rX1_canBeReadyForDown (sX1_canBeReadyForDown) := by
  refine zmet (Y := YX1_canBeReadyForDown) rfl (by decide +kernel) ?_
  intro av F ok ex h
  unfold sX1_canBeReadyForDown at h
  split at h
  · rename_i l
    refine zgo_ok (YX1_canBeReadyForDown_ok) zno kX1_canBeReadyForDown (List.all_eq_true.mp kX1_canBeReadyForDown_ok) 0 _ _ _ _ _ ?_
    refine And.intro (fun h1 => ?_) (fun h1 => ?_)
    · exact And.intro (fun _ => Exists.intro (Or.inr rfl) (h.1 (Or.inl h1))) (fun h0 => absurd h0 (by decide))
    · refine And.intro (fun h0 => absurd rfl h0) (fun _ => And.intro (fun h2 => ?_) (fun h2 => ?_))
      · exact Exists.intro (Or.inl rfl) (h.2 fun hc => hc.elim h1 (fun q => Int32.not_lt.mpr q h2))
      · exact Exists.intro (Or.inr rfl) (h.1 (Or.inr (Int32.not_lt.mp h2)))
  · exact h.elim

def kX1_canFillForUp : List zI := [
  (0, 1, .aload_n 0, [], 0),
  (1, 3, .getfield 21, [], 0),
  (4, 3, .getfield 156, [], 0),
  (7, 1, .iload_n 1, [], 0),
  (8, 3, .invokevirtual 84, [], 0),
  (11, 1, .aload_n 0, [], 0),
  (12, 3, .getfield 21, [], 0),
  (15, 3, .getfield 159, [], 0),
  (18, 1, .iload_n 1, [], 0),
  (19, 3, .invokevirtual 84, [], 0),
  (22, 1, .imul, [], 0),
  (23, 1, .istore_n 2, [], 0),
  (24, 1, .aload_n 0, [], 0),
  (25, 3, .getfield 21, [], 0),
  (28, 1, .iload_n 1, [], 0),
  (29, 3, .invokevirtual 147, [], 0),
  (32, 3, .ifCond .eq 19, [51], 0),
  (35, 1, .aload_n 0, [], 0),
  (36, 3, .getfield 21, [], 0),
  (39, 3, .getfield 162, [], 0),
  (42, 1, .iload_n 1, [], 0),
  (43, 3, .invokevirtual 84, [], 0),
  (46, 1, .iload_n 2, [], 0),
  (47, 1, .isub, [], 0),
  (48, 3, .goto 11, [59], 0),
  (51, 1, .aload_n 0, [], 0),
  (52, 3, .getfield 21, [], 0),
  (55, 1, .iload_n 1, [], 0),
  (56, 3, .invokevirtual 153, [], 0),
  (59, 1, .istore_n 3, [], 0),
  (60, 1, .aload_n 0, [], 0),
  (61, 3, .getfield 12, [], 0),
  (64, 3, .getfield 150, [], 0),
  (67, 1, .iload_n 1, [], 0),
  (68, 3, .invokevirtual 84, [], 0),
  (71, 1, .iload_n 3, [], 0),
  (72, 3, .if_icmp .lt 7, [79], 0),
  (75, 1, .iconst 1, [], 1),
  (76, 3, .goto 4, [80], 0),
  (79, 1, .iconst 0, [], 0),
  (80, 1, .ireturn, [], 0)]
theorem kX1_canFillForUp_ok : kX1_canFillForUp.all (zck cX1_canFillForUp) = true := by decide +kernel

def rX1_canFillForUp : Room := { frames := 3, cells := 0, slots := 0, locals := 63 }
abbrev YX1_canFillForUp : zM := (RX1, cX1_canFillForUp, 4, some .boolean, rX1_canFillForUp, UC, zlk fX1, zcs [(84, 2, 0, 0, zvs (UC) 7 (sU_at UC)), (147, 2, 0, 0, zvs (UC) 5 (sX5_isFull)), (153, 2, 0, 0, zvs (UC) 5 (sX5_lackingToFill))] [])
theorem YX1_canFillForUp_ok : zYok (YX1_canFillForUp) := zYok_of fX1_ok (zall (zcal_mono (zcalV (Y := YX1_canFillForUp) (y := yX7_at) (cc := cX7_at) (nL := 2) (ret := some .int) (rm := rX7_at) (mU_at UC UC_small) 84 1 7 (T := TX7) rfl wX1_84 ⟨by decide +kernel, by decide +kernel, by decide +kernel⟩ (by decide) ⟨Nat.le_of_ble_eq_true rfl, Nat.le_of_ble_eq_true rfl⟩) (fun _ _ _ _ h => zvs_P h)) (zall (zcal_mono (zcalV (Y := YX1_canFillForUp) (y := yX5_isFull) (cc := cX5_isFull) (nL := 2) (ret := some .boolean) (rm := rX5_isFull) (mX5_isFull) 147 1 5 (T := TX5) rfl wX1_147 ⟨by decide +kernel, by decide +kernel, by decide +kernel⟩ (by decide) ⟨Nat.le_of_ble_eq_true rfl, Nat.le_of_ble_eq_true rfl⟩) (fun _ _ _ _ h => zvs_P h)) (zall (zcal_mono (zcalV (Y := YX1_canFillForUp) (y := yX5_lackingToFill) (cc := cX5_lackingToFill) (nL := 2) (ret := some .int) (rm := rX5_lackingToFill) (mX5_lackingToFill) 153 1 5 (T := TX5) rfl wX1_153 ⟨by decide +kernel, by decide +kernel, by decide +kernel⟩ (by decide) ⟨Nat.le_of_ble_eq_true rfl, Nat.le_of_ble_eq_true rfl⟩) (fun _ _ _ _ h => zvs_P h)) znil))) znil

theorem mX1_canFillForUp : zMet (UC) yX1_canFillForUp cX1_canFillForUp 4 (some .boolean) rX1_canFillForUp (sX1_canFillForUp) := by
  refine zmet (Y := YX1_canFillForUp) rfl (by decide +kernel) ?_
  intro av F ok ex h
  unfold sX1_canFillForUp at h
  split at h
  · rename_i l
    refine zgo_ok (YX1_canFillForUp_ok) zno kX1_canFillForUp (List.all_eq_true.mp kX1_canFillForUp_ok) 0 _ _ _ _ _ ?_
    unfold qCFU qLkU at h
    refine And.intro (fun h1 => ?_) (fun h1 => ?_)
    · rw [if_pos h1] at h
      refine And.intro (fun h0 => absurd h0 (by decide)) (fun _ => And.intro (fun h2 => ?_) (fun h2 => ?_))
      · exact Exists.intro (Or.inl rfl) (h.2 fun hc => Int32.not_lt.mpr hc h2)
      · exact Exists.intro (Or.inr rfl) (h.1 (Int32.not_lt.mp h2))
    · rw [if_neg h1] at h
      refine And.intro (fun _ => And.intro (fun h2 => ?_) (fun h2 => ?_)) (fun h0 => absurd rfl h0)
      · exact Exists.intro (Or.inl rfl) (h.2 fun hc => Int32.not_lt.mpr hc h2)
      · exact Exists.intro (Or.inr rfl) (h.1 (Int32.not_lt.mp h2))
  · exact h.elim

def kX1_hindranceOf : List zI := [
  (0, 1, .aload_n 0, [], 0),
  (1, 3, .getfield 28, [], 0),
  (4, 3, .getfield 68, [], 0),
  (7, 1, .iload_n 1, [], 0),
  (8, 3, .invokevirtual 84, [], 0),
  (11, 1, .istore_n 2, [], 0),
  (12, 1, .aload_n 0, [], 0),
  (13, 1, .iload_n 1, [], 0),
  (14, 1, .iload_n 2, [], 0),
  (15, 3, .invokevirtual 111, [], 0),
  (18, 1, .istore_n 3, [], 0),
  (19, 1, .iload_n 3, [], 0),
  (20, 3, .ifCond .eq 5, [25], 0),
  (23, 1, .iload_n 3, [], 0),
  (24, 1, .ireturn, [], 0),
  (25, 1, .aload_n 0, [], 0),
  (26, 3, .getfield 28, [], 0),
  (29, 1, .iload_n 1, [], 0),
  (30, 3, .invokevirtual 114, [], 0),
  (33, 3, .ifCond .eq 11, [44], 0),
  (36, 1, .aload_n 0, [], 0),
  (37, 1, .iload_n 2, [], 0),
  (38, 3, .invokevirtual 118, [], 0),
  (41, 3, .goto 8, [49], 0),
  (44, 1, .aload_n 0, [], 0),
  (45, 1, .iload_n 2, [], 0),
  (46, 3, .invokevirtual 121, [], 0),
  (49, 2, .istore 4, [], 0),
  (51, 2, .iload 4, [], 0),
  (53, 3, .ifCond .eq 7, [60], 0),
  (56, 1, .iconst 0, [], 0),
  (57, 3, .goto 4, [61], 0),
  (60, 1, .iconst 4, [], 4),
  (61, 1, .ireturn, [], 0)]
theorem kX1_hindranceOf_ok : kX1_hindranceOf.all (zck cX1_hindranceOf) = true := by decide +kernel

def rX1_hindranceOf : Room := { frames := 4, cells := 0, slots := 0, locals := 86 }
abbrev YX1_hindranceOf : zM := (RX1, cX1_hindranceOf, 5, some .int, rX1_hindranceOf, UC, zlk fX1, zcs [(84, 2, 0, 0, zvs (UC) 7 (sU_at UC)), (111, 3, 0, 0, zvs (UC) 1 (sX1_hindranceByRules)), (114, 2, 0, 0, zvs (UC) 3 (sX3_goesUp)), (118, 2, 0, 0, zvs (UC) 1 (sX1_canFillForUp)), (121, 2, 0, 0, zvs (UC) 1 (sX1_canBeReadyForDown))] [])
theorem YX1_hindranceOf_ok : zYok (YX1_hindranceOf) := zYok_of fX1_ok (zall (zcal_mono (zcalV (Y := YX1_hindranceOf) (y := yX7_at) (cc := cX7_at) (nL := 2) (ret := some .int) (rm := rX7_at) (mU_at UC UC_small) 84 1 7 (T := TX7) rfl wX1_84 ⟨by decide +kernel, by decide +kernel, by decide +kernel⟩ (by decide) ⟨Nat.le_of_ble_eq_true rfl, Nat.le_of_ble_eq_true rfl⟩) (fun _ _ _ _ h => zvs_P h)) (zall (zcal_mono (zcalV (Y := YX1_hindranceOf) (y := yX1_hindranceByRules) (cc := cX1_hindranceByRules) (nL := 5) (ret := some .int) (rm := rX1_hindranceByRules) (mX1_hindranceByRules) 111 2 1 (T := TX1) rfl wX1_111 ⟨by decide +kernel, by decide +kernel, by decide +kernel⟩ (by decide) ⟨Nat.le_of_ble_eq_true rfl, Nat.le_of_ble_eq_true rfl⟩) (fun _ _ _ _ h => zvs_P h)) (zall (zcal_mono (zcalV (Y := YX1_hindranceOf) (y := yX3_goesUp) (cc := cX3_goesUp) (nL := 2) (ret := some .boolean) (rm := rX3_goesUp) (mX3_goesUp) 114 1 3 (T := TX3) rfl wX1_114 ⟨by decide +kernel, by decide +kernel, by decide +kernel⟩ (by decide) ⟨Nat.le_of_ble_eq_true rfl, Nat.le_of_ble_eq_true rfl⟩) (fun _ _ _ _ h => zvs_P h)) (zall (zcal_mono (zcalV (Y := YX1_hindranceOf) (y := yX1_canFillForUp) (cc := cX1_canFillForUp) (nL := 4) (ret := some .boolean) (rm := rX1_canFillForUp) (mX1_canFillForUp) 118 1 1 (T := TX1) rfl wX1_118 ⟨by decide +kernel, by decide +kernel, by decide +kernel⟩ (by decide) ⟨Nat.le_of_ble_eq_true rfl, Nat.le_of_ble_eq_true rfl⟩) (fun _ _ _ _ h => zvs_P h)) (zall (zcal_mono (zcalV (Y := YX1_hindranceOf) (y := yX1_canBeReadyForDown) (cc := cX1_canBeReadyForDown) (nL := 2) (ret := some .boolean) (rm := rX1_canBeReadyForDown) (mX1_canBeReadyForDown) 121 1 1 (T := TX1) rfl wX1_121 ⟨by decide +kernel, by decide +kernel, by decide +kernel⟩ (by decide) ⟨Nat.le_of_ble_eq_true rfl, Nat.le_of_ble_eq_true rfl⟩) (fun _ _ _ _ h => zvs_P h)) znil))))) znil

theorem mX1_hindranceOf : zMet (UC) yX1_hindranceOf cX1_hindranceOf 5 (some .int) rX1_hindranceOf (sX1_hindranceOf) := by
  refine zmet (Y := YX1_hindranceOf) rfl (by decide +kernel) ?_
  intro av F ok ex h
  unfold sX1_hindranceOf at h
  split at h
  · rename_i hd
    refine zgo_ok (YX1_hindranceOf_ok) zno kX1_hindranceOf (List.all_eq_true.mp kX1_hindranceOf_ok) 0 _ _ _ _ _ ?_
    generalize hG : qLook F hd (qLen F (qWa F hd)) = G at h
    unfold qHO at h
    refine And.intro (fun h1 => ?_) (fun h1 => ?_)
    · have h1 : qHR F (qLook F hd (qLen F (qWa F hd))) hd (qWa F hd) = 0 := h1
      have e : zrd 16 (F (34 + 1)) hd = qWa F hd := rfl
      rw [hG] at h1
      rw [if_pos h1] at h
      subst hG
      refine And.intro (fun h2 => And.intro (fun h0 => absurd h0 (by decide)) (fun _ => And.intro (fun h3 => ?_) (fun h3 => ?_))) (fun h2 => And.intro (fun _ => And.intro (fun h3 => ?_) (fun h3 => ?_)) (fun h0 => absurd rfl h0))
      · rw [if_pos (Or.inl ⟨h2, h3⟩)] at h
        exact And.intro (fun h0 => absurd h0 (by decide)) (fun _ => h)
      · rw [if_neg (fun q => q.elim (fun z => h3 z.2) (fun z => z.1 h2))] at h
        exact And.intro (fun _ => h) (fun h0 => absurd rfl h0)
      · rw [if_pos (Or.inr ⟨h2, h3⟩)] at h
        exact And.intro (fun h0 => absurd h0 (by decide)) (fun _ => h)
      · rw [if_neg (fun q => q.elim (fun z => h2 z.1) (fun z => h3 z.2))] at h
        exact And.intro (fun _ => h) (fun h0 => absurd rfl h0)
    · have h1 : ¬ qHR F (qLook F hd (qLen F (qWa F hd))) hd (qWa F hd) = 0 := h1
      rw [hG] at h1
      rw [if_neg h1] at h
      subst hG
      exact h
  · exact h.elim

def kX1_wasLockedNow : List zI := [
  (0, 1, .aload_n 0, [], 0),
  (1, 3, .getfield 28, [], 0),
  (4, 3, .getfield 81, [], 0),
  (7, 1, .iload_n 1, [], 0),
  (8, 3, .invokevirtual 84, [], 0),
  (11, 1, .aload_n 0, [], 0),
  (12, 3, .getfield 49, [], 0),
  (15, 3, .if_icmp .le 7, [22], 0),
  (18, 1, .iconst 1, [], 1),
  (19, 3, .goto 4, [23], 0),
  (22, 1, .iconst 0, [], 0),
  (23, 1, .ireturn, [], 0)]
theorem kX1_wasLockedNow_ok : kX1_wasLockedNow.all (zck cX1_wasLockedNow) = true := by decide +kernel

def rX1_wasLockedNow : Room := { frames := 1, cells := 0, slots := 0, locals := 21 }
abbrev YX1_wasLockedNow : zM := (RX1, cX1_wasLockedNow, 2, some .boolean, rX1_wasLockedNow, UC, zlk fX1, zcs [(84, 2, 0, 0, zvs (UC) 7 (sU_at UC))] [])
theorem YX1_wasLockedNow_ok : zYok (YX1_wasLockedNow) := zYok_of fX1_ok (zall (zcal_mono (zcalV (Y := YX1_wasLockedNow) (y := yX7_at) (cc := cX7_at) (nL := 2) (ret := some .int) (rm := rX7_at) (mU_at UC UC_small) 84 1 7 (T := TX7) rfl wX1_84 ⟨by decide +kernel, by decide +kernel, by decide +kernel⟩ (by decide) ⟨Nat.le_of_ble_eq_true rfl, Nat.le_of_ble_eq_true rfl⟩) (fun _ _ _ _ h => zvs_P h)) znil) znil

theorem mX1_wasLockedNow : zMet (UC) yX1_wasLockedNow cX1_wasLockedNow 2 (some .boolean) rX1_wasLockedNow (sX1_wasLockedNow) := by
  refine zmet (Y := YX1_wasLockedNow) rfl (by decide +kernel) ?_
  intro av F ok ex h
  unfold sX1_wasLockedNow at h
  split at h
  · rename_i i
    refine zgo_ok (YX1_wasLockedNow_ok) zno kX1_wasLockedNow (List.all_eq_true.mp kX1_wasLockedNow_ok) 0 _ _ _ _ _ ?_
    refine And.intro (fun h1 => ?_) (fun h1 => ?_)
    · exact Exists.intro (Or.inl rfl) (h.2 (Int32.not_lt.mpr h1))
    · exact Exists.intro (Or.inr rfl) (h.1 (Int32.not_le.mp h1))
  · exact h.elim

def kX1_turnChamber : List zI := [
  (0, 1, .aload_n 0, [], 0),
  (1, 3, .getfield 21, [], 0),
  (4, 1, .iload_n 1, [], 0),
  (5, 3, .invokevirtual 147, [], 0),
  (8, 3, .ifCond .eq 35, [43], 0),
  (11, 1, .aload_n 0, [], 0),
  (12, 3, .getfield 12, [], 0),
  (15, 3, .getfield 150, [], 0),
  (18, 1, .iload_n 1, [], 0),
  (19, 1, .iconst 1, [], 1),
  (20, 1, .iadd, [], 0),
  (21, 1, .aload_n 0, [], 0),
  (22, 3, .getfield 21, [], 0),
  (25, 1, .iload_n 1, [], 0),
  (26, 3, .invokevirtual 190, [], 0),
  (29, 3, .invokevirtual 169, [], 0),
  (32, 1, .aload_n 0, [], 0),
  (33, 3, .getfield 21, [], 0),
  (36, 1, .iload_n 1, [], 0),
  (37, 3, .invokevirtual 193, [], 0),
  (40, 3, .goto 31, [71], 0),
  (43, 1, .aload_n 0, [], 0),
  (44, 3, .getfield 12, [], 0),
  (47, 3, .getfield 150, [], 0),
  (50, 1, .iload_n 1, [], 0),
  (51, 1, .aload_n 0, [], 0),
  (52, 3, .getfield 21, [], 0),
  (55, 1, .iload_n 1, [], 0),
  (56, 3, .invokevirtual 153, [], 0),
  (59, 1, .ineg, [], 0),
  (60, 3, .invokevirtual 169, [], 0),
  (63, 1, .aload_n 0, [], 0),
  (64, 3, .getfield 21, [], 0),
  (67, 1, .iload_n 1, [], 0),
  (68, 3, .invokevirtual 196, [], 0),
  (71, 1, .return_, [], 0)]
theorem kX1_turnChamber_ok : kX1_turnChamber.all (zck cX1_turnChamber) = true := by decide +kernel

def rX1_turnChamber : Room := { frames := 3, cells := 0, slots := 0, locals := 63 }
abbrev YX1_turnChamber : zM := (RX1, cX1_turnChamber, 2, none, rX1_turnChamber, UC, zlk fX1, zcs [(147, 2, 0, 0, zvs (UC) 5 (sX5_isFull)), (190, 2, 0, 0, zvs (UC) 5 (sX5_leftBeyondBasins)), (169, 3, 0, 0, zvs (UC) 7 (sU_add UC)), (193, 2, 0, 0, zvs (UC) 5 (sX5_empty)), (153, 2, 0, 0, zvs (UC) 5 (sX5_lackingToFill)), (196, 2, 0, 0, zvs (UC) 5 (sX5_fill))] [])
theorem YX1_turnChamber_ok : zYok (YX1_turnChamber) := zYok_of fX1_ok (zall (zcal_mono (zcalV (Y := YX1_turnChamber) (y := yX5_isFull) (cc := cX5_isFull) (nL := 2) (ret := some .boolean) (rm := rX5_isFull) (mX5_isFull) 147 1 5 (T := TX5) rfl wX1_147 ⟨by decide +kernel, by decide +kernel, by decide +kernel⟩ (by decide) ⟨Nat.le_of_ble_eq_true rfl, Nat.le_of_ble_eq_true rfl⟩) (fun _ _ _ _ h => zvs_P h)) (zall (zcal_mono (zcalV (Y := YX1_turnChamber) (y := yX5_leftBeyondBasins) (cc := cX5_leftBeyondBasins) (nL := 3) (ret := some .int) (rm := rX5_leftBeyondBasins) (mX5_leftBeyondBasins) 190 1 5 (T := TX5) rfl wX1_190 ⟨by decide +kernel, by decide +kernel, by decide +kernel⟩ (by decide) ⟨Nat.le_of_ble_eq_true rfl, Nat.le_of_ble_eq_true rfl⟩) (fun _ _ _ _ h => zvs_P h)) (zall (zcal_mono (zcalV (Y := YX1_turnChamber) (y := yX7_add) (cc := cX7_add) (nL := 3) (ret := none) (rm := rX7_add) (mU_add UC UC_small) 169 2 7 (T := TX7) rfl wX1_169 ⟨by decide +kernel, by decide +kernel, by decide +kernel⟩ (by decide) ⟨Nat.le_of_ble_eq_true rfl, Nat.le_of_ble_eq_true rfl⟩) (fun _ _ _ _ h => zvs_P h)) (zall (zcal_mono (zcalV (Y := YX1_turnChamber) (y := yX5_empty) (cc := cX5_empty) (nL := 2) (ret := none) (rm := rX5_empty) (mX5_empty) 193 1 5 (T := TX5) rfl wX1_193 ⟨by decide +kernel, by decide +kernel, by decide +kernel⟩ (by decide) ⟨Nat.le_of_ble_eq_true rfl, Nat.le_of_ble_eq_true rfl⟩) (fun _ _ _ _ h => zvs_P h)) (zall (zcal_mono (zcalV (Y := YX1_turnChamber) (y := yX5_lackingToFill) (cc := cX5_lackingToFill) (nL := 2) (ret := some .int) (rm := rX5_lackingToFill) (mX5_lackingToFill) 153 1 5 (T := TX5) rfl wX1_153 ⟨by decide +kernel, by decide +kernel, by decide +kernel⟩ (by decide) ⟨Nat.le_of_ble_eq_true rfl, Nat.le_of_ble_eq_true rfl⟩) (fun _ _ _ _ h => zvs_P h)) (zall (zcal_mono (zcalV (Y := YX1_turnChamber) (y := yX5_fill) (cc := cX5_fill) (nL := 2) (ret := none) (rm := rX5_fill) (mX5_fill) 196 1 5 (T := TX5) rfl wX1_196 ⟨by decide +kernel, by decide +kernel, by decide +kernel⟩ (by decide) ⟨Nat.le_of_ble_eq_true rfl, Nat.le_of_ble_eq_true rfl⟩) (fun _ _ _ _ h => zvs_P h)) znil)))))) znil

theorem mX1_turnChamber : zMet (UC) yX1_turnChamber cX1_turnChamber 2 (none) rX1_turnChamber (sX1_turnChamber) := by
  refine zmet (Y := YX1_turnChamber) rfl (by decide +kernel) ?_
  intro av F ok ex h
  unfold sX1_turnChamber at h
  split at h
  · rename_i l
    refine zgo_ok (YX1_turnChamber_ok) zno kX1_turnChamber (List.all_eq_true.mp kX1_turnChamber_ok) 0 _ _ _ _ _ ?_
    unfold qTC at h
    refine And.intro (fun h1 => ?_) (fun h1 => ?_)
    · rw [if_pos h1] at h
      exact And.intro (fun h0 => absurd h0 (by decide)) (fun _ => h)
    · rw [if_neg h1] at h
      exact And.intro (fun _ => h) (fun h0 => absurd rfl h0)
  · exact h.elim

def kX1_moveOn : List zI := [
  (0, 1, .aload_n 0, [], 0),
  (1, 3, .getfield 28, [], 0),
  (4, 3, .getfield 68, [], 0),
  (7, 1, .iload_n 1, [], 0),
  (8, 3, .invokevirtual 84, [], 0),
  (11, 1, .aload_n 0, [], 0),
  (12, 3, .getfield 28, [], 0),
  (15, 1, .iload_n 1, [], 0),
  (16, 3, .invokevirtual 114, [], 0),
  (19, 3, .ifCond .eq 7, [26], 0),
  (22, 1, .iconst (-1), [], (-1)),
  (23, 3, .goto 4, [27], 0),
  (26, 1, .iconst 1, [], 1),
  (27, 1, .iadd, [], 0),
  (28, 1, .istore_n 2, [], 0),
  (29, 1, .iload_n 2, [], 0),
  (30, 3, .ifCond .lt 46, [76], 0),
  (33, 1, .iload_n 2, [], 0),
  (34, 1, .aload_n 0, [], 0),
  (35, 3, .getfield 21, [], 0),
  (38, 3, .getfield 72, [], 0),
  (41, 3, .if_icmp .ge 35, [76], 0),
  (44, 1, .aload_n 0, [], 0),
  (45, 3, .getfield 28, [], 0),
  (48, 3, .getfield 68, [], 0),
  (51, 1, .iload_n 1, [], 0),
  (52, 1, .iload_n 2, [], 0),
  (53, 3, .invokevirtual 75, [], 0),
  (56, 1, .aload_n 0, [], 0),
  (57, 3, .getfield 28, [], 0),
  (60, 3, .getfield 81, [], 0),
  (63, 1, .iload_n 1, [], 0),
  (64, 1, .aload_n 0, [], 0),
  (65, 3, .getfield 49, [], 0),
  (68, 1, .iconst 1, [], 1),
  (69, 1, .iadd, [], 0),
  (70, 3, .invokevirtual 75, [], 0),
  (73, 3, .goto 15, [88], 0),
  (76, 1, .aload_n 0, [], 0),
  (77, 3, .getfield 28, [], 0),
  (80, 1, .iload_n 1, [], 0),
  (81, 1, .aload_n 0, [], 0),
  (82, 3, .getfield 49, [], 0),
  (85, 3, .invokevirtual 214, [], 0),
  (88, 1, .return_, [], 0)]
theorem kX1_moveOn_ok : kX1_moveOn.all (zck cX1_moveOn) = true := by decide +kernel

def rX1_moveOn : Room := { frames := 2, cells := 0, slots := 0, locals := 44 }
abbrev YX1_moveOn : zM := (RX1, cX1_moveOn, 3, none, rX1_moveOn, UC, zlk fX1, zcs [(84, 2, 0, 0, zvs (UC) 7 (sU_at UC)), (114, 2, 0, 0, zvs (UC) 3 (sX3_goesUp)), (75, 3, 0, 0, zvs (UC) 7 (sU_put UC)), (214, 3, 0, 0, zvs (UC) 3 (sX3_leave))] [])
theorem YX1_moveOn_ok : zYok (YX1_moveOn) := zYok_of fX1_ok (zall (zcal_mono (zcalV (Y := YX1_moveOn) (y := yX7_at) (cc := cX7_at) (nL := 2) (ret := some .int) (rm := rX7_at) (mU_at UC UC_small) 84 1 7 (T := TX7) rfl wX1_84 ⟨by decide +kernel, by decide +kernel, by decide +kernel⟩ (by decide) ⟨Nat.le_of_ble_eq_true rfl, Nat.le_of_ble_eq_true rfl⟩) (fun _ _ _ _ h => zvs_P h)) (zall (zcal_mono (zcalV (Y := YX1_moveOn) (y := yX3_goesUp) (cc := cX3_goesUp) (nL := 2) (ret := some .boolean) (rm := rX3_goesUp) (mX3_goesUp) 114 1 3 (T := TX3) rfl wX1_114 ⟨by decide +kernel, by decide +kernel, by decide +kernel⟩ (by decide) ⟨Nat.le_of_ble_eq_true rfl, Nat.le_of_ble_eq_true rfl⟩) (fun _ _ _ _ h => zvs_P h)) (zall (zcal_mono (zcalV (Y := YX1_moveOn) (y := yX7_put) (cc := cX7_put) (nL := 3) (ret := none) (rm := rX7_put) (mU_put UC UC_small) 75 2 7 (T := TX7) rfl wX1_75 ⟨by decide +kernel, by decide +kernel, by decide +kernel⟩ (by decide) ⟨Nat.le_of_ble_eq_true rfl, Nat.le_of_ble_eq_true rfl⟩) (fun _ _ _ _ h => zvs_P h)) (zall (zcal_mono (zcalV (Y := YX1_moveOn) (y := yX3_leave) (cc := cX3_leave) (nL := 3) (ret := none) (rm := rX3_leave) (mX3_leave) 214 2 3 (T := TX3) rfl wX1_214 ⟨by decide +kernel, by decide +kernel, by decide +kernel⟩ (by decide) ⟨Nat.le_of_ble_eq_true rfl, Nat.le_of_ble_eq_true rfl⟩) (fun _ _ _ _ h => zvs_P h)) znil)))) znil

theorem mX1_moveOn : zMet (UC) yX1_moveOn cX1_moveOn 3 (none) rX1_moveOn (sX1_moveOn) := by
  refine zmet (Y := YX1_moveOn) rfl (by decide +kernel) ?_
  intro av F ok ex h
  unfold sX1_moveOn at h
  split at h
  · rename_i s
    refine zgo_ok (YX1_moveOn_ok) zno kX1_moveOn (List.all_eq_true.mp kX1_moveOn_ok) 0 _ _ _ _ _ ?_
    unfold qMO qNL at h
    have e : ∀ v : Int32, zwr 16 F 35 s v 0 7 = F 0 7 := fun v => by rw [zwr_ne _ _ _ _ (by decide)]
    refine And.intro (fun h1 => ?_) (fun h1 => ?_)
    · refine And.intro (fun h0 => absurd h0 (by decide)) (fun _ => ?_)
      rw [if_pos h1] at h
      refine And.intro (fun h2 => ?_) (fun h2 => And.intro (fun h3 => ?_) (fun h3 => ?_))
      · rw [if_neg (fun q => Int32.not_lt.mpr q.1 h2)] at h
        exact h
      · rw [if_neg (fun q => Int32.not_lt.mpr h3 q.2)] at h
        exact h
      · rw [if_pos ⟨Int32.not_lt.mp h2, Int32.not_le.mp h3⟩] at h
        refine zleaf ok h rfl ?_
        rw [← e]
    · refine And.intro (fun _ => ?_) (fun h0 => absurd rfl h0)
      rw [if_neg h1] at h
      refine And.intro (fun h2 => ?_) (fun h2 => And.intro (fun h3 => ?_) (fun h3 => ?_))
      · rw [if_neg (fun q => Int32.not_lt.mpr q.1 h2)] at h
        exact h
      · rw [if_neg (fun q => Int32.not_lt.mpr h3 q.2)] at h
        exact h
      · rw [if_pos ⟨Int32.not_lt.mp h2, Int32.not_le.mp h3⟩] at h
        refine zleaf ok h rfl ?_
        rw [← e]
  · exact h.elim

def kX1_lockRow : List zI := [
  (0, 1, .aload_n 0, [], 0),
  (1, 3, .getfield 28, [], 0),
  (4, 1, .iload_n 1, [], 0),
  (5, 1, .iload_n 2, [], 0),
  (6, 3, .invokevirtual 199, [], 0),
  (9, 1, .iload_n 1, [], 0),
  (10, 2, .istore 4, [], 0),
  (12, 1, .iconst 0, [], 0),
  (13, 2, .istore 5, [], 0),
  (15, 2, .iload 5, [], 0),
  (17, 1, .iload_n 2, [], 0),
  (18, 3, .if_icmp .ge 33, [51], 0),
  (21, 1, .aload_n 0, [], 0),
  (22, 3, .getfield 28, [], 0),
  (25, 3, .getfield 202, [], 0),
  (28, 2, .iload 4, [], 0),
  (30, 3, .invokevirtual 84, [], 0),
  (33, 2, .istore 6, [], 0),
  (35, 1, .aload_n 0, [], 0),
  (36, 2, .iload 4, [], 0),
  (38, 3, .invokevirtual 205, [], 0),
  (41, 2, .iload 6, [], 0),
  (43, 2, .istore 4, [], 0),
  (45, 3, .iinc 5 1, [], 1),
  (48, 3, .goto (-33), [15], 0),
  (51, 1, .aload_n 0, [], 0),
  (52, 3, .getfield 21, [], 0),
  (55, 3, .getfield 208, [], 0),
  (58, 1, .iload_n 3, [], 0),
  (59, 1, .iload_n 2, [], 0),
  (60, 3, .invokevirtual 169, [], 0),
  (63, 1, .aload_n 0, [], 0),
  (64, 3, .getfield 21, [], 0),
  (67, 3, .getfield 211, [], 0),
  (70, 1, .iload_n 3, [], 0),
  (71, 1, .iconst 1, [], 1),
  (72, 3, .invokevirtual 169, [], 0),
  (75, 1, .return_, [], 0)]
theorem kX1_lockRow_ok : kX1_lockRow.all (zck cX1_lockRow) = true := by decide +kernel

def rX1_lockRow : Room := { frames := 3, cells := 0, slots := 0, locals := 69 }
abbrev YX1_lockRow : zM := (RX1, cX1_lockRow, 7, none, rX1_lockRow, UC, zlk fX1, zcs [(199, 3, 0, 0, zvs (UC) 3 (sX3_cutBehind)), (84, 2, 0, 0, zvs (UC) 7 (sU_at UC)), (205, 2, 0, 0, zvs (UC) 1 (sX1_moveOn)), (169, 3, 0, 0, zvs (UC) 7 (sU_add UC))] [])
theorem YX1_lockRow_ok : zYok (YX1_lockRow) := zYok_of fX1_ok (zall (zcal_mono (zcalV (Y := YX1_lockRow) (y := yX3_cutBehind) (cc := cX3_cutBehind) (nL := 4) (ret := none) (rm := rX3_cutBehind) (mX3_cutBehind) 199 2 3 (T := TX3) rfl wX1_199 ⟨by decide +kernel, by decide +kernel, by decide +kernel⟩ (by decide) ⟨Nat.le_of_ble_eq_true rfl, Nat.le_of_ble_eq_true rfl⟩) (fun _ _ _ _ h => zvs_P h)) (zall (zcal_mono (zcalV (Y := YX1_lockRow) (y := yX7_at) (cc := cX7_at) (nL := 2) (ret := some .int) (rm := rX7_at) (mU_at UC UC_small) 84 1 7 (T := TX7) rfl wX1_84 ⟨by decide +kernel, by decide +kernel, by decide +kernel⟩ (by decide) ⟨Nat.le_of_ble_eq_true rfl, Nat.le_of_ble_eq_true rfl⟩) (fun _ _ _ _ h => zvs_P h)) (zall (zcal_mono (zcalV (Y := YX1_lockRow) (y := yX1_moveOn) (cc := cX1_moveOn) (nL := 3) (ret := none) (rm := rX1_moveOn) (mX1_moveOn) 205 1 1 (T := TX1) rfl wX1_205 ⟨by decide +kernel, by decide +kernel, by decide +kernel⟩ (by decide) ⟨Nat.le_of_ble_eq_true rfl, Nat.le_of_ble_eq_true rfl⟩) (fun _ _ _ _ h => zvs_P h)) (zall (zcal_mono (zcalV (Y := YX1_lockRow) (y := yX7_add) (cc := cX7_add) (nL := 3) (ret := none) (rm := rX7_add) (mU_add UC UC_small) 169 2 7 (T := TX7) rfl wX1_169 ⟨by decide +kernel, by decide +kernel, by decide +kernel⟩ (by decide) ⟨Nat.le_of_ble_eq_true rfl, Nat.le_of_ble_eq_true rfl⟩) (fun _ _ _ _ h => zvs_P h)) znil)))) znil

theorem lX1_lockRow (ok : zO) (ex : zX) (hd r l : Int32) : ∀ (d k : Nat) (G : zF) (s : Int32) (w : Option Value), k + d = r.toNatClampNeg → ok none (zwr 4 (zwr 4 (qMv d G s) 22 l (zrd 4 (qMv d G s 22) l + r)) 24 l (zrd 4 (zwr 4 (qMv d G s) 22 l (zrd 4 (qMv d G s 22) l + r) 24) l + 1)) → zWP YX1_lockRow ok ex 15 [some (.ref 0), some (.int hd), some (.int r), some (.int l), some (.int s), some (.int (nI k)), w] [] 0 0 G := by
  intro d
  induction d with
  | zero =>
    intro k G s w hk h
    have hk : k = r.toNatClampNeg := hk
    subst hk
    refine zat_ok YX1_lockRow_ok zno kX1_lockRow (List.all_eq_true.mp kX1_lockRow_ok) 15 _ _ _ _ _ ?_
    exact And.intro (fun _ => h) (fun h1 => absurd (zcnt_ge _) h1)
  | succ d ih =>
    intro k G s w hk h
    refine zat_ok YX1_lockRow_ok (inv := zi1 15 (fun ls st kc ks G => zWP YX1_lockRow ok ex 15 ls st kc ks G)) (zone fun _ _ _ _ _ h => h) kX1_lockRow (List.all_eq_true.mp kX1_lockRow_ok) 15 _ _ _ _ _ ?_
    refine And.intro (fun h1 => absurd h1 (zcnt_lt (c := r) (k := k) (by omega))) (fun h1 => ?_)
    have := ih (k + 1) (qMO G s) (qNx G s) (some (.int (qNx G s))) (by omega) h
    rw [← nI_1] at this
    exact this

theorem mX1_lockRow : zMet (UC) yX1_lockRow cX1_lockRow 7 (none) rX1_lockRow (sX1_lockRow) := by
  refine zmet (Y := YX1_lockRow) rfl (by decide +kernel) ?_
  intro av F ok ex h
  unfold sX1_lockRow at h
  split at h
  · rename_i hd r l
    refine zgo_ok (YX1_lockRow_ok) (inv := zi1 15 (fun ls st kc ks G => zWP YX1_lockRow ok ex 15 ls st kc ks G)) (zone fun _ _ _ _ _ h => h) kX1_lockRow (List.all_eq_true.mp kX1_lockRow_ok) 0 _ _ _ _ _ ?_
    exact lX1_lockRow ok ex hd r l _ 0 (qCt F hd r) hd none (Nat.zero_add _) h
  · exact h.elim

end ZCa
end
section
/-! LockMaster.Canal: the choice, a lock's turn, a tick -/
section ZTi
theorem qLok_o (l : Int32) {k : Nat} (h : k ≠ 44) : ∀ (f : Nat) (F : zF) (i : Int32), qLok l f F i k = F k
  | 0, _, _ => rfl
  | f + 1, F, i => by
    simp only [qLok]
    split
    · rfl
    · split
      · rfl
      · rw [qLok_o l h f, qLk1_o F i h]
theorem qLook_o (F : zF) (hd l : Int32) {k : Nat} (h : k ≠ 44) : qLook F hd l k = F k := by
  unfold qLook
  rw [qLok_o l h]
  unfold qLk0
  rw [zup_ne _ _ _ h, zup_ne _ _ _ h, zup_ne _ _ _ h, zup_ne _ _ _ h]
theorem qEmp_o (F : zF) (i : Int32) {k : Nat} (h : k ≠ 18 ∧ k ≠ 20) : qEmp F i k = F k := by
  unfold qEmp
  rw [zwr_ne _ _ _ _ h.1, zwr_ne _ _ _ _ h.2]
theorem qFill_o (F : zF) (i : Int32) {k : Nat} (h : k ≠ 8 ∧ k ≠ 18 ∧ k ≠ 20) : qFill F i k = F k := by
  unfold qFill
  rw [zwr_ne _ _ _ _ h.2.1, zwr_ne _ _ _ _ h.2.2, zup_ne _ _ _ h.1]
theorem qFill_8 (F : zF) (i : Int32) {b : Nat} (h : b ≠ 8) : qFill F i 8 b = F 8 b := by
  unfold qFill
  rw [zwr_ne _ _ _ _ (by decide), zwr_ne _ _ _ _ (by decide), zup_an _ _ _ h]
theorem qTC_o (F : zF) (l : Int32) {k : Nat} (h : k ≠ 7 ∧ k ≠ 8 ∧ k ≠ 18 ∧ k ≠ 20) : qTC F l k = F k := by
  unfold qTC
  split
  · rw [qEmp_o _ _ h.2.2, zwr_ne _ _ _ _ h.1]
  · rw [qFill_o _ _ h.2, zwr_ne _ _ _ _ h.1]
theorem qTC_8 (F : zF) (l : Int32) {b : Nat} (h : b ≠ 8) : qTC F l 8 b = F 8 b := by
  unfold qTC
  split
  · rw [qEmp_o _ _ (by decide), zwr_ne _ _ _ _ (by decide)]
  · rw [qFill_8 _ _ h, zwr_ne _ _ _ _ (by decide)]
theorem qNm_o (v : Int32) {k : Nat} (h : k ≠ 41) : ∀ (f : Nat) (F : zF) (i : Int32), qNm v f F i k = F k
  | 0, _, _ => rfl
  | f + 1, F, i => by
    simp only [qNm]
    split
    · rfl
    · rw [qNm_o v h f, zwr_ne _ _ _ _ h]
theorem qCt_o (F : zF) (a r : Int32) {k : Nat} (h : k ≠ 41 ∧ k ≠ 43) : qCt F a r k = F k := by
  unfold qCt
  rw [qNm_o _ h.1, zwr_ne _ _ _ _ h.2]
theorem qLv_o (F : zF) (s t : Int32) {k : Nat} (h : k ≠ 35 ∧ k ≠ 37 ∧ k ≠ 39 ∧ k ≠ 41 ∧ k ≠ 43) : qLv F s t k = F k := by
  unfold qLv
  rw [zwr_ne _ _ _ _ h.2.2.2.2, zwr_ne _ _ _ _ h.2.2.2.1, zwr_ne _ _ _ _ h.2.2.1, zwr_ne _ _ _ _ h.1]
theorem qMO_o (F : zF) (s : Int32) {k : Nat} (h : k ≠ 35 ∧ k ≠ 37 ∧ k ≠ 39 ∧ k ≠ 41 ∧ k ≠ 43) : qMO F s k = F k := by
  unfold qMO
  split
  · rw [zwr_ne _ _ _ _ h.2.1, zwr_ne _ _ _ _ h.1]
  · exact qLv_o F s _ h
theorem qMv_o {k : Nat} (h : k ≠ 35 ∧ k ≠ 37 ∧ k ≠ 39 ∧ k ≠ 41 ∧ k ≠ 43) : ∀ (d : Nat) (F : zF) (s : Int32), qMv d F s k = F k
  | 0, _, _ => rfl
  | d + 1, F, s => by
    simp only [qMv]
    rw [qMv_o h d, qMO_o F s h]
theorem qLR_o (F : zF) (hd r l : Int32) {k : Nat} (h : k ≠ 35 ∧ k ≠ 37 ∧ k ≠ 39 ∧ k ≠ 41 ∧ k ≠ 43) (h2 : k ≠ 22 ∧ k ≠ 24) : qLR F hd r l k = F k := by
  unfold qLR
  rw [zwr_ne _ _ _ _ h2.2, zwr_ne _ _ _ _ h2.1, qMv_o h, qCt_o _ _ _ ⟨h.2.2.2.1, h.2.2.2.2⟩]
abbrev zC3 : Type := zF × Int32 × Int32
abbrev qCan (b : Int32) (F : zF) (i l : Int32) : Prop := qFA F i l ∧ ¬ F 0 7 < qSi F i ∧ (¬ b = 0 ∨ qUp F i = 1)
def qCC1 (l b : Int32) (S : zC3) (i : Int32) : zC3 :=
  if qCan b S.1 i l then
    (if qHR S.1 (qLook S.1 i (qLen S.1 l)) i l = 0 ∧ (S.2.1 = -1 ∨ S.2.2 < qPr (qLook S.1 i (qLen S.1 l)) i) then (qLook S.1 i (qLen S.1 l), i, qPr (qLook S.1 i (qLen S.1 l)) i) else (qLook S.1 i (qLen S.1 l), S.2.1, S.2.2))
  else S
def qCC (l b : Int32) (F : zF) : Nat → zC3
  | 0 => (F, -1, 0)
  | k + 1 => qCC1 l b (qCC l b F k) (nI k)
theorem qCC1_o (l b : Int32) (S : zC3) (i : Int32) {k : Nat} (h : k ≠ 44) : (qCC1 l b S i).1 k = S.1 k := by
  unfold qCC1
  split
  · split
    · exact qLook_o _ _ _ h
    · exact qLook_o _ _ _ h
  · rfl
theorem qCC_o (l b : Int32) (F : zF) (n : Nat) {k : Nat} (h : k ≠ 44) : (qCC l b F n).1 k = F k := by
  induction n with
  | zero => rfl
  | succ n ih => exact (qCC1_o _ _ _ _ h).trans ih
def sX1_chosenConvoy : zSp := fun as F ok _ => match as with
  | [.ref 0, .int l, .int b] => ok (some (.int (qCC l b F (F 25 9).toNatClampNeg).2.1)) (qCC l b F (F 25 9).toNatClampNeg).1
  | _ => False
def qT1 (G : zF) (c l : Int32) : zF := if (qFu G l = 1 ↔ qUp G c = 1) then qTC G l else G
def qT3 (H : zF) (c l : Int32) : zF := qLR (qLook H c (qLen H l)) c (qLook H c (qLen H l) 44 0) l
def qT2 (G : zF) (c l : Int32) : zF := if qUp G c = 1 ∧ ¬ qCFU (qT1 G c l) l then qT1 G c l else qT3 (qTC (qT1 G c l) l) c l
def qTb (F : zF) (l : Int32) : Int32 := if qCBR F l then 1 else 0
def qTT (F : zF) (l : Int32) : zF := if (qCC l (qTb F l) F (F 25 9).toNatClampNeg).2.1 = -1 then (qCC l (qTb F l) F (F 25 9).toNatClampNeg).1 else qT2 (qCC l (qTb F l) F (F 25 9).toNatClampNeg).1 (qCC l (qTb F l) F (F 25 9).toNatClampNeg).2.1 l
def sX1_takeTurn : zSp := fun as F ok _ => match as with
  | [.ref 0, .int l] => ok none (qTT F l)
  | _ => False
def qTTs (F : zF) : Nat → zF
  | 0 => F
  | k + 1 => qTT (qTTs F k) (nI k)
def qIn (G : zF) : zF := zwr 5 (zup G 0 8 (G 0 8 + G 0 6)) 7 0 (qW G 0 + G 0 6)
def qEnd (G : zF) : zF := zup (zup (qSp G (G 1 3).toNatClampNeg).1 0 9 (G 0 9 + (qSp G (G 1 3).toNatClampNeg).2)) 0 7 (G 0 7 + 1)
def qOT (F : zF) : zF := qEnd (qIn (qTTs F (F 8 9).toNatClampNeg))
def sX1_goOneTick : zSp := fun as F ok _ => match as with
  | [.ref 0] => ok none (qOT F)
  | _ => False
theorem qT1_89 (G : zF) (c l : Int32) : qT1 G c l 8 9 = G 8 9 := by
  unfold qT1
  split
  · exact qTC_8 _ _ (by decide)
  · rfl
theorem qTT_89 (F : zF) (l : Int32) : qTT F l 8 9 = F 8 9 := by
  unfold qTT
  split
  · rw [qCC_o _ _ _ _ (by decide)]
  · unfold qT2
    split
    · rw [qT1_89, qCC_o _ _ _ _ (by decide)]
    · unfold qT3
      rw [qLR_o _ _ _ _ (by decide) (by decide), qLook_o _ _ _ (by decide), qTC_8 _ _ (by decide), qT1_89, qCC_o _ _ _ _ (by decide)]
theorem qTTs_89 (F : zF) (n : Nat) : qTTs F n 8 9 = F 8 9 := by
  induction n with
  | zero => rfl
  | succ n ih => exact (qTT_89 _ _).trans ih

def kX1_chosenConvoy : List zI := [
  (0, 1, .iconst (-1), [], (-1)),
  (1, 1, .istore_n 3, [], 0),
  (2, 1, .iconst 0, [], 0),
  (3, 2, .istore 4, [], 0),
  (5, 1, .iconst 0, [], 0),
  (6, 2, .istore 5, [], 0),
  (8, 2, .iload 5, [], 0),
  (10, 1, .aload_n 0, [], 0),
  (11, 3, .getfield 28, [], 0),
  (14, 3, .getfield 97, [], 0),
  (17, 3, .if_icmp .ge 96, [113], 0),
  (20, 1, .aload_n 0, [], 0),
  (21, 3, .getfield 28, [], 0),
  (24, 2, .iload 5, [], 0),
  (26, 1, .iload_n 1, [], 0),
  (27, 3, .invokevirtual 98, [], 0),
  (30, 3, .ifCond .eq 42, [72], 0),
  (33, 1, .aload_n 0, [], 0),
  (34, 2, .iload 5, [], 0),
  (36, 3, .invokevirtual 187, [], 0),
  (39, 3, .ifCond .ne 33, [72], 0),
  (42, 1, .iload_n 2, [], 0),
  (43, 3, .ifCond .ne 15, [58], 0),
  (46, 1, .aload_n 0, [], 0),
  (47, 3, .getfield 28, [], 0),
  (50, 2, .iload 5, [], 0),
  (52, 3, .invokevirtual 114, [], 0),
  (55, 3, .ifCond .eq 17, [72], 0),
  (58, 1, .aload_n 0, [], 0),
  (59, 2, .iload 5, [], 0),
  (61, 1, .iload_n 1, [], 0),
  (62, 3, .invokevirtual 111, [], 0),
  (65, 3, .ifCond .ne 7, [72], 0),
  (68, 1, .iconst 1, [], 1),
  (69, 3, .goto 4, [73], 0),
  (72, 1, .iconst 0, [], 0),
  (73, 2, .istore 6, [], 0),
  (75, 2, .iload 6, [], 0),
  (77, 3, .ifCond .eq 30, [107], 0),
  (80, 1, .iload_n 3, [], 0),
  (81, 1, .iconst (-1), [], (-1)),
  (82, 3, .if_icmp .eq 14, [96], 0),
  (85, 1, .aload_n 0, [], 0),
  (86, 2, .iload 5, [], 0),
  (88, 3, .invokevirtual 108, [], 0),
  (91, 2, .iload 4, [], 0),
  (93, 3, .if_icmp .le 14, [107], 0),
  (96, 2, .iload 5, [], 0),
  (98, 1, .istore_n 3, [], 0),
  (99, 1, .aload_n 0, [], 0),
  (100, 2, .iload 5, [], 0),
  (102, 3, .invokevirtual 108, [], 0),
  (105, 2, .istore 4, [], 0),
  (107, 3, .iinc 5 1, [], 1),
  (110, 3, .goto (-102), [8], 0),
  (113, 1, .iload_n 3, [], 0),
  (114, 1, .ireturn, [], 0)]
theorem kX1_chosenConvoy_ok : kX1_chosenConvoy.all (zck cX1_chosenConvoy) = true := by decide +kernel

def rX1_chosenConvoy : Room := { frames := 3, cells := 0, slots := 0, locals := 69 }
abbrev YX1_chosenConvoy : zM := (RX1, cX1_chosenConvoy, 7, some .int, rX1_chosenConvoy, UC, zlk fX1, zcs [(98, 3, 0, 0, zvs (UC) 3 (sX3_isFirstAt)), (187, 2, 0, 0, zvs (UC) 1 (sX1_wasLockedNow)), (114, 2, 0, 0, zvs (UC) 3 (sX3_goesUp)), (111, 3, 0, 0, zvs (UC) 1 (sX1_hindranceByRules)), (108, 2, 0, 0, zvs (UC) 1 (sX1_priorityOf))] [])
theorem YX1_chosenConvoy_ok : zYok (YX1_chosenConvoy) := zYok_of fX1_ok (zall (zcal_mono (zcalV (Y := YX1_chosenConvoy) (y := yX3_isFirstAt) (cc := cX3_isFirstAt) (nL := 3) (ret := some .boolean) (rm := rX3_isFirstAt) (mX3_isFirstAt) 98 2 3 (T := TX3) rfl wX1_98 ⟨by decide +kernel, by decide +kernel, by decide +kernel⟩ (by decide) ⟨Nat.le_of_ble_eq_true rfl, Nat.le_of_ble_eq_true rfl⟩) (fun _ _ _ _ h => zvs_P h)) (zall (zcal_mono (zcalV (Y := YX1_chosenConvoy) (y := yX1_wasLockedNow) (cc := cX1_wasLockedNow) (nL := 2) (ret := some .boolean) (rm := rX1_wasLockedNow) (mX1_wasLockedNow) 187 1 1 (T := TX1) rfl wX1_187 ⟨by decide +kernel, by decide +kernel, by decide +kernel⟩ (by decide) ⟨Nat.le_of_ble_eq_true rfl, Nat.le_of_ble_eq_true rfl⟩) (fun _ _ _ _ h => zvs_P h)) (zall (zcal_mono (zcalV (Y := YX1_chosenConvoy) (y := yX3_goesUp) (cc := cX3_goesUp) (nL := 2) (ret := some .boolean) (rm := rX3_goesUp) (mX3_goesUp) 114 1 3 (T := TX3) rfl wX1_114 ⟨by decide +kernel, by decide +kernel, by decide +kernel⟩ (by decide) ⟨Nat.le_of_ble_eq_true rfl, Nat.le_of_ble_eq_true rfl⟩) (fun _ _ _ _ h => zvs_P h)) (zall (zcal_mono (zcalV (Y := YX1_chosenConvoy) (y := yX1_hindranceByRules) (cc := cX1_hindranceByRules) (nL := 5) (ret := some .int) (rm := rX1_hindranceByRules) (mX1_hindranceByRules) 111 2 1 (T := TX1) rfl wX1_111 ⟨by decide +kernel, by decide +kernel, by decide +kernel⟩ (by decide) ⟨Nat.le_of_ble_eq_true rfl, Nat.le_of_ble_eq_true rfl⟩) (fun _ _ _ _ h => zvs_P h)) (zall (zcal_mono (zcalV (Y := YX1_chosenConvoy) (y := yX1_priorityOf) (cc := cX1_priorityOf) (nL := 3) (ret := some .int) (rm := rX1_priorityOf) (mX1_priorityOf) 108 1 1 (T := TX1) rfl wX1_108 ⟨by decide +kernel, by decide +kernel, by decide +kernel⟩ (by decide) ⟨Nat.le_of_ble_eq_true rfl, Nat.le_of_ble_eq_true rfl⟩) (fun _ _ _ _ h => zvs_P h)) znil))))) znil

theorem lX1_chosenConvoy (ok : zO) (ex : zX) (F : zF) (l b : Int32) (h : ok (some (.int (qCC l b F (F 25 9).toNatClampNeg).2.1)) (qCC l b F (F 25 9).toNatClampNeg).1) : ∀ (d k : Nat) (w : Option Value), k + d = (F 25 9).toNatClampNeg → zWP YX1_chosenConvoy ok ex 8 [some (.ref 0), some (.int l), some (.int b), some (.int (qCC l b F k).2.1), some (.int (qCC l b F k).2.2), some (.int (nI k)), w] [] 0 0 (qCC l b F k).1 := by
  intro d
  induction d with
  | zero =>
    intro k w hk
    have hk : k = (F 25 9).toNatClampNeg := hk
    refine zat_ok YX1_chosenConvoy_ok zno kX1_chosenConvoy (List.all_eq_true.mp kX1_chosenConvoy_ok) 8 _ _ _ _ _ ?_
    refine And.intro (fun _ => by rw [hk]; exact h) (fun h1 => absurd ?_ h1)
    show (qCC l b F k).1 25 9 ≤ nI k
    rw [qCC_o _ _ _ _ (by decide), hk]
    exact zcnt_ge _
  | succ d ih =>
    intro k w hk
    refine zat_ok YX1_chosenConvoy_ok (inv := zi1 8 (fun ls st kc ks G => zWP YX1_chosenConvoy ok ex 8 ls st kc ks G)) (zone fun _ _ _ _ _ h => h) kX1_chosenConvoy (List.all_eq_true.mp kX1_chosenConvoy_ok) 8 _ _ _ _ _ ?_
    refine And.intro (fun h1 => absurd ?_ (zcnt_lt (c := F 25 9) (k := k) (by omega))) (fun h1 => ?_)
    · have h1 : (qCC l b F k).1 25 9 ≤ nI k := h1
      rw [qCC_o _ _ _ _ (by decide)] at h1
      exact h1
    have ih := fun w => ih (k + 1) w (by omega)
    have e : qCC l b F (k + 1) = qCC1 l b (qCC l b F k) (nI k) := rfl
    rw [e, ← nI_1] at ih
    generalize qCC l b F k = S at ih ⊢
    unfold qCC1 at ih
    refine And.intro (fun hc => ?_) (fun hc => ?_)
    · refine And.intro (fun h0 => absurd h0 (by decide)) (fun _ => ?_)
      refine And.intro (fun hw => ?_) (fun hw => ?_)
      · refine And.intro (fun _ => ?_) (fun h0 => absurd h0 (by decide))
        rw [if_neg (fun q => q.2.1 hw)] at ih
        exact And.intro (fun _ => ih _) (fun h0 => absurd rfl h0)
      · refine And.intro (fun h0 => absurd rfl h0) (fun _ => ?_)
        have go : qCan b S.1 (nI k) l → zgo YX1_chosenConvoy ok ex (zi1 8 (fun ls st kc ks G => zWP YX1_chosenConvoy ok ex 8 ls st kc ks G)) (kX1_chosenConvoy.drop 22) 58 [some (.ref 0), some (.int l), some (.int b), some (.int S.2.1), some (.int S.2.2), some (.int (nI k)), w] [] 0 0 S.1 := by
          intro hq
          rw [if_pos hq] at ih
          generalize hG : qLook S.1 (nI k) (qLen S.1 l) = G at ih
          refine And.intro (fun hr => ?_) (fun hr => ?_)
          · have hr : ¬ qHR S.1 (qLook S.1 (nI k) (qLen S.1 l)) (nI k) l = 0 := hr
            rw [hG] at hr
            rw [if_neg (fun q => hr q.1)] at ih
            subst hG
            exact And.intro (fun _ => ih _) (fun h0 => absurd rfl h0)
          · have hr : qHR S.1 (qLook S.1 (nI k) (qLen S.1 l)) (nI k) l = 0 := hr
            rw [hG] at hr
            refine And.intro (fun h0 => absurd h0 (by decide)) (fun _ => ?_)
            refine And.intro (fun hc1 => ?_) (fun hc1 => And.intro (fun hp => ?_) (fun hp => ?_))
            · rw [if_pos ⟨hr, Or.inl hc1⟩] at ih
              subst hG
              exact ih _
            · have hp : qPr (qLook S.1 (nI k) (qLen S.1 l)) (nI k) ≤ S.2.2 := hp
              rw [hG] at hp
              rw [if_neg (fun q => q.2.elim hc1 (Int32.not_lt.mpr hp))] at ih
              subst hG
              exact ih _
            · have hp : ¬ qPr (qLook S.1 (nI k) (qLen S.1 l)) (nI k) ≤ S.2.2 := hp
              rw [hG] at hp
              rw [if_pos ⟨hr, Or.inr (Int32.not_le.mp hp)⟩] at ih
              subst hG
              exact ih _
        refine And.intro (fun hb => ?_) (fun hb => ?_)
        · exact go ⟨hc, hw, Or.inl hb⟩
        · refine And.intro (fun hu => ?_) (fun hu => ?_)
          · exact And.intro (fun h0 => absurd h0 (by decide)) (fun _ => go ⟨hc, hw, Or.inr hu⟩)
          · refine And.intro (fun _ => ?_) (fun h0 => absurd rfl h0)
            rw [if_neg (fun q => q.2.2.elim (fun z => z hb) hu)] at ih
            exact And.intro (fun _ => ih _) (fun h0 => absurd rfl h0)
    · refine And.intro (fun _ => ?_) (fun h0 => absurd rfl h0)
      rw [if_neg (fun q => hc q.1)] at ih
      exact And.intro (fun _ => ih _) (fun h0 => absurd rfl h0)

theorem mX1_chosenConvoy : zMet (UC) yX1_chosenConvoy cX1_chosenConvoy 7 (some .int) rX1_chosenConvoy (sX1_chosenConvoy) := by
  refine zmet (Y := YX1_chosenConvoy) rfl (by decide +kernel) ?_
  intro av F ok ex h
  unfold sX1_chosenConvoy at h
  split at h
  · rename_i l b
    refine zgo_ok (YX1_chosenConvoy_ok) (inv := zi1 8 (fun ls st kc ks G => zWP YX1_chosenConvoy ok ex 8 ls st kc ks G)) (zone fun _ _ _ _ _ h => h) kX1_chosenConvoy (List.all_eq_true.mp kX1_chosenConvoy_ok) 0 _ _ _ _ _ ?_
    exact lX1_chosenConvoy ok ex F l b h _ 0 none (Nat.zero_add _)
  · exact h.elim

def kX1_takeTurn : List zI := [
  (0, 1, .aload_n 0, [], 0),
  (1, 1, .iload_n 1, [], 0),
  (2, 1, .aload_n 0, [], 0),
  (3, 1, .iload_n 1, [], 0),
  (4, 3, .invokevirtual 121, [], 0),
  (7, 3, .invokevirtual 176, [], 0),
  (10, 1, .istore_n 2, [], 0),
  (11, 1, .iload_n 2, [], 0),
  (12, 1, .iconst (-1), [], (-1)),
  (13, 3, .if_icmp .ne 4, [17], 0),
  (16, 1, .return_, [], 0),
  (17, 1, .aload_n 0, [], 0),
  (18, 3, .getfield 28, [], 0),
  (21, 1, .iload_n 2, [], 0),
  (22, 3, .invokevirtual 114, [], 0),
  (25, 1, .istore_n 3, [], 0),
  (26, 1, .aload_n 0, [], 0),
  (27, 3, .getfield 21, [], 0),
  (30, 1, .iload_n 1, [], 0),
  (31, 3, .invokevirtual 147, [], 0),
  (34, 1, .iload_n 3, [], 0),
  (35, 3, .if_icmp .ne 8, [43], 0),
  (38, 1, .aload_n 0, [], 0),
  (39, 1, .iload_n 1, [], 0),
  (40, 3, .invokevirtual 180, [], 0),
  (43, 1, .iload_n 3, [], 0),
  (44, 3, .ifCond .eq 12, [56], 0),
  (47, 1, .aload_n 0, [], 0),
  (48, 1, .iload_n 1, [], 0),
  (49, 3, .invokevirtual 118, [], 0),
  (52, 3, .ifCond .ne 4, [56], 0),
  (55, 1, .return_, [], 0),
  (56, 1, .aload_n 0, [], 0),
  (57, 1, .iload_n 1, [], 0),
  (58, 3, .invokevirtual 180, [], 0),
  (61, 1, .aload_n 0, [], 0),
  (62, 3, .getfield 35, [], 0),
  (65, 1, .aload_n 0, [], 0),
  (66, 3, .getfield 28, [], 0),
  (69, 1, .iload_n 2, [], 0),
  (70, 1, .aload_n 0, [], 0),
  (71, 3, .getfield 21, [], 0),
  (74, 3, .getfield 124, [], 0),
  (77, 1, .iload_n 1, [], 0),
  (78, 3, .invokevirtual 84, [], 0),
  (81, 3, .invokevirtual 127, [], 0),
  (84, 1, .aload_n 0, [], 0),
  (85, 1, .iload_n 2, [], 0),
  (86, 1, .aload_n 0, [], 0),
  (87, 3, .getfield 35, [], 0),
  (90, 3, .getfield 131, [], 0),
  (93, 1, .iload_n 1, [], 0),
  (94, 3, .invokevirtual 183, [], 0),
  (97, 1, .return_, [], 0)]
theorem kX1_takeTurn_ok : kX1_takeTurn.all (zck cX1_takeTurn) = true := by decide +kernel

def rX1_takeTurn : Room := { frames := 4, cells := 0, slots := 0, locals := 95 }
abbrev YX1_takeTurn : zM := (RX1, cX1_takeTurn, 4, none, rX1_takeTurn, UC, zlk fX1, zcs [(121, 2, 0, 0, zvs (UC) 1 (sX1_canBeReadyForDown)), (176, 3, 0, 0, zvs (UC) 1 (sX1_chosenConvoy)), (114, 2, 0, 0, zvs (UC) 3 (sX3_goesUp)), (147, 2, 0, 0, zvs (UC) 5 (sX5_isFull)), (180, 2, 0, 0, zvs (UC) 1 (sX1_turnChamber)), (118, 2, 0, 0, zvs (UC) 1 (sX1_canFillForUp)), (84, 2, 0, 0, zvs (UC) 7 (sU_at UC)), (127, 4, 0, 0, zvs (UC) 4 (sX4_lookAt)), (183, 4, 0, 0, zvs (UC) 1 (sX1_lockRow))] [])
theorem YX1_takeTurn_ok : zYok (YX1_takeTurn) := zYok_of fX1_ok (zall (zcal_mono (zcalV (Y := YX1_takeTurn) (y := yX1_canBeReadyForDown) (cc := cX1_canBeReadyForDown) (nL := 2) (ret := some .boolean) (rm := rX1_canBeReadyForDown) (mX1_canBeReadyForDown) 121 1 1 (T := TX1) rfl wX1_121 ⟨by decide +kernel, by decide +kernel, by decide +kernel⟩ (by decide) ⟨Nat.le_of_ble_eq_true rfl, Nat.le_of_ble_eq_true rfl⟩) (fun _ _ _ _ h => zvs_P h)) (zall (zcal_mono (zcalV (Y := YX1_takeTurn) (y := yX1_chosenConvoy) (cc := cX1_chosenConvoy) (nL := 7) (ret := some .int) (rm := rX1_chosenConvoy) (mX1_chosenConvoy) 176 2 1 (T := TX1) rfl wX1_176 ⟨by decide +kernel, by decide +kernel, by decide +kernel⟩ (by decide) ⟨Nat.le_of_ble_eq_true rfl, Nat.le_of_ble_eq_true rfl⟩) (fun _ _ _ _ h => zvs_P h)) (zall (zcal_mono (zcalV (Y := YX1_takeTurn) (y := yX3_goesUp) (cc := cX3_goesUp) (nL := 2) (ret := some .boolean) (rm := rX3_goesUp) (mX3_goesUp) 114 1 3 (T := TX3) rfl wX1_114 ⟨by decide +kernel, by decide +kernel, by decide +kernel⟩ (by decide) ⟨Nat.le_of_ble_eq_true rfl, Nat.le_of_ble_eq_true rfl⟩) (fun _ _ _ _ h => zvs_P h)) (zall (zcal_mono (zcalV (Y := YX1_takeTurn) (y := yX5_isFull) (cc := cX5_isFull) (nL := 2) (ret := some .boolean) (rm := rX5_isFull) (mX5_isFull) 147 1 5 (T := TX5) rfl wX1_147 ⟨by decide +kernel, by decide +kernel, by decide +kernel⟩ (by decide) ⟨Nat.le_of_ble_eq_true rfl, Nat.le_of_ble_eq_true rfl⟩) (fun _ _ _ _ h => zvs_P h)) (zall (zcal_mono (zcalV (Y := YX1_takeTurn) (y := yX1_turnChamber) (cc := cX1_turnChamber) (nL := 2) (ret := none) (rm := rX1_turnChamber) (mX1_turnChamber) 180 1 1 (T := TX1) rfl wX1_180 ⟨by decide +kernel, by decide +kernel, by decide +kernel⟩ (by decide) ⟨Nat.le_of_ble_eq_true rfl, Nat.le_of_ble_eq_true rfl⟩) (fun _ _ _ _ h => zvs_P h)) (zall (zcal_mono (zcalV (Y := YX1_takeTurn) (y := yX1_canFillForUp) (cc := cX1_canFillForUp) (nL := 4) (ret := some .boolean) (rm := rX1_canFillForUp) (mX1_canFillForUp) 118 1 1 (T := TX1) rfl wX1_118 ⟨by decide +kernel, by decide +kernel, by decide +kernel⟩ (by decide) ⟨Nat.le_of_ble_eq_true rfl, Nat.le_of_ble_eq_true rfl⟩) (fun _ _ _ _ h => zvs_P h)) (zall (zcal_mono (zcalV (Y := YX1_takeTurn) (y := yX7_at) (cc := cX7_at) (nL := 2) (ret := some .int) (rm := rX7_at) (mU_at UC UC_small) 84 1 7 (T := TX7) rfl wX1_84 ⟨by decide +kernel, by decide +kernel, by decide +kernel⟩ (by decide) ⟨Nat.le_of_ble_eq_true rfl, Nat.le_of_ble_eq_true rfl⟩) (fun _ _ _ _ h => zvs_P h)) (zall (zcal_mono (zcalV (Y := YX1_takeTurn) (y := yX4_lookAt) (cc := cX4_lookAt) (nL := 5) (ret := none) (rm := rX4_lookAt) (mX4_lookAt) 127 3 4 (T := TX4) rfl wX1_127 ⟨by decide +kernel, by decide +kernel, by decide +kernel⟩ (by decide) ⟨Nat.le_of_ble_eq_true rfl, Nat.le_of_ble_eq_true rfl⟩) (fun _ _ _ _ h => zvs_P h)) (zall (zcal_mono (zcalV (Y := YX1_takeTurn) (y := yX1_lockRow) (cc := cX1_lockRow) (nL := 7) (ret := none) (rm := rX1_lockRow) (mX1_lockRow) 183 3 1 (T := TX1) rfl wX1_183 ⟨by decide +kernel, by decide +kernel, by decide +kernel⟩ (by decide) ⟨Nat.le_of_ble_eq_true rfl, Nat.le_of_ble_eq_true rfl⟩) (fun _ _ _ _ h => zvs_P h)) znil))))))))) znil

theorem lX1_takeTurn3 (ok : zO) (ex : zX) (G : zF) (c l u : Int32) (h : ok none (qT3 (qTC G l) c l)) : zgo YX1_takeTurn ok ex zi0 (kX1_takeTurn.drop 32) 56 [some (.ref 0), some (.int l), some (.int c), some (.int u)] [] 0 0 G := h
theorem lX1_takeTurn2 (ok : zO) (ex : zX) (G : zF) (c l u : Int32) (hu : u = if qUp G c = 1 then 1 else 0) (h : ok none (qT2 G c l)) : zgo YX1_takeTurn ok ex zi0 (kX1_takeTurn.drop 25) 43 [some (.ref 0), some (.int l), some (.int c), some (.int u)] [] 0 0 (qT1 G c l) := by
  unfold qT2 at h
  by_cases hq : qUp G c = 1
  · rw [if_pos hq] at hu
    subst hu
    refine And.intro (fun h0 => absurd h0 (by decide)) (fun _ => ?_)
    refine And.intro (fun hf => ?_) (fun hf => ?_)
    · rw [if_neg (fun z => z.2 hf)] at h
      exact And.intro (fun _ => lX1_takeTurn3 ok ex _ c l 1 h) (fun h0 => absurd h0 (by decide))
    · rw [if_pos ⟨hq, hf⟩] at h
      exact And.intro (fun h0 => absurd rfl h0) (fun _ => h)
  · rw [if_neg hq] at hu
    subst hu
    rw [if_neg (fun z => hq z.1)] at h
    exact And.intro (fun _ => lX1_takeTurn3 ok ex _ c l 0 h) (fun h0 => absurd rfl h0)
theorem lX1_takeTurn1 (ok : zO) (ex : zX) (G : zF) (c l : Int32) (h : ok none (qT2 G c l)) : zgo YX1_takeTurn ok ex zi0 (kX1_takeTurn.drop 11) 17 [some (.ref 0), some (.int l), some (.int c), none] [] 0 0 G := by
  refine And.intro (fun hu => ?_) (fun hu => ?_)
  · have key := lX1_takeTurn2 ok ex G c l 1 (by rw [if_pos hu]) h
    unfold qT1 at key
    refine And.intro (fun hf => ?_) (fun hf => ?_)
    · rw [if_pos ⟨fun _ => hu, fun _ => hf⟩] at key
      exact And.intro (fun h0 => absurd rfl h0) (fun _ => key)
    · rw [if_neg (fun z => hf (z.mpr hu))] at key
      exact And.intro (fun _ => key) (fun h0 => absurd h0 (by decide))
  · have key := lX1_takeTurn2 ok ex G c l 0 (by rw [if_neg hu]) h
    unfold qT1 at key
    refine And.intro (fun hf => ?_) (fun hf => ?_)
    · rw [if_neg (fun z => hu (z.mp hf))] at key
      exact And.intro (fun _ => key) (fun h0 => absurd h0 (by decide))
    · rw [if_pos ⟨fun z => absurd z hf, fun z => absurd z hu⟩] at key
      exact And.intro (fun h0 => absurd rfl h0) (fun _ => key)

theorem mX1_takeTurn : zMet (UC) yX1_takeTurn cX1_takeTurn 4 (none) rX1_takeTurn (sX1_takeTurn) := by
  refine zmet (Y := YX1_takeTurn) rfl (by decide +kernel) ?_
  intro av F ok ex h
  unfold sX1_takeTurn at h
  split at h
  · rename_i l
    refine zgo_ok (YX1_takeTurn_ok) zno kX1_takeTurn (List.all_eq_true.mp kX1_takeTurn_ok) 0 _ _ _ _ _ ?_
    unfold qTT at h
    have go : ∀ (b : Int32), qTb F l = b → zgo YX1_takeTurn ok ex zi0 (kX1_takeTurn.drop 5) 7 [some (.ref 0), some (.int l), none, none] [.int b, .int l, .ref 0] 0 0 F := by
      intro b hb
      rw [hb] at h
      show (¬ (qCC l b F (F 25 9).toNatClampNeg).2.1 = -1 → _) ∧ ((qCC l b F (F 25 9).toNatClampNeg).2.1 = -1 → _)
      generalize qCC l b F (F 25 9).toNatClampNeg = S at h
      refine And.intro (fun hc => ?_) (fun hc => ?_)
      · rw [if_neg hc] at h
        exact lX1_takeTurn1 ok ex _ _ l h
      · rw [if_pos hc] at h
        exact h
    refine And.intro (fun hb => ?_) (fun hb => ?_)
    · exact go 1 (by unfold qTb; exact if_pos hb)
    · exact go 0 (by unfold qTb; exact if_neg hb)
  · exact h.elim

def kX1_goOneTick : List zI := [
  (0, 1, .iconst 0, [], 0),
  (1, 1, .istore_n 1, [], 0),
  (2, 1, .iload_n 1, [], 0),
  (3, 1, .aload_n 0, [], 0),
  (4, 3, .getfield 21, [], 0),
  (7, 3, .getfield 72, [], 0),
  (10, 3, .if_icmp .ge 14, [24], 0),
  (13, 1, .aload_n 0, [], 0),
  (14, 1, .iload_n 1, [], 0),
  (15, 3, .invokevirtual 165, [], 0),
  (18, 3, .iinc 1 1, [], 1),
  (21, 3, .goto (-19), [2], 0),
  (24, 1, .aload_n 0, [], 0),
  (25, 1, .dup, [], 0),
  (26, 3, .getfield 52, [], 0),
  (29, 1, .aload_n 0, [], 0),
  (30, 3, .getfield 46, [], 0),
  (33, 1, .iadd, [], 0),
  (34, 3, .putfield 52, [], 0),
  (37, 1, .aload_n 0, [], 0),
  (38, 3, .getfield 12, [], 0),
  (41, 3, .getfield 150, [], 0),
  (44, 1, .iconst 0, [], 0),
  (45, 1, .aload_n 0, [], 0),
  (46, 3, .getfield 46, [], 0),
  (49, 3, .invokevirtual 169, [], 0),
  (52, 1, .aload_n 0, [], 0),
  (53, 1, .dup, [], 0),
  (54, 3, .getfield 55, [], 0),
  (57, 1, .aload_n 0, [], 0),
  (58, 3, .getfield 12, [], 0),
  (61, 3, .invokevirtual 172, [], 0),
  (64, 1, .iadd, [], 0),
  (65, 3, .putfield 55, [], 0),
  (68, 1, .aload_n 0, [], 0),
  (69, 1, .dup, [], 0),
  (70, 3, .getfield 49, [], 0),
  (73, 1, .iconst 1, [], 1),
  (74, 1, .iadd, [], 0),
  (75, 3, .putfield 49, [], 0),
  (78, 1, .return_, [], 0)]
theorem kX1_goOneTick_ok : kX1_goOneTick.all (zck cX1_goOneTick) = true := by decide +kernel

def rX1_goOneTick : Room := { frames := 5, cells := 0, slots := 0, locals := 118 }
abbrev YX1_goOneTick : zM := (RX1, cX1_goOneTick, 2, none, rX1_goOneTick, UC, zlk fX1, zcs [(165, 2, 0, 0, zvs (UC) 1 (sX1_takeTurn)), (169, 3, 0, 0, zvs (UC) 7 (sU_add UC)), (172, 1, 0, 0, zvs (UC) 6 (sX6_spill))] [])
theorem YX1_goOneTick_ok : zYok (YX1_goOneTick) := zYok_of fX1_ok (zall (zcal_mono (zcalV (Y := YX1_goOneTick) (y := yX1_takeTurn) (cc := cX1_takeTurn) (nL := 4) (ret := none) (rm := rX1_takeTurn) (mX1_takeTurn) 165 1 1 (T := TX1) rfl wX1_165 ⟨by decide +kernel, by decide +kernel, by decide +kernel⟩ (by decide) ⟨Nat.le_of_ble_eq_true rfl, Nat.le_of_ble_eq_true rfl⟩) (fun _ _ _ _ h => zvs_P h)) (zall (zcal_mono (zcalV (Y := YX1_goOneTick) (y := yX7_add) (cc := cX7_add) (nL := 3) (ret := none) (rm := rX7_add) (mU_add UC UC_small) 169 2 7 (T := TX7) rfl wX1_169 ⟨by decide +kernel, by decide +kernel, by decide +kernel⟩ (by decide) ⟨Nat.le_of_ble_eq_true rfl, Nat.le_of_ble_eq_true rfl⟩) (fun _ _ _ _ h => zvs_P h)) (zall (zcal_mono (zcalV (Y := YX1_goOneTick) (y := yX6_spill) (cc := cX6_spill) (nL := 3) (ret := some .int) (rm := rX6_spill) (mX6_spill) 172 0 6 (T := TX6) rfl wX1_172 ⟨by decide +kernel, by decide +kernel, by decide +kernel⟩ (by decide) ⟨Nat.le_of_ble_eq_true rfl, Nat.le_of_ble_eq_true rfl⟩) (fun _ _ _ _ h => zvs_P h)) znil))) znil

theorem lX1_goOneTick (ok : zO) (ex : zX) (F : zF) (h : ok none (qOT F)) : ∀ (d k : Nat), k + d = (F 8 9).toNatClampNeg → zWP YX1_goOneTick ok ex 2 [some (.ref 0), some (.int (nI k))] [] 0 0 (qTTs F k) := by
  intro d
  induction d with
  | zero =>
    intro k hk
    have hk : k = (F 8 9).toNatClampNeg := hk
    refine zat_ok YX1_goOneTick_ok zno kX1_goOneTick (List.all_eq_true.mp kX1_goOneTick_ok) 2 _ _ _ _ _ ?_
    refine And.intro (fun _ => ?_) (fun h1 => absurd ?_ h1)
    · unfold qOT at h
      rw [← hk] at h
      generalize qTTs F k = G at h
      refine zleaf ok h rfl ?_
      have e1 : qIn G = zwr 5 (zup G 0 8 (G 0 8 + G 0 6)) 7 0 (zrd 5 (zup G 0 8 (G 0 8 + G 0 6) 7) 0 + zup G 0 8 (G 0 8 + G 0 6) 0 6) := by
        unfold qIn
        rw [zup_ne _ _ _ (show 7 ≠ 0 by decide), zup_an _ _ _ (show 6 ≠ 8 by decide)]
      rw [e1]
      show qEnd (zwr 5 (zup G 0 8 (G 0 8 + G 0 6)) 7 0 (zrd 5 (zup G 0 8 (G 0 8 + G 0 6) 7) 0 + zup G 0 8 (G 0 8 + G 0 6) 0 6)) = _
      generalize hF2 : zwr 5 (zup G 0 8 (G 0 8 + G 0 6)) 7 0 (zrd 5 (zup G 0 8 (G 0 8 + G 0 6) 7) 0 + zup G 0 8 (G 0 8 + G 0 6) 0 6) = F2
      have e2 : qEnd F2 = zup (zup (qSp F2 (F2 1 3).toNatClampNeg).1 0 9 (F2 0 9 + (qSp F2 (F2 1 3).toNatClampNeg).2)) 0 7 (zup (qSp F2 (F2 1 3).toNatClampNeg).1 0 9 (F2 0 9 + (qSp F2 (F2 1 3).toNatClampNeg).2) 0 7 + 1) := by
        unfold qEnd
        rw [zup_an _ _ _ (show 7 ≠ 9 by decide), qSp_3 _ _ _ (show 0 ≠ 7 by decide)]
      rw [e2, ← hF2]
    · show (qTTs F k) 8 9 ≤ nI k
      rw [qTTs_89, hk]
      exact zcnt_ge _
  | succ d ih =>
    intro k hk
    refine zat_ok YX1_goOneTick_ok (inv := zi1 2 (fun ls st kc ks G => zWP YX1_goOneTick ok ex 2 ls st kc ks G)) (zone fun _ _ _ _ _ h => h) kX1_goOneTick (List.all_eq_true.mp kX1_goOneTick_ok) 2 _ _ _ _ _ ?_
    refine And.intro (fun h1 => absurd ?_ (zcnt_lt (c := F 8 9) (k := k) (by omega))) (fun h1 => ?_)
    · have h1 : (qTTs F k) 8 9 ≤ nI k := h1
      rw [qTTs_89] at h1
      exact h1
    have ih := ih (k + 1) (by omega)
    rw [← nI_1] at ih
    exact ih

theorem mX1_goOneTick : zMet (UC) yX1_goOneTick cX1_goOneTick 2 (none) rX1_goOneTick (sX1_goOneTick) := by
  refine zmet (Y := YX1_goOneTick) rfl (by decide +kernel) ?_
  intro av F ok ex h
  unfold sX1_goOneTick at h
  split at h
  · refine zgo_ok (YX1_goOneTick_ok) (inv := zi1 2 (fun ls st kc ks G => zWP YX1_goOneTick ok ex 2 ls st kc ks G)) (zone fun _ _ _ _ _ h => h) kX1_goOneTick (List.all_eq_true.mp kX1_goOneTick_ok) 0 _ _ _ _ _ ?_
    exact lX1_goOneTick ok ex F h _ 0 (Nat.zero_add _)
  · exact h.elim

end ZTi
end
section
/-! two canals, the second at 45: copyFrom -/
section ZCp
def UC2 : zU := (90, fun k => match Nat.blt k 45 with
  | true => (znth lC k).getD (1, 0, [])
  | false => zren (fun j => 45 + j) ((znth lC (k - 45)).getD (1, 0, [])))
theorem UC2_small : zsmall UC2 := by
  have h : ∀ k, k < 90 → (UC2.2 k).2.1 < 2 ^ 31 := by decide +kernel
  exact h
def qCpR (F : zF) : zF := zup (zcpr (zcpr (zcpr F 3 48 5) 5 50 5) 7 52 5) 1 3 (F 46 3)
def qCpL (F : zF) : zF := zup (zup (zcpr (zcpr (zcpr (zcpr (zcpr (zcpr (zcpr (zcpr F 10 55 4) 12 57 4) 14 59 4) 16 61 4) 18 63 4) 20 65 4) 22 67 4) 24 69 4) 8 8 (F 53 8)) 8 9 (F 53 9)
def qCpF (F : zF) : zF := zup (zcpr (zcpr (zcpr (zcpr (zcpr (zcpr (zcpr (zcpr (zcpr F 27 72 16) 29 74 16) 31 76 16) 33 78 16) 35 80 16) 37 82 16) 39 84 16) 41 86 16) 43 88 16) 25 9 (F 70 9)
def qCpC (F : zF) : zF := zup (zup (zup (zup (zup (zup (zup (qCpF (qCpL (qCpR F))) 0 4 (F 45 4)) 0 5 (F 45 5)) 0 6 (F 45 6)) 0 7 (F 45 7)) 0 8 (F 45 8)) 0 9 (F 45 9)) 0 10 (F 45 10)
theorem zcpr_ne (F : zF) {j k : Nat} (i n : Nat) (h : k ≠ j) : zcpr F j i n k = F k := by
  funext b
  simp [zcpr, h]
def sX6_copyFrom : zSp := fun as F ok _ => match as with
  | [.ref 1, .ref 46] => ok none (qCpR F)
  | _ => False
def sX5_copyFrom : zSp := fun as F ok _ => match as with
  | [.ref 8, .ref 53] => ok none (qCpL F)
  | _ => False
def sX3_copyFrom : zSp := fun as F ok _ => match as with
  | [.ref 25, .ref 70] => ok none (qCpF F)
  | _ => False
def sX1_copyFrom : zSp := fun as F ok _ => match as with
  | [.ref 0, .ref 45] => ok none (qCpC F)
  | _ => False
theorem qCpR_o (F : zF) {k : Nat} (h : 45 ≤ k) : qCpR F k = F k := by
  unfold qCpR
  simp only [zup_ne _ _ _ (show k ≠ 1 by omega), zcpr_ne _ _ _ (show k ≠ 3 by omega), zcpr_ne _ _ _ (show k ≠ 5 by omega), zcpr_ne _ _ _ (show k ≠ 7 by omega)]
theorem qCpL_o (F : zF) {k : Nat} (h : 45 ≤ k) : qCpL F k = F k := by
  unfold qCpL
  simp only [zup_ne _ _ _ (show k ≠ 8 by omega), zcpr_ne _ _ _ (show k ≠ 10 by omega), zcpr_ne _ _ _ (show k ≠ 12 by omega), zcpr_ne _ _ _ (show k ≠ 14 by omega), zcpr_ne _ _ _ (show k ≠ 16 by omega), zcpr_ne _ _ _ (show k ≠ 18 by omega), zcpr_ne _ _ _ (show k ≠ 20 by omega), zcpr_ne _ _ _ (show k ≠ 22 by omega), zcpr_ne _ _ _ (show k ≠ 24 by omega)]
theorem qCpF_o (F : zF) {k : Nat} (h : 45 ≤ k) : qCpF F k = F k := by
  unfold qCpF
  simp only [zup_ne _ _ _ (show k ≠ 25 by omega), zcpr_ne _ _ _ (show k ≠ 27 by omega), zcpr_ne _ _ _ (show k ≠ 29 by omega), zcpr_ne _ _ _ (show k ≠ 31 by omega), zcpr_ne _ _ _ (show k ≠ 33 by omega), zcpr_ne _ _ _ (show k ≠ 35 by omega), zcpr_ne _ _ _ (show k ≠ 37 by omega), zcpr_ne _ _ _ (show k ≠ 39 by omega), zcpr_ne _ _ _ (show k ≠ 41 by omega), zcpr_ne _ _ _ (show k ≠ 43 by omega)]

def kX6_copyFrom : List zI := [
  (0, 1, .aload_n 0, [], 0),
  (1, 3, .getfield 14, [], 0),
  (4, 1, .aload_n 1, [], 0),
  (5, 3, .getfield 14, [], 0),
  (8, 3, .invokevirtual 44, [], 0),
  (11, 1, .aload_n 0, [], 0),
  (12, 3, .getfield 20, [], 0),
  (15, 1, .aload_n 1, [], 0),
  (16, 3, .getfield 20, [], 0),
  (19, 3, .invokevirtual 44, [], 0),
  (22, 1, .aload_n 0, [], 0),
  (23, 3, .getfield 23, [], 0),
  (26, 1, .aload_n 1, [], 0),
  (27, 3, .getfield 23, [], 0),
  (30, 3, .invokevirtual 44, [], 0),
  (33, 1, .aload_n 0, [], 0),
  (34, 1, .aload_n 1, [], 0),
  (35, 3, .getfield 26, [], 0),
  (38, 3, .putfield 26, [], 0),
  (41, 1, .return_, [], 0)]
theorem kX6_copyFrom_ok : kX6_copyFrom.all (zck cX6_copyFrom) = true := by decide +kernel

def rX6_copyFrom : Room := { frames := 2, cells := 0, slots := 0, locals := 43 }
abbrev YX6_copyFrom : zM := (RX6, cX6_copyFrom, 2, none, rX6_copyFrom, UC2, zlk fX6, zcs [(44, 2, 0, 0, zvs (UC2) 7 (sU_copy UC2))] [])
theorem YX6_copyFrom_ok : zYok (YX6_copyFrom) := zYok_of fX6_ok (zall (zcal_mono (zcalV (Y := YX6_copyFrom) (y := yX7_copyFrom) (cc := cX7_copyFrom) (nL := 3) (ret := none) (rm := rX7_copyFrom) (mU_copy UC2 UC2_small) 44 1 7 (T := TX7) rfl wX6_44 ⟨by decide +kernel, by decide +kernel, by decide +kernel⟩ (by decide) ⟨Nat.le_of_ble_eq_true rfl, Nat.le_of_ble_eq_true rfl⟩) (fun _ _ _ _ h => zvs_P h)) znil) znil

theorem mX6_copyFrom : zMet (UC2) yX6_copyFrom cX6_copyFrom 2 (none) rX6_copyFrom (sX6_copyFrom) := by
  refine zmet (Y := YX6_copyFrom) rfl (by decide +kernel) ?_
  intro av F ok ex h
  unfold sX6_copyFrom at h
  split at h
  · refine zgo_ok (YX6_copyFrom_ok) zno kX6_copyFrom (List.all_eq_true.mp kX6_copyFrom_ok) 0 _ _ _ _ _ ?_
    refine zleaf ok h rfl ?_
    unfold qCpR
    have e : F 46 3 = zcpr (zcpr (zcpr F 3 48 5) 5 50 5) 7 52 5 46 3 := by rw [zcpr_ne _ _ _ (by decide), zcpr_ne _ _ _ (by decide), zcpr_ne _ _ _ (by decide)]
    rw [e]
  · exact h.elim

def kX5_copyFrom : List zI := [
  (0, 1, .aload_n 0, [], 0),
  (1, 3, .getfield 14, [], 0),
  (4, 1, .aload_n 1, [], 0),
  (5, 3, .getfield 14, [], 0),
  (8, 3, .invokevirtual 62, [], 0),
  (11, 1, .aload_n 0, [], 0),
  (12, 3, .getfield 20, [], 0),
  (15, 1, .aload_n 1, [], 0),
  (16, 3, .getfield 20, [], 0),
  (19, 3, .invokevirtual 62, [], 0),
  (22, 1, .aload_n 0, [], 0),
  (23, 3, .getfield 23, [], 0),
  (26, 1, .aload_n 1, [], 0),
  (27, 3, .getfield 23, [], 0),
  (30, 3, .invokevirtual 62, [], 0),
  (33, 1, .aload_n 0, [], 0),
  (34, 3, .getfield 26, [], 0),
  (37, 1, .aload_n 1, [], 0),
  (38, 3, .getfield 26, [], 0),
  (41, 3, .invokevirtual 62, [], 0),
  (44, 1, .aload_n 0, [], 0),
  (45, 3, .getfield 29, [], 0),
  (48, 1, .aload_n 1, [], 0),
  (49, 3, .getfield 29, [], 0),
  (52, 3, .invokevirtual 62, [], 0),
  (55, 1, .aload_n 0, [], 0),
  (56, 3, .getfield 32, [], 0),
  (59, 1, .aload_n 1, [], 0),
  (60, 3, .getfield 32, [], 0),
  (63, 3, .invokevirtual 62, [], 0),
  (66, 1, .aload_n 0, [], 0),
  (67, 3, .getfield 35, [], 0),
  (70, 1, .aload_n 1, [], 0),
  (71, 3, .getfield 35, [], 0),
  (74, 3, .invokevirtual 62, [], 0),
  (77, 1, .aload_n 0, [], 0),
  (78, 3, .getfield 38, [], 0),
  (81, 1, .aload_n 1, [], 0),
  (82, 3, .getfield 38, [], 0),
  (85, 3, .invokevirtual 62, [], 0),
  (88, 1, .aload_n 0, [], 0),
  (89, 1, .aload_n 1, [], 0),
  (90, 3, .getfield 41, [], 0),
  (93, 3, .putfield 41, [], 0),
  (96, 1, .aload_n 0, [], 0),
  (97, 1, .aload_n 1, [], 0),
  (98, 3, .getfield 45, [], 0),
  (101, 3, .putfield 45, [], 0),
  (104, 1, .return_, [], 0)]
theorem kX5_copyFrom_ok : kX5_copyFrom.all (zck cX5_copyFrom) = true := by decide +kernel

def rX5_copyFrom : Room := { frames := 2, cells := 0, slots := 0, locals := 43 }
abbrev YX5_copyFrom : zM := (RX5, cX5_copyFrom, 2, none, rX5_copyFrom, UC2, zlk fX5, zcs [(62, 2, 0, 0, zvs (UC2) 7 (sU_copy UC2))] [])
theorem YX5_copyFrom_ok : zYok (YX5_copyFrom) := zYok_of fX5_ok (zall (zcal_mono (zcalV (Y := YX5_copyFrom) (y := yX7_copyFrom) (cc := cX7_copyFrom) (nL := 3) (ret := none) (rm := rX7_copyFrom) (mU_copy UC2 UC2_small) 62 1 7 (T := TX7) rfl wX5_62 ⟨by decide +kernel, by decide +kernel, by decide +kernel⟩ (by decide) ⟨Nat.le_of_ble_eq_true rfl, Nat.le_of_ble_eq_true rfl⟩) (fun _ _ _ _ h => zvs_P h)) znil) znil

theorem mX5_copyFrom : zMet (UC2) yX5_copyFrom cX5_copyFrom 2 (none) rX5_copyFrom (sX5_copyFrom) := by
  refine zmet (Y := YX5_copyFrom) rfl (by decide +kernel) ?_
  intro av F ok ex h
  unfold sX5_copyFrom at h
  split at h
  · refine zgo_ok (YX5_copyFrom_ok) zno kX5_copyFrom (List.all_eq_true.mp kX5_copyFrom_ok) 0 _ _ _ _ _ ?_
    refine zleaf ok h rfl ?_
    unfold qCpL
    have e : ∀ b, F 53 b = (zcpr (zcpr (zcpr (zcpr (zcpr (zcpr (zcpr (zcpr F 10 55 4) 12 57 4) 14 59 4) 16 61 4) 18 63 4) 20 65 4) 22 67 4) 24 69 4) 53 b := fun b => by simp only [zcpr_ne _ _ _ (show 53 ≠ 10 by decide), zcpr_ne _ _ _ (show 53 ≠ 12 by decide), zcpr_ne _ _ _ (show 53 ≠ 14 by decide), zcpr_ne _ _ _ (show 53 ≠ 16 by decide), zcpr_ne _ _ _ (show 53 ≠ 18 by decide), zcpr_ne _ _ _ (show 53 ≠ 20 by decide), zcpr_ne _ _ _ (show 53 ≠ 22 by decide), zcpr_ne _ _ _ (show 53 ≠ 24 by decide)]
    rw [e 8, e 9]
    have e2 : ∀ G : zF, ∀ v, zup G 8 8 v 53 9 = G 53 9 := fun G v => by rw [zup_ne _ _ _ (by decide)]
    rw [← e2 (zcpr (zcpr (zcpr (zcpr (zcpr (zcpr (zcpr (zcpr F 10 55 4) 12 57 4) 14 59 4) 16 61 4) 18 63 4) 20 65 4) 22 67 4) 24 69 4) ((zcpr (zcpr (zcpr (zcpr (zcpr (zcpr (zcpr (zcpr F 10 55 4) 12 57 4) 14 59 4) 16 61 4) 18 63 4) 20 65 4) 22 67 4) 24 69 4) 53 8)]
  · exact h.elim

def kX3_copyFrom : List zI := [
  (0, 1, .aload_n 0, [], 0),
  (1, 3, .getfield 14, [], 0),
  (4, 1, .aload_n 1, [], 0),
  (5, 3, .getfield 14, [], 0),
  (8, 3, .invokevirtual 88, [], 0),
  (11, 1, .aload_n 0, [], 0),
  (12, 3, .getfield 20, [], 0),
  (15, 1, .aload_n 1, [], 0),
  (16, 3, .getfield 20, [], 0),
  (19, 3, .invokevirtual 88, [], 0),
  (22, 1, .aload_n 0, [], 0),
  (23, 3, .getfield 23, [], 0),
  (26, 1, .aload_n 1, [], 0),
  (27, 3, .getfield 23, [], 0),
  (30, 3, .invokevirtual 88, [], 0),
  (33, 1, .aload_n 0, [], 0),
  (34, 3, .getfield 26, [], 0),
  (37, 1, .aload_n 1, [], 0),
  (38, 3, .getfield 26, [], 0),
  (41, 3, .invokevirtual 88, [], 0),
  (44, 1, .aload_n 0, [], 0),
  (45, 3, .getfield 29, [], 0),
  (48, 1, .aload_n 1, [], 0),
  (49, 3, .getfield 29, [], 0),
  (52, 3, .invokevirtual 88, [], 0),
  (55, 1, .aload_n 0, [], 0),
  (56, 3, .getfield 32, [], 0),
  (59, 1, .aload_n 1, [], 0),
  (60, 3, .getfield 32, [], 0),
  (63, 3, .invokevirtual 88, [], 0),
  (66, 1, .aload_n 0, [], 0),
  (67, 3, .getfield 35, [], 0),
  (70, 1, .aload_n 1, [], 0),
  (71, 3, .getfield 35, [], 0),
  (74, 3, .invokevirtual 88, [], 0),
  (77, 1, .aload_n 0, [], 0),
  (78, 3, .getfield 38, [], 0),
  (81, 1, .aload_n 1, [], 0),
  (82, 3, .getfield 38, [], 0),
  (85, 3, .invokevirtual 88, [], 0),
  (88, 1, .aload_n 0, [], 0),
  (89, 3, .getfield 41, [], 0),
  (92, 1, .aload_n 1, [], 0),
  (93, 3, .getfield 41, [], 0),
  (96, 3, .invokevirtual 88, [], 0),
  (99, 1, .aload_n 0, [], 0),
  (100, 1, .aload_n 1, [], 0),
  (101, 3, .getfield 44, [], 0),
  (104, 3, .putfield 44, [], 0),
  (107, 1, .return_, [], 0)]
theorem kX3_copyFrom_ok : kX3_copyFrom.all (zck cX3_copyFrom) = true := by decide +kernel

def rX3_copyFrom : Room := { frames := 2, cells := 0, slots := 0, locals := 43 }
abbrev YX3_copyFrom : zM := (RX3, cX3_copyFrom, 2, none, rX3_copyFrom, UC2, zlk fX3, zcs [(88, 2, 0, 0, zvs (UC2) 7 (sU_copy UC2))] [])
theorem YX3_copyFrom_ok : zYok (YX3_copyFrom) := zYok_of fX3_ok (zall (zcal_mono (zcalV (Y := YX3_copyFrom) (y := yX7_copyFrom) (cc := cX7_copyFrom) (nL := 3) (ret := none) (rm := rX7_copyFrom) (mU_copy UC2 UC2_small) 88 1 7 (T := TX7) rfl wX3_88 ⟨by decide +kernel, by decide +kernel, by decide +kernel⟩ (by decide) ⟨Nat.le_of_ble_eq_true rfl, Nat.le_of_ble_eq_true rfl⟩) (fun _ _ _ _ h => zvs_P h)) znil) znil

theorem mX3_copyFrom : zMet (UC2) yX3_copyFrom cX3_copyFrom 2 (none) rX3_copyFrom (sX3_copyFrom) := by
  refine zmet (Y := YX3_copyFrom) rfl (by decide +kernel) ?_
  intro av F ok ex h
  unfold sX3_copyFrom at h
  split at h
  · refine zgo_ok (YX3_copyFrom_ok) zno kX3_copyFrom (List.all_eq_true.mp kX3_copyFrom_ok) 0 _ _ _ _ _ ?_
    refine zleaf ok h rfl ?_
    unfold qCpF
    have e : ∀ b, F 70 b = (zcpr (zcpr (zcpr (zcpr (zcpr (zcpr (zcpr (zcpr (zcpr F 27 72 16) 29 74 16) 31 76 16) 33 78 16) 35 80 16) 37 82 16) 39 84 16) 41 86 16) 43 88 16) 70 b := fun b => by simp only [zcpr_ne _ _ _ (show 70 ≠ 27 by decide), zcpr_ne _ _ _ (show 70 ≠ 29 by decide), zcpr_ne _ _ _ (show 70 ≠ 31 by decide), zcpr_ne _ _ _ (show 70 ≠ 33 by decide), zcpr_ne _ _ _ (show 70 ≠ 35 by decide), zcpr_ne _ _ _ (show 70 ≠ 37 by decide), zcpr_ne _ _ _ (show 70 ≠ 39 by decide), zcpr_ne _ _ _ (show 70 ≠ 41 by decide), zcpr_ne _ _ _ (show 70 ≠ 43 by decide)]
    rw [e 9]
  · exact h.elim

def kX1_copyFrom : List zI := [
  (0, 1, .aload_n 0, [], 0),
  (1, 3, .getfield 12, [], 0),
  (4, 1, .aload_n 1, [], 0),
  (5, 3, .getfield 12, [], 0),
  (8, 3, .invokevirtual 217, [], 0),
  (11, 1, .aload_n 0, [], 0),
  (12, 3, .getfield 21, [], 0),
  (15, 1, .aload_n 1, [], 0),
  (16, 3, .getfield 21, [], 0),
  (19, 3, .invokevirtual 221, [], 0),
  (22, 1, .aload_n 0, [], 0),
  (23, 3, .getfield 28, [], 0),
  (26, 1, .aload_n 1, [], 0),
  (27, 3, .getfield 28, [], 0),
  (30, 3, .invokevirtual 224, [], 0),
  (33, 1, .aload_n 0, [], 0),
  (34, 1, .aload_n 1, [], 0),
  (35, 3, .getfield 39, [], 0),
  (38, 3, .putfield 39, [], 0),
  (41, 1, .aload_n 0, [], 0),
  (42, 1, .aload_n 1, [], 0),
  (43, 3, .getfield 43, [], 0),
  (46, 3, .putfield 43, [], 0),
  (49, 1, .aload_n 0, [], 0),
  (50, 1, .aload_n 1, [], 0),
  (51, 3, .getfield 46, [], 0),
  (54, 3, .putfield 46, [], 0),
  (57, 1, .aload_n 0, [], 0),
  (58, 1, .aload_n 1, [], 0),
  (59, 3, .getfield 49, [], 0),
  (62, 3, .putfield 49, [], 0),
  (65, 1, .aload_n 0, [], 0),
  (66, 1, .aload_n 1, [], 0),
  (67, 3, .getfield 52, [], 0),
  (70, 3, .putfield 52, [], 0),
  (73, 1, .aload_n 0, [], 0),
  (74, 1, .aload_n 1, [], 0),
  (75, 3, .getfield 55, [], 0),
  (78, 3, .putfield 55, [], 0),
  (81, 1, .aload_n 0, [], 0),
  (82, 1, .aload_n 1, [], 0),
  (83, 3, .getfield 58, [], 0),
  (86, 3, .putfield 58, [], 0),
  (89, 1, .return_, [], 0)]
theorem kX1_copyFrom_ok : kX1_copyFrom.all (zck cX1_copyFrom) = true := by decide +kernel

def rX1_copyFrom : Room := { frames := 3, cells := 0, slots := 0, locals := 64 }
abbrev YX1_copyFrom : zM := (RX1, cX1_copyFrom, 2, none, rX1_copyFrom, UC2, zlk fX1, zcs [(217, 2, 0, 0, zvs (UC2) 6 (sX6_copyFrom)), (221, 2, 0, 0, zvs (UC2) 5 (sX5_copyFrom)), (224, 2, 0, 0, zvs (UC2) 3 (sX3_copyFrom))] [])
theorem YX1_copyFrom_ok : zYok (YX1_copyFrom) := zYok_of fX1_ok (zall (zcal_mono (zcalV (Y := YX1_copyFrom) (y := yX6_copyFrom) (cc := cX6_copyFrom) (nL := 2) (ret := none) (rm := rX6_copyFrom) (mX6_copyFrom) 217 1 6 (T := TX6) rfl wX1_217 ⟨by decide +kernel, by decide +kernel, by decide +kernel⟩ (by decide) ⟨Nat.le_of_ble_eq_true rfl, Nat.le_of_ble_eq_true rfl⟩) (fun _ _ _ _ h => zvs_P h)) (zall (zcal_mono (zcalV (Y := YX1_copyFrom) (y := yX5_copyFrom) (cc := cX5_copyFrom) (nL := 2) (ret := none) (rm := rX5_copyFrom) (mX5_copyFrom) 221 1 5 (T := TX5) rfl wX1_221 ⟨by decide +kernel, by decide +kernel, by decide +kernel⟩ (by decide) ⟨Nat.le_of_ble_eq_true rfl, Nat.le_of_ble_eq_true rfl⟩) (fun _ _ _ _ h => zvs_P h)) (zall (zcal_mono (zcalV (Y := YX1_copyFrom) (y := yX3_copyFrom) (cc := cX3_copyFrom) (nL := 2) (ret := none) (rm := rX3_copyFrom) (mX3_copyFrom) 224 1 3 (T := TX3) rfl wX1_224 ⟨by decide +kernel, by decide +kernel, by decide +kernel⟩ (by decide) ⟨Nat.le_of_ble_eq_true rfl, Nat.le_of_ble_eq_true rfl⟩) (fun _ _ _ _ h => zvs_P h)) znil))) znil

theorem mX1_copyFrom : zMet (UC2) yX1_copyFrom cX1_copyFrom 2 (none) rX1_copyFrom (sX1_copyFrom) := by
  refine zmet (Y := YX1_copyFrom) rfl (by decide +kernel) ?_
  intro av F ok ex h
  unfold sX1_copyFrom at h
  split at h
  · refine zgo_ok (YX1_copyFrom_ok) zno kX1_copyFrom (List.all_eq_true.mp kX1_copyFrom_ok) 0 _ _ _ _ _ ?_
    refine zleaf ok h rfl ?_
    unfold qCpC
    have e : ∀ b, F 45 b = (qCpF (qCpL (qCpR F))) 45 b := fun b => by rw [qCpF_o _ (by decide), qCpL_o _ (by decide), qCpR_o _ (by decide)]
    have e2 : ∀ (G : zF) (n b : Nat) (v : Int32), zup G 0 n v 45 b = G 45 b := fun G n b v => by rw [zup_ne _ _ _ (by decide)]
    rw [e 4, e 5, e 6, e 7, e 8, e 9, e 10]
    show _ = zup (zup (zup (zup (zup (zup (zup (qCpF (qCpL (qCpR F))) 0 4 _) 0 5 _) 0 6 _) 0 7 _) 0 8 _) 0 9 _) 0 10 _
    simp only [e2]
  · exact h.elim

end ZCp
end
section
/-! LockMaster.ArrivalText: rows at 1 (characters), 3 (sizes), 5 (draughts), 7 (ranks), 9 (ups); 0: length 5, arrivals 6 -/
section ZTx
def lT : List zS := [(0, 0, [some 1, some 3, some 5, some 7, some 9, none, none]), (0, 7, [some 2]), (1, 50, []), (0, 7, [some 4]), (1, 10, []), (0, 7, [some 6]), (1, 10, []), (0, 7, [some 8]), (1, 10, []), (0, 7, [some 10]), (1, 10, [])]
def UT : zU := (11, fun k => (znth lT k).getD (1, 0, []))
theorem UT_small : zsmall UT := by
  have h : ∀ k, k < 11 → (UT.2 k).2.1 < 2 ^ 31 := by decide +kernel
  exact h
def xPut (F : zF) (c : Int32) : zF := zup (zwr 50 F 2 (F 0 5) c) 0 5 (F 0 5 + 1)
def xBeg (F : zF) (b : Int32) : zF := zup (zwr 10 (zwr 10 (zwr 10 (zwr 10 F 4 (F 0 6) 0) 6 (F 0 6) 0) 8 (F 0 6) 0) 10 (F 0 6) b) 0 6 (F 0 6 + 1)
def xTk (F : zF) (j : Nat) (d : Int32) : zF := zwr 10 F j (F 0 6 - 1) (zrd 10 (F j) (F 0 6 - 1) * 10 + d)
def xSD (c : Int32) : Int32 := if c = 114 then 7 else if c = 44 then 1 else 0
def xDig (c : Int32) : Int32 := if c < 48 then -1 else if 57 < c then -1 else c - 48
def xSt (F : zF) (s c : Int32) : Int32 × zF :=
  if s = 1 then (if c = 100 ∨ c = 117 then (2, xBeg F (if c = 117 then 1 else 0)) else (0, F))
  else if s = 2 then (if 1 ≤ xDig c then (3, xTk F 4 (xDig c)) else (0, F))
  else if s = 3 then (if c = 116 then (4, F) else (0, F))
  else if s = 4 then (if 1 ≤ xDig c then (5, xTk F 6 (xDig c)) else (0, F))
  else if s = 5 then (if 0 ≤ xDig c then (6, xTk F 6 (xDig c)) else (xSD c, F))
  else if s = 6 then (xSD c, F)
  else if s = 7 then (if 0 ≤ xDig c ∧ xDig c ≤ 3 then (8, xTk F 8 (xDig c)) else (0, F))
  else if c = 44 then (1, F) else (0, F)
/-- the rest of the text from k on: the fault's place or -1, and the arrivals -/
def xRd : Nat → Nat → zF → Int32 → Int32 × zF
  | 0, _, F, s => (if s = 5 ∨ s = 6 ∨ s = 8 then -1 else F 0 5, F)
  | d + 1, k, F, s => if (xSt F s (zrd 50 (F 2) (nI k))).1 = 0 then (nI k, (xSt F s (zrd 50 (F 2) (nI k))).2) else xRd d (k + 1) (xSt F s (zrd 50 (F 2) (nI k))).2 (xSt F s (zrd 50 (F 2) (nI k))).1
def xRead (F : zF) : Int32 × zF := xRd (F 0 5).toNatClampNeg 0 (zup F 0 6 0) 1
def sX0_put : zSp := fun as F ok _ => match as with
  | [.ref 0, .int c] => ok none (xPut F c)
  | _ => False
def sX0_begin : zSp := fun as F ok _ => match as with
  | [.ref 0, .int b] => ok (some (.int 2)) (xBeg F (if b = 0 then 0 else 1))
  | _ => False
def sX0_take : zSp := fun as F ok _ => match as with
  | [.ref 0, .ref j, .int d, .int s] => match zrow UT j with
    | some n => ok (some (.int s)) (zwr n F (j + 1) (F 0 6 - 1) (zrd n (F (j + 1)) (F 0 6 - 1) * 10 + d))
    | none => False
  | _ => False
def sX0_stateBehindDraught : zSp := fun as F ok _ => match as with
  | [.ref 0, .int c] => ok (some (.int (xSD c))) F
  | _ => False
def sX0_stateBehind : zSp := fun as F ok _ => match as with
  | [.ref 0, .int s, .int c] => ok (some (.int (xSt F s c).1)) (xSt F s c).2
  | _ => False
def sX0_read : zSp := fun as F ok _ => match as with
  | [.ref 0] => ok (some (.int (xRead F).1)) (xRead F).2
  | _ => False
theorem xSt_5 (F : zF) (s c : Int32) : (xSt F s c).2 0 5 = F 0 5 := by
  unfold xSt
  have h1 : ∀ b, xBeg F b 0 5 = F 0 5 := fun b => by
    unfold xBeg
    rw [zup_an _ _ _ (by decide), zwr_ne _ _ _ _ (by decide), zwr_ne _ _ _ _ (by decide), zwr_ne _ _ _ _ (by decide), zwr_ne _ _ _ _ (by decide)]
  have h2 : ∀ j d, 0 ≠ j → xTk F j d 0 5 = F 0 5 := fun j d h => by
    unfold xTk
    rw [zwr_ne _ _ _ _ h]
  repeat' (first | rfl | exact h1 _ | exact h2 _ _ (by decide) | split)

def kX0_put : List zI := [
  (0, 1, .aload_n 0, [], 0),
  (1, 3, .getfield 14, [], 0),
  (4, 1, .aload_n 0, [], 0),
  (5, 3, .getfield 32, [], 0),
  (8, 1, .iload_n 1, [], 0),
  (9, 3, .invokevirtual 39, [], 0),
  (12, 1, .aload_n 0, [], 0),
  (13, 1, .dup, [], 0),
  (14, 3, .getfield 32, [], 0),
  (17, 1, .iconst 1, [], 1),
  (18, 1, .iadd, [], 0),
  (19, 3, .putfield 32, [], 0),
  (22, 1, .return_, [], 0)]
theorem kX0_put_ok : kX0_put.all (zck cX0_put) = true := by decide +kernel

def rX0_put : Room := { frames := 1, cells := 0, slots := 0, locals := 22 }
abbrev YX0_put : zM := (RX0, cX0_put, 2, none, rX0_put, UT, zlk fX0, zcs [(39, 3, 0, 0, zvs (UT) 7 (sU_put UT))] [])
theorem YX0_put_ok : zYok (YX0_put) := zYok_of fX0_ok (zall (zcal_mono (zcalV (Y := YX0_put) (y := yX7_put) (cc := cX7_put) (nL := 3) (ret := none) (rm := rX7_put) (mU_put UT UT_small) 39 2 7 (T := TX7) rfl wX0_39 ⟨by decide +kernel, by decide +kernel, by decide +kernel⟩ (by decide) ⟨Nat.le_of_ble_eq_true rfl, Nat.le_of_ble_eq_true rfl⟩) (fun _ _ _ _ h => zvs_P h)) znil) znil

theorem mX0_put : zMet (UT) yX0_put cX0_put 2 (none) rX0_put (sX0_put) := by
  refine zmet (Y := YX0_put) rfl (by decide +kernel) ?_
  intro av F ok ex h
  unfold sX0_put at h
  split at h
  · rename_i c
    refine zgo_ok (YX0_put_ok) zno kX0_put (List.all_eq_true.mp kX0_put_ok) 0 _ _ _ _ _ ?_
    refine zleaf ok h rfl ?_
    unfold xPut
    have e : F 0 5 + 1 = zwr 50 F 2 (F 0 5) c 0 5 + 1 := by rw [zwr_ne _ _ _ _ (by decide)]
    rw [e]
  · exact h.elim

def kX0_begin : List zI := [
  (0, 1, .aload_n 0, [], 0),
  (1, 3, .getfield 20, [], 0),
  (4, 1, .aload_n 0, [], 0),
  (5, 3, .getfield 36, [], 0),
  (8, 1, .iconst 0, [], 0),
  (9, 3, .invokevirtual 39, [], 0),
  (12, 1, .aload_n 0, [], 0),
  (13, 3, .getfield 23, [], 0),
  (16, 1, .aload_n 0, [], 0),
  (17, 3, .getfield 36, [], 0),
  (20, 1, .iconst 0, [], 0),
  (21, 3, .invokevirtual 39, [], 0),
  (24, 1, .aload_n 0, [], 0),
  (25, 3, .getfield 26, [], 0),
  (28, 1, .aload_n 0, [], 0),
  (29, 3, .getfield 36, [], 0),
  (32, 1, .iconst 0, [], 0),
  (33, 3, .invokevirtual 39, [], 0),
  (36, 1, .aload_n 0, [], 0),
  (37, 3, .getfield 29, [], 0),
  (40, 1, .aload_n 0, [], 0),
  (41, 3, .getfield 36, [], 0),
  (44, 1, .iload_n 1, [], 0),
  (45, 3, .ifCond .eq 7, [52], 0),
  (48, 1, .iconst 1, [], 1),
  (49, 3, .goto 4, [53], 0),
  (52, 1, .iconst 0, [], 0),
  (53, 3, .invokevirtual 39, [], 0),
  (56, 1, .aload_n 0, [], 0),
  (57, 1, .dup, [], 0),
  (58, 3, .getfield 36, [], 0),
  (61, 1, .iconst 1, [], 1),
  (62, 1, .iadd, [], 0),
  (63, 3, .putfield 36, [], 0),
  (66, 1, .iconst 2, [], 2),
  (67, 1, .ireturn, [], 0)]
theorem kX0_begin_ok : kX0_begin.all (zck cX0_begin) = true := by decide +kernel

def rX0_begin : Room := { frames := 1, cells := 0, slots := 0, locals := 22 }
abbrev YX0_begin : zM := (RX0, cX0_begin, 2, some .int, rX0_begin, UT, zlk fX0, zcs [(39, 3, 0, 0, zvs (UT) 7 (sU_put UT))] [])
theorem YX0_begin_ok : zYok (YX0_begin) := zYok_of fX0_ok (zall (zcal_mono (zcalV (Y := YX0_begin) (y := yX7_put) (cc := cX7_put) (nL := 3) (ret := none) (rm := rX7_put) (mU_put UT UT_small) 39 2 7 (T := TX7) rfl wX0_39 ⟨by decide +kernel, by decide +kernel, by decide +kernel⟩ (by decide) ⟨Nat.le_of_ble_eq_true rfl, Nat.le_of_ble_eq_true rfl⟩) (fun _ _ _ _ h => zvs_P h)) znil) znil

theorem mX0_begin : zMet (UT) yX0_begin cX0_begin 2 (some .int) rX0_begin (sX0_begin) := by
  refine zmet (Y := YX0_begin) rfl (by decide +kernel) ?_
  intro av F ok ex h
  unfold sX0_begin at h
  split at h
  · rename_i b
    refine zgo_ok (YX0_begin_ok) zno kX0_begin (List.all_eq_true.mp kX0_begin_ok) 0 _ _ _ _ _ ?_
    have k : ∀ v, xBeg F v = zup (zwr 10 (zwr 10 (zwr 10 (zwr 10 F 4 (F 0 6) 0) 6 (zwr 10 F 4 (F 0 6) 0 0 6) 0) 8 (zwr 10 (zwr 10 F 4 (F 0 6) 0) 6 (zwr 10 F 4 (F 0 6) 0 0 6) 0 0 6) 0) 10 (zwr 10 (zwr 10 (zwr 10 F 4 (F 0 6) 0) 6 (zwr 10 F 4 (F 0 6) 0 0 6) 0) 8 (zwr 10 (zwr 10 F 4 (F 0 6) 0) 6 (zwr 10 F 4 (F 0 6) 0 0 6) 0 0 6) 0 0 6) v) 0 6 (zwr 10 (zwr 10 (zwr 10 (zwr 10 F 4 (F 0 6) 0) 6 (zwr 10 F 4 (F 0 6) 0 0 6) 0) 8 (zwr 10 (zwr 10 F 4 (F 0 6) 0) 6 (zwr 10 F 4 (F 0 6) 0 0 6) 0 0 6) 0) 10 (zwr 10 (zwr 10 (zwr 10 F 4 (F 0 6) 0) 6 (zwr 10 F 4 (F 0 6) 0 0 6) 0) 8 (zwr 10 (zwr 10 F 4 (F 0 6) 0) 6 (zwr 10 F 4 (F 0 6) 0 0 6) 0 0 6) 0 0 6) v 0 6 + 1) := fun v => by
      unfold xBeg
      simp only [zwr_ne _ _ _ _ (show 0 ≠ 4 by decide), zwr_ne _ _ _ _ (show 0 ≠ 6 by decide), zwr_ne _ _ _ _ (show 0 ≠ 8 by decide), zwr_ne _ _ _ _ (show 0 ≠ 10 by decide)]
    refine And.intro (fun h1 => ?_) (fun h1 => ?_)
    · rw [if_pos h1, k] at h
      exact h
    · rw [if_neg h1, k] at h
      exact h
  · exact h.elim

theorem zT5 (j n : Nat) (hn : zrow UT j = some n) : j = 1 ∨ j = 3 ∨ j = 5 ∨ j = 7 ∨ j = 9 := by
  have hb : j + 1 < 11 := (zrow_ok hn).1
  have h2 := (zrow_ok hn).2.1
  rcases (show j = 0 ∨ j = 1 ∨ j = 2 ∨ j = 3 ∨ j = 4 ∨ j = 5 ∨ j = 6 ∨ j = 7 ∨ j = 8 ∨ j = 9 by omega) with rfl | rfl | rfl | rfl | rfl | rfl | rfl | rfl | rfl | rfl <;> first | decide | (exfalso; revert h2; decide)

def kX0_take : List zI := [
  (0, 1, .aload_n 1, [], 0),
  (1, 1, .aload_n 0, [], 0),
  (2, 3, .getfield 36, [], 0),
  (5, 1, .iconst 1, [], 1),
  (6, 1, .isub, [], 0),
  (7, 1, .aload_n 1, [], 0),
  (8, 1, .aload_n 0, [], 0),
  (9, 3, .getfield 36, [], 0),
  (12, 1, .iconst 1, [], 1),
  (13, 1, .isub, [], 0),
  (14, 3, .invokevirtual 43, [], 0),
  (17, 2, .bipush 10, [], 10),
  (19, 1, .imul, [], 0),
  (20, 1, .iload_n 2, [], 0),
  (21, 1, .iadd, [], 0),
  (22, 3, .invokevirtual 39, [], 0),
  (25, 1, .iload_n 3, [], 0),
  (26, 1, .ireturn, [], 0)]
theorem kX0_take_ok : kX0_take.all (zck cX0_take) = true := by decide +kernel

def rX0_take : Room := { frames := 1, cells := 0, slots := 0, locals := 22 }
abbrev YX0_take : zM := (RX0, cX0_take, 4, some .int, rX0_take, UT, zlk fX0, zcs [(43, 2, 0, 0, zvs (UT) 7 (sU_at UT)), (39, 3, 0, 0, zvs (UT) 7 (sU_put UT))] [])
theorem YX0_take_ok : zYok (YX0_take) := zYok_of fX0_ok (zall (zcal_mono (zcalV (Y := YX0_take) (y := yX7_at) (cc := cX7_at) (nL := 2) (ret := some .int) (rm := rX7_at) (mU_at UT UT_small) 43 1 7 (T := TX7) rfl wX0_43 ⟨by decide +kernel, by decide +kernel, by decide +kernel⟩ (by decide) ⟨Nat.le_of_ble_eq_true rfl, Nat.le_of_ble_eq_true rfl⟩) (fun _ _ _ _ h => zvs_P h)) (zall (zcal_mono (zcalV (Y := YX0_take) (y := yX7_put) (cc := cX7_put) (nL := 3) (ret := none) (rm := rX7_put) (mU_put UT UT_small) 39 2 7 (T := TX7) rfl wX0_39 ⟨by decide +kernel, by decide +kernel, by decide +kernel⟩ (by decide) ⟨Nat.le_of_ble_eq_true rfl, Nat.le_of_ble_eq_true rfl⟩) (fun _ _ _ _ h => zvs_P h)) znil)) znil

theorem mX0_take : zMet (UT) yX0_take cX0_take 4 (some .int) rX0_take (sX0_take) := by
  refine zmet (Y := YX0_take) rfl (by decide +kernel) ?_
  intro av F ok ex h
  unfold sX0_take at h
  split at h
  · rename_i j d s
    split at h
    · rename_i n hn
      have hj := zT5 j n hn
      refine zgo_ok (YX0_take_ok) zno kX0_take (List.all_eq_true.mp kX0_take_ok) 0 _ _ _ _ _ ?_
      rcases hj with rfl | rfl | rfl | rfl | rfl
      all_goals (cases (show some n = _ from hn.symm); exact h)
    · exact h.elim
  · exact h.elim

def kX0_stateBehindDraught : List zI := [
  (0, 1, .iload_n 1, [], 0),
  (1, 2, .bipush 114, [], 114),
  (3, 3, .if_icmp .ne 8, [11], 0),
  (6, 2, .bipush 7, [], 7),
  (8, 3, .goto 14, [22], 0),
  (11, 1, .iload_n 1, [], 0),
  (12, 2, .bipush 44, [], 44),
  (14, 3, .if_icmp .ne 7, [21], 0),
  (17, 1, .iconst 1, [], 1),
  (18, 3, .goto 4, [22], 0),
  (21, 1, .iconst 0, [], 0),
  (22, 1, .ireturn, [], 0)]
theorem kX0_stateBehindDraught_ok : kX0_stateBehindDraught.all (zck cX0_stateBehindDraught) = true := by decide +kernel

def rX0_stateBehindDraught : Room := { frames := 0, cells := 0, slots := 0, locals := 0 }
abbrev YX0_stateBehindDraught : zM := (RX0, cX0_stateBehindDraught, 2, some .int, rX0_stateBehindDraught, UT, zlk fX0, zcs [] [])
theorem YX0_stateBehindDraught_ok : zYok (YX0_stateBehindDraught) := zYok_of fX0_ok znil znil

theorem mX0_stateBehindDraught : zMet (UT) yX0_stateBehindDraught cX0_stateBehindDraught 2 (some .int) rX0_stateBehindDraught (sX0_stateBehindDraught) := by
  refine zmet (Y := YX0_stateBehindDraught) rfl (by decide +kernel) ?_
  intro av F ok ex h
  unfold sX0_stateBehindDraught at h
  split at h
  · rename_i c
    refine zgo_ok (YX0_stateBehindDraught_ok) zno kX0_stateBehindDraught (List.all_eq_true.mp kX0_stateBehindDraught_ok) 0 _ _ _ _ _ ?_
    repeat' (first
      | refine And.intro (fun h0 => absurd h0 (by decide)) (fun _ => ?_)
      | refine And.intro (fun _ => ?_) (fun h0 => absurd (by decide) h0)
      | refine And.intro (fun _ => ?_) (fun _ => ?_)
      | refine And.intro (fun _ => ?_) ?_
      | refine Exists.intro ?_ ?_)
    · rename_i h1 h2
      exact zleaf ok h (by simp [xSD, h1, h2]) rfl
    · rename_i h1 h2
      exact zleaf ok h (by simp [xSD, h1, h2]) rfl
    · rename_i h1
      exact zleaf ok h (by simp [xSD, h1]) rfl
  · exact h.elim

def kX0_stateBehind : List zI := [
  (0, 1, .iload_n 2, [], 0),
  (1, 2, .bipush 48, [], 48),
  (3, 3, .if_icmp .lt 16, [19], 0),
  (6, 1, .iload_n 2, [], 0),
  (7, 2, .bipush 57, [], 57),
  (9, 3, .if_icmp .gt 10, [19], 0),
  (12, 1, .iload_n 2, [], 0),
  (13, 2, .bipush 48, [], 48),
  (15, 1, .isub, [], 0),
  (16, 3, .goto 4, [20], 0),
  (19, 1, .iconst (-1), [], (-1)),
  (20, 1, .istore_n 3, [], 0),
  (21, 1, .iload_n 1, [], 0),
  (22, 42, .tableswitch 181 1 7 #[42, 74, 94, 106, 126, 150, 156], [203, 64, 96, 116, 128, 148, 172, 178], 0),
  (64, 1, .iload_n 2, [], 0),
  (65, 2, .bipush 100, [], 100),
  (67, 3, .if_icmp .eq 9, [76], 0),
  (70, 1, .iload_n 2, [], 0),
  (71, 2, .bipush 117, [], 117),
  (73, 3, .if_icmp .ne 21, [94], 0),
  (76, 1, .aload_n 0, [], 0),
  (77, 1, .iload_n 2, [], 0),
  (78, 2, .bipush 117, [], 117),
  (80, 3, .if_icmp .ne 7, [87], 0),
  (83, 1, .iconst 1, [], 1),
  (84, 3, .goto 4, [88], 0),
  (87, 1, .iconst 0, [], 0),
  (88, 3, .invokevirtual 51, [], 0),
  (91, 3, .goto 4, [95], 0),
  (94, 1, .iconst 0, [], 0),
  (95, 1, .ireturn, [], 0),
  (96, 1, .iload_n 3, [], 0),
  (97, 1, .iconst 1, [], 1),
  (98, 3, .if_icmp .lt 16, [114], 0),
  (101, 1, .aload_n 0, [], 0),
  (102, 1, .aload_n 0, [], 0),
  (103, 3, .getfield 20, [], 0),
  (106, 1, .iload_n 3, [], 0),
  (107, 1, .iconst 3, [], 3),
  (108, 3, .invokevirtual 55, [], 0),
  (111, 3, .goto 4, [115], 0),
  (114, 1, .iconst 0, [], 0),
  (115, 1, .ireturn, [], 0),
  (116, 1, .iload_n 2, [], 0),
  (117, 2, .bipush 116, [], 116),
  (119, 3, .if_icmp .ne 7, [126], 0),
  (122, 1, .iconst 4, [], 4),
  (123, 3, .goto 4, [127], 0),
  (126, 1, .iconst 0, [], 0),
  (127, 1, .ireturn, [], 0),
  (128, 1, .iload_n 3, [], 0),
  (129, 1, .iconst 1, [], 1),
  (130, 3, .if_icmp .lt 16, [146], 0),
  (133, 1, .aload_n 0, [], 0),
  (134, 1, .aload_n 0, [], 0),
  (135, 3, .getfield 23, [], 0),
  (138, 1, .iload_n 3, [], 0),
  (139, 1, .iconst 5, [], 5),
  (140, 3, .invokevirtual 55, [], 0),
  (143, 3, .goto 4, [147], 0),
  (146, 1, .iconst 0, [], 0),
  (147, 1, .ireturn, [], 0),
  (148, 1, .iload_n 3, [], 0),
  (149, 3, .ifCond .lt 17, [166], 0),
  (152, 1, .aload_n 0, [], 0),
  (153, 1, .aload_n 0, [], 0),
  (154, 3, .getfield 23, [], 0),
  (157, 1, .iload_n 3, [], 0),
  (158, 2, .bipush 6, [], 6),
  (160, 3, .invokevirtual 55, [], 0),
  (163, 3, .goto 8, [171], 0),
  (166, 1, .aload_n 0, [], 0),
  (167, 1, .iload_n 2, [], 0),
  (168, 3, .invokevirtual 59, [], 0),
  (171, 1, .ireturn, [], 0),
  (172, 1, .aload_n 0, [], 0),
  (173, 1, .iload_n 2, [], 0),
  (174, 3, .invokevirtual 59, [], 0),
  (177, 1, .ireturn, [], 0),
  (178, 1, .iload_n 3, [], 0),
  (179, 3, .ifCond .lt 22, [201], 0),
  (182, 1, .iload_n 3, [], 0),
  (183, 1, .iconst 3, [], 3),
  (184, 3, .if_icmp .gt 17, [201], 0),
  (187, 1, .aload_n 0, [], 0),
  (188, 1, .aload_n 0, [], 0),
  (189, 3, .getfield 26, [], 0),
  (192, 1, .iload_n 3, [], 0),
  (193, 2, .bipush 8, [], 8),
  (195, 3, .invokevirtual 55, [], 0),
  (198, 3, .goto 4, [202], 0),
  (201, 1, .iconst 0, [], 0),
  (202, 1, .ireturn, [], 0),
  (203, 1, .iload_n 2, [], 0),
  (204, 2, .bipush 44, [], 44),
  (206, 3, .if_icmp .ne 7, [213], 0),
  (209, 1, .iconst 1, [], 1),
  (210, 3, .goto 4, [214], 0),
  (213, 1, .iconst 0, [], 0),
  (214, 1, .ireturn, [], 0)]
theorem kX0_stateBehind_ok : kX0_stateBehind.all (zck cX0_stateBehind) = true := by decide +kernel

def rX0_stateBehind : Room := { frames := 2, cells := 0, slots := 0, locals := 45 }
abbrev YX0_stateBehind : zM := (RX0, cX0_stateBehind, 4, some .int, rX0_stateBehind, UT, zlk fX0, zcs [(51, 2, 0, 0, zvs (UT) 0 (sX0_begin)), (55, 4, 0, 0, zvs (UT) 0 (sX0_take)), (59, 2, 0, 0, zvs (UT) 0 (sX0_stateBehindDraught))] [])
theorem YX0_stateBehind_ok : zYok (YX0_stateBehind) := zYok_of fX0_ok (zall (zcal_mono (zcalV (Y := YX0_stateBehind) (y := yX0_begin) (cc := cX0_begin) (nL := 2) (ret := some .int) (rm := rX0_begin) (mX0_begin) 51 1 0 (T := TX0) rfl wX0_51 ⟨by decide +kernel, by decide +kernel, by decide +kernel⟩ (by decide) ⟨Nat.le_of_ble_eq_true rfl, Nat.le_of_ble_eq_true rfl⟩) (fun _ _ _ _ h => zvs_P h)) (zall (zcal_mono (zcalV (Y := YX0_stateBehind) (y := yX0_take) (cc := cX0_take) (nL := 4) (ret := some .int) (rm := rX0_take) (mX0_take) 55 3 0 (T := TX0) rfl wX0_55 ⟨by decide +kernel, by decide +kernel, by decide +kernel⟩ (by decide) ⟨Nat.le_of_ble_eq_true rfl, Nat.le_of_ble_eq_true rfl⟩) (fun _ _ _ _ h => zvs_P h)) (zall (zcal_mono (zcalV (Y := YX0_stateBehind) (y := yX0_stateBehindDraught) (cc := cX0_stateBehindDraught) (nL := 2) (ret := some .int) (rm := rX0_stateBehindDraught) (mX0_stateBehindDraught) 59 1 0 (T := TX0) rfl wX0_59 ⟨by decide +kernel, by decide +kernel, by decide +kernel⟩ (by decide) ⟨Nat.le_of_ble_eq_true rfl, Nat.le_of_ble_eq_true rfl⟩) (fun _ _ _ _ h => zvs_P h)) znil))) znil

theorem lX0_stateBehind (ok : zO) (ex : zX) (F : zF) (s c : Int32) (h : ok (some (.int (xSt F s c).1)) (xSt F s c).2) : zgo YX0_stateBehind ok ex zi0 (kX0_stateBehind.drop 10) 20 [some (.ref 0), some (.int s), some (.int c), none] [.int (xDig c)] 0 0 F := by
  unfold xSt at h
  have hl : ∀ {x y : Int32}, ¬ x < y → y ≤ x := fun z => Int32.not_lt.mp z
  refine And.intro (And.intro (fun hs => ?_) (And.intro (fun hs => ?_) (And.intro (fun hs => ?_) (And.intro (fun hs => ?_) (And.intro (fun hs => ?_) (And.intro (fun hs => ?_) (And.intro (fun hs => ?_) True.intro))))))) (fun hd => ?_)
  · have hs : s = 1 := hs.trans (by decide)
    rw [if_pos hs] at h
    refine And.intro (fun h1 => ?_) (fun h1 => And.intro (fun h2 => ?_) (fun h2 => ?_))
    · rw [if_pos (Or.inl h1), if_neg (by rw [h1]; decide)] at h
      exact And.intro (fun _ => h) (fun h3 => absurd (h1.symm.trans h3) (by decide))
    · rw [if_neg (fun q => q.elim h1 h2)] at h
      exact h
    · rw [if_pos (Or.inr h2), if_pos h2] at h
      exact And.intro (fun h3 => absurd h2 h3) (fun _ => h)
  · have hs : s = 2 := hs.trans (by decide)
    rw [if_neg (by rw [hs]; decide), if_pos hs] at h
    refine And.intro (fun h1 => ?_) (fun h1 => ?_)
    · rw [if_neg (Int32.not_le.mpr h1)] at h
      exact h
    · rw [if_pos (hl h1)] at h
      exact h
  · have hs : s = 3 := hs.trans (by decide)
    rw [if_neg (by rw [hs]; decide), if_neg (by rw [hs]; decide), if_pos hs] at h
    refine And.intro (fun h1 => ?_) (fun h1 => ?_)
    · rw [if_neg h1] at h
      exact h
    · rw [if_pos h1] at h
      exact h
  · have hs : s = 4 := hs.trans (by decide)
    rw [if_neg (by rw [hs]; decide), if_neg (by rw [hs]; decide), if_neg (by rw [hs]; decide), if_pos hs] at h
    refine And.intro (fun h1 => ?_) (fun h1 => ?_)
    · rw [if_neg (Int32.not_le.mpr h1)] at h
      exact h
    · rw [if_pos (hl h1)] at h
      exact h
  · have hs : s = 5 := hs.trans (by decide)
    rw [if_neg (by rw [hs]; decide), if_neg (by rw [hs]; decide), if_neg (by rw [hs]; decide), if_neg (by rw [hs]; decide), if_pos hs] at h
    refine And.intro (fun h1 => ?_) (fun h1 => ?_)
    · rw [if_neg (Int32.not_le.mpr h1)] at h
      exact h
    · rw [if_pos (hl h1)] at h
      exact h
  · have hs : s = 6 := hs.trans (by decide)
    rw [if_neg (by rw [hs]; decide), if_neg (by rw [hs]; decide), if_neg (by rw [hs]; decide), if_neg (by rw [hs]; decide), if_neg (by rw [hs]; decide), if_pos hs] at h
    exact h
  · have hs : s = 7 := hs.trans (by decide)
    rw [if_neg (by rw [hs]; decide), if_neg (by rw [hs]; decide), if_neg (by rw [hs]; decide), if_neg (by rw [hs]; decide), if_neg (by rw [hs]; decide), if_neg (by rw [hs]; decide), if_pos hs] at h
    refine And.intro (fun h1 => ?_) (fun h1 => And.intro (fun h2 => ?_) (fun h2 => ?_))
    · rw [if_neg (fun q => Int32.not_le.mpr h1 q.1)] at h
      exact h
    · rw [if_neg (fun q => Int32.not_le.mpr h2 q.2)] at h
      exact h
    · rw [if_pos ⟨hl h1, hl h2⟩] at h
      exact h
  · rw [if_neg (fun q => by rw [q] at hd; revert hd; decide), if_neg (fun q => by rw [q] at hd; revert hd; decide), if_neg (fun q => by rw [q] at hd; revert hd; decide), if_neg (fun q => by rw [q] at hd; revert hd; decide), if_neg (fun q => by rw [q] at hd; revert hd; decide), if_neg (fun q => by rw [q] at hd; revert hd; decide), if_neg (fun q => by rw [q] at hd; revert hd; decide)] at h
    refine And.intro (fun h1 => ?_) (fun h1 => ?_)
    · rw [if_neg h1] at h
      exact h
    · rw [if_pos h1] at h
      exact h

theorem mX0_stateBehind : zMet (UT) yX0_stateBehind cX0_stateBehind 4 (some .int) rX0_stateBehind (sX0_stateBehind) := by
  refine zmet (Y := YX0_stateBehind) rfl (by decide +kernel) ?_
  intro av F ok ex h
  unfold sX0_stateBehind at h
  split at h
  · rename_i s c
    refine zgo_ok (YX0_stateBehind_ok) zno kX0_stateBehind (List.all_eq_true.mp kX0_stateBehind_ok) 0 _ _ _ _ _ ?_
    have key := lX0_stateBehind ok ex F s c h
    unfold xDig at key
    refine And.intro (fun h1 => ?_) (fun h1 => And.intro (fun h2 => ?_) (fun h2 => ?_))
    · rw [if_pos h1] at key
      exact key
    · rw [if_neg h1, if_pos h2] at key
      exact key
    · rw [if_neg h1, if_neg h2] at key
      exact key
  · exact h.elim

def kX0_read : List zI := [
  (0, 1, .aload_n 0, [], 0),
  (1, 1, .iconst 0, [], 0),
  (2, 3, .putfield 36, [], 0),
  (5, 1, .iconst 1, [], 1),
  (6, 1, .istore_n 1, [], 0),
  (7, 1, .iconst 0, [], 0),
  (8, 1, .istore_n 2, [], 0),
  (9, 1, .iload_n 2, [], 0),
  (10, 1, .aload_n 0, [], 0),
  (11, 3, .getfield 32, [], 0),
  (14, 3, .if_icmp .ge 29, [43], 0),
  (17, 1, .aload_n 0, [], 0),
  (18, 1, .iload_n 1, [], 0),
  (19, 1, .aload_n 0, [], 0),
  (20, 3, .getfield 14, [], 0),
  (23, 1, .iload_n 2, [], 0),
  (24, 3, .invokevirtual 43, [], 0),
  (27, 3, .invokevirtual 47, [], 0),
  (30, 1, .istore_n 1, [], 0),
  (31, 1, .iload_n 1, [], 0),
  (32, 3, .ifCond .ne 5, [37], 0),
  (35, 1, .iload_n 2, [], 0),
  (36, 1, .ireturn, [], 0),
  (37, 3, .iinc 2 1, [], 1),
  (40, 3, .goto (-31), [9], 0),
  (43, 1, .iload_n 1, [], 0),
  (44, 1, .iconst 5, [], 5),
  (45, 3, .if_icmp .eq 15, [60], 0),
  (48, 1, .iload_n 1, [], 0),
  (49, 2, .bipush 6, [], 6),
  (51, 3, .if_icmp .eq 9, [60], 0),
  (54, 1, .iload_n 1, [], 0),
  (55, 2, .bipush 8, [], 8),
  (57, 3, .if_icmp .ne 7, [64], 0),
  (60, 1, .iconst 1, [], 1),
  (61, 3, .goto 4, [65], 0),
  (64, 1, .iconst 0, [], 0),
  (65, 1, .istore_n 2, [], 0),
  (66, 1, .iload_n 2, [], 0),
  (67, 3, .ifCond .eq 7, [74], 0),
  (70, 1, .iconst (-1), [], (-1)),
  (71, 3, .goto 7, [78], 0),
  (74, 1, .aload_n 0, [], 0),
  (75, 3, .getfield 32, [], 0),
  (78, 1, .ireturn, [], 0)]
theorem kX0_read_ok : kX0_read.all (zck cX0_read) = true := by decide +kernel

def rX0_read : Room := { frames := 3, cells := 0, slots := 0, locals := 68 }
abbrev YX0_read : zM := (RX0, cX0_read, 3, some .int, rX0_read, UT, zlk fX0, zcs [(43, 2, 0, 0, zvs (UT) 7 (sU_at UT)), (47, 3, 0, 0, zvs (UT) 0 (sX0_stateBehind))] [])
theorem YX0_read_ok : zYok (YX0_read) := zYok_of fX0_ok (zall (zcal_mono (zcalV (Y := YX0_read) (y := yX7_at) (cc := cX7_at) (nL := 2) (ret := some .int) (rm := rX7_at) (mU_at UT UT_small) 43 1 7 (T := TX7) rfl wX0_43 ⟨by decide +kernel, by decide +kernel, by decide +kernel⟩ (by decide) ⟨Nat.le_of_ble_eq_true rfl, Nat.le_of_ble_eq_true rfl⟩) (fun _ _ _ _ h => zvs_P h)) (zall (zcal_mono (zcalV (Y := YX0_read) (y := yX0_stateBehind) (cc := cX0_stateBehind) (nL := 4) (ret := some .int) (rm := rX0_stateBehind) (mX0_stateBehind) 47 2 0 (T := TX0) rfl wX0_47 ⟨by decide +kernel, by decide +kernel, by decide +kernel⟩ (by decide) ⟨Nat.le_of_ble_eq_true rfl, Nat.le_of_ble_eq_true rfl⟩) (fun _ _ _ _ h => zvs_P h)) znil)) znil

theorem lX0_read (ok : zO) (ex : zX) (N : Int32) : ∀ (d k : Nat) (F : zF) (s : Int32), k + d = N.toNatClampNeg → F 0 5 = N → ok (some (.int (xRd d k F s).1)) (xRd d k F s).2 → zWP YX0_read ok ex 9 [some (.ref 0), some (.int s), some (.int (nI k))] [] 0 0 F := by
  intro d
  induction d with
  | zero =>
    intro k F s hk hN h
    have hk : k = N.toNatClampNeg := hk
    refine zat_ok YX0_read_ok zno kX0_read (List.all_eq_true.mp kX0_read_ok) 9 _ _ _ _ _ ?_
    unfold xRd at h
    refine And.intro (fun _ => ?_) (fun h1 => absurd ?_ h1)
    · refine And.intro (fun h1 => ?_) (fun h1 => And.intro (fun h2 => ?_) (fun h2 => And.intro (fun h3 => ?_) (fun h3 => ?_)))
      · rw [if_pos (Or.inl h1)] at h
        exact And.intro (fun h0 => absurd h0 (by decide)) (fun _ => h)
      · rw [if_pos (Or.inr (Or.inl h2))] at h
        exact And.intro (fun h0 => absurd h0 (by decide)) (fun _ => h)
      · rw [if_neg (fun q => q.elim h1 (fun q => q.elim h2 h3))] at h
        exact And.intro (fun _ => h) (fun h0 => absurd rfl h0)
      · rw [if_pos (Or.inr (Or.inr h3))] at h
        exact And.intro (fun h0 => absurd h0 (by decide)) (fun _ => h)
    · show F 0 5 ≤ nI k
      rw [hN, hk]
      exact zcnt_ge _
  | succ d ih =>
    intro k F s hk hN h
    refine zat_ok YX0_read_ok (inv := zi1 9 (fun ls st kc ks G => zWP YX0_read ok ex 9 ls st kc ks G)) (zone fun _ _ _ _ _ h => h) kX0_read (List.all_eq_true.mp kX0_read_ok) 9 _ _ _ _ _ ?_
    refine And.intro (fun h1 => absurd (show N ≤ nI k by rw [← hN]; exact h1) (zcnt_lt (c := N) (k := k) (by omega))) (fun _ => ?_)
    have e : xRd (d + 1) k F s = if (xSt F s (zrd 50 (F 2) (nI k))).1 = 0 then (nI k, (xSt F s (zrd 50 (F 2) (nI k))).2) else xRd d (k + 1) (xSt F s (zrd 50 (F 2) (nI k))).2 (xSt F s (zrd 50 (F 2) (nI k))).1 := rfl
    rw [e] at h
    refine And.intro (fun h1 => ?_) (fun h1 => ?_)
    · have h1 : ¬ (xSt F s (zrd 50 (F 2) (nI k))).1 = 0 := h1
      rw [if_neg h1] at h
      have := ih (k + 1) _ _ (by omega) ((xSt_5 F s _).trans hN) h
      rw [← nI_1] at this
      exact this
    · have h1 : (xSt F s (zrd 50 (F 2) (nI k))).1 = 0 := h1
      rw [if_pos h1] at h
      exact h

theorem mX0_read : zMet (UT) yX0_read cX0_read 3 (some .int) rX0_read (sX0_read) := by
  refine zmet (Y := YX0_read) rfl (by decide +kernel) ?_
  intro av F ok ex h
  unfold sX0_read at h
  split at h
  · refine zgo_ok (YX0_read_ok) (inv := zi1 9 (fun ls st kc ks G => zWP YX0_read ok ex 9 ls st kc ks G)) (zone fun _ _ _ _ _ h => h) kX0_read (List.all_eq_true.mp kX0_read_ok) 0 _ _ _ _ _ ?_
    exact lX0_read ok ex (F 0 5) _ 0 (zup F 0 6 0) 1 (Nat.zero_add _) (zup_an _ _ _ (by decide)) h
  · exact h.elim

end ZTx
end
section
/-! 'throw new E(text)' -/
section ZTh
theorem zflags {l : Launch} (h : l.flags = flags0) : l.stackTraces = false := by
  unfold Launch.stackTraces
  rw [h]
  decide +kernel
def zhat (own : String) (ic : Nat) (E : String) (names : List String) : Bool := (vx_atS own ic E names).all (fun w => decide (w ∈ zts) || decide (w ∈ znw))
theorem zhat_ok {Y : zM} {own : String} {ic : Nat} {E : String} {names : List String} (h : zhat own ic E names = true) {p : Program} {l : Launch} {s : State} {m : MethodId} {args : Array Value} {meth : Method} {c : Code} {D : va_G} {cA : zT} {ad : Nat → Nat} (hC : zCtx Y p l s m args meth c D cA ad) : ∀ w ∈ vx_atS own ic E names, w.before args s = true := by
  obtain ⟨hx, hb, hrt, hml, hown, hts, hlocks, hout, hK, hZ, hinj, hfl⟩ := hC
  intro w hw
  have h1 := List.all_eq_true.mp h w hw
  simp only [Bool.or_eq_true] at h1
  rcases h1 with h1 | h1
  · exact hts w (of_decide_eq_true h1)
  · have h2 := of_decide_eq_true h1
    have h3 : zisN w = true := (List.mem_filter.mp h2).2
    have h4 := hK.2.1 w h2
    cases w <;> first | exact va_Nw.use rfl h4 | cases h3
theorem zthrow {Y : zM} {ok : zO} {ex : zX} {pc ik is ic : Nat} {E text : String} {names : List String} {ls : zL} {kc ks : Nat} {F : zF}
    (hs : (zMo Y, is, text) ∈ zstr) (hcls : Bundle.fit E = true) (hnames : ∀ n ∈ names, Bundle.fit n = true) (hw1 : Cond.classLink (zMo Y) ik E ∈ zts) (hw2 : Cond.initialized E ∈ zts) (hat : zhat (zMo Y) ic E names = true)
    (hgood : ∀ w ∈ Cond.classLink (zMo Y) ik E :: Cond.initialized E :: vx_atS (zMo Y) ic E names, vx_ot w = true)
    (d0 : decode (zMc Y) pc = .ok (.new ik, 3)) (d3 : decode (zMc Y) (pc + 3) = .ok (.dup, 1)) (d4 : decode (zMc Y) (pc + 4) = .ok (.ldc_w is, 3)) (d7 : decode (zMc Y) (pc + 7) = .ok (.invokespecial ic, 3)) (d10 : decode (zMc Y) (pc + 10) = .ok (.athrow, 1))
    (hfr : names.length + 3 < (zMr Y).frames) (hlo : 13 * (names.length + 1) + 43 ≤ (zMr Y).locals) (hkc : kc + 1 ≤ (zMr Y).cells) (hks : ks + 6 ≤ (zMr Y).slots) (h : ex E F) : zWP Y ok ex pc ls [] kc ks F := by
  intro p l e s m args below meth c D cA ad hC H locs lsl hP hS hl hln _ _
  have hat' := zhat_ok hat hC
  obtain ⟨hx, hb, hrt, hml, hown, hts, hlocks, hout, hK, hZ, hinj, hfl⟩ := id hC
  obtain ⟨sa, hsa⟩ := hK.2.2 _ hs
  exact vx_throwSW (A := zA (zMu Y) ad s.heap.size) (text := text) (sa := sa) hx hb (zflags hfl) hown hcls hnames (hts _ hw1) (hts _ hw2) hsa hat' hgood hZ.1 hZ.2 hS (hl.1.trans hml.symm) d0 d3 d4 d7 d10
    (fun x hx => (hout x hx).elim) hfr (by simpa using hlo) hkc hks hlocks
    (fun t hal hsz hq => ⟨⟨F, h, hP.kept fun k q hk => hq q.1 ((hP k q hk).lt)⟩, Nat.le_trans hS.1 hsz, fun q h1 h2 => by rw [hq q (Nat.lt_of_lt_of_le h1 hS.1)]; exact hS.2.1 q h1 h2⟩) hS.2.2 hkc hks
end ZTh
end
section
/-! a throw whose class's own constructor has its link elsewhere than at 7 (NoSuchElementException: at 13) -/
section ZT13
def zow (own : String) (ic : Nat) (X Y : String) (names : List String) (ix : Nat) (bytes : ByteArray) : List Cond := Bundle.throwableAtoms ++ (Bundle.throwableSAtoms ++ (Bundle.passSAtoms X Y ix bytes ++ (Bundle.chainSAtoms Y names ++
  [.methodLink own ic (Bundle.initS X), .instantiable X 6, .castable X X, .selects X Bundle.tFill0 Bundle.tFill0, .selects X Bundle.tFill Bundle.tFill, .lays X Bundle.tN "cause" "Ljava/lang/Throwable;", .lays X Bundle.tN "stackTrace" Bundle.steD, .lays X Bundle.tN "suppressedExceptions" Bundle.listD,
   .lays X Bundle.tN "detailMessage" "Ljava/lang/String;", .lays X Bundle.tN "backtrace" "Ljava/lang/Object;", .lays Bundle.tN Bundle.tN "backtrace" "Ljava/lang/Object;", .fieldLink Bundle.tN 198 Bundle.tN "backtrace" "Ljava/lang/Object;", .isRef (.static Bundle.tN "UNASSIGNED_STACK" Bundle.steD), .isRef (.static Bundle.tN "SUPPRESSED_SENTINEL" Bundle.listD)])))
def zowF (own : String) (ic : Nat) (X Y : String) (names : List String) (ix : Nat) (bytes : ByteArray) : List Cond := (zow own ic X Y names ix bytes).filter vx_no
section
variable {p : Program} {l : Launch} {e : Env} {R : Room} {s : State} {m₀ : MethodId} {args : Array Value} {below : List Frame} {meth : Method} {c : Code} {W : State} {locs : List Loc} {cells slots : Nat}
set_option maxHeartbeats 1000000 in
theorem zctor (X : Stand p l e R s m₀ args below meth c W locs cells slots) (hexec : p.tables.exec = Jvm.exec) (htr : e.platform.stackTraces = false) {own cls Y : String} {names : List String} {ic ix : Nat} {bytes : ByteArray}
    (hown : s.vm.findClass own = some m₀.cls) (hcls : Bundle.fit cls = true) (hY : Bundle.fit Y = true) (hnames : ∀ n ∈ names, Bundle.fit n = true)
    (b0 : decode bytes 0 = .ok (.aload_n 0, 1)) (b1 : decode bytes 1 = .ok (.aload_n 1, 1)) (b2 : decode bytes 2 = .ok (.invokespecial ix, 3)) (b5 : decode bytes 5 = .ok (.return_, 1))
    (h : ∀ a ∈ zow own ic cls Y names ix bytes, a.before args s = true)
    (hlocs : ∀ x ∈ locs, ∀ cell, s.heap[x.base]? = some cell → cell.vm.isStatics = false)
    {a : Addr} {cX : ClassId} {kX : Class} (hfX : s.vm.findClass cls = some cX) (hkX : s.vm.classes[cX]? = some kX) (hcell : W.heap[a]? = some (freshCell cX kX)) (hnew : s.heap.size ≤ a)
    {msg : Value} (hmsg : msg.isRef = true)
    {g : JFrame} (hg : g.method = m₀) (hsize : g.locals.size = c.maxLocals) (hlk : g.locked = none) (hen : g.entered = []) {rest : List Value} (hst : g.stack = msg :: .ref a :: .ref a :: rest)
    (hd6 : decode c.code g.pc = .ok (.invokespecial ic, 3)) (hd9 : decode c.code (g.pc + 3) = .ok (.athrow, 1)) (hout : ∀ x ∈ c.exceptionTable.toList, covers x (g.pc + 3) = false)
    (hRf : names.length + 4 < R.frames) (hRl : 2 * g.monitorRoom + ((Value.ref a :: rest).map fun v => v.category).sum + (13 * (names.length + 2) + 42) ≤ R.locals) (hlocks : meth.locks = false) :
    ∃ U : State, Steps p.tables e below (W.setTop g) U ∧ U.status = .running ∧ Ended U below (.threw a) ∧ s.WarmedH U.vm ∧ s.sameButNew ({ U with vm := s.vm } : State) locs cells slots ∧
      ∃ ce, U.heap[a]? = some ce ∧ s.vm.findClass cls = some ce.cls ∧ ce.vm = .none := by
  have howns : e.platform.frameOwnsMonitors = true := by rw [X.admits.platform]
  have hfin : e.platform.finalization = false := by rw [X.admits.platform]
  have hpl : e.platform.magicAccessors = ({} : Platform).magicAccessors := by rw [X.admits.platform]
  obtain ⟨T, Z0, L, -, Yy⟩ := ThrowableC.of_atoms (args := args) howns hfin hpl (fun x hx => h x (by simp [zow, hx]))
  obtain ⟨Z, M, LZ, LM, hnZ⟩ := Init0T.ofS_atoms (args := args) hpl L Yy (fun x hx => h x (by simp [zow, hx]))
  obtain ⟨P2, Ps, hlen, L2, hL, hP2m, hlink2, hlink⟩ := Bundle.chainS (args := args) hpl hnZ names Y hY hnames (fun x hx => h x (by simp [zow, hx]))
  obtain ⟨P1, L1, hP1m, hP1s⟩ := PassC.ofS_atoms (args := args) (s := s) hpl (X := cls) (Y := Y) (Bundle.fit_spec hcls).1 (Bundle.fit_spec hY).2 b0 b1 b2 b5 (fun x hx => h x (by simp [zow, hx]))
  have hsup : P1.sup = P2.m := Option.some.inj (hP1s.symm.trans hP2m)
  have hfound : s.vm.findClass cls = some P1.m.cls := findClass_of_methodNamed hP1m
  cases Option.some.inj (hfX.symm.trans hfound)
  obtain ⟨c1, kX', hc1, hk, hord, -, -, hn6⟩ := Cond.instantiable_spec (h (.instantiable cls 6) (by simp [zow]))
  cases Option.some.inj (hc1.symm.trans hfound)
  cases Option.some.inj (hkX.symm.trans hk)
  have hsel0 : selectMethod e.platform s.vm P1.m.cls T.fill0 = .method T.fill0 := by
    obtain ⟨c2, r2, m2, q1, q2, q3, q4, -⟩ := Cond.selects_spec (h (.selects cls Bundle.tFill0 Bundle.tFill0) (by simp [zow]))
    cases Option.some.inj (q1.symm.trans hfound)
    cases Option.some.inj (q2.symm.trans (State.methodFound?_of_named Yy.fill0 (by decide)))
    cases Option.some.inj (q3.symm.trans Yy.fill0)
    rw [Launch.admits_selectMethod X.admits]; exact q4
  have hselF : selectMethod e.platform s.vm P1.m.cls T.fill = .method T.fill := by
    obtain ⟨c2, r2, m2, q1, q2, q3, q4, -⟩ := Cond.selects_spec (h (.selects cls Bundle.tFill Bundle.tFill) (by simp [zow]))
    cases Option.some.inj (q1.symm.trans hfound)
    cases Option.some.inj (q2.symm.trans (State.methodFound?_of_named Yy.fill (by decide)))
    cases Option.some.inj (q3.symm.trans Yy.fill)
    rw [Launch.admits_selectMethod X.admits]; exact q4
  obtain ⟨cellS0, hcS0, hiss⟩ := Yy.statics
  obtain ⟨u0, hu0⟩ := Cond.staticRefV Yy.unassigned L.unassignedStatic L.statics hcS0 hiss (h (.isRef (.static Bundle.tN "UNASSIGNED_STACK" Bundle.steD)) (by simp [zow]))
  obtain ⟨sen, hsen⟩ := Cond.staticRefV Yy.sentinel L.sentinelStatic L.statics hcS0 hiss (h (.isRef (.static Bundle.tN "SUPPRESSED_SENTINEL" Bundle.listD)) (by simp [zow]))
  obtain ⟨ci198, i198, fB, hk198, hg198, ha198, hsB, -, hnB, htB, hffB⟩ := Cond.ownField (t := .object "java/lang/Object") Yy.found L.cls (by decide +kernel) (h (.fieldLink Bundle.tN 198 Bundle.tN "backtrace" "Ljava/lang/Object;") (by simp [zow])) (h (.lays Bundle.tN Bundle.tN "backtrace" "Ljava/lang/Object;") (by simp [zow])) e.platform hpl
  obtain ⟨cellS, hcS', heS, -, hkeep⟩ := X.same.2.2.2.2.2 T.aS cellS0 hcS0
  have hcellS : W.heap[T.aS]? = some cellS := hcS'
  have hout' : ∀ i, (⟨T.aS, i⟩ : Loc) ∉ locs := fun i hmem => by
    have := hlocs _ hmem cellS0 hcS0
    rw [hiss] at this; cases this
  have hknownS : cellS.vm ≠ .unknown := by
    rw [heS]; intro hu
    rw [show cellS0.vm = .unknown from hu] at hiss
    cases hiss
  have hneS : T.aS ≠ a := Nat.ne_of_lt (Nat.lt_of_lt_of_le (Array.getElem?_eq_some_iff.mp hcS0).1 hnew)
  obtain ⟨iM, hffM⟩ := Yy.msg
  obtain ⟨tyC, dC, hdC, hdnC⟩ := Cond.laysAt hfound hk Yy.cause (h (.lays cls Bundle.tN "cause" "Ljava/lang/Throwable;") (by simp [zow]))
  obtain ⟨tyS, dS, hdS, hdnS⟩ := Cond.laysAt hfound hk Yy.stack (h (.lays cls Bundle.tN "stackTrace" Bundle.steD) (by simp [zow]))
  obtain ⟨tyP, dP, hdP, hdnP⟩ := Cond.laysAt hfound hk Yy.supp (h (.lays cls Bundle.tN "suppressedExceptions" Bundle.listD) (by simp [zow]))
  obtain ⟨tyM, dM, hdM, hdnM⟩ := Cond.laysAt hfound hk hffM (h (.lays cls Bundle.tN "detailMessage" "Ljava/lang/String;") (by simp [zow]))
  obtain ⟨tyB, dB, hdB, hdnB⟩ := Cond.laysAt hfound hk hffB (h (.lays cls Bundle.tN "backtrace" "Ljava/lang/Object;") (by simp [zow]))
  have bC := Cond.laysApart hdB hdC hdnB hdnC (by rw [hnB, Yy.causeName]; decide)
  have bS := Cond.laysApart hdB hdS hdnB hdnS (by rw [hnB, Yy.stackName]; decide)
  have bP := Cond.laysApart hdB hdP hdnB hdnP (by rw [hnB, Yy.suppName]; decide)
  have hskip : SkipFacts T e.platform s (fun u => u) u0 ((preparedCellV T.toThrowableT (freshCell P1.m.cls kX) a u0 sen).withEntry W.cur) :=
    ⟨{ ci198 := ci198, i198 := i198, fBack := fB }, ⟨hk198, hg198, ha198, hsB⟩, by
      have := fresh_default (c := P1.m.cls) tyB
      rw [htB] at this
      simpa [preparedCellV, Cell.setSlot, Cell.withEntry, Array.getElem?_setIfInBounds, bC, bS, bP, bC.symm, bS.symm, bP.symm, defaultValue] using this, fun _ _ => rfl⟩
  obtain ⟨tm, methC, cdC, kC, vm₁, hnC, -, -, -, -, -, -, -, hW₁, st1⟩ := Steps.initColdS (tb := p.tables) (e := e) (below := below) (s := s) (U := W) X.here hexec X.warmed hpl hown (t := Bundle.initS cls) rfl rfl (Bundle.fit_spec hcls).2
    (h (.methodLink own ic (Bundle.initS cls)) (by simp [zow])) (h (.instanceMethod (Bundle.initS cls)) (by simp [zow, Bundle.passSAtoms])) (bytes := bytes) (maxL := 2) (h (.code (Bundle.initS cls) bytes 2 none) (by simp [zow, Bundle.passSAtoms]))
    (f := g) hg (a := a) (msg := msg) (rest := .ref a :: rest) hst hd6
  cases Option.some.inj (hnC.symm.trans hP1m)
  have X₁ := X.noted hW₁
  obtain ⟨vm₂, X₂, st2⟩ := X₁.ctorMessageOffV hexec (g := { g with stack := .ref a :: rest }) hg hsize T L Z LZ M LM (P1 :: P2 :: Ps)
    (fun P hP => by rcases List.mem_cons.mp hP with rfl | hP; exact L1; rcases List.mem_cons.mp hP with rfl | hP; exact L2; exact hL P hP) ⟨hsup, hlink2, hlink⟩ (u0 := u0) (sen := sen) (self := a) hmsg (cell := freshCell P1.m.cls kX) (cellS := cellS)
    hcell (fun _ => by simp) (by simp) rfl rfl hsel0 hselF hcellS hneS hknownS (by rw [hkeep _ (hout' _)]; exact hu0) (by rw [hkeep _ (hout' _)]; exact hsen)
    (Takes.of_laid hk hord tyC (by rw [Yy.causeType]; rfl)) (Takes.of_laid hk hord tyS (by rw [Yy.stackType]; exact fits_refV_array _ u0)) (Takes.of_laid hk hord tyP (by rw [Yy.suppType]; exact fits_refV_object _ sen))
    (Takes.of_laid hk hord tyM (by rw [Yy.msgType]; exact fits_refV_object _ ⟨msg, hmsg⟩)) Yy.objLocals hskip htr [] hd6
    (by simp only [List.length_cons, hlen]; omega) (by simp only [List.length_cons, hlen]; exact hRl)
  obtain ⟨hwalk, hrun, hended, hWU, hsame⟩ := X₂.athrowLeaves hexec (g := { g with stack := .ref a :: rest, pc := g.pc + 3 }) hg hlk hen hout (a := a) (rest := rest) rfl hd9
  have hlt : a < ((W.setVm vm₁).setVm vm₂).heap.size := (Array.getElem?_eq_some_iff.mp hcell).1
  have hU := heapAt_setCell_self (s := (W.setVm vm₁).setVm vm₂) (plainBareV T.toThrowableT (freshCell P1.m.cls kX) a u0 sen msg) hlt
  refine ⟨_, st1 _ (fun acts => ?_), hrun, hended, hWU, hsame.weaken (fun y hy hlt' => ?_) (Nat.le_refl _) (Nat.le_refl _), _, hU, hfound, rfl⟩
  · rw [doInvoke_state]
    exact st2 _ hwalk
  · rcases List.mem_append.mp hy with h1 | h1
    · exact h1
    · exfalso
      have hb : y.base = a := by
        simp only [List.mem_cons, List.not_mem_nil, or_false] at h1
        rcases h1 with rfl | rfl | rfl | rfl | rfl <;> rfl
      rw [hb] at hlt'
      exact Nat.not_lt.mpr hnew hlt'
end
section
variable {p : Program} {l : Launch} {e : Env} {R : Room} {s : State} {m : MethodId} {args : Array Value} {below : List Frame} {meth : Method} {c : Code} {H : Heap} {locs : List Loc} {cells slots : Nat} {Q : State → Prop}
variable {mc ms : Nat} {free : Addr → Prop} {A0 A1 : Nat → Prop} {H0 : Heap} {a : Array Value} {ls : Array Slot} {st0 rest : List Value}
variable {Qc : Array Value → State → Outcome → State → Prop} {XC : String → State → State → Prop}
theorem zthrowX {cc : ByteArray} {pc : Nat} (hexec : p.tables.exec = Jvm.exec) (hb : c.code = cc) (hl : l.stackTraces = false) {own cls text : String} {names : List String} {ik is ic mc ms sa : Nat} {A : Nat → Prop}
    (hown : s.vm.findClass own = some m.cls) (hcls : Bundle.fit cls = true) {Y : String} {ix : Nat} {bytes : ByteArray} (hY : Bundle.fit Y = true) (b0 : decode bytes 0 = .ok (.aload_n 0, 1)) (b1 : decode bytes 1 = .ok (.aload_n 1, 1)) (b2 : decode bytes 2 = .ok (.invokespecial ix, 3)) (b5 : decode bytes 5 = .ok (.return_, 1)) (hnames : ∀ n ∈ names, Bundle.fit n = true)
    (hk : (Cond.classLink own ik cls).before args s = true) (hini : (Cond.initialized cls).before args s = true) (hstr : vk_R own is text sa s) (hat : ∀ w ∈ zowF own ic cls Y names ix bytes, w.before args s = true)
    (hgood : ∀ w ∈ Cond.classLink own ik cls :: Cond.initialized cls :: zowF own ic cls Y names ix bytes, vx_ot w = true)
    (hU : vx_Zq Bundle.tN "UNASSIGNED_STACK" Bundle.steD A s s.heap) (hN : vx_Zq Bundle.tN "SUPPRESSED_SENTINEL" Bundle.listD A s s.heap) (hS : va_S A s.heap H locs) (hsize : ls.size = c.maxLocals)
    (d0 : decode cc pc = .ok (.new ik, 3)) (d3 : decode cc (pc + 3) = .ok (.dup, 1)) (d4 : decode cc (pc + 4) = .ok (.ldc_w is, 3)) (d7 : decode cc (pc + 7) = .ok (.invokespecial ic, 3)) (d10 : decode cc (pc + 10) = .ok (.athrow, 1))
    (hout : ∀ x ∈ c.exceptionTable.toList, covers x (pc + 10) = false)
    (hRframes : names.length + 4 < R.frames) (hRlocals : (rest.map fun v => v.category).sum + (13 * (names.length + 2) + 43) ≤ R.locals) (hRcells : cells + 1 ≤ R.cells) (hRslots : slots + 6 ≤ R.slots) (hlocks : meth.locks = false)
    (hx : ∀ t : State, s.vm.Alike t.vm → H.size ≤ t.heap.size → (∀ q : Nat, q < H.size → t.heap[q]? = H[q]?) → XC cls s t)
    (hf : ∀ z ∈ locs, free z.base) (hc : cells + 1 ≤ mc) (hs : slots + 6 ≤ ms) :
    W p l e R s m args below meth c H locs cells slots (vx_MQ below Qc XC args s mc ms free) (F0 m pc ls rest) := by
  intro T hT X
  have htr : e.platform.stackTraces = false := (show e.platform.stackTraces = l.stackTraces by rw [X.admits.platform]).trans hl
  have Z9 := vx_rebase X (R' := { frames := R.frames, locals := R.locals, cells := 1, slots := 6 }) (Nat.le_refl _) (Nat.le_refl _) hRcells hRslots
  obtain ⟨s', hA⟩ : ∃ z, z = (T.setVm s.vm).setFrames (.invoking m args :: below) := ⟨_, rfl⟩
  rw [← hA] at Z9
  have hvm : s'.vm = s.vm := by rw [hA]; rfl
  have hhp : s'.heap = H := by rw [hA]; exact hT
  have hW0 : s.WarmedH s'.vm := by rw [hvm]; exact State.WarmedH.refl s
  have hat' : ∀ w ∈ zowF own ic cls Y names ix bytes, w.before args s' = true := fun w hw => vx_ot_at hW0 hvm.symm (hgood w (List.mem_cons_of_mem _ (List.mem_cons_of_mem _ hw))) (hat w hw)
  have hk' : (Cond.classLink own ik cls).before args s' = true := vx_ot_at hW0 hvm.symm (hgood _ List.mem_cons_self) hk
  have hini' : (Cond.initialized cls).before args s' = true := vx_ot_at hW0 hvm.symm (hgood _ (List.mem_cons_of_mem _ List.mem_cons_self)) hini
  have hU' : vx_Zq Bundle.tN "UNASSIGNED_STACK" Bundle.steD A s' s'.heap := by rw [hhp]; exact vx_Zq.moved hW0.alike (hU.kept hS.2.1)
  have hN' : vx_Zq Bundle.tN "SUPPRESSED_SENTINEL" Bundle.listD A s' s'.heap := by rw [hhp]; exact vx_Zq.moved hW0.alike (hN.kept hS.2.1)
  have h : ∀ w ∈ zow own ic cls Y names ix bytes, w.before args s' = true := vx_own hat' (vx_isRefq hU'.1) (vx_isRefq hN'.1) hU'.2.word hN'.2.word
  have hown' : s'.vm.findClass own = some m.cls := by rw [hvm]; exact hown
  have hins : (Cond.instantiable cls 6).before args s' = true := h _ (by simp [zow])
  obtain ⟨vm₁, cX, kX, hfX, hkX, -, -, X₁, st1⟩ := Z9.newCold hexec (own := own) (C := cls) (index := ik) (n := 6) hown' hk' hins hini'
    (g := F0 m pc ls rest) rfl (by rw [hb]; exact d0) (Nat.le_refl _) (Nat.le_refl _)
  generalize hT1 : (T.setVm vm₁).pushCell { cls := cX, slots := kX.instanceTypes.map defaultValue, vm := .none } = T1 at X₁ st1
  have hcat : (Value.ref T.heap.size).category = 1 := rfl
  have hcellA : T1.heap[T.heap.size]? = some (freshCell cX kX) := by rw [← hT1]; exact State.heap_pushCell_size _ _
  have d3' : decode c.code (pc + 3) = .ok (.dup, 1) := by rw [hb]; exact d3
  have d4' : decode c.code (pc + 4) = .ok (.ldc_w is, 3) := by rw [hb]; exact d4
  have hstr' : vk_R own is text sa s' := vk_R.warm hW0 hstr
  obtain ⟨U, hsteps, hrun, hend, hW, hsame, ce, hce, hO⟩ := zctor X₁ hexec htr (own := own) (cls := cls) (Y := Y) (names := names) (ix := ix) (bytes := bytes) (ic := ic) hown' hcls hY hnames b0 b1 b2 b5 h (fun x hx => nomatch hx) hfX hkX hcellA (by rw [hhp, hT]; exact Nat.le_refl _) (msg := .ref sa) rfl
    (g := { method := m, pc := pc + 7, locals := ls, stack := .ref sa :: .ref T.heap.size :: .ref T.heap.size :: rest, locked := none }) rfl hsize rfl rfl (rest := rest) rfl
    (by rw [hb]; exact d7) (by rw [hb]; exact d10) hout hRframes (by simp only [List.map_cons, List.sum_cons, hcat]; omega) hlocks
  obtain ⟨f1, f2⟩ := vx_frame hsame
  rw [hhp] at f1 f2
  have hWs : s.WarmedH U.vm := State.WarmedH.trans hW0 hW
  have hcl : s.vm.findClass cls = some ce.cls := by
    have h9 := hO.1
    rw [hvm] at h9
    exact h9
  have hall : s.sameButNew ({ U with vm := s.vm } : State) locs mc ms := by
    subst hA
    obtain ⟨e1, e2⟩ := hsame
    rw [State.setFrames_setFrames] at e1
    have h2 : (T.setVm s.vm).sameButNew ({ U with vm := s.vm } : State) [] (0 + 1) (0 + 6) := ⟨e1, e2⟩
    have h3 := X.same.trans h2
    rw [List.append_nil] at h3
    exact h3.mono hc hs
  refine ⟨U, ?_, .threw T.heap.size, hrun, hend, Or.inr ⟨T.heap.size, rfl, cls, ce, locs, hx U hWs.alike f1 (fun q hq => f2 q hq (fun z hz => nomatch hz)), hce, hO.2, hcl, hWs, hall, hf⟩⟩
  refine st1 _ ?_
  show Steps p.tables e below (T1.setTop { method := m, pc := pc + 3, locals := ls, stack := .ref T.heap.size :: rest, locked := none }) _
  jvm_step X₁.here [X₁.here.top, hexec, d3', Value.category]
  exact X₁.ldcStringW hexec (own := own) (text := text) (index := is) (a := sa) hown' hstr'.1 hstr'.2
    (g := { method := m, pc := pc + 4, locals := ls, stack := .ref T.heap.size :: .ref T.heap.size :: rest, locked := none }) rfl d4' _ hsteps
end
def zhatX (own : String) (ic : Nat) (E Y : String) (names : List String) (ix : Nat) (bytes : ByteArray) : Bool := (zowF own ic E Y names ix bytes).all (fun w => decide (w ∈ zts) || decide (w ∈ znw))
theorem zhatX_ok {Ym : zM} {own : String} {ic : Nat} {E Y : String} {names : List String} {ix : Nat} {bytes : ByteArray} (h : zhatX own ic E Y names ix bytes = true) {p : Program} {l : Launch} {s : State} {m : MethodId} {args : Array Value} {meth : Method} {c : Code} {D : va_G} {cA : zT} {ad : Nat → Nat} (hC : zCtx Ym p l s m args meth c D cA ad) : ∀ w ∈ zowF own ic E Y names ix bytes, w.before args s = true := by
  obtain ⟨hx, hb, hrt, hml, hown, hts, hlocks, hout, hK, hZ, hinj, hfl⟩ := hC
  intro w hw
  have h1 := List.all_eq_true.mp h w hw
  simp only [Bool.or_eq_true] at h1
  rcases h1 with h1 | h1
  · exact hts w (of_decide_eq_true h1)
  · have h2 := of_decide_eq_true h1
    have h3 : zisN w = true := (List.mem_filter.mp h2).2
    have h4 := hK.2.1 w h2
    cases w <;> first | exact va_Nw.use rfl h4 | cases h3
theorem zthrow13 {Y : zM} {ok : zO} {ex : zX} {pc ik is ic : Nat} {E E' text : String} {names : List String} {ix : Nat} {bytes : ByteArray} {ls : zL} {kc ks : Nat} {F : zF}
    (hs : (zMo Y, is, text) ∈ zstr) (hcls : Bundle.fit E = true) (hcls' : Bundle.fit E' = true) (hnames : ∀ n ∈ names, Bundle.fit n = true) (b0 : decode bytes 0 = .ok (.aload_n 0, 1)) (b1 : decode bytes 1 = .ok (.aload_n 1, 1)) (b2 : decode bytes 2 = .ok (.invokespecial ix, 3)) (b5 : decode bytes 5 = .ok (.return_, 1))
    (hw1 : Cond.classLink (zMo Y) ik E ∈ zts) (hw2 : Cond.initialized E ∈ zts) (hat : zhatX (zMo Y) ic E E' names ix bytes = true)
    (hgood : ∀ w ∈ Cond.classLink (zMo Y) ik E :: Cond.initialized E :: zowF (zMo Y) ic E E' names ix bytes, vx_ot w = true)
    (d0 : decode (zMc Y) pc = .ok (.new ik, 3)) (d3 : decode (zMc Y) (pc + 3) = .ok (.dup, 1)) (d4 : decode (zMc Y) (pc + 4) = .ok (.ldc_w is, 3)) (d7 : decode (zMc Y) (pc + 7) = .ok (.invokespecial ic, 3)) (d10 : decode (zMc Y) (pc + 10) = .ok (.athrow, 1))
    (hfr : names.length + 4 < (zMr Y).frames) (hlo : 13 * (names.length + 2) + 43 ≤ (zMr Y).locals) (hkc : kc + 1 ≤ (zMr Y).cells) (hks : ks + 6 ≤ (zMr Y).slots) (h : ex E F) : zWP Y ok ex pc ls [] kc ks F := by
  intro p l e s m args below meth c D cA ad hC H locs lsl hP hS hl hln _ _
  have hat' := zhatX_ok hat hC
  obtain ⟨hx, hb, hrt, hml, hown, hts, hlocks, hout, hK, hZ, hinj, hfl⟩ := id hC
  obtain ⟨sa, hsa⟩ := hK.2.2 _ hs
  exact zthrowX (A := zA (zMu Y) ad s.heap.size) (text := text) (sa := sa) hx hb (zflags hfl) hown hcls hcls' b0 b1 b2 b5 hnames (hts _ hw1) (hts _ hw2) hsa hat' hgood hZ.1 hZ.2 hS (hl.1.trans hml.symm) d0 d3 d4 d7 d10
    (fun x hx => (hout x hx).elim) hfr (by simpa using hlo) hkc hks hlocks
    (fun t hal hsz hq => ⟨⟨F, h, hP.kept fun k q hk => hq q.1 ((hP k q hk).lt)⟩, Nat.le_trans hS.1 hsz, fun q h1 h2 => by rw [hq q (Nat.lt_of_lt_of_le h1 hS.1)]; exact hS.2.1 q h1 h2⟩) hS.2.2 hkc hks
end ZT13
end
section
/-! the world of a LockMaster: canals at 0 (now), 45 (forecast), 90 (snapshot), 135 .. 450 (kept); 495 itself, 496 Changes, 497 its row of canals, 498 the text -/
section ZL0
def lM : List zS := [(0, 8, [some 0, some 45, some 90, some 496, some 498, none, none, none]), (0, 2, [some 497, none, none]), (3, 8, [some 135, some 180, some 225, some 270, some 315, some 360, some 405, some 450])]
def ULM : zU := (509, fun k => match Nat.blt k 495 with
  | true => zren (fun j => 45 * (k / 45) + j) ((znth lC (k % 45)).getD (1, 0, []))
  | false => match Nat.blt k 498 with
    | true => (znth lM (k - 495)).getD (1, 0, [])
    | false => zren (fun j => 498 + j) ((znth lT (k - 498)).getD (1, 0, [])))
theorem ULM_small : zsmall ULM := by
  have h : ∀ k, k < 509 → (ULM.2 k).2.1 < 2 ^ 31 := by decide +kernel
  exact h
theorem zemb_C : ∀ c, c < 11 → zemb UC ULM (fun k => 45 * c + k) := by
  intro c hc
  have h : ∀ c, c < 11 → ∀ k, k < 45 → ULM.2 (45 * c + k) = zren (fun j => 45 * c + j) (UC.2 k) := by decide +kernel
  refine ⟨fun k hk => ?_, fun i j _ _ e => ?_, h c hc⟩
  · have hk : k < 45 := hk
    show 45 * c + k < 509
    omega
  · have e : 45 * c + i = 45 * c + j := e
    omega
theorem zemb_T : zemb UT ULM (fun k => 498 + k) := by
  have h : ∀ k, k < 11 → ULM.2 (498 + k) = zren (fun j => 498 + j) (UT.2 k) := by decide +kernel
  refine ⟨fun k hk => ?_, fun i j _ _ e => ?_, h⟩
  · have hk : k < 11 := hk
    show 498 + k < 509
    omega
  · have e : 498 + i = 498 + j := e
    omega
def zem2 (c c' : Nat) : Nat → Nat := fun k => if k < 45 then 45 * c + k else 45 * c' + (k - 45)
theorem zemb_2 : ∀ c, c < 11 → ∀ c', c' < 11 → c ≠ c' → zemb UC2 ULM (zem2 c c') := by
  intro c hc c' hc' hne
  have h : ((List.range 11).all fun c => (List.range 11).all fun c' => (List.range 90).all fun k => decide (ULM.2 (zem2 c c' k) = zren (zem2 c c') (UC2.2 k))) = true := by decide +kernel
  refine ⟨fun k hk => ?_, fun i j hi hj e => ?_, fun k hk => of_decide_eq_true (List.all_eq_true.1 (List.all_eq_true.1 (List.all_eq_true.1 h c (List.mem_range.2 hc)) c' (List.mem_range.2 hc')) k (List.mem_range.2 hk))⟩
  · have hk : k < 90 := hk
    show zem2 c c' k < 509
    unfold zem2
    split <;> omega
  · have hi : i < 90 := hi
    have hj : j < 90 := hj
    unfold zem2 at e
    split at e <;> split at e <;> omega
theorem zv_id (v : Value) : zv (fun k => k) v = v := by cases v <;> rfl
theorem zmap_id (as : List Value) : as = as.map (zv fun k => k) := by
  induction as with
  | nil => rfl
  | cons v r ih => rw [List.map_cons, zv_id, ← ih]
/-- what the first canal's methods do stays in its cells -/
def zfr (sp : zSp) : Prop := ∀ as F ok ex, sp as F ok ex → sp as F (fun q G => ok q G ∧ ∀ j, 45 ≤ j → G j = F j) (fun _ _ => False)
theorem zlift0 {y : MethodName} {cc : ByteArray} {nL : Nat} {ret : Option FieldType} {rm : Room} {sp : zSp} (hM : zMet UC y cc nL ret rm sp) (hf : zfr sp) : zMet ULM y cc nL ret rm sp := by
  have he : zemb UC ULM (fun k => k) := by
    have := zemb_C 0 (by decide)
    simpa using this
  refine zlift hM (fun as F ok ex h => ⟨fun k => k, as, _, _, he, zmap_id as, hf as F ok ex h, fun q F' e => ⟨F', ⟨fun _ _ => rfl, fun j hj => e.2 j ?_⟩, ?_⟩, fun _ _ e => e.elim⟩)
  · rcases Nat.lt_or_ge j 45 with h1 | h1
    · exact absurd rfl (hj j h1)
    · exact h1
  · cases q with
    | none => exact e.1
    | some v => rw [Option.map_some, zv_id]; exact e.1
def vw (b : Nat) (F : zF) : zF := fun k => F (b + k)
def spl (b n : Nat) (F G : zF) : zF := fun j => if b ≤ j ∧ j < b + n then G (j - b) else F j
theorem spl_in (b n : Nat) (F G : zF) {k : Nat} (h : k < n) : spl b n F G (b + k) = G k := by
  unfold spl
  rw [if_pos ⟨by omega, by omega⟩]
  congr 1
  omega
theorem spl_out (b n : Nat) (F G : zF) {j : Nat} (h : j < b ∨ b + n ≤ j) : spl b n F G j = F j := by
  unfold spl
  rw [if_neg (by omega)]
theorem zspl_sh {U' : zU} (b : Nat) (F G : zF) : zspl U' (fun k => b + k) F G (spl b U'.1 F G) := by
  refine ⟨fun k hk => spl_in b _ F G hk, fun j hj => spl_out b _ F G ?_⟩
  rcases Nat.lt_or_ge j b with h | h
  · exact Or.inl h
  · rcases Nat.lt_or_ge j (b + U'.1) with h2 | h2
    · exact absurd (show b + (j - b) = j by omega) (hj (j - b) (by omega))
    · exact Or.inr h2

theorem qMkS_o (F : zF) (s d r b : Int32) {k : Nat} (h : 45 ≤ k) : qMkS F s d r b k = F k := by
  unfold qMkS
  simp only [zup_ne _ _ _ (show k ≠ 25 by omega), zwr_ne _ _ _ _ (show k ≠ 27 by omega), zwr_ne _ _ _ _ (show k ≠ 29 by omega), zwr_ne _ _ _ _ (show k ≠ 31 by omega), zwr_ne _ _ _ _ (show k ≠ 33 by omega), zwr_ne _ _ _ _ (show k ≠ 39 by omega), zwr_ne _ _ _ _ (show k ≠ 41 by omega), zwr_ne _ _ _ _ (show k ≠ 43 by omega)]
theorem qT1_o (G : zF) (c l : Int32) {k : Nat} (h : k ≠ 7 ∧ k ≠ 8 ∧ k ≠ 18 ∧ k ≠ 20) : qT1 G c l k = G k := by
  unfold qT1
  split
  · exact qTC_o _ _ h
  · rfl
theorem qTT_o (F : zF) (l : Int32) {k : Nat} (h : 45 ≤ k) : qTT F l k = F k := by
  unfold qTT
  split
  · exact qCC_o _ _ _ _ (by omega)
  · unfold qT2
    split
    · rw [qT1_o _ _ _ (by omega), qCC_o _ _ _ _ (by omega)]
    · unfold qT3
      rw [qLR_o _ _ _ _ (by omega) (by omega), qLook_o _ _ _ (by omega), qTC_o _ _ (by omega), qT1_o _ _ _ (by omega), qCC_o _ _ _ _ (by omega)]
theorem qTTs_o (F : zF) {k : Nat} (h : 45 ≤ k) : ∀ n, qTTs F n k = F k
  | 0 => rfl
  | n + 1 => (qTT_o _ _ h).trans (qTTs_o F h n)
theorem qOT_o (F : zF) {k : Nat} (h : 45 ≤ k) : qOT F k = F k := by
  unfold qOT qEnd qIn
  rw [zup_ne _ _ _ (by omega), zup_ne _ _ _ (by omega), qSp_3 _ _ _ (by omega), zwr_ne _ _ _ _ (by omega), zup_ne _ _ _ (by omega), qTTs_o F h]
theorem qJn_o (F : zF) (a b : Int32) {k : Nat} (h : 45 ≤ k) : qJn F a b k = F k := by
  unfold qJn
  rw [qNm_o _ (by omega), zwr_ne _ _ _ _ (by omega)]
theorem qTk_o (F : zF) (s : Int32) {k : Nat} (h : 45 ≤ k) : qTk F s k = F k := by
  unfold qTk
  rw [zwr_ne _ _ _ _ (by omega), zwr_ne _ _ _ _ (by omega)]
  split
  · exact qNm_o _ (by omega) _ _ _
  · exact zwr_ne _ _ _ _ (by omega)
theorem qMkL_o (F : zF) (a b c : Int32) {k : Nat} (h : 45 ≤ k) : qMkL F a b c k = F k := by
  unfold qMkL
  rw [zup_ne _ _ _ (by omega), zwr_ne _ _ _ _ (by omega), zwr_ne _ _ _ _ (by omega), zwr_ne _ _ _ _ (by omega), zwr_ne _ _ _ _ (by omega)]

theorem frX6_levelOf : zfr sX6_levelOf := by
  intro as F ok ex h
  unfold sX6_levelOf at h ⊢
  split at h
  · exact ⟨h, fun _ _ => rfl⟩
  · exact h.elim

theorem uX6_levelOf : zMet ULM yX6_levelOf cX6_levelOf 3 (some .int) rX6_levelOf sX6_levelOf := zlift0 mX6_levelOf frX6_levelOf
theorem frX6_drynessOf : zfr sX6_drynessOf := by
  intro as F ok ex h
  unfold sX6_drynessOf at h ⊢
  split at h
  · exact ⟨h, fun _ _ => rfl⟩
  · exact h.elim

theorem uX6_drynessOf : zMet ULM yX6_drynessOf cX6_drynessOf 3 (some .int) rX6_drynessOf sX6_drynessOf := zlift0 mX6_drynessOf frX6_drynessOf
theorem frX5_waterIn : zfr sX5_waterIn := by
  intro as F ok ex h
  unfold sX5_waterIn at h ⊢
  split at h
  · exact ⟨h, fun _ _ => rfl⟩
  · exact h.elim

theorem uX5_waterIn : zMet ULM yX5_waterIn cX5_waterIn 2 (some .int) rX5_waterIn sX5_waterIn := zlift0 mX5_waterIn frX5_waterIn
theorem frX5_allWater : zfr sX5_allWater := by
  intro as F ok ex h
  unfold sX5_allWater at h ⊢
  split at h
  · exact ⟨h, fun _ _ => rfl⟩
  · exact h.elim

theorem uX5_allWater : zMet ULM yX5_allWater cX5_allWater 3 (some .int) rX5_allWater sX5_allWater := zlift0 mX5_allWater frX5_allWater
theorem frX3_shipsInReach : zfr sX3_shipsInReach := by
  intro as F ok ex h
  unfold sX3_shipsInReach at h ⊢
  split at h
  · exact ⟨h, fun _ _ => rfl⟩
  · exact h.elim

theorem uX3_shipsInReach : zMet ULM yX3_shipsInReach cX3_shipsInReach 4 (some .int) rX3_shipsInReach sX3_shipsInReach := zlift0 mX3_shipsInReach frX3_shipsInReach
theorem frX3_convoysAt : zfr sX3_convoysAt := by
  intro as F ok ex h
  unfold sX3_convoysAt at h ⊢
  split at h
  · exact ⟨h, fun _ _ => rfl⟩
  · exact h.elim

theorem uX3_convoysAt : zMet ULM yX3_convoysAt cX3_convoysAt 4 (some .int) rX3_convoysAt sX3_convoysAt := zlift0 mX3_convoysAt frX3_convoysAt
theorem frX3_reachOf : zfr sX3_reachOf := by
  intro as F ok ex h
  unfold sX3_reachOf at h ⊢
  split at h
  · exact ⟨h, fun _ _ => rfl⟩
  · exact h.elim

theorem uX3_reachOf : zMet ULM yX3_reachOf cX3_reachOf 2 (some .int) rX3_reachOf sX3_reachOf := zlift0 mX3_reachOf frX3_reachOf
theorem frX3_shipsInConvoy : zfr sX3_shipsInConvoy := by
  intro as F ok ex h
  unfold sX3_shipsInConvoy at h ⊢
  split at h
  · exact ⟨h, fun _ _ => rfl⟩
  · exact h.elim

theorem uX3_shipsInConvoy : zMet ULM yX3_shipsInConvoy cX3_shipsInConvoy 4 (some .int) rX3_shipsInConvoy sX3_shipsInConvoy := zlift0 mX3_shipsInConvoy frX3_shipsInConvoy
theorem frX3_shipOfConvoy : zfr sX3_shipOfConvoy := by
  intro as F ok ex h
  unfold sX3_shipOfConvoy at h ⊢
  split at h
  · exact ⟨h, fun _ _ => rfl⟩
  · exact h.elim

theorem uX3_shipOfConvoy : zMet ULM yX3_shipOfConvoy cX3_shipOfConvoy 5 (some .int) rX3_shipOfConvoy sX3_shipOfConvoy := zlift0 mX3_shipOfConvoy frX3_shipOfConvoy
theorem frX3_shipsThatLeft : zfr sX3_shipsThatLeft := by
  intro as F ok ex h
  unfold sX3_shipsThatLeft at h ⊢
  split at h
  · exact ⟨h, fun _ _ => rfl⟩
  · exact h.elim

theorem uX3_shipsThatLeft : zMet ULM yX3_shipsThatLeft cX3_shipsThatLeft 1 (some .int) rX3_shipsThatLeft sX3_shipsThatLeft := zlift0 mX3_shipsThatLeft frX3_shipsThatLeft
theorem frX1_waitedBy : zfr sX1_waitedBy := by
  intro as F ok ex h
  unfold sX1_waitedBy at h ⊢
  split at h
  · exact ⟨h, fun _ _ => rfl⟩
  · exact h.elim

theorem uX1_waitedBy : zMet ULM yX1_waitedBy cX1_waitedBy 2 (some .int) rX1_waitedBy sX1_waitedBy := zlift0 mX1_waitedBy frX1_waitedBy
theorem frX1_priorityOf : zfr sX1_priorityOf := by
  intro as F ok ex h
  unfold sX1_priorityOf at h ⊢
  split at h
  · exact ⟨h, fun _ _ => rfl⟩
  · exact h.elim

theorem uX1_priorityOf : zMet ULM yX1_priorityOf cX1_priorityOf 3 (some .int) rX1_priorityOf sX1_priorityOf := zlift0 mX1_priorityOf frX1_priorityOf
theorem frX1_convoyInOrder : zfr sX1_convoyInOrder := by
  intro as F ok ex h
  unfold sX1_convoyInOrder at h ⊢
  split at h
  · exact ⟨h, fun _ _ => rfl⟩
  · exact h.elim

theorem uX1_convoyInOrder : zMet ULM yX1_convoyInOrder cX1_convoyInOrder 4 (some .int) rX1_convoyInOrder sX1_convoyInOrder := zlift0 mX1_convoyInOrder frX1_convoyInOrder
theorem frX1_waitingConvoys : zfr sX1_waitingConvoys := by
  intro as F ok ex h
  unfold sX1_waitingConvoys at h ⊢
  split at h
  · exact ⟨h, fun _ _ => rfl⟩
  · exact h.elim

theorem uX1_waitingConvoys : zMet ULM yX1_waitingConvoys cX1_waitingConvoys 3 (some .int) rX1_waitingConvoys sX1_waitingConvoys := zlift0 mX1_waitingConvoys frX1_waitingConvoys
theorem frX3_has : zfr sX3_has := by
  intro as F ok ex h
  unfold sX3_has at h ⊢
  split at h
  · exact ⟨fun c => ⟨h.1 c, fun _ _ => rfl⟩, fun c => ⟨h.2 c, fun _ _ => rfl⟩⟩
  · exact h.elim

theorem uX3_has : zMet ULM yX3_has cX3_has 2 (some .boolean) rX3_has sX3_has := zlift0 mX3_has frX3_has
theorem frX1_makeReach : zfr sX1_makeReach := by
  intro as F ok ex h
  unfold sX1_makeReach at h ⊢
  split at h
  · exact ⟨h, fun j hj => by rw [zup_ne _ _ _ (by omega), zwr_ne _ _ _ _ (by omega), zwr_ne _ _ _ _ (by omega), zwr_ne _ _ _ _ (by omega), zup_ne _ _ _ (by omega)]⟩
  · exact h.elim

theorem uX1_makeReach : zMet ULM yX1_makeReach cX1_makeReach 3 (some .int) rX1_makeReach sX1_makeReach := zlift0 mX1_makeReach frX1_makeReach
theorem frX1_makeShip : zfr sX1_makeShip := by
  intro as F ok ex h
  unfold sX1_makeShip at h ⊢
  split at h
  · exact ⟨h, fun j hj => by unfold qMkC; rw [zwr_ne _ _ _ _ (by omega), zwr_ne _ _ _ _ (by omega), qMkS_o _ _ _ _ _ hj]⟩
  · exact h.elim

theorem uX1_makeShip : zMet ULM yX1_makeShip cX1_makeShip 6 (some .int) rX1_makeShip sX1_makeShip := zlift0 mX1_makeShip frX1_makeShip
theorem frX1_change : zfr sX1_change := by
  intro as F ok ex h
  unfold sX1_change at h ⊢
  split at h
  · exact ⟨h, fun j hj => by split; exact zup_ne _ _ _ (by omega); split; exact zup_ne _ _ _ (by omega); exact zup_ne _ _ _ (by omega)⟩
  · exact h.elim

theorem uX1_change : zMet ULM yX1_change cX1_change 4 (some .int) rX1_change sX1_change := zlift0 mX1_change frX1_change
theorem frX1_hindranceOf : zfr sX1_hindranceOf := by
  intro as F ok ex h
  unfold sX1_hindranceOf at h ⊢
  split at h
  · exact ⟨h, fun j hj => qLook_o _ _ _ (by omega)⟩
  · exact h.elim

theorem uX1_hindranceOf : zMet ULM yX1_hindranceOf cX1_hindranceOf 5 (some .int) rX1_hindranceOf sX1_hindranceOf := zlift0 mX1_hindranceOf frX1_hindranceOf
theorem frX3_joinBehind : zfr sX3_joinBehind := by
  intro as F ok ex h
  unfold sX3_joinBehind at h ⊢
  split at h
  · exact ⟨h, fun j hj => qJn_o _ _ _ hj⟩
  · exact h.elim

theorem uX3_joinBehind : zMet ULM yX3_joinBehind cX3_joinBehind 3 (none) rX3_joinBehind sX3_joinBehind := zlift0 mX3_joinBehind frX3_joinBehind
theorem frX3_takeOut : zfr sX3_takeOut := by
  intro as F ok ex h
  unfold sX3_takeOut at h ⊢
  split at h
  · exact ⟨h, fun j hj => qTk_o _ _ hj⟩
  · exact h.elim

theorem uX3_takeOut : zMet ULM yX3_takeOut cX3_takeOut 4 (none) rX3_takeOut sX3_takeOut := zlift0 mX3_takeOut frX3_takeOut
theorem frX5_make : zfr sX5_make := by
  intro as F ok ex h
  unfold sX5_make at h ⊢
  split at h
  · exact ⟨h, fun j hj => qMkL_o _ _ _ _ hj⟩
  · exact h.elim

theorem uX5_make : zMet ULM yX5_make cX5_make 4 (none) rX5_make sX5_make := zlift0 mX5_make frX5_make
/-! the forecast's canal, the text, a canal's copy -/
def sF_goOneTick : zSp := fun as F ok _ => match as with
  | [.ref 0] => ok none (qOT F)
  | [.ref 45] => ok none (spl 45 45 F (qOT (vw 45 F)))
  | _ => False
def sF_hasLeft : zSp := fun as F ok _ => match as with
  | [.ref 25, .int s] => zbo (qWa F s = -1) F ok
  | [.ref 70, .int s] => zbo (qWa (vw 45 F) s = -1) F ok
  | _ => False
def sT_put : zSp := fun as F ok _ => match as with
  | [.ref 498, .int c] => ok none (spl 498 11 F (xPut (vw 498 F) c))
  | _ => False
def sT_read : zSp := fun as F ok _ => match as with
  | [.ref 498] => ok (some (.int (xRead (vw 498 F)).1)) (spl 498 11 F (xRead (vw 498 F)).2)
  | _ => False
def zcan (j : Nat) : Bool := Nat.beq (j % 45) 0 && Nat.blt j 495
/-- the canal at j becomes as the one at i -/
def zcp (F : zF) (j i : Nat) : zF := fun a => if j ≤ a ∧ a < j + 45 then qCpC (fun k => if k < 45 then F (j + k) else F (i + (k - 45))) (a - j) else F a
def sL_copyFrom : zSp := fun as F ok _ => match as with
  | [.ref j, .ref i] => match zcan j && (zcan i && !(Nat.beq j i)) with
    | true => ok none (zcp F j i)
    | false => False
  | _ => False
theorem uF_goOneTick : zMet ULM yX1_goOneTick cX1_goOneTick 2 none rX1_goOneTick sF_goOneTick := by
  intro l hfl D cA ad F sz av ok ex hsp
  have h := hsp
  unfold sF_goOneTick at h
  split at h
  · exact zlift0 (sp := sX1_goOneTick) mX1_goOneTick (fun as G ok' ex' h => by
      unfold sX1_goOneTick at h ⊢
      split at h
      · exact ⟨h, fun j hj => qOT_o _ hj⟩
      · exact h.elim) l hfl D cA ad F sz _ ok ex h
  · exact zlift (sp := fun as G ok' _ => as = [.ref 45] ∧ ok' none (spl 45 45 G (qOT (vw 45 G)))) mX1_goOneTick (fun as G ok' ex' h => ⟨fun k => 45 + k, [.ref 0], fun q G' => q = none ∧ G' = qOT (vw 45 G), fun _ _ => False, zemb_C 1 (by decide), h.1, ⟨rfl, rfl⟩, fun q G' e => ⟨spl 45 45 G G', zspl_sh 45 G G', by rw [e.1, e.2]; exact h.2⟩, fun _ _ e => e.elim⟩) l hfl D cA ad F sz _ ok ex ⟨rfl, h⟩
  · exact h.elim
theorem spl_vw (b n : Nat) (F : zF) : spl b n F (vw b F) = F := by
  funext j
  unfold spl vw
  split
  · congr 1
    omega
  · rfl
theorem uF_hasLeft : zMet ULM yX3_hasLeft cX3_hasLeft 2 (some .boolean) rX3_hasLeft sF_hasLeft := by
  intro l hfl D cA ad F sz av ok ex hsp
  have h := hsp
  unfold sF_hasLeft at h
  split at h
  · exact zlift0 (sp := sX3_hasLeft) mX3_hasLeft (fun as G ok' ex' h => by
      unfold sX3_hasLeft at h ⊢
      split at h
      · exact ⟨fun c => ⟨h.1 c, fun _ _ => rfl⟩, fun c => ⟨h.2 c, fun _ _ => rfl⟩⟩
      · exact h.elim) l hfl D cA ad F sz _ ok ex h
  · rename_i s
    exact zlift (sp := fun as G ok' _ => as = [.ref 70, .int s] ∧ zbo (qWa (vw 45 G) s = -1) G ok') mX3_hasLeft (fun as G ok' ex' h => ⟨fun k => 45 + k, [.ref 25, .int s], fun q G' => ok' q G ∧ (∃ v, q = some (.int v)) ∧ G' = vw 45 G, fun _ _ => False, zemb_C 1 (by decide), h.1, ⟨fun c => ⟨h.2.1 c, ⟨1, rfl⟩, rfl⟩, fun c => ⟨h.2.2 c, ⟨0, rfl⟩, rfl⟩⟩, fun q G' e => ⟨G, by rw [e.2.2]; exact zspl_rf, by obtain ⟨e1, ⟨v, e2⟩, -⟩ := e; rw [e2] at e1 ⊢; exact e1⟩, fun _ _ e => e.elim⟩) l hfl D cA ad F sz _ ok ex ⟨rfl, h⟩
  · exact h.elim
theorem uT_put : zMet ULM yX0_put cX0_put 2 none rX0_put sT_put := by
  intro l hfl D cA ad F sz av ok ex hsp
  have h := hsp
  unfold sT_put at h
  split at h
  · rename_i c
    exact zlift (sp := fun as G ok' _ => as = [.ref 498, .int c] ∧ ok' none (spl 498 11 G (xPut (vw 498 G) c))) mX0_put (fun as G ok' ex' h => ⟨fun k => 498 + k, [.ref 0, .int c], fun q G' => q = none ∧ G' = xPut (vw 498 G) c, fun _ _ => False, zemb_T, h.1, ⟨rfl, rfl⟩, fun q G' e => ⟨spl 498 11 G G', zspl_sh 498 G G', by rw [e.1, e.2]; exact h.2⟩, fun _ _ e => e.elim⟩) l hfl D cA ad F sz _ ok ex ⟨rfl, h⟩
  · exact h.elim
theorem uT_read : zMet ULM yX0_read cX0_read 3 (some .int) rX0_read sT_read := by
  intro l hfl D cA ad F sz av ok ex hsp
  have h := hsp
  unfold sT_read at h
  split at h
  · exact zlift (sp := fun as G ok' _ => as = [.ref 498] ∧ ok' (some (.int (xRead (vw 498 G)).1)) (spl 498 11 G (xRead (vw 498 G)).2)) mX0_read (fun as G ok' ex' h => ⟨fun k => 498 + k, [.ref 0], fun q G' => q = some (.int (xRead (vw 498 G)).1) ∧ G' = (xRead (vw 498 G)).2, fun _ _ => False, zemb_T, h.1, ⟨rfl, rfl⟩, fun q G' e => ⟨spl 498 11 G G', zspl_sh 498 G G', by rw [e.1, e.2]; exact h.2⟩, fun _ _ e => e.elim⟩) l hfl D cA ad F sz _ ok ex ⟨rfl, h⟩
  · exact h.elim
theorem qCpC_o (F : zF) {k : Nat} (h : 45 ≤ k) : qCpC F k = F k := by
  unfold qCpC
  simp only [zup_ne _ _ _ (show k ≠ 0 by omega)]
  rw [qCpF_o _ h, qCpL_o _ h, qCpR_o _ h]
theorem zcan_ok (j : Nat) (h : zcan j = true) : ∃ c, c < 11 ∧ j = 45 * c := by
  unfold zcan at h
  rw [Bool.and_eq_true] at h
  have h1 := Nat.eq_of_beq_eq_true h.1
  have h2 : j < 495 := by simpa using h.2
  exact ⟨j / 45, by omega, by omega⟩
theorem zspl_cp (c c' : Nat) (hcc : c ≠ c') (G : zF) : zspl UC2 (zem2 c c') G (qCpC fun k => G (zem2 c c' k)) (zcp G (45 * c) (45 * c')) := by
  have hf : (fun k => G (zem2 c c' k)) = fun k => if k < 45 then G (45 * c + k) else G (45 * c' + (k - 45)) := by
    funext k
    unfold zem2
    split <;> rfl
  refine ⟨fun k hk => ?_, fun k hk => ?_⟩
  · have hk : k < 90 := hk
    unfold zcp
    rw [hf]
    by_cases h45 : k < 45
    · have e1 : zem2 c c' k = 45 * c + k := by unfold zem2; exact if_pos h45
      rw [e1, if_pos (by omega), show 45 * c + k - 45 * c = k by omega]
    · have e1 : zem2 c c' k = 45 * c' + (k - 45) := by unfold zem2; exact if_neg h45
      rw [e1, if_neg (by omega), qCpC_o (k := k) _ (by omega), if_neg h45]
  · unfold zcp
    rw [if_neg ?_]
    intro hr
    exact hk (k - 45 * c) (show k - 45 * c < 90 by omega) (by unfold zem2; rw [if_pos (by omega)]; omega)
theorem uL_copyFrom : zMet ULM yX1_copyFrom cX1_copyFrom 2 none rX1_copyFrom sL_copyFrom := by
  intro l hfl D cA ad F sz av ok ex hsp
  have h := hsp
  unfold sL_copyFrom at h
  split at h
  · rename_i j i
    split at h
    · rename_i hb
      rw [Bool.and_eq_true, Bool.and_eq_true, Bool.not_eq_true'] at hb
      obtain ⟨hj1, hi1, hne⟩ := hb
      have hne : j ≠ i := fun e => by rw [e] at hne; simp at hne
      obtain ⟨c, hc, rfl⟩ := zcan_ok _ hj1
      obtain ⟨c', hc', rfl⟩ := zcan_ok _ hi1
      have hcc : c ≠ c' := fun e => hne (by rw [e])
      exact zlift (sp := fun as G ok' _ => as = [.ref (45 * c), .ref (45 * c')] ∧ ok' none (zcp G (45 * c) (45 * c'))) mX1_copyFrom (fun as G ok' ex' h => ⟨zem2 c c', [.ref 0, .ref 45], fun q G' => q = none ∧ G' = qCpC (fun k => G (zem2 c c' k)), fun _ _ => False, zemb_2 c hc c' hc' hcc, h.1, ⟨rfl, rfl⟩, fun q G' e => ⟨zcp G (45 * c) (45 * c'), by rw [e.2]; exact zspl_cp c c' hcc G, by rw [e.1]; exact h.2⟩, fun _ _ e => e.elim⟩) l hfl D cA ad F sz _ ok ex ⟨rfl, h⟩
    · exact h.elim
  · exact h.elim
end ZL0
end
section
/-! a LockMaster's own helps, and Changes, in the world of a LockMaster -/
section ZL1
set_option maxRecDepth 20000
theorem zmem_of {w : Cond} (h : (decide (w ∈ lw_tbl) && goodWord w) = true) : w ∈ zts := by
  rw [Bool.and_eq_true] at h
  exact List.mem_filter.mpr ⟨of_decide_eq_true h.1, h.2⟩
/-- a condition, or a throw -/
def zfo (c : Prop) (E : String) (F : zF) (ex : zX) (A : Prop) : Prop := (c → A) ∧ (¬ c → ex E F)
def sX8_isWithin : zSp := fun as F ok _ => match as with
  | [.int x, .int a, .int b] => zbo (a ≤ x ∧ x ≤ b) F ok
  | _ => False
def aMost (s : Int32) : Int32 := if s = 0 then 20 else if s = 1 then 50 else 99
def sX8_mostOfSetting : zSp := fun as F ok _ => match as with
  | [.int s] => ok (some (.int (aMost s))) F
  | _ => False
def sX8_requireIndex : zSp := fun as F ok ex => match as with
  | [.int i, .int n] => zfo (0 ≤ i ∧ i < n) "java/lang/IndexOutOfBoundsException" F ex (ok none F)
  | _ => False
def sX8_requireArgument : zSp := fun as F ok ex => match as with
  | [.int b] => zfo (¬ b = 0) "java/lang/IllegalArgumentException" F ex (ok none F)
  | _ => False
def sX8_requireState : zSp := fun as F ok ex => match as with
  | [.int b] => zfo (¬ b = 0) "java/lang/IllegalStateException" F ex (ok none F)
  | _ => False
def sX8_requireElement : zSp := fun as F ok ex => match as with
  | [.int b] => zfo (¬ b = 0) "java/util/NoSuchElementException" F ex (ok none F)
  | _ => False
def sX8_refuseFor : zSp := fun as F ok ex => match as with
  | [.ref 495, .int y] => (y = 0 → ok none F) ∧ (¬ y = 0 → ex "java/lang/UnsupportedOperationException" (zup F 495 7 y))
  | _ => False
def aRS (F : zF) (m : Int32) : Int32 := if F 25 9 + m ≤ 16 then (if F 1 3 < 2 then 5 else 0) else 4
def sX8_refusalOfShips : zSp := fun as F ok _ => match as with
  | [.ref 495, .int m] => ok (some (.int (aRS F m))) F
  | _ => False
def aRJ (F : zF) (s t : Int32) : Int32 := if (0 ≤ s ∧ s < F 25 9) ∧ (0 ≤ t ∧ t < F 25 9) then (if qFi F s = qFi F t then 2 else if ¬ qWa F s = -1 ∧ qWa F s = qWa F t ∧ qUp F s = qUp F t then 0 else 3) else 1
def sX8_refusalOfJoin : zSp := fun as F ok _ => match as with
  | [.ref 495, .int s, .int t] => ok (some (.int (aRJ F s t))) F
  | _ => False
def aRP (F : zF) (s : Int32) : Int32 := if 0 ≤ s ∧ s < F 25 9 then (if qSIC F s = 1 then 6 else 0) else 1
def sX8_refusalOfPart : zSp := fun as F ok _ => match as with
  | [.ref 495, .int s] => ok (some (.int (aRP F s))) F
  | _ => False
def aKept (F : zF) (k : Nat) : zF := zcp F (135 + 45 * k) 0
def sX2_newestKept : zSp := fun as F ok _ => match as with
  | [.ref 496] => ∃ k, k < 8 ∧ F 496 1 = nI k ∧ ok (some (.ref (135 + 45 * k))) F
  | _ => False
def aNew (F : zF) : Int32 := if F 496 1 + 1 < 8 then F 496 1 + 1 else 0
def aKp (F : zF) : zF := zup (zup F 496 1 (aNew F)) 496 2 (imin (F 496 2 + 1) 8)
def sX2_keep : zSp := fun as F ok _ => match as with
  | [.ref 496, .ref 0] => ∃ k, k < 8 ∧ aNew F = nI k ∧ ok none (zcp (aKp F) (135 + 45 * k) 0)
  | _ => False
def aOld (F : zF) : Int32 := if 0 < F 496 1 then F 496 1 - 1 else 7
def aTb (F G : zF) : zF := zup (zup G 496 1 (aOld F)) 496 2 (F 496 2 - 1)
def sX2_takeBack : zSp := fun as F ok _ => match as with
  | [.ref 496, .ref 0] => ∃ k, k < 8 ∧ F 496 1 = nI k ∧ ok none (aTb F (zcp F 0 (135 + 45 * k)))
  | _ => False
def sX2_forget : zSp := fun as F ok _ => match as with
  | [.ref 496] => ok none (zup F 496 2 0)
  | _ => False

def kX8_isWithin : List zI := [
  (0, 1, .iload_n 0, [], 0),
  (1, 1, .iload_n 1, [], 0),
  (2, 3, .if_icmp .lt 12, [14], 0),
  (5, 1, .iload_n 0, [], 0),
  (6, 1, .iload_n 2, [], 0),
  (7, 3, .if_icmp .gt 7, [14], 0),
  (10, 1, .iconst 1, [], 1),
  (11, 3, .goto 4, [15], 0),
  (14, 1, .iconst 0, [], 0),
  (15, 1, .ireturn, [], 0)]
theorem kX8_isWithin_ok : kX8_isWithin.all (zck cX8_isWithin) = true := by decide +kernel

def rX8_isWithin : Room := { frames := 0, cells := 0, slots := 0, locals := 0 }
abbrev YX8_isWithin : zM := (RX8, cX8_isWithin, 3, some .boolean, rX8_isWithin, ULM, zlk fX8, zcs [] [])
theorem YX8_isWithin_ok : zYok (YX8_isWithin) := zYok_of fX8_ok znil znil

theorem mX8_isWithin : zMet (ULM) yX8_isWithin cX8_isWithin 3 (some .boolean) rX8_isWithin (sX8_isWithin) := by
  refine zmet (Y := YX8_isWithin) rfl (by decide +kernel) ?_
  intro av F ok ex h
  unfold sX8_isWithin at h
  split at h
  · rename_i x a b
    refine zgo_ok (YX8_isWithin_ok) zno kX8_isWithin (List.all_eq_true.mp kX8_isWithin_ok) 0 _ _ _ _ _ ?_
    refine And.intro (fun h1 => Exists.intro (Or.inl rfl) (h.2 fun hc => absurd h1 (Int32.not_lt.mpr hc.1))) (fun h1 => ?_)
    refine And.intro (fun h2 => Exists.intro (Or.inl rfl) (h.2 fun hc => absurd h2 (Int32.not_lt.mpr hc.2))) (fun h2 => Exists.intro (Or.inr rfl) (h.1 ⟨Int32.not_lt.mp h1, Int32.not_lt.mp h2⟩))
  · exact h.elim

def kX8_mostOfSetting : List zI := [
  (0, 1, .iload_n 0, [], 0),
  (1, 3, .ifCond .ne 8, [9], 0),
  (4, 2, .bipush 20, [], 20),
  (6, 3, .goto 15, [21], 0),
  (9, 1, .iload_n 0, [], 0),
  (10, 1, .iconst 1, [], 1),
  (11, 3, .if_icmp .ne 8, [19], 0),
  (14, 2, .bipush 50, [], 50),
  (16, 3, .goto 5, [21], 0),
  (19, 2, .bipush 99, [], 99),
  (21, 1, .ireturn, [], 0)]
theorem kX8_mostOfSetting_ok : kX8_mostOfSetting.all (zck cX8_mostOfSetting) = true := by decide +kernel

def rX8_mostOfSetting : Room := { frames := 0, cells := 0, slots := 0, locals := 0 }
abbrev YX8_mostOfSetting : zM := (RX8, cX8_mostOfSetting, 1, some .int, rX8_mostOfSetting, ULM, zlk fX8, zcs [] [])
theorem YX8_mostOfSetting_ok : zYok (YX8_mostOfSetting) := zYok_of fX8_ok znil znil

theorem mX8_mostOfSetting : zMet (ULM) yX8_mostOfSetting cX8_mostOfSetting 1 (some .int) rX8_mostOfSetting (sX8_mostOfSetting) := by
  refine zmet (Y := YX8_mostOfSetting) rfl (by decide +kernel) ?_
  intro av F ok ex h
  unfold sX8_mostOfSetting at h
  split at h
  · rename_i s
    refine zgo_ok (YX8_mostOfSetting_ok) zno kX8_mostOfSetting (List.all_eq_true.mp kX8_mostOfSetting_ok) 0 _ _ _ _ _ ?_
    unfold aMost at h
    refine And.intro (fun h1 => ?_) (fun h1 => ?_)
    · rw [if_neg h1] at h
      refine And.intro (fun h2 => ?_) (fun h2 => ?_)
      · rw [if_neg h2] at h
        exact h
      · rw [if_pos h2] at h
        exact h
    · rw [if_pos h1] at h
      exact h
  · exact h.elim

def kX8_requireIndex : List zI := [
  (0, 1, .iload_n 0, [], 0),
  (1, 3, .ifCond .lt 8, [9], 0),
  (4, 1, .iload_n 0, [], 0),
  (5, 1, .iload_n 1, [], 0),
  (6, 3, .if_icmp .lt 14, [20], 0),
  (9, 3, .new 302, [], 0),
  (12, 1, .dup, [], 0),
  (13, 3, .ldc_w 304, [], 0),
  (16, 3, .invokespecial 306, [], 0),
  (19, 1, .athrow, [], 0),
  (20, 1, .return_, [], 0)]
theorem kX8_requireIndex_ok : kX8_requireIndex.all (zck cX8_requireIndex) = true := by decide +kernel

def rX8_requireIndex : Room := { frames := 6, cells := 1, slots := 6, locals := 82 }
abbrev YX8_requireIndex : zM := (RX8, cX8_requireIndex, 2, none, rX8_requireIndex, ULM, zlk fX8, zcs [] [])
theorem YX8_requireIndex_ok : zYok (YX8_requireIndex) := zYok_of fX8_ok znil znil

theorem mX8_requireIndex : zMet (ULM) yX8_requireIndex cX8_requireIndex 2 (none) rX8_requireIndex (sX8_requireIndex) := by
  refine zmet (Y := YX8_requireIndex) rfl (by decide +kernel) ?_
  intro av F ok ex h
  unfold sX8_requireIndex at h
  split at h
  · rename_i i n
    refine zgo_ok (YX8_requireIndex_ok) (inv := zi1 9 (fun ls st kc ks G => zWP YX8_requireIndex ok ex 9 ls st kc ks G)) (zone fun _ _ _ _ _ h => h) kX8_requireIndex (List.all_eq_true.mp kX8_requireIndex_ok) 0 _ _ _ _ _ ?_
    refine And.intro (fun h1 => ?_) (fun h1 => ?_)
    · exact (zthrow (Y := YX8_requireIndex) (ik := 302) (is := 304) (ic := 306) (E := "java/lang/IndexOutOfBoundsException") (text := "there is no such number") (names := ["java/lang/RuntimeException", "java/lang/Exception"]) (by decide +kernel) (by decide +kernel) (by decide +kernel) (zmem_of (by decide +kernel)) (zmem_of (by decide +kernel)) (by decide +kernel) (by decide +kernel) (by decide +kernel) (by decide +kernel) (by decide +kernel) (by decide +kernel) (by decide +kernel) (by decide) (by decide) (by decide) (by decide) (h.2 fun hc => absurd h1 (Int32.not_lt.mpr hc.1)))
    · refine And.intro (fun h2 => h.1 ⟨Int32.not_lt.mp h1, h2⟩) (fun h2 => ?_)
      exact (zthrow (Y := YX8_requireIndex) (ik := 302) (is := 304) (ic := 306) (E := "java/lang/IndexOutOfBoundsException") (text := "there is no such number") (names := ["java/lang/RuntimeException", "java/lang/Exception"]) (by decide +kernel) (by decide +kernel) (by decide +kernel) (zmem_of (by decide +kernel)) (zmem_of (by decide +kernel)) (by decide +kernel) (by decide +kernel) (by decide +kernel) (by decide +kernel) (by decide +kernel) (by decide +kernel) (by decide +kernel) (by decide) (by decide) (by decide) (by decide) (h.2 fun hc => absurd hc.2 h2))
  · exact h.elim

def kX8_requireArgument : List zI := [
  (0, 1, .iload_n 0, [], 0),
  (1, 3, .ifCond .ne 14, [15], 0),
  (4, 3, .new 307, [], 0),
  (7, 1, .dup, [], 0),
  (8, 3, .ldc_w 309, [], 0),
  (11, 3, .invokespecial 311, [], 0),
  (14, 1, .athrow, [], 0),
  (15, 1, .return_, [], 0)]
theorem kX8_requireArgument_ok : kX8_requireArgument.all (zck cX8_requireArgument) = true := by decide +kernel

def rX8_requireArgument : Room := { frames := 6, cells := 1, slots := 6, locals := 82 }
abbrev YX8_requireArgument : zM := (RX8, cX8_requireArgument, 1, none, rX8_requireArgument, ULM, zlk fX8, zcs [] [])
theorem YX8_requireArgument_ok : zYok (YX8_requireArgument) := zYok_of fX8_ok znil znil

theorem mX8_requireArgument : zMet (ULM) yX8_requireArgument cX8_requireArgument 1 (none) rX8_requireArgument (sX8_requireArgument) := by
  refine zmet (Y := YX8_requireArgument) rfl (by decide +kernel) ?_
  intro av F ok ex h
  unfold sX8_requireArgument at h
  split at h
  · rename_i b
    refine zgo_ok (YX8_requireArgument_ok) (inv := zi1 4 (fun ls st kc ks G => zWP YX8_requireArgument ok ex 4 ls st kc ks G)) (zone fun _ _ _ _ _ h => h) kX8_requireArgument (List.all_eq_true.mp kX8_requireArgument_ok) 0 _ _ _ _ _ ?_
    refine And.intro (fun h1 => h.1 h1) (fun h1 => ?_)
    exact (zthrow (Y := YX8_requireArgument) (ik := 307) (is := 309) (ic := 311) (E := "java/lang/IllegalArgumentException") (text := "an argument or the text is not allowed") (names := ["java/lang/RuntimeException", "java/lang/Exception"]) (by decide +kernel) (by decide +kernel) (by decide +kernel) (zmem_of (by decide +kernel)) (zmem_of (by decide +kernel)) (by decide +kernel) (by decide +kernel) (by decide +kernel) (by decide +kernel) (by decide +kernel) (by decide +kernel) (by decide +kernel) (by decide) (by decide) (by decide) (by decide) (h.2 fun hc => absurd h1 hc))
  · exact h.elim

def kX8_requireState : List zI := [
  (0, 1, .iload_n 0, [], 0),
  (1, 3, .ifCond .ne 14, [15], 0),
  (4, 3, .new 312, [], 0),
  (7, 1, .dup, [], 0),
  (8, 3, .ldc_w 314, [], 0),
  (11, 3, .invokespecial 316, [], 0),
  (14, 1, .athrow, [], 0),
  (15, 1, .return_, [], 0)]
theorem kX8_requireState_ok : kX8_requireState.all (zck cX8_requireState) = true := by decide +kernel

def rX8_requireState : Room := { frames := 6, cells := 1, slots := 6, locals := 82 }
abbrev YX8_requireState : zM := (RX8, cX8_requireState, 1, none, rX8_requireState, ULM, zlk fX8, zcs [] [])
theorem YX8_requireState_ok : zYok (YX8_requireState) := zYok_of fX8_ok znil znil

theorem mX8_requireState : zMet (ULM) yX8_requireState cX8_requireState 1 (none) rX8_requireState (sX8_requireState) := by
  refine zmet (Y := YX8_requireState) rfl (by decide +kernel) ?_
  intro av F ok ex h
  unfold sX8_requireState at h
  split at h
  · rename_i b
    refine zgo_ok (YX8_requireState_ok) (inv := zi1 4 (fun ls st kc ks G => zWP YX8_requireState ok ex 4 ls st kc ks G)) (zone fun _ _ _ _ _ h => h) kX8_requireState (List.all_eq_true.mp kX8_requireState_ok) 0 _ _ _ _ _ ?_
    refine And.intro (fun h1 => h.1 h1) (fun h1 => ?_)
    exact (zthrow (Y := YX8_requireState) (ik := 312) (is := 314) (ic := 316) (E := "java/lang/IllegalStateException") (text := "the state does not allow this call") (names := ["java/lang/RuntimeException", "java/lang/Exception"]) (by decide +kernel) (by decide +kernel) (by decide +kernel) (zmem_of (by decide +kernel)) (zmem_of (by decide +kernel)) (by decide +kernel) (by decide +kernel) (by decide +kernel) (by decide +kernel) (by decide +kernel) (by decide +kernel) (by decide +kernel) (by decide) (by decide) (by decide) (by decide) (h.2 fun hc => absurd h1 hc))
  · exact h.elim

def kX8_requireElement : List zI := [
  (0, 1, .iload_n 0, [], 0),
  (1, 3, .ifCond .ne 14, [15], 0),
  (4, 3, .new 317, [], 0),
  (7, 1, .dup, [], 0),
  (8, 3, .ldc_w 319, [], 0),
  (11, 3, .invokespecial 321, [], 0),
  (14, 1, .athrow, [], 0),
  (15, 1, .return_, [], 0)]
theorem kX8_requireElement_ok : kX8_requireElement.all (zck cX8_requireElement) = true := by decide +kernel

def rX8_requireElement : Room := { frames := 6, cells := 1, slots := 6, locals := 82 }
abbrev YX8_requireElement : zM := (RX8, cX8_requireElement, 1, none, rX8_requireElement, ULM, zlk fX8, zcs [] [])
theorem YX8_requireElement_ok : zYok (YX8_requireElement) := zYok_of fX8_ok znil znil

theorem mX8_requireElement : zMet (ULM) yX8_requireElement cX8_requireElement 1 (none) rX8_requireElement (sX8_requireElement) := by
  refine zmet (Y := YX8_requireElement) rfl (by decide +kernel) ?_
  intro av F ok ex h
  unfold sX8_requireElement at h
  split at h
  · rename_i b
    refine zgo_ok (YX8_requireElement_ok) (inv := zi1 4 (fun ls st kc ks G => zWP YX8_requireElement ok ex 4 ls st kc ks G)) (zone fun _ _ _ _ _ h => h) kX8_requireElement (List.all_eq_true.mp kX8_requireElement_ok) 0 _ _ _ _ _ ?_
    refine And.intro (fun h1 => h.1 h1) (fun h1 => ?_)
    exact (zthrow13 (Y := YX8_requireElement) (ik := 317) (is := 319) (ic := 321) (E := "java/util/NoSuchElementException") (E' := "java/lang/RuntimeException") (text := "there is no such element") (names := ["java/lang/Exception"]) (ix := 13) (bytes := prog_25_method_4_code) (by decide +kernel) (by decide +kernel) (by decide +kernel) (by decide +kernel) (by decide +kernel) (by decide +kernel) (by decide +kernel) (by decide +kernel) (zmem_of (by decide +kernel)) (zmem_of (by decide +kernel)) (by decide +kernel) (by decide +kernel) (by decide +kernel) (by decide +kernel) (by decide +kernel) (by decide +kernel) (by decide +kernel) (by decide) (by decide) (by decide) (by decide) (h.2 fun hc => absurd h1 hc))
  · exact h.elim

def kX8_refuseFor : List zI := [
  (0, 1, .iload_n 1, [], 0),
  (1, 3, .ifCond .eq 19, [20], 0),
  (4, 1, .aload_n 0, [], 0),
  (5, 1, .iload_n 1, [], 0),
  (6, 3, .putfield 44, [], 0),
  (9, 3, .new 322, [], 0),
  (12, 1, .dup, [], 0),
  (13, 3, .ldc_w 324, [], 0),
  (16, 3, .invokespecial 326, [], 0),
  (19, 1, .athrow, [], 0),
  (20, 1, .return_, [], 0)]
theorem kX8_refuseFor_ok : kX8_refuseFor.all (zck cX8_refuseFor) = true := by decide +kernel

def rX8_refuseFor : Room := { frames := 6, cells := 1, slots := 6, locals := 82 }
abbrev YX8_refuseFor : zM := (RX8, cX8_refuseFor, 2, none, rX8_refuseFor, ULM, zlk fX8, zcs [] [])
theorem YX8_refuseFor_ok : zYok (YX8_refuseFor) := zYok_of fX8_ok znil znil

theorem mX8_refuseFor : zMet (ULM) yX8_refuseFor cX8_refuseFor 2 (none) rX8_refuseFor (sX8_refuseFor) := by
  refine zmet (Y := YX8_refuseFor) rfl (by decide +kernel) ?_
  intro av F ok ex h
  unfold sX8_refuseFor at h
  split at h
  · rename_i y
    refine zgo_ok (YX8_refuseFor_ok) (inv := zi1 9 (fun ls st kc ks G => zWP YX8_refuseFor ok ex 9 ls st kc ks G)) (zone fun _ _ _ _ _ h => h) kX8_refuseFor (List.all_eq_true.mp kX8_refuseFor_ok) 0 _ _ _ _ _ ?_
    refine And.intro (fun h1 => h.1 h1) (fun h1 => ?_)
    exact (zthrow (Y := YX8_refuseFor) (ik := 322) (is := 324) (ic := 326) (E := "java/lang/UnsupportedOperationException") (text := "refused; refusal() tells the reason") (names := ["java/lang/RuntimeException", "java/lang/Exception"]) (by decide +kernel) (by decide +kernel) (by decide +kernel) (zmem_of (by decide +kernel)) (zmem_of (by decide +kernel)) (by decide +kernel) (by decide +kernel) (by decide +kernel) (by decide +kernel) (by decide +kernel) (by decide +kernel) (by decide +kernel) (by decide) (by decide) (by decide) (by decide) (h.2 h1))
  · exact h.elim

def kX8_refusalOfShips : List zI := [
  (0, 1, .aload_n 0, [], 0),
  (1, 3, .getfield 10, [], 0),
  (4, 3, .getfield 64, [], 0),
  (7, 3, .getfield 68, [], 0),
  (10, 1, .iload_n 1, [], 0),
  (11, 1, .iadd, [], 0),
  (12, 2, .bipush 16, [], 16),
  (14, 3, .if_icmp .le 5, [19], 0),
  (17, 1, .iconst 4, [], 4),
  (18, 1, .ireturn, [], 0),
  (19, 1, .aload_n 0, [], 0),
  (20, 3, .getfield 10, [], 0),
  (23, 3, .getfield 55, [], 0),
  (26, 3, .getfield 59, [], 0),
  (29, 1, .iconst 2, [], 2),
  (30, 3, .if_icmp .ge 7, [37], 0),
  (33, 1, .iconst 5, [], 5),
  (34, 3, .goto 4, [38], 0),
  (37, 1, .iconst 0, [], 0),
  (38, 1, .ireturn, [], 0)]
theorem kX8_refusalOfShips_ok : kX8_refusalOfShips.all (zck cX8_refusalOfShips) = true := by decide +kernel

def rX8_refusalOfShips : Room := { frames := 0, cells := 0, slots := 0, locals := 0 }
abbrev YX8_refusalOfShips : zM := (RX8, cX8_refusalOfShips, 2, some .int, rX8_refusalOfShips, ULM, zlk fX8, zcs [] [])
theorem YX8_refusalOfShips_ok : zYok (YX8_refusalOfShips) := zYok_of fX8_ok znil znil

theorem mX8_refusalOfShips : zMet (ULM) yX8_refusalOfShips cX8_refusalOfShips 2 (some .int) rX8_refusalOfShips (sX8_refusalOfShips) := by
  refine zmet (Y := YX8_refusalOfShips) rfl (by decide +kernel) ?_
  intro av F ok ex h
  unfold sX8_refusalOfShips at h
  split at h
  · rename_i m
    refine zgo_ok (YX8_refusalOfShips_ok) zno kX8_refusalOfShips (List.all_eq_true.mp kX8_refusalOfShips_ok) 0 _ _ _ _ _ ?_
    unfold aRS at h
    refine And.intro (fun h1 => ?_) (fun h1 => ?_)
    · rw [if_pos h1] at h
      refine And.intro (fun h2 => ?_) (fun h2 => ?_)
      · rw [if_neg (Int32.not_lt.mpr h2)] at h
        exact h
      · rw [if_pos (Int32.not_le.mp h2)] at h
        exact h
    · rw [if_neg h1] at h
      exact h
  · exact h.elim

def kX8_refusalOfJoin : List zI := [
  (0, 1, .aload_n 0, [], 0),
  (1, 3, .getfield 10, [], 0),
  (4, 3, .getfield 64, [], 0),
  (7, 1, .astore_n 3, [], 0),
  (8, 1, .aload_n 3, [], 0),
  (9, 1, .iload_n 1, [], 0),
  (10, 3, .invokevirtual 327, [], 0),
  (13, 3, .ifCond .eq 11, [24], 0),
  (16, 1, .aload_n 3, [], 0),
  (17, 1, .iload_n 2, [], 0),
  (18, 3, .invokevirtual 327, [], 0),
  (21, 3, .ifCond .ne 5, [26], 0),
  (24, 1, .iconst 1, [], 1),
  (25, 1, .ireturn, [], 0),
  (26, 1, .aload_n 3, [], 0),
  (27, 3, .getfield 197, [], 0),
  (30, 1, .iload_n 1, [], 0),
  (31, 3, .invokevirtual 107, [], 0),
  (34, 1, .aload_n 3, [], 0),
  (35, 3, .getfield 197, [], 0),
  (38, 1, .iload_n 2, [], 0),
  (39, 3, .invokevirtual 107, [], 0),
  (42, 3, .if_icmp .ne 5, [47], 0),
  (45, 1, .iconst 2, [], 2),
  (46, 1, .ireturn, [], 0),
  (47, 1, .aload_n 3, [], 0),
  (48, 1, .iload_n 1, [], 0),
  (49, 3, .invokevirtual 233, [], 0),
  (52, 3, .ifCond .ne 45, [97], 0),
  (55, 1, .aload_n 3, [], 0),
  (56, 3, .getfield 230, [], 0),
  (59, 1, .iload_n 1, [], 0),
  (60, 3, .invokevirtual 107, [], 0),
  (63, 1, .aload_n 3, [], 0),
  (64, 3, .getfield 230, [], 0),
  (67, 1, .iload_n 2, [], 0),
  (68, 3, .invokevirtual 107, [], 0),
  (71, 3, .if_icmp .ne 26, [97], 0),
  (74, 1, .aload_n 3, [], 0),
  (75, 3, .getfield 224, [], 0),
  (78, 1, .iload_n 1, [], 0),
  (79, 3, .invokevirtual 107, [], 0),
  (82, 1, .aload_n 3, [], 0),
  (83, 3, .getfield 224, [], 0),
  (86, 1, .iload_n 2, [], 0),
  (87, 3, .invokevirtual 107, [], 0),
  (90, 3, .if_icmp .ne 7, [97], 0),
  (93, 1, .iconst 1, [], 1),
  (94, 3, .goto 4, [98], 0),
  (97, 1, .iconst 0, [], 0),
  (98, 2, .istore 4, [], 0),
  (100, 2, .iload 4, [], 0),
  (102, 3, .ifCond .eq 7, [109], 0),
  (105, 1, .iconst 0, [], 0),
  (106, 3, .goto 4, [110], 0),
  (109, 1, .iconst 3, [], 3),
  (110, 1, .ireturn, [], 0)]
theorem kX8_refusalOfJoin_ok : kX8_refusalOfJoin.all (zck cX8_refusalOfJoin) = true := by decide +kernel

def rX8_refusalOfJoin : Room := { frames := 2, cells := 0, slots := 0, locals := 42 }
abbrev YX8_refusalOfJoin : zM := (RX8, cX8_refusalOfJoin, 5, some .int, rX8_refusalOfJoin, ULM, zlk fX8, zcs [(327, 2, 0, 0, zvs (ULM) 3 (sX3_has)), (107, 2, 0, 0, zvs (ULM) 7 (sU_at ULM)), (233, 2, 0, 0, zvs (ULM) 3 (sF_hasLeft))] [])
theorem YX8_refusalOfJoin_ok : zYok (YX8_refusalOfJoin) := zYok_of fX8_ok (zall (zcal_mono (zcalV (Y := YX8_refusalOfJoin) (y := yX3_has) (cc := cX3_has) (nL := 2) (ret := some .boolean) (rm := rX3_has) (uX3_has) 327 1 3 (T := TX3) rfl wX8_327 ⟨by decide +kernel, by decide +kernel, by decide +kernel⟩ (by decide) ⟨Nat.le_of_ble_eq_true rfl, Nat.le_of_ble_eq_true rfl⟩) (fun _ _ _ _ h => zvs_P h)) (zall (zcal_mono (zcalV (Y := YX8_refusalOfJoin) (y := yX7_at) (cc := cX7_at) (nL := 2) (ret := some .int) (rm := rX7_at) (mU_at ULM ULM_small) 107 1 7 (T := TX7) rfl wX8_107 ⟨by decide +kernel, by decide +kernel, by decide +kernel⟩ (by decide) ⟨Nat.le_of_ble_eq_true rfl, Nat.le_of_ble_eq_true rfl⟩) (fun _ _ _ _ h => zvs_P h)) (zall (zcal_mono (zcalV (Y := YX8_refusalOfJoin) (y := yX3_hasLeft) (cc := cX3_hasLeft) (nL := 2) (ret := some .boolean) (rm := rX3_hasLeft) (uF_hasLeft) 233 1 3 (T := TX3) rfl wX8_233 ⟨by decide +kernel, by decide +kernel, by decide +kernel⟩ (by decide) ⟨Nat.le_of_ble_eq_true rfl, Nat.le_of_ble_eq_true rfl⟩) (fun _ _ _ _ h => zvs_P h)) znil))) znil

theorem mX8_refusalOfJoin : zMet (ULM) yX8_refusalOfJoin cX8_refusalOfJoin 5 (some .int) rX8_refusalOfJoin (sX8_refusalOfJoin) := by
  refine zmet (Y := YX8_refusalOfJoin) rfl (by decide +kernel) ?_
  intro av F ok ex h
  unfold sX8_refusalOfJoin at h
  split at h
  · rename_i s t
    refine zgo_ok (YX8_refusalOfJoin_ok) zno kX8_refusalOfJoin (List.all_eq_true.mp kX8_refusalOfJoin_ok) 0 _ _ _ _ _ ?_
    unfold aRJ at h
    refine And.intro (fun hs => ?_) (fun hs => ?_)
    · refine And.intro (fun h0 => absurd h0 (by decide)) (fun _ => ?_)
      refine And.intro (fun ht => ?_) (fun ht => ?_)
      · refine And.intro (fun _ => ?_) (fun h0 => absurd h0 (by decide))
        rw [if_pos ⟨hs, ht⟩] at h
        refine And.intro (fun h1 => ?_) (fun h1 => ?_)
        · have h1 : ¬ qFi F s = qFi F t := h1
          rw [if_neg h1] at h
          refine And.intro (fun h2 => ?_) (fun h2 => ?_)
          · have h2 : qWa F s = -1 := h2
            rw [if_neg (fun hc => hc.1 h2)] at h
            refine And.intro (fun _ => ?_) (fun h0 => absurd h0 (by decide))
            refine And.intro (fun _ => ?_) (fun h0 => absurd rfl h0)
            exact h
          · have h2 : ¬ qWa F s = -1 := h2
            refine And.intro (fun h0 => absurd rfl h0) (fun _ => ?_)
            refine And.intro (fun h3 => ?_) (fun h3 => ?_)
            · have h3 : ¬ qWa F s = qWa F t := h3
              rw [if_neg (fun hc => h3 hc.2.1)] at h
              refine And.intro (fun _ => ?_) (fun h0 => absurd rfl h0)
              exact h
            · have h3 : qWa F s = qWa F t := h3
              refine And.intro (fun h4 => ?_) (fun h4 => ?_)
              · have h4 : ¬ qUp F s = qUp F t := h4
                rw [if_neg (fun hc => h4 hc.2.2)] at h
                refine And.intro (fun _ => ?_) (fun h0 => absurd rfl h0)
                exact h
              · have h4 : qUp F s = qUp F t := h4
                rw [if_pos ⟨h2, h3, h4⟩] at h
                refine And.intro (fun h0 => absurd h0 (by decide)) (fun _ => ?_)
                exact h
        · have h1 : qFi F s = qFi F t := h1
          rw [if_pos h1] at h
          exact h
      · refine And.intro (fun h0 => absurd rfl h0) (fun _ => ?_)
        rw [if_neg (fun hc => ht hc.2)] at h
        exact h
    · refine And.intro (fun _ => ?_) (fun h0 => absurd rfl h0)
      rw [if_neg (fun hc => hs hc.1)] at h
      exact h
  · exact h.elim

def kX8_refusalOfPart : List zI := [
  (0, 1, .aload_n 0, [], 0),
  (1, 3, .getfield 10, [], 0),
  (4, 3, .getfield 64, [], 0),
  (7, 1, .iload_n 1, [], 0),
  (8, 3, .invokevirtual 327, [], 0),
  (11, 3, .ifCond .ne 5, [16], 0),
  (14, 1, .iconst 1, [], 1),
  (15, 1, .ireturn, [], 0),
  (16, 1, .aload_n 0, [], 0),
  (17, 3, .getfield 10, [], 0),
  (20, 3, .getfield 64, [], 0),
  (23, 1, .iload_n 1, [], 0),
  (24, 3, .invokevirtual 203, [], 0),
  (27, 1, .iconst 1, [], 1),
  (28, 3, .if_icmp .ne 8, [36], 0),
  (31, 2, .bipush 6, [], 6),
  (33, 3, .goto 4, [37], 0),
  (36, 1, .iconst 0, [], 0),
  (37, 1, .ireturn, [], 0)]
theorem kX8_refusalOfPart_ok : kX8_refusalOfPart.all (zck cX8_refusalOfPart) = true := by decide +kernel

def rX8_refusalOfPart : Room := { frames := 2, cells := 0, slots := 0, locals := 44 }
abbrev YX8_refusalOfPart : zM := (RX8, cX8_refusalOfPart, 2, some .int, rX8_refusalOfPart, ULM, zlk fX8, zcs [(327, 2, 0, 0, zvs (ULM) 3 (sX3_has)), (203, 2, 0, 0, zvs (ULM) 3 (sX3_shipsInConvoy))] [])
theorem YX8_refusalOfPart_ok : zYok (YX8_refusalOfPart) := zYok_of fX8_ok (zall (zcal_mono (zcalV (Y := YX8_refusalOfPart) (y := yX3_has) (cc := cX3_has) (nL := 2) (ret := some .boolean) (rm := rX3_has) (uX3_has) 327 1 3 (T := TX3) rfl wX8_327 ⟨by decide +kernel, by decide +kernel, by decide +kernel⟩ (by decide) ⟨Nat.le_of_ble_eq_true rfl, Nat.le_of_ble_eq_true rfl⟩) (fun _ _ _ _ h => zvs_P h)) (zall (zcal_mono (zcalV (Y := YX8_refusalOfPart) (y := yX3_shipsInConvoy) (cc := cX3_shipsInConvoy) (nL := 4) (ret := some .int) (rm := rX3_shipsInConvoy) (uX3_shipsInConvoy) 203 1 3 (T := TX3) rfl wX8_203 ⟨by decide +kernel, by decide +kernel, by decide +kernel⟩ (by decide) ⟨Nat.le_of_ble_eq_true rfl, Nat.le_of_ble_eq_true rfl⟩) (fun _ _ _ _ h => zvs_P h)) znil)) znil

theorem mX8_refusalOfPart : zMet (ULM) yX8_refusalOfPart cX8_refusalOfPart 2 (some .int) rX8_refusalOfPart (sX8_refusalOfPart) := by
  refine zmet (Y := YX8_refusalOfPart) rfl (by decide +kernel) ?_
  intro av F ok ex h
  unfold sX8_refusalOfPart at h
  split at h
  · rename_i s
    refine zgo_ok (YX8_refusalOfPart_ok) zno kX8_refusalOfPart (List.all_eq_true.mp kX8_refusalOfPart_ok) 0 _ _ _ _ _ ?_
    unfold aRP at h
    refine And.intro (fun hs => ?_) (fun hs => ?_)
    · refine And.intro (fun _ => ?_) (fun h0 => absurd h0 (by decide))
      rw [if_pos hs] at h
      refine And.intro (fun h1 => ?_) (fun h1 => ?_)
      · rw [if_neg h1] at h
        exact h
      · rw [if_pos h1] at h
        exact h
    · refine And.intro (fun h0 => absurd rfl h0) (fun _ => ?_)
      rw [if_neg hs] at h
      exact h
  · exact h.elim

theorem z8_of {x : Int32} (h0 : ¬ x < 0) (h8 : x < 8) : ∃ k, k < 8 ∧ x = nI k := by
  obtain ⟨j, hj, rfl⟩ := nI_of h0
  have h9 : nI j < nI 8 := h8
  exact ⟨j, (nI_ltI hj (by decide)).mp h9, rfl⟩
theorem z8_lo : ∀ k, k < 8 → ¬ nI k < 0 := by decide
theorem z8_hi : ∀ k, k < 8 → nI k < 8 := by decide
theorem z8_slot : ∀ k, k < 8 → znth (ULM.2 497).2.2 (nI k).toNatClampNeg = some (some (135 + 45 * k)) := by decide +kernel
theorem z8_or {k : Nat} (h : k < 8) : k = 0 ∨ k = 1 ∨ k = 2 ∨ k = 3 ∨ k = 4 ∨ k = 5 ∨ k = 6 ∨ k = 7 := by omega
theorem zcp_out (F : zF) (j i : Nat) {a : Nat} (h : a < j ∨ j + 45 ≤ a) : zcp F j i a = F a := by
  unfold zcp
  rw [if_neg (by omega)]

def kX2_newestKept : List zI := [
  (0, 1, .aload_n 0, [], 0),
  (1, 3, .getfield 17, [], 0),
  (4, 3, .ifCond .lt 15, [19], 0),
  (7, 1, .aload_n 0, [], 0),
  (8, 3, .getfield 17, [], 0),
  (11, 1, .aload_n 0, [], 0),
  (12, 3, .getfield 11, [], 0),
  (15, 1, .arraylength, [], 0),
  (16, 3, .if_icmp .lt 7, [23], 0),
  (19, 1, .aconst_null, [], 0),
  (20, 3, .goto 12, [32], 0),
  (23, 1, .aload_n 0, [], 0),
  (24, 3, .getfield 11, [], 0),
  (27, 1, .aload_n 0, [], 0),
  (28, 3, .getfield 17, [], 0),
  (31, 1, .aaload, [], 0),
  (32, 1, .areturn, [], 0)]
theorem kX2_newestKept_ok : kX2_newestKept.all (zck cX2_newestKept) = true := by decide +kernel

def rX2_newestKept : Room := { frames := 0, cells := 0, slots := 0, locals := 0 }
abbrev YX2_newestKept : zM := (RX2, cX2_newestKept, 1, some (.object "LockMaster$Canal"), rX2_newestKept, ULM, zlk fX2, zcs [] [])
theorem YX2_newestKept_ok : zYok (YX2_newestKept) := zYok_of fX2_ok znil znil

theorem mX2_newestKept : zMet (ULM) yX2_newestKept cX2_newestKept 1 (some (.object "LockMaster$Canal")) rX2_newestKept (sX2_newestKept) := by
  refine zmet (Y := YX2_newestKept) rfl (by decide +kernel) ?_
  intro av F ok ex h
  unfold sX2_newestKept at h
  split at h
  · refine zgo_ok (YX2_newestKept_ok) zno kX2_newestKept (List.all_eq_true.mp kX2_newestKept_ok) 0 _ _ _ _ _ ?_
    obtain ⟨kk, hk, he, h⟩ := h
    have h3 : ¬ F 496 1 < 0 := by rw [he]; exact z8_lo kk hk
    have h4 : F 496 1 < 8 := by rw [he]; exact z8_hi kk hk
    refine And.intro (fun h1 => absurd h1 h3) (fun h1 => ?_)
    refine And.intro (fun h2 => ?_) (fun h2 => absurd h4 h2)
    refine Exists.intro (vp_in_lt (by decide) h1 h2) ?_
    refine ⟨135 + 45 * kk, ?_, h⟩
    show znth (ULM.2 497).2.2 (F 496 1).toNatClampNeg = some (some (135 + 45 * kk))
    rw [he]
    exact z8_slot kk hk
  · exact h.elim

def kX2_keep : List zI := [
  (0, 1, .aload_n 0, [], 0),
  (1, 1, .aload_n 0, [], 0),
  (2, 3, .getfield 17, [], 0),
  (5, 1, .iconst 1, [], 1),
  (6, 1, .iadd, [], 0),
  (7, 1, .aload_n 0, [], 0),
  (8, 3, .getfield 11, [], 0),
  (11, 1, .arraylength, [], 0),
  (12, 3, .if_icmp .ge 12, [24], 0),
  (15, 1, .aload_n 0, [], 0),
  (16, 3, .getfield 17, [], 0),
  (19, 1, .iconst 1, [], 1),
  (20, 1, .iadd, [], 0),
  (21, 3, .goto 4, [25], 0),
  (24, 1, .iconst 0, [], 0),
  (25, 3, .putfield 17, [], 0),
  (28, 1, .aload_n 0, [], 0),
  (29, 1, .aload_n 0, [], 0),
  (30, 3, .getfield 21, [], 0),
  (33, 1, .iconst 1, [], 1),
  (34, 1, .iadd, [], 0),
  (35, 2, .bipush 8, [], 8),
  (37, 3, .invokestatic 25, [], 0),
  (40, 3, .putfield 21, [], 0),
  (43, 1, .aload_n 0, [], 0),
  (44, 3, .invokevirtual 31, [], 0),
  (47, 1, .astore_n 2, [], 0),
  (48, 1, .aload_n 2, [], 0),
  (49, 3, .ifnull 8, [57], 0),
  (52, 1, .aload_n 2, [], 0),
  (53, 1, .aload_n 1, [], 0),
  (54, 3, .invokevirtual 35, [], 0),
  (57, 1, .return_, [], 0)]
theorem kX2_keep_ok : kX2_keep.all (zck cX2_keep) = true := by decide +kernel

def rX2_keep : Room := { frames := 4, cells := 0, slots := 0, locals := 85 }
abbrev YX2_keep : zM := (RX2, cX2_keep, 3, none, rX2_keep, ULM, zlk fX2, zcs [(31, 1, 0, 0, zvs (ULM) 2 (sX2_newestKept)), (35, 2, 0, 0, zvs (ULM) 1 (sL_copyFrom))] [(25, 2, 0, 0, sJ9_min_7cf53)])
theorem YX2_keep_ok : zYok (YX2_keep) := zYok_of fX2_ok (zall (zcal_mono (zcalV (Y := YX2_keep) (y := yX2_newestKept) (cc := cX2_newestKept) (nL := 1) (ret := some (.object "LockMaster$Canal")) (rm := rX2_newestKept) (mX2_newestKept) 31 0 2 (T := TX2) rfl wX2_31 ⟨by decide +kernel, by decide +kernel, by decide +kernel⟩ (by decide) ⟨Nat.le_of_ble_eq_true rfl, Nat.le_of_ble_eq_true rfl⟩) (fun _ _ _ _ h => zvs_P h)) (zall (zcal_mono (zcalV (Y := YX2_keep) (y := yX1_copyFrom) (cc := cX1_copyFrom) (nL := 2) (ret := none) (rm := rX1_copyFrom) (uL_copyFrom) 35 1 1 (T := TX1) rfl wX2_35 ⟨by decide +kernel, by decide +kernel, by decide +kernel⟩ (by decide) ⟨Nat.le_of_ble_eq_true rfl, Nat.le_of_ble_eq_true rfl⟩) (fun _ _ _ _ h => zvs_P h)) znil)) (zall (zcalS (Y := YX2_keep) (y := yJ9_min_7cf53) (cc := cJ9_min_7cf53) (nL := 2) (ret := some .int) (rm := rJ9_min_7cf53) (mJ9_min_7cf53 ULM) 25 2 wX2_25 ⟨by decide +kernel, by decide +kernel, by decide +kernel⟩ (by decide) ⟨Nat.le_of_ble_eq_true rfl, Nat.le_of_ble_eq_true rfl⟩) znil)

theorem mX2_keep : zMet (ULM) yX2_keep cX2_keep 3 (none) rX2_keep (sX2_keep) := by
  refine zmet (Y := YX2_keep) rfl (by decide +kernel) ?_
  intro av F ok ex h
  unfold sX2_keep at h
  split at h
  · refine zgo_ok (YX2_keep_ok) zno kX2_keep (List.all_eq_true.mp kX2_keep_ok) 0 _ _ _ _ _ ?_
    obtain ⟨kk, hk, he, h⟩ := h
    refine And.intro (fun h1 => ?_) (fun h1 => ?_)
    · have h3 : aNew F = (0 : Int32) := if_neg (Int32.not_lt.mpr h1)
      have h5 : aKp F = zup (zup F 496 1 ((0 : Int32))) 496 2 (imin (F 496 2 + 1) 8) := by unfold aKp; rw [h3]
      rw [h3] at he
      rw [h5] at h
      refine ⟨kk, hk, he, ?_⟩
      rcases z8_or hk with rfl | rfl | rfl | rfl | rfl | rfl | rfl | rfl <;> exact h
    · have h3 : aNew F = F 496 1 + 1 := if_pos (Int32.not_le.mp h1)
      have h5 : aKp F = zup (zup F 496 1 (F 496 1 + 1)) 496 2 (imin (F 496 2 + 1) 8) := by unfold aKp; rw [h3]
      rw [h3] at he
      rw [h5] at h
      refine ⟨kk, hk, he, ?_⟩
      rcases z8_or hk with rfl | rfl | rfl | rfl | rfl | rfl | rfl | rfl <;> exact h
  · exact h.elim

def kX2_takeBack : List zI := [
  (0, 1, .aload_n 0, [], 0),
  (1, 3, .invokevirtual 31, [], 0),
  (4, 1, .astore_n 2, [], 0),
  (5, 1, .aload_n 2, [], 0),
  (6, 3, .ifnull 8, [14], 0),
  (9, 1, .aload_n 1, [], 0),
  (10, 1, .aload_n 2, [], 0),
  (11, 3, .invokevirtual 35, [], 0),
  (14, 1, .aload_n 0, [], 0),
  (15, 1, .aload_n 0, [], 0),
  (16, 3, .getfield 17, [], 0),
  (19, 3, .ifCond .le 12, [31], 0),
  (22, 1, .aload_n 0, [], 0),
  (23, 3, .getfield 17, [], 0),
  (26, 1, .iconst 1, [], 1),
  (27, 1, .isub, [], 0),
  (28, 3, .goto 10, [38], 0),
  (31, 1, .aload_n 0, [], 0),
  (32, 3, .getfield 11, [], 0),
  (35, 1, .arraylength, [], 0),
  (36, 1, .iconst 1, [], 1),
  (37, 1, .isub, [], 0),
  (38, 3, .putfield 17, [], 0),
  (41, 1, .aload_n 0, [], 0),
  (42, 1, .dup, [], 0),
  (43, 3, .getfield 21, [], 0),
  (46, 1, .iconst 1, [], 1),
  (47, 1, .isub, [], 0),
  (48, 3, .putfield 21, [], 0),
  (51, 1, .return_, [], 0)]
theorem kX2_takeBack_ok : kX2_takeBack.all (zck cX2_takeBack) = true := by decide +kernel

def rX2_takeBack : Room := { frames := 4, cells := 0, slots := 0, locals := 85 }
abbrev YX2_takeBack : zM := (RX2, cX2_takeBack, 3, none, rX2_takeBack, ULM, zlk fX2, zcs [(31, 1, 0, 0, zvs (ULM) 2 (sX2_newestKept)), (35, 2, 0, 0, zvs (ULM) 1 (sL_copyFrom))] [])
theorem YX2_takeBack_ok : zYok (YX2_takeBack) := zYok_of fX2_ok (zall (zcal_mono (zcalV (Y := YX2_takeBack) (y := yX2_newestKept) (cc := cX2_newestKept) (nL := 1) (ret := some (.object "LockMaster$Canal")) (rm := rX2_newestKept) (mX2_newestKept) 31 0 2 (T := TX2) rfl wX2_31 ⟨by decide +kernel, by decide +kernel, by decide +kernel⟩ (by decide) ⟨Nat.le_of_ble_eq_true rfl, Nat.le_of_ble_eq_true rfl⟩) (fun _ _ _ _ h => zvs_P h)) (zall (zcal_mono (zcalV (Y := YX2_takeBack) (y := yX1_copyFrom) (cc := cX1_copyFrom) (nL := 2) (ret := none) (rm := rX1_copyFrom) (uL_copyFrom) 35 1 1 (T := TX1) rfl wX2_35 ⟨by decide +kernel, by decide +kernel, by decide +kernel⟩ (by decide) ⟨Nat.le_of_ble_eq_true rfl, Nat.le_of_ble_eq_true rfl⟩) (fun _ _ _ _ h => zvs_P h)) znil)) znil

theorem mX2_takeBack : zMet (ULM) yX2_takeBack cX2_takeBack 3 (none) rX2_takeBack (sX2_takeBack) := by
  refine zmet (Y := YX2_takeBack) rfl (by decide +kernel) ?_
  intro av F ok ex h
  unfold sX2_takeBack at h
  split at h
  · refine zgo_ok (YX2_takeBack_ok) zno kX2_takeBack (List.all_eq_true.mp kX2_takeBack_ok) 0 _ _ _ _ _ ?_
    obtain ⟨kk, hk, he, h⟩ := h
    refine ⟨kk, hk, he, ?_⟩
    rcases z8_or hk with rfl | rfl | rfl | rfl | rfl | rfl | rfl | rfl
    all_goals
      refine And.intro (fun h1 => ?_) (fun h1 => ?_)
      · have h2 : aOld F = 7 := if_neg (Int32.not_lt.mpr h1)
        unfold aTb at h
        rw [h2] at h
        exact h
      · have h2 : aOld F = F 496 1 - 1 := if_pos (Int32.not_le.mp h1)
        unfold aTb at h
        rw [h2] at h
        exact h
  · exact h.elim

def kX2_forget : List zI := [
  (0, 1, .aload_n 0, [], 0),
  (1, 1, .iconst 0, [], 0),
  (2, 3, .putfield 21, [], 0),
  (5, 1, .return_, [], 0)]
theorem kX2_forget_ok : kX2_forget.all (zck cX2_forget) = true := by decide +kernel

def rX2_forget : Room := { frames := 0, cells := 0, slots := 0, locals := 0 }
abbrev YX2_forget : zM := (RX2, cX2_forget, 1, none, rX2_forget, ULM, zlk fX2, zcs [] [])
theorem YX2_forget_ok : zYok (YX2_forget) := zYok_of fX2_ok znil znil

theorem mX2_forget : zMet (ULM) yX2_forget cX2_forget 1 (none) rX2_forget (sX2_forget) := by
  refine zmet (Y := YX2_forget) rfl (by decide +kernel) ?_
  intro av F ok ex h
  unfold sX2_forget at h
  split at h
  · refine zgo_ok (YX2_forget_ok) zno kX2_forget (List.all_eq_true.mp kX2_forget_ok) 0 _ _ _ _ _ ?_
    exact h
  · exact h.elim

end ZL1
end
section
/-! LockMaster's own methods, in its world -/
section ZL2
set_option maxRecDepth 20000
abbrev xI : String := "java/lang/IndexOutOfBoundsException"
abbrev xA : String := "java/lang/IllegalArgumentException"
abbrev xS : String := "java/lang/IllegalStateException"
abbrev xE : String := "java/util/NoSuchElementException"
abbrev xU : String := "java/lang/UnsupportedOperationException"
abbrev xR : String := "java/lang/ArithmeticException"
theorem zreq1 {A B : Prop} (h : A) : (¬ (1 : Int32) = 0 → A) ∧ (¬ ¬ (1 : Int32) = 0 → B) := ⟨fun _ => h, fun h0 => absurd (by decide) h0⟩
theorem zreq0 {A B : Prop} (h : B) : (¬ (0 : Int32) = 0 → A) ∧ (¬ ¬ (0 : Int32) = 0 → B) := ⟨fun h0 => absurd rfl h0, fun _ => h⟩
theorem zjne1 {A B : Prop} (h : A) : (¬ (1 : Int32) = 0 → A) ∧ ((1 : Int32) = 0 → B) := ⟨fun _ => h, fun h0 => absurd h0 (by decide)⟩
theorem zjne0 {A B : Prop} (h : B) : (¬ (0 : Int32) = 0 → A) ∧ ((0 : Int32) = 0 → B) := ⟨fun h0 => absurd rfl h0, fun _ => h⟩
theorem zjeq1 {A B : Prop} (h : B) : ((1 : Int32) = 0 → A) ∧ (¬ (1 : Int32) = 0 → B) := ⟨fun h0 => absurd h0 (by decide), fun _ => h⟩
theorem zjeq0 {A B : Prop} (h : A) : ((0 : Int32) = 0 → A) ∧ (¬ (0 : Int32) = 0 → B) := ⟨fun _ => h, fun h0 => absurd rfl h0⟩
/-- refused, or not -/
def zrf (y : Int32) (F : zF) (ex : zX) (A : Prop) : Prop := (y = 0 → A) ∧ (¬ y = 0 → ex xU (zup F 495 7 y))
/-- a change: what was is kept before -/
def zkp (F : zF) (A : zF → Prop) : Prop := ∃ k, k < 8 ∧ aNew F = nI k ∧ A (zcp (aKp F) (135 + 45 * k) 0)
theorem zkp_and {F : zF} {A : zF → Prop} (h : zkp F A) : ∃ k, k < 8 ∧ aNew F = nI k ∧ A (zcp (aKp F) (135 + 45 * k) 0) := h

def aReach (F : zF) (r w : Int32) : Int32 := if w = 0 then qA F r else if w = 1 then qN F r else if w = 2 then qW F r else if w = 3 then qLev F r else if w = 4 then qDry F r else qSir F r (F 25 9).toNatClampNeg
def aLock (F : zF) (r w : Int32) : Int32 := if w = 0 then zrd 4 (F 10) r else if w = 1 then zrd 4 (F 12) r else if w = 2 then zrd 4 (F 16) r else if w = 3 then zrd 4 (F 14) r else if w = 4 then zrd 4 (F 18) r else if w = 5 then zrd 4 (F 20) r else if w = 6 then qWin F r else if w = 7 then qCva F r (F 25 9).toNatClampNeg else if w = 8 then zrd 4 (F 22) r else zrd 4 (F 24) r
def aShip (F : zF) (r w : Int32) : Int32 := if w = 0 then zrd 16 (F 27) r else if w = 1 then zrd 16 (F 29) r else if w = 2 then zrd 16 (F 31) r else if w = 3 then zrd 16 (F 33) r else if w = 4 then qRe F r else if w = 5 then qWa F r else if w = 6 then (if qWa F r = -1 then 0 else qWt F r) else if w = 7 then qFi F r else if w = 8 then qSIC F r else zrd 16 (F 39) r
def aAcc (F : zF) (w : Int32) : Int32 := if w = 0 then F 1 3 else if w = 1 then F 25 9 else if w = 2 then qSir F (-1) (F 25 9).toNatClampNeg else if w = 3 then qWcv F (F 8 9).toNatClampNeg else if w = 4 then zsum (F 7) 5 else if w = 5 then qAllW F (F 8 9).toNatClampNeg else if w = 6 then F 0 8 else if w = 7 then F 0 9 else if w = 8 then zsum (F 24) 4 else if w = 9 then F 8 8 else F 0 10
def aMkR (F : zF) (a l : Int32) : zF := zup (zwr 5 (zwr 5 (zwr 5 (zup F 0 10 (F 0 10 + a * l)) 3 (F 1 3) a) 5 (F 1 3) l) 7 (F 1 3) (a * l)) 1 3 (F 1 3 + 1)
def aAddL (p : Bool) (G : zF) (n m b : Int32) : zF := match p with
  | true => qMkL G n m b
  | false => G
def aSetV (F : zF) (s : Int32) : Int32 := if s = 0 then F 0 4 else if s = 1 then F 0 5 else F 0 6
def aSetF (F : zF) (s v : Int32) : zF := if s = 0 then zup F 0 4 v else if s = 1 then zup F 0 5 v else zup F 0 6 v
def aArr (G : zF) : Nat → zF
  | 0 => G
  | i + 1 => qMkC (aArr G i) (zrd 10 (aArr G i 502) (nI i)) (zrd 10 (aArr G i 504) (nI i)) (zrd 10 (aArr G i 506) (nI i)) (if zrd 10 (aArr G i 508) (nI i) = 1 then 1 else 0)
def aTicks (G : zF) : Nat → zF
  | 0 => G
  | i + 1 => qOT (aTicks G i)
def aFt (G : zF) : zF := spl 45 45 G (qOT (vw 45 G))
def aFc (s : Int32) : Nat → Nat → zF → Nat × zF
  | 0, n, G => (n, G)
  | d + 1, n, G => if G 45 7 < 500 ∧ ¬ qWa (vw 45 G) s = -1 then aFc s d (n + 1) (aFt G) else (n, G)

def sX8_addReach : zSp := fun as F ok ex => match as with
  | [.ref 495, .int a, .int l, .int n, .int m, .int b] => zfo ((1 ≤ a ∧ a ≤ 9) ∧ (10 ≤ l ∧ l ≤ 99)) xA F ex (zfo (0 < F 1 3 → (1 ≤ n ∧ n ≤ 9) ∧ (4 ≤ m ∧ m ≤ 60) ∧ (0 ≤ b ∧ b ≤ 3)) xA F ex (zfo (F 1 3 < 5 ∧ F 25 9 = 0) xS F ex (zkp F fun G => ok (some (.int (aAddL (decide (0 < F 1 3)) G n m b 1 3))) (aMkR (aAddL (decide (0 < F 1 3)) G n m b) a l))))
  | _ => False
def sX8_set : zSp := fun as F ok ex => match as with
  | [.ref 495, .int s, .int v] => zfo (0 ≤ s ∧ s < 3) xI F ex (zfo ((if s = 0 then 1 else 0) ≤ v ∧ v ≤ aMost s) xA F ex (zkp F fun G => ok (some (.int (aSetV G s))) (aSetF G s v)))
  | _ => False
def sX8_reach : zSp := fun as F ok ex => match as with
  | [.ref 495, .int r, .int w] => zfo (0 ≤ r ∧ r < F 1 3) xI F ex (zfo (0 ≤ w ∧ w ≤ 5) xA F ex (ok (some (.int (aReach F r w))) (F)))
  | _ => False
def sX8_lock : zSp := fun as F ok ex => match as with
  | [.ref 495, .int r, .int w] => zfo (0 ≤ r ∧ r < F 8 9) xI F ex (zfo (0 ≤ w ∧ w ≤ 9) xA F ex (ok (some (.int (aLock F r w))) (F)))
  | _ => False
def sX8_addShip : zSp := fun as F ok ex => match as with
  | [.ref 495, .int s, .int d, .int r, .int b] => zfo ((1 ≤ s ∧ s ≤ 9) ∧ (1 ≤ d ∧ d ≤ 99) ∧ (0 ≤ r ∧ r ≤ 3)) xA F ex (zrf (aRS F 1) F ex (zkp F fun G => ok (some (.int (G 25 9))) (qMkC G s d r b)))
  | _ => False
def sX8_append : zSp := fun as F ok ex => match as with
  | [.ref 495, .int c] => zfo (F 498 5 < 50) xS F ex (ok none (spl 498 11 F (xPut (vw 498 F) c)))
  | _ => False
def aArR (F : zF) : zF := zup (zup (spl 498 11 F (xRead (vw 498 F)).2) 495 6 (xRead (vw 498 F)).1) 498 5 0
def sX8_arrive : zSp := fun as F ok ex => match as with
  | [.ref 495] => zfo ((xRead (vw 498 F)).1 = -1) xA (aArR F) ex (zrf (aRS (aArR F) (aArR F 498 6)) (aArR F) ex (zkp (aArR F) fun G => ok (some (.int (aArR F 498 6))) (aArr G (aArR F 498 6).toNatClampNeg)))
  | _ => False
def sX8_faultPosition : zSp := fun as F ok ex => match as with
  | [.ref 495] => ok (some (.int (F 495 6))) (F)
  | _ => False
def sX8_join : zSp := fun as F ok ex => match as with
  | [.ref 495, .int s, .int t] => zrf (aRJ F s t) F ex (zkp F fun G => ok (some (.int (qSIC (qJn G (qFi G t) (qFi G s)) t))) (qJn G (qFi G t) (qFi G s)))
  | _ => False
def sX8_part : zSp := fun as F ok ex => match as with
  | [.ref 495, .int s] => zrf (aRP F s) F ex (zkp F fun G => ok (some (.int (qSIC G s - 1))) (qTk G s))
  | _ => False
def sX8_refusal : zSp := fun as F ok ex => match as with
  | [.ref 495] => zfo (¬ F 495 7 = 0) xE F ex (ok (some (.int (F 495 7))) (F))
  | _ => False
def sX8_ship : zSp := fun as F ok ex => match as with
  | [.ref 495, .int r, .int w] => zfo (0 ≤ r ∧ r < F 25 9) xI F ex (zfo (0 ≤ w ∧ w ≤ 9) xA F ex (ok (some (.int (aShip F r w))) (F)))
  | _ => False
def sX8_convoy : zSp := fun as F ok ex => match as with
  | [.ref 495, .int s, .int x] => zfo (0 ≤ s ∧ s < F 25 9) xI F ex (zfo (¬ qSOC F s x = -1) xE F ex (ok (some (.int (qSOC F s x))) (F)))
  | _ => False
def sX8_waiting : zSp := fun as F ok ex => match as with
  | [.ref 495, .int l, .int x] => zfo (0 ≤ l ∧ l < F 8 9) xI F ex (zfo (¬ qCIO F l x (F 25 9).toNatClampNeg 0 = -1) xE F ex (ok (some (.int (qCIO F l x (F 25 9).toNatClampNeg 0))) (F)))
  | _ => False
def sX8_priority : zSp := fun as F ok ex => match as with
  | [.ref 495, .int s] => zfo (0 ≤ s ∧ s < F 25 9) xI F ex (zfo (¬ qWa F s = -1) xS F ex (ok (some (.int (qPr F (qFi F s)))) (F)))
  | _ => False
def aHi (F : zF) (i : Int32) : zF := qLook F i (qLen F (qWa F i))
def sX8_hindrance : zSp := fun as F ok ex => match as with
  | [.ref 495, .int s] => zfo (0 ≤ s ∧ s < F 25 9) xI F ex (zfo (¬ qWa F s = -1) xS F ex (ok (some (.int (qHO F (aHi F (qFi F s)) (qFi F s)))) (aHi F (qFi F s))))
  | _ => False
def sX8_pass : zSp := fun as F ok ex => match as with
  | [.ref 495, .int n] => zfo ((1 ≤ n ∧ n ≤ 40) ∧ n ≤ 500 - F 0 7) xA F ex (zfo (2 ≤ F 1 3) xS F ex (zkp F fun G => ok (some (.int (qSir (aTicks G n.toNatClampNeg) (-1) (aTicks G n.toNatClampNeg 25 9).toNatClampNeg - qSir G (-1) (G 25 9).toNatClampNeg))) (aTicks G n.toNatClampNeg)))
  | _ => False
def sX8_tick : zSp := fun as F ok ex => match as with
  | [.ref 495] => ok (some (.int (F 0 7))) (F)
  | _ => False
def sX8_untilLeft : zSp := fun as F ok ex => match as with
  | [.ref 495, .int s, .int n] => zfo (0 ≤ s ∧ s < F 25 9) xI F ex (zfo (1 ≤ n ∧ n ≤ 40) xA F ex (zfo (¬ qWa F s = -1) xS F ex (zfo (qWa (vw 45 (aFc s n.toNatClampNeg 0 (zcp F 45 0)).2) s = -1) xE (aFc s n.toNatClampNeg 0 (zcp F 45 0)).2 ex (ok (some (.int (nI (aFc s n.toNatClampNeg 0 (zcp F 45 0)).1))) ((aFc s n.toNatClampNeg 0 (zcp F 45 0)).2)))))
  | _ => False
def sX8_account : zSp := fun as F ok ex => match as with
  | [.ref 495, .int w] => zfo (0 ≤ w ∧ w ≤ 10) xA F ex (ok (some (.int (aAcc F w))) (F))
  | _ => False
def sX8_meanLocked : zSp := fun as F ok ex => match as with
  | [.ref 495] => zfo (¬ zsum (F 24) 4 = 0) xR F ex (∃ _ : vf_n64 (FP.ddiv (FP.i2d (zsum (F 22) 4)) (FP.i2d (zsum (F 24) 4))), ok (some (.double (FP.ddiv (FP.i2d (zsum (F 22) 4)) (FP.i2d (zsum (F 24) 4))))) F)
  | _ => False
def sX8_undo : zSp := fun as F ok ex => match as with
  | [.ref 495] => zfo (0 < F 496 2) xS F ex (∃ k, k < 8 ∧ F 496 1 = nI k ∧ ok (some (.int (F 496 2 - 1))) (aTb F (zcp F 0 (135 + 45 * k))))
  | _ => False
def sX8_save : zSp := fun as F ok ex => match as with
  | [.ref 495] => ok none (zup (zcp F 90 0) 495 5 1)
  | _ => False
def sX8_restore : zSp := fun as F ok ex => match as with
  | [.ref 495] => zfo (¬ F 495 5 = 0) xS F ex (ok none (zup (zcp F 0 90) 496 2 0))
  | _ => False
def kX8_reach : List zI := [
  (0, 1, .iload_n 1, [], 0),
  (1, 1, .aload_n 0, [], 0),
  (2, 3, .getfield 10, [], 0),
  (5, 3, .getfield 55, [], 0),
  (8, 3, .getfield 59, [], 0),
  (11, 3, .invokestatic 92, [], 0),
  (14, 1, .iload_n 2, [], 0),
  (15, 1, .iconst 0, [], 0),
  (16, 1, .iconst 5, [], 5),
  (17, 3, .invokestatic 47, [], 0),
  (20, 3, .invokestatic 51, [], 0),
  (23, 1, .iload_n 2, [], 0),
  (24, 36, .tableswitch 105 0 4 #[36, 51, 66, 81, 93], [129, 60, 75, 90, 105, 117], 0),
  (60, 1, .aload_n 0, [], 0),
  (61, 3, .getfield 10, [], 0),
  (64, 3, .getfield 55, [], 0),
  (67, 3, .getfield 103, [], 0),
  (70, 1, .iload_n 1, [], 0),
  (71, 3, .invokevirtual 107, [], 0),
  (74, 1, .ireturn, [], 0),
  (75, 1, .aload_n 0, [], 0),
  (76, 3, .getfield 10, [], 0),
  (79, 3, .getfield 55, [], 0),
  (82, 3, .getfield 112, [], 0),
  (85, 1, .iload_n 1, [], 0),
  (86, 3, .invokevirtual 107, [], 0),
  (89, 1, .ireturn, [], 0),
  (90, 1, .aload_n 0, [], 0),
  (91, 3, .getfield 10, [], 0),
  (94, 3, .getfield 55, [], 0),
  (97, 3, .getfield 115, [], 0),
  (100, 1, .iload_n 1, [], 0),
  (101, 3, .invokevirtual 107, [], 0),
  (104, 1, .ireturn, [], 0),
  (105, 1, .aload_n 0, [], 0),
  (106, 3, .getfield 10, [], 0),
  (109, 3, .getfield 55, [], 0),
  (112, 1, .iload_n 1, [], 0),
  (113, 3, .invokevirtual 118, [], 0),
  (116, 1, .ireturn, [], 0),
  (117, 1, .aload_n 0, [], 0),
  (118, 3, .getfield 10, [], 0),
  (121, 3, .getfield 55, [], 0),
  (124, 1, .iload_n 1, [], 0),
  (125, 3, .invokevirtual 121, [], 0),
  (128, 1, .ireturn, [], 0),
  (129, 1, .aload_n 0, [], 0),
  (130, 3, .getfield 10, [], 0),
  (133, 3, .getfield 64, [], 0),
  (136, 1, .iload_n 1, [], 0),
  (137, 3, .invokevirtual 124, [], 0),
  (140, 1, .ireturn, [], 0)]
theorem kX8_reach_ok : kX8_reach.all (zck cX8_reach) = true := by decide +kernel

def rX8_reach : Room := { frames := 7, cells := 2, slots := 12, locals := 103 }
abbrev YX8_reach : zM := (RX8, cX8_reach, 3, some .int, rX8_reach, ULM, zlk fX8, zcs [(107, 2, 0, 0, zvs (ULM) 7 (sU_at ULM)), (118, 2, 0, 0, zvs (ULM) 6 (sX6_levelOf)), (121, 2, 0, 0, zvs (ULM) 6 (sX6_drynessOf)), (124, 2, 0, 0, zvs (ULM) 3 (sX3_shipsInReach))] [(92, 2, 1, 6, sX8_requireIndex), (47, 3, 0, 0, sX8_isWithin), (51, 1, 1, 6, sX8_requireArgument)])
theorem YX8_reach_ok : zYok (YX8_reach) := zYok_of fX8_ok (zall (zcal_mono (zcalV (Y := YX8_reach) (y := yX7_at) (cc := cX7_at) (nL := 2) (ret := some .int) (rm := rX7_at) (mU_at ULM ULM_small) 107 1 7 (T := TX7) rfl wX8_107 ⟨by decide +kernel, by decide +kernel, by decide +kernel⟩ (by decide) ⟨Nat.le_of_ble_eq_true rfl, Nat.le_of_ble_eq_true rfl⟩) (fun _ _ _ _ h => zvs_P h)) (zall (zcal_mono (zcalV (Y := YX8_reach) (y := yX6_levelOf) (cc := cX6_levelOf) (nL := 3) (ret := some .int) (rm := rX6_levelOf) (uX6_levelOf) 118 1 6 (T := TX6) rfl wX8_118 ⟨by decide +kernel, by decide +kernel, by decide +kernel⟩ (by decide) ⟨Nat.le_of_ble_eq_true rfl, Nat.le_of_ble_eq_true rfl⟩) (fun _ _ _ _ h => zvs_P h)) (zall (zcal_mono (zcalV (Y := YX8_reach) (y := yX6_drynessOf) (cc := cX6_drynessOf) (nL := 3) (ret := some .int) (rm := rX6_drynessOf) (uX6_drynessOf) 121 1 6 (T := TX6) rfl wX8_121 ⟨by decide +kernel, by decide +kernel, by decide +kernel⟩ (by decide) ⟨Nat.le_of_ble_eq_true rfl, Nat.le_of_ble_eq_true rfl⟩) (fun _ _ _ _ h => zvs_P h)) (zall (zcal_mono (zcalV (Y := YX8_reach) (y := yX3_shipsInReach) (cc := cX3_shipsInReach) (nL := 4) (ret := some .int) (rm := rX3_shipsInReach) (uX3_shipsInReach) 124 1 3 (T := TX3) rfl wX8_124 ⟨by decide +kernel, by decide +kernel, by decide +kernel⟩ (by decide) ⟨Nat.le_of_ble_eq_true rfl, Nat.le_of_ble_eq_true rfl⟩) (fun _ _ _ _ h => zvs_P h)) znil)))) (zall (zcalS (Y := YX8_reach) (y := yX8_requireIndex) (cc := cX8_requireIndex) (nL := 2) (ret := none) (rm := rX8_requireIndex) (mX8_requireIndex) 92 2 wX8_92 ⟨by decide +kernel, by decide +kernel, by decide +kernel⟩ (by decide) ⟨Nat.le_of_ble_eq_true rfl, Nat.le_of_ble_eq_true rfl⟩) (zall (zcalS (Y := YX8_reach) (y := yX8_isWithin) (cc := cX8_isWithin) (nL := 3) (ret := some .boolean) (rm := rX8_isWithin) (mX8_isWithin) 47 3 wX8_47 ⟨by decide +kernel, by decide +kernel, by decide +kernel⟩ (by decide) ⟨Nat.le_of_ble_eq_true rfl, Nat.le_of_ble_eq_true rfl⟩) (zall (zcalS (Y := YX8_reach) (y := yX8_requireArgument) (cc := cX8_requireArgument) (nL := 1) (ret := none) (rm := rX8_requireArgument) (mX8_requireArgument) 51 1 wX8_51 ⟨by decide +kernel, by decide +kernel, by decide +kernel⟩ (by decide) ⟨Nat.le_of_ble_eq_true rfl, Nat.le_of_ble_eq_true rfl⟩) znil)))

theorem mX8_reach : zMet (ULM) yX8_reach cX8_reach 3 (some .int) rX8_reach (sX8_reach) := by
  refine zmet (Y := YX8_reach) rfl (by decide +kernel) ?_
  intro av F ok ex h
  unfold sX8_reach at h
  split at h
  · rename_i r w
    refine zgo_ok (YX8_reach_ok) zno kX8_reach (List.all_eq_true.mp kX8_reach_ok) 0 _ _ _ _ _ ?_
    refine And.intro (fun h1 => ?_) h.2
    have h := h.1 h1
    refine And.intro (fun h2 => ?_) (fun h2 => zreq0 (h.2 h2))
    refine zreq1 ?_
    have h := h.1 h2
    refine And.intro ((And.intro (fun h3 => ?_) (And.intro (fun h3 => ?_) (And.intro (fun h3 => ?_) (And.intro (fun h3 => ?_) (And.intro (fun h3 => ?_) trivial)))))) (fun hq => ?_)
    · have h3 : w = 0 := h3
      subst h3
      unfold aReach at h
      rw [if_pos rfl] at h
      exact h
    · have h3 : w = 1 := h3
      subst h3
      unfold aReach at h
      rw [if_neg (by decide), if_pos rfl] at h
      exact h
    · have h3 : w = 2 := h3
      subst h3
      unfold aReach at h
      rw [if_neg (by decide), if_neg (by decide), if_pos rfl] at h
      exact h
    · have h3 : w = 3 := h3
      subst h3
      unfold aReach at h
      rw [if_neg (by decide), if_neg (by decide), if_neg (by decide), if_pos rfl] at h
      exact h
    · have h3 : w = 4 := h3
      subst h3
      unfold aReach at h
      rw [if_neg (by decide), if_neg (by decide), if_neg (by decide), if_neg (by decide), if_pos rfl] at h
      exact h
    · unfold aReach at h
      rw [if_neg (fun h0 => by rw [h0] at hq; exact absurd hq (by decide)), if_neg (fun h0 => by rw [h0] at hq; exact absurd hq (by decide)), if_neg (fun h0 => by rw [h0] at hq; exact absurd hq (by decide)), if_neg (fun h0 => by rw [h0] at hq; exact absurd hq (by decide)), if_neg (fun h0 => by rw [h0] at hq; exact absurd hq (by decide))] at h
      exact h
  · exact h.elim

def kX8_lock : List zI := [
  (0, 1, .iload_n 1, [], 0),
  (1, 1, .aload_n 0, [], 0),
  (2, 3, .getfield 10, [], 0),
  (5, 3, .getfield 78, [], 0),
  (8, 3, .getfield 127, [], 0),
  (11, 3, .invokestatic 92, [], 0),
  (14, 1, .iload_n 2, [], 0),
  (15, 1, .iconst 0, [], 0),
  (16, 2, .bipush 9, [], 9),
  (18, 3, .invokestatic 47, [], 0),
  (21, 3, .invokestatic 51, [], 0),
  (24, 1, .iload_n 2, [], 0),
  (25, 51, .tableswitch 180 0 8 #[51, 66, 81, 96, 111, 126, 141, 153, 165], [205, 76, 91, 106, 121, 136, 151, 166, 178, 190], 0),
  (76, 1, .aload_n 0, [], 0),
  (77, 3, .getfield 10, [], 0),
  (80, 3, .getfield 78, [], 0),
  (83, 3, .getfield 128, [], 0),
  (86, 1, .iload_n 1, [], 0),
  (87, 3, .invokevirtual 107, [], 0),
  (90, 1, .ireturn, [], 0),
  (91, 1, .aload_n 0, [], 0),
  (92, 3, .getfield 10, [], 0),
  (95, 3, .getfield 78, [], 0),
  (98, 3, .getfield 131, [], 0),
  (101, 1, .iload_n 1, [], 0),
  (102, 3, .invokevirtual 107, [], 0),
  (105, 1, .ireturn, [], 0),
  (106, 1, .aload_n 0, [], 0),
  (107, 3, .getfield 10, [], 0),
  (110, 3, .getfield 78, [], 0),
  (113, 3, .getfield 134, [], 0),
  (116, 1, .iload_n 1, [], 0),
  (117, 3, .invokevirtual 107, [], 0),
  (120, 1, .ireturn, [], 0),
  (121, 1, .aload_n 0, [], 0),
  (122, 3, .getfield 10, [], 0),
  (125, 3, .getfield 78, [], 0),
  (128, 3, .getfield 137, [], 0),
  (131, 1, .iload_n 1, [], 0),
  (132, 3, .invokevirtual 107, [], 0),
  (135, 1, .ireturn, [], 0),
  (136, 1, .aload_n 0, [], 0),
  (137, 3, .getfield 10, [], 0),
  (140, 3, .getfield 78, [], 0),
  (143, 3, .getfield 140, [], 0),
  (146, 1, .iload_n 1, [], 0),
  (147, 3, .invokevirtual 107, [], 0),
  (150, 1, .ireturn, [], 0),
  (151, 1, .aload_n 0, [], 0),
  (152, 3, .getfield 10, [], 0),
  (155, 3, .getfield 78, [], 0),
  (158, 3, .getfield 143, [], 0),
  (161, 1, .iload_n 1, [], 0),
  (162, 3, .invokevirtual 107, [], 0),
  (165, 1, .ireturn, [], 0),
  (166, 1, .aload_n 0, [], 0),
  (167, 3, .getfield 10, [], 0),
  (170, 3, .getfield 78, [], 0),
  (173, 1, .iload_n 1, [], 0),
  (174, 3, .invokevirtual 146, [], 0),
  (177, 1, .ireturn, [], 0),
  (178, 1, .aload_n 0, [], 0),
  (179, 3, .getfield 10, [], 0),
  (182, 3, .getfield 64, [], 0),
  (185, 1, .iload_n 1, [], 0),
  (186, 3, .invokevirtual 149, [], 0),
  (189, 1, .ireturn, [], 0),
  (190, 1, .aload_n 0, [], 0),
  (191, 3, .getfield 10, [], 0),
  (194, 3, .getfield 78, [], 0),
  (197, 3, .getfield 152, [], 0),
  (200, 1, .iload_n 1, [], 0),
  (201, 3, .invokevirtual 107, [], 0),
  (204, 1, .ireturn, [], 0),
  (205, 1, .aload_n 0, [], 0),
  (206, 3, .getfield 10, [], 0),
  (209, 3, .getfield 78, [], 0),
  (212, 3, .getfield 155, [], 0),
  (215, 1, .iload_n 1, [], 0),
  (216, 3, .invokevirtual 107, [], 0),
  (219, 1, .ireturn, [], 0)]
theorem kX8_lock_ok : kX8_lock.all (zck cX8_lock) = true := by decide +kernel

def rX8_lock : Room := { frames := 7, cells := 2, slots := 12, locals := 103 }
abbrev YX8_lock : zM := (RX8, cX8_lock, 3, some .int, rX8_lock, ULM, zlk fX8, zcs [(107, 2, 0, 0, zvs (ULM) 7 (sU_at ULM)), (146, 2, 0, 0, zvs (ULM) 5 (sX5_waterIn)), (149, 2, 0, 0, zvs (ULM) 3 (sX3_convoysAt))] [(92, 2, 1, 6, sX8_requireIndex), (47, 3, 0, 0, sX8_isWithin), (51, 1, 1, 6, sX8_requireArgument)])
theorem YX8_lock_ok : zYok (YX8_lock) := zYok_of fX8_ok (zall (zcal_mono (zcalV (Y := YX8_lock) (y := yX7_at) (cc := cX7_at) (nL := 2) (ret := some .int) (rm := rX7_at) (mU_at ULM ULM_small) 107 1 7 (T := TX7) rfl wX8_107 ⟨by decide +kernel, by decide +kernel, by decide +kernel⟩ (by decide) ⟨Nat.le_of_ble_eq_true rfl, Nat.le_of_ble_eq_true rfl⟩) (fun _ _ _ _ h => zvs_P h)) (zall (zcal_mono (zcalV (Y := YX8_lock) (y := yX5_waterIn) (cc := cX5_waterIn) (nL := 2) (ret := some .int) (rm := rX5_waterIn) (uX5_waterIn) 146 1 5 (T := TX5) rfl wX8_146 ⟨by decide +kernel, by decide +kernel, by decide +kernel⟩ (by decide) ⟨Nat.le_of_ble_eq_true rfl, Nat.le_of_ble_eq_true rfl⟩) (fun _ _ _ _ h => zvs_P h)) (zall (zcal_mono (zcalV (Y := YX8_lock) (y := yX3_convoysAt) (cc := cX3_convoysAt) (nL := 4) (ret := some .int) (rm := rX3_convoysAt) (uX3_convoysAt) 149 1 3 (T := TX3) rfl wX8_149 ⟨by decide +kernel, by decide +kernel, by decide +kernel⟩ (by decide) ⟨Nat.le_of_ble_eq_true rfl, Nat.le_of_ble_eq_true rfl⟩) (fun _ _ _ _ h => zvs_P h)) znil))) (zall (zcalS (Y := YX8_lock) (y := yX8_requireIndex) (cc := cX8_requireIndex) (nL := 2) (ret := none) (rm := rX8_requireIndex) (mX8_requireIndex) 92 2 wX8_92 ⟨by decide +kernel, by decide +kernel, by decide +kernel⟩ (by decide) ⟨Nat.le_of_ble_eq_true rfl, Nat.le_of_ble_eq_true rfl⟩) (zall (zcalS (Y := YX8_lock) (y := yX8_isWithin) (cc := cX8_isWithin) (nL := 3) (ret := some .boolean) (rm := rX8_isWithin) (mX8_isWithin) 47 3 wX8_47 ⟨by decide +kernel, by decide +kernel, by decide +kernel⟩ (by decide) ⟨Nat.le_of_ble_eq_true rfl, Nat.le_of_ble_eq_true rfl⟩) (zall (zcalS (Y := YX8_lock) (y := yX8_requireArgument) (cc := cX8_requireArgument) (nL := 1) (ret := none) (rm := rX8_requireArgument) (mX8_requireArgument) 51 1 wX8_51 ⟨by decide +kernel, by decide +kernel, by decide +kernel⟩ (by decide) ⟨Nat.le_of_ble_eq_true rfl, Nat.le_of_ble_eq_true rfl⟩) znil)))

theorem mX8_lock : zMet (ULM) yX8_lock cX8_lock 3 (some .int) rX8_lock (sX8_lock) := by
  refine zmet (Y := YX8_lock) rfl (by decide +kernel) ?_
  intro av F ok ex h
  unfold sX8_lock at h
  split at h
  · rename_i r w
    refine zgo_ok (YX8_lock_ok) zno kX8_lock (List.all_eq_true.mp kX8_lock_ok) 0 _ _ _ _ _ ?_
    refine And.intro (fun h1 => ?_) h.2
    have h := h.1 h1
    refine And.intro (fun h2 => ?_) (fun h2 => zreq0 (h.2 h2))
    refine zreq1 ?_
    have h := h.1 h2
    refine And.intro ((And.intro (fun h3 => ?_) (And.intro (fun h3 => ?_) (And.intro (fun h3 => ?_) (And.intro (fun h3 => ?_) (And.intro (fun h3 => ?_) (And.intro (fun h3 => ?_) (And.intro (fun h3 => ?_) (And.intro (fun h3 => ?_) (And.intro (fun h3 => ?_) trivial)))))))))) (fun hq => ?_)
    · have h3 : w = 0 := h3
      subst h3
      unfold aLock at h
      rw [if_pos rfl] at h
      exact h
    · have h3 : w = 1 := h3
      subst h3
      unfold aLock at h
      rw [if_neg (by decide), if_pos rfl] at h
      exact h
    · have h3 : w = 2 := h3
      subst h3
      unfold aLock at h
      rw [if_neg (by decide), if_neg (by decide), if_pos rfl] at h
      exact h
    · have h3 : w = 3 := h3
      subst h3
      unfold aLock at h
      rw [if_neg (by decide), if_neg (by decide), if_neg (by decide), if_pos rfl] at h
      exact h
    · have h3 : w = 4 := h3
      subst h3
      unfold aLock at h
      rw [if_neg (by decide), if_neg (by decide), if_neg (by decide), if_neg (by decide), if_pos rfl] at h
      exact h
    · have h3 : w = 5 := h3
      subst h3
      unfold aLock at h
      rw [if_neg (by decide), if_neg (by decide), if_neg (by decide), if_neg (by decide), if_neg (by decide), if_pos rfl] at h
      exact h
    · have h3 : w = 6 := h3
      subst h3
      unfold aLock at h
      rw [if_neg (by decide), if_neg (by decide), if_neg (by decide), if_neg (by decide), if_neg (by decide), if_neg (by decide), if_pos rfl] at h
      exact h
    · have h3 : w = 7 := h3
      subst h3
      unfold aLock at h
      rw [if_neg (by decide), if_neg (by decide), if_neg (by decide), if_neg (by decide), if_neg (by decide), if_neg (by decide), if_neg (by decide), if_pos rfl] at h
      exact h
    · have h3 : w = 8 := h3
      subst h3
      unfold aLock at h
      rw [if_neg (by decide), if_neg (by decide), if_neg (by decide), if_neg (by decide), if_neg (by decide), if_neg (by decide), if_neg (by decide), if_neg (by decide), if_pos rfl] at h
      exact h
    · unfold aLock at h
      rw [if_neg (fun h0 => by rw [h0] at hq; exact absurd hq (by decide)), if_neg (fun h0 => by rw [h0] at hq; exact absurd hq (by decide)), if_neg (fun h0 => by rw [h0] at hq; exact absurd hq (by decide)), if_neg (fun h0 => by rw [h0] at hq; exact absurd hq (by decide)), if_neg (fun h0 => by rw [h0] at hq; exact absurd hq (by decide)), if_neg (fun h0 => by rw [h0] at hq; exact absurd hq (by decide)), if_neg (fun h0 => by rw [h0] at hq; exact absurd hq (by decide)), if_neg (fun h0 => by rw [h0] at hq; exact absurd hq (by decide)), if_neg (fun h0 => by rw [h0] at hq; exact absurd hq (by decide))] at h
      exact h
  · exact h.elim

def kX8_ship : List zI := [
  (0, 1, .iload_n 1, [], 0),
  (1, 1, .aload_n 0, [], 0),
  (2, 3, .getfield 10, [], 0),
  (5, 3, .getfield 64, [], 0),
  (8, 3, .getfield 68, [], 0),
  (11, 3, .invokestatic 92, [], 0),
  (14, 1, .iload_n 2, [], 0),
  (15, 1, .iconst 0, [], 0),
  (16, 2, .bipush 9, [], 9),
  (18, 3, .invokestatic 47, [], 0),
  (21, 3, .invokestatic 51, [], 0),
  (24, 1, .iload_n 2, [], 0),
  (25, 51, .tableswitch 192 0 8 #[51, 66, 81, 96, 111, 123, 138, 165, 180], [217, 76, 91, 106, 121, 136, 148, 163, 190, 205], 0),
  (76, 1, .aload_n 0, [], 0),
  (77, 3, .getfield 10, [], 0),
  (80, 3, .getfield 64, [], 0),
  (83, 3, .getfield 215, [], 0),
  (86, 1, .iload_n 1, [], 0),
  (87, 3, .invokevirtual 107, [], 0),
  (90, 1, .ireturn, [], 0),
  (91, 1, .aload_n 0, [], 0),
  (92, 3, .getfield 10, [], 0),
  (95, 3, .getfield 64, [], 0),
  (98, 3, .getfield 218, [], 0),
  (101, 1, .iload_n 1, [], 0),
  (102, 3, .invokevirtual 107, [], 0),
  (105, 1, .ireturn, [], 0),
  (106, 1, .aload_n 0, [], 0),
  (107, 3, .getfield 10, [], 0),
  (110, 3, .getfield 64, [], 0),
  (113, 3, .getfield 221, [], 0),
  (116, 1, .iload_n 1, [], 0),
  (117, 3, .invokevirtual 107, [], 0),
  (120, 1, .ireturn, [], 0),
  (121, 1, .aload_n 0, [], 0),
  (122, 3, .getfield 10, [], 0),
  (125, 3, .getfield 64, [], 0),
  (128, 3, .getfield 224, [], 0),
  (131, 1, .iload_n 1, [], 0),
  (132, 3, .invokevirtual 107, [], 0),
  (135, 1, .ireturn, [], 0),
  (136, 1, .aload_n 0, [], 0),
  (137, 3, .getfield 10, [], 0),
  (140, 3, .getfield 64, [], 0),
  (143, 1, .iload_n 1, [], 0),
  (144, 3, .invokevirtual 227, [], 0),
  (147, 1, .ireturn, [], 0),
  (148, 1, .aload_n 0, [], 0),
  (149, 3, .getfield 10, [], 0),
  (152, 3, .getfield 64, [], 0),
  (155, 3, .getfield 230, [], 0),
  (158, 1, .iload_n 1, [], 0),
  (159, 3, .invokevirtual 107, [], 0),
  (162, 1, .ireturn, [], 0),
  (163, 1, .aload_n 0, [], 0),
  (164, 3, .getfield 10, [], 0),
  (167, 3, .getfield 64, [], 0),
  (170, 1, .iload_n 1, [], 0),
  (171, 3, .invokevirtual 233, [], 0),
  (174, 3, .ifCond .eq 7, [181], 0),
  (177, 1, .iconst 0, [], 0),
  (178, 3, .goto 11, [189], 0),
  (181, 1, .aload_n 0, [], 0),
  (182, 3, .getfield 10, [], 0),
  (185, 1, .iload_n 1, [], 0),
  (186, 3, .invokevirtual 237, [], 0),
  (189, 1, .ireturn, [], 0),
  (190, 1, .aload_n 0, [], 0),
  (191, 3, .getfield 10, [], 0),
  (194, 3, .getfield 64, [], 0),
  (197, 3, .getfield 197, [], 0),
  (200, 1, .iload_n 1, [], 0),
  (201, 3, .invokevirtual 107, [], 0),
  (204, 1, .ireturn, [], 0),
  (205, 1, .aload_n 0, [], 0),
  (206, 3, .getfield 10, [], 0),
  (209, 3, .getfield 64, [], 0),
  (212, 1, .iload_n 1, [], 0),
  (213, 3, .invokevirtual 203, [], 0),
  (216, 1, .ireturn, [], 0),
  (217, 1, .aload_n 0, [], 0),
  (218, 3, .getfield 10, [], 0),
  (221, 3, .getfield 64, [], 0),
  (224, 3, .getfield 240, [], 0),
  (227, 1, .iload_n 1, [], 0),
  (228, 3, .invokevirtual 107, [], 0),
  (231, 1, .ireturn, [], 0)]
theorem kX8_ship_ok : kX8_ship.all (zck cX8_ship) = true := by decide +kernel

def rX8_ship : Room := { frames := 7, cells := 2, slots := 12, locals := 103 }
abbrev YX8_ship : zM := (RX8, cX8_ship, 3, some .int, rX8_ship, ULM, zlk fX8, zcs [(107, 2, 0, 0, zvs (ULM) 7 (sU_at ULM)), (227, 2, 0, 0, zvs (ULM) 3 (sX3_reachOf)), (233, 2, 0, 0, zvs (ULM) 3 (sF_hasLeft)), (237, 2, 0, 0, zvs (ULM) 1 (sX1_waitedBy)), (203, 2, 0, 0, zvs (ULM) 3 (sX3_shipsInConvoy))] [(92, 2, 1, 6, sX8_requireIndex), (47, 3, 0, 0, sX8_isWithin), (51, 1, 1, 6, sX8_requireArgument)])
theorem YX8_ship_ok : zYok (YX8_ship) := zYok_of fX8_ok (zall (zcal_mono (zcalV (Y := YX8_ship) (y := yX7_at) (cc := cX7_at) (nL := 2) (ret := some .int) (rm := rX7_at) (mU_at ULM ULM_small) 107 1 7 (T := TX7) rfl wX8_107 ⟨by decide +kernel, by decide +kernel, by decide +kernel⟩ (by decide) ⟨Nat.le_of_ble_eq_true rfl, Nat.le_of_ble_eq_true rfl⟩) (fun _ _ _ _ h => zvs_P h)) (zall (zcal_mono (zcalV (Y := YX8_ship) (y := yX3_reachOf) (cc := cX3_reachOf) (nL := 2) (ret := some .int) (rm := rX3_reachOf) (uX3_reachOf) 227 1 3 (T := TX3) rfl wX8_227 ⟨by decide +kernel, by decide +kernel, by decide +kernel⟩ (by decide) ⟨Nat.le_of_ble_eq_true rfl, Nat.le_of_ble_eq_true rfl⟩) (fun _ _ _ _ h => zvs_P h)) (zall (zcal_mono (zcalV (Y := YX8_ship) (y := yX3_hasLeft) (cc := cX3_hasLeft) (nL := 2) (ret := some .boolean) (rm := rX3_hasLeft) (uF_hasLeft) 233 1 3 (T := TX3) rfl wX8_233 ⟨by decide +kernel, by decide +kernel, by decide +kernel⟩ (by decide) ⟨Nat.le_of_ble_eq_true rfl, Nat.le_of_ble_eq_true rfl⟩) (fun _ _ _ _ h => zvs_P h)) (zall (zcal_mono (zcalV (Y := YX8_ship) (y := yX1_waitedBy) (cc := cX1_waitedBy) (nL := 2) (ret := some .int) (rm := rX1_waitedBy) (uX1_waitedBy) 237 1 1 (T := TX1) rfl wX8_237 ⟨by decide +kernel, by decide +kernel, by decide +kernel⟩ (by decide) ⟨Nat.le_of_ble_eq_true rfl, Nat.le_of_ble_eq_true rfl⟩) (fun _ _ _ _ h => zvs_P h)) (zall (zcal_mono (zcalV (Y := YX8_ship) (y := yX3_shipsInConvoy) (cc := cX3_shipsInConvoy) (nL := 4) (ret := some .int) (rm := rX3_shipsInConvoy) (uX3_shipsInConvoy) 203 1 3 (T := TX3) rfl wX8_203 ⟨by decide +kernel, by decide +kernel, by decide +kernel⟩ (by decide) ⟨Nat.le_of_ble_eq_true rfl, Nat.le_of_ble_eq_true rfl⟩) (fun _ _ _ _ h => zvs_P h)) znil))))) (zall (zcalS (Y := YX8_ship) (y := yX8_requireIndex) (cc := cX8_requireIndex) (nL := 2) (ret := none) (rm := rX8_requireIndex) (mX8_requireIndex) 92 2 wX8_92 ⟨by decide +kernel, by decide +kernel, by decide +kernel⟩ (by decide) ⟨Nat.le_of_ble_eq_true rfl, Nat.le_of_ble_eq_true rfl⟩) (zall (zcalS (Y := YX8_ship) (y := yX8_isWithin) (cc := cX8_isWithin) (nL := 3) (ret := some .boolean) (rm := rX8_isWithin) (mX8_isWithin) 47 3 wX8_47 ⟨by decide +kernel, by decide +kernel, by decide +kernel⟩ (by decide) ⟨Nat.le_of_ble_eq_true rfl, Nat.le_of_ble_eq_true rfl⟩) (zall (zcalS (Y := YX8_ship) (y := yX8_requireArgument) (cc := cX8_requireArgument) (nL := 1) (ret := none) (rm := rX8_requireArgument) (mX8_requireArgument) 51 1 wX8_51 ⟨by decide +kernel, by decide +kernel, by decide +kernel⟩ (by decide) ⟨Nat.le_of_ble_eq_true rfl, Nat.le_of_ble_eq_true rfl⟩) znil)))

theorem mX8_ship : zMet (ULM) yX8_ship cX8_ship 3 (some .int) rX8_ship (sX8_ship) := by
  refine zmet (Y := YX8_ship) rfl (by decide +kernel) ?_
  intro av F ok ex h
  unfold sX8_ship at h
  split at h
  · rename_i r w
    refine zgo_ok (YX8_ship_ok) zno kX8_ship (List.all_eq_true.mp kX8_ship_ok) 0 _ _ _ _ _ ?_
    refine And.intro (fun h1 => ?_) h.2
    have h := h.1 h1
    refine And.intro (fun h2 => ?_) (fun h2 => zreq0 (h.2 h2))
    refine zreq1 ?_
    have h := h.1 h2
    refine And.intro ((And.intro (fun h3 => ?_) (And.intro (fun h3 => ?_) (And.intro (fun h3 => ?_) (And.intro (fun h3 => ?_) (And.intro (fun h3 => ?_) (And.intro (fun h3 => ?_) (And.intro (fun h3 => ?_) (And.intro (fun h3 => ?_) (And.intro (fun h3 => ?_) trivial)))))))))) (fun hq => ?_)
    · have h3 : w = 0 := h3
      subst h3
      unfold aShip at h
      rw [if_pos rfl] at h
      exact h
    · have h3 : w = 1 := h3
      subst h3
      unfold aShip at h
      rw [if_neg (by decide), if_pos rfl] at h
      exact h
    · have h3 : w = 2 := h3
      subst h3
      unfold aShip at h
      rw [if_neg (by decide), if_neg (by decide), if_pos rfl] at h
      exact h
    · have h3 : w = 3 := h3
      subst h3
      unfold aShip at h
      rw [if_neg (by decide), if_neg (by decide), if_neg (by decide), if_pos rfl] at h
      exact h
    · have h3 : w = 4 := h3
      subst h3
      unfold aShip at h
      rw [if_neg (by decide), if_neg (by decide), if_neg (by decide), if_neg (by decide), if_pos rfl] at h
      exact h
    · have h3 : w = 5 := h3
      subst h3
      unfold aShip at h
      rw [if_neg (by decide), if_neg (by decide), if_neg (by decide), if_neg (by decide), if_neg (by decide), if_pos rfl] at h
      exact h
    · have h3 : w = 6 := h3
      subst h3
      unfold aShip at h
      rw [if_neg (by decide), if_neg (by decide), if_neg (by decide), if_neg (by decide), if_neg (by decide), if_neg (by decide), if_pos rfl] at h
      refine And.intro (fun h4 => ?_) (fun h4 => ?_)
      · have h4 : qWa F r = -1 := h4
        rw [if_pos h4] at h
        exact zjeq1 h
      · have h4 : ¬ qWa F r = -1 := h4
        rw [if_neg h4] at h
        exact zjeq0 h
    · have h3 : w = 7 := h3
      subst h3
      unfold aShip at h
      rw [if_neg (by decide), if_neg (by decide), if_neg (by decide), if_neg (by decide), if_neg (by decide), if_neg (by decide), if_neg (by decide), if_pos rfl] at h
      exact h
    · have h3 : w = 8 := h3
      subst h3
      unfold aShip at h
      rw [if_neg (by decide), if_neg (by decide), if_neg (by decide), if_neg (by decide), if_neg (by decide), if_neg (by decide), if_neg (by decide), if_neg (by decide), if_pos rfl] at h
      exact h
    · unfold aShip at h
      rw [if_neg (fun h0 => by rw [h0] at hq; exact absurd hq (by decide)), if_neg (fun h0 => by rw [h0] at hq; exact absurd hq (by decide)), if_neg (fun h0 => by rw [h0] at hq; exact absurd hq (by decide)), if_neg (fun h0 => by rw [h0] at hq; exact absurd hq (by decide)), if_neg (fun h0 => by rw [h0] at hq; exact absurd hq (by decide)), if_neg (fun h0 => by rw [h0] at hq; exact absurd hq (by decide)), if_neg (fun h0 => by rw [h0] at hq; exact absurd hq (by decide)), if_neg (fun h0 => by rw [h0] at hq; exact absurd hq (by decide)), if_neg (fun h0 => by rw [h0] at hq; exact absurd hq (by decide))] at h
      exact h
  · exact h.elim

def kX8_account : List zI := [
  (0, 1, .iload_n 1, [], 0),
  (1, 1, .iconst 0, [], 0),
  (2, 2, .bipush 10, [], 10),
  (4, 3, .invokestatic 47, [], 0),
  (7, 3, .invokestatic 51, [], 0),
  (10, 1, .iload_n 1, [], 0),
  (11, 53, .tableswitch 160 0 9 #[53, 64, 75, 86, 94, 108, 119, 127, 135, 149], [171, 64, 75, 86, 97, 105, 119, 130, 138, 146, 160], 0),
  (64, 1, .aload_n 0, [], 0),
  (65, 3, .getfield 10, [], 0),
  (68, 3, .getfield 55, [], 0),
  (71, 3, .getfield 59, [], 0),
  (74, 1, .ireturn, [], 0),
  (75, 1, .aload_n 0, [], 0),
  (76, 3, .getfield 10, [], 0),
  (79, 3, .getfield 64, [], 0),
  (82, 3, .getfield 68, [], 0),
  (85, 1, .ireturn, [], 0),
  (86, 1, .aload_n 0, [], 0),
  (87, 3, .getfield 10, [], 0),
  (90, 3, .getfield 64, [], 0),
  (93, 3, .invokevirtual 258, [], 0),
  (96, 1, .ireturn, [], 0),
  (97, 1, .aload_n 0, [], 0),
  (98, 3, .getfield 10, [], 0),
  (101, 3, .invokevirtual 267, [], 0),
  (104, 1, .ireturn, [], 0),
  (105, 1, .aload_n 0, [], 0),
  (106, 3, .getfield 10, [], 0),
  (109, 3, .getfield 55, [], 0),
  (112, 3, .getfield 115, [], 0),
  (115, 3, .invokevirtual 270, [], 0),
  (118, 1, .ireturn, [], 0),
  (119, 1, .aload_n 0, [], 0),
  (120, 3, .getfield 10, [], 0),
  (123, 3, .getfield 78, [], 0),
  (126, 3, .invokevirtual 273, [], 0),
  (129, 1, .ireturn, [], 0),
  (130, 1, .aload_n 0, [], 0),
  (131, 3, .getfield 10, [], 0),
  (134, 3, .getfield 276, [], 0),
  (137, 1, .ireturn, [], 0),
  (138, 1, .aload_n 0, [], 0),
  (139, 3, .getfield 10, [], 0),
  (142, 3, .getfield 279, [], 0),
  (145, 1, .ireturn, [], 0),
  (146, 1, .aload_n 0, [], 0),
  (147, 3, .getfield 10, [], 0),
  (150, 3, .getfield 78, [], 0),
  (153, 3, .getfield 155, [], 0),
  (156, 3, .invokevirtual 270, [], 0),
  (159, 1, .ireturn, [], 0),
  (160, 1, .aload_n 0, [], 0),
  (161, 3, .getfield 10, [], 0),
  (164, 3, .getfield 78, [], 0),
  (167, 3, .getfield 282, [], 0),
  (170, 1, .ireturn, [], 0),
  (171, 1, .aload_n 0, [], 0),
  (172, 3, .getfield 10, [], 0),
  (175, 3, .getfield 285, [], 0),
  (178, 1, .ireturn, [], 0)]
theorem kX8_account_ok : kX8_account.all (zck cX8_account) = true := by decide +kernel

def rX8_account : Room := { frames := 7, cells := 1, slots := 6, locals := 106 }
abbrev YX8_account : zM := (RX8, cX8_account, 2, some .int, rX8_account, ULM, zlk fX8, zcs [(258, 1, 0, 0, zvs (ULM) 3 (sX3_shipsThatLeft)), (267, 1, 0, 0, zvs (ULM) 1 (sX1_waitingConvoys)), (270, 1, 0, 0, zvs (ULM) 7 (sU_sum ULM)), (273, 1, 0, 0, zvs (ULM) 5 (sX5_allWater))] [(47, 3, 0, 0, sX8_isWithin), (51, 1, 1, 6, sX8_requireArgument)])
theorem YX8_account_ok : zYok (YX8_account) := zYok_of fX8_ok (zall (zcal_mono (zcalV (Y := YX8_account) (y := yX3_shipsThatLeft) (cc := cX3_shipsThatLeft) (nL := 1) (ret := some .int) (rm := rX3_shipsThatLeft) (uX3_shipsThatLeft) 258 0 3 (T := TX3) rfl wX8_258 ⟨by decide +kernel, by decide +kernel, by decide +kernel⟩ (by decide) ⟨Nat.le_of_ble_eq_true rfl, Nat.le_of_ble_eq_true rfl⟩) (fun _ _ _ _ h => zvs_P h)) (zall (zcal_mono (zcalV (Y := YX8_account) (y := yX1_waitingConvoys) (cc := cX1_waitingConvoys) (nL := 3) (ret := some .int) (rm := rX1_waitingConvoys) (uX1_waitingConvoys) 267 0 1 (T := TX1) rfl wX8_267 ⟨by decide +kernel, by decide +kernel, by decide +kernel⟩ (by decide) ⟨Nat.le_of_ble_eq_true rfl, Nat.le_of_ble_eq_true rfl⟩) (fun _ _ _ _ h => zvs_P h)) (zall (zcal_mono (zcalV (Y := YX8_account) (y := yX7_sum) (cc := cX7_sum) (nL := 3) (ret := some .int) (rm := rX7_sum) (mU_sum ULM ULM_small) 270 0 7 (T := TX7) rfl wX8_270 ⟨by decide +kernel, by decide +kernel, by decide +kernel⟩ (by decide) ⟨Nat.le_of_ble_eq_true rfl, Nat.le_of_ble_eq_true rfl⟩) (fun _ _ _ _ h => zvs_P h)) (zall (zcal_mono (zcalV (Y := YX8_account) (y := yX5_allWater) (cc := cX5_allWater) (nL := 3) (ret := some .int) (rm := rX5_allWater) (uX5_allWater) 273 0 5 (T := TX5) rfl wX8_273 ⟨by decide +kernel, by decide +kernel, by decide +kernel⟩ (by decide) ⟨Nat.le_of_ble_eq_true rfl, Nat.le_of_ble_eq_true rfl⟩) (fun _ _ _ _ h => zvs_P h)) znil)))) (zall (zcalS (Y := YX8_account) (y := yX8_isWithin) (cc := cX8_isWithin) (nL := 3) (ret := some .boolean) (rm := rX8_isWithin) (mX8_isWithin) 47 3 wX8_47 ⟨by decide +kernel, by decide +kernel, by decide +kernel⟩ (by decide) ⟨Nat.le_of_ble_eq_true rfl, Nat.le_of_ble_eq_true rfl⟩) (zall (zcalS (Y := YX8_account) (y := yX8_requireArgument) (cc := cX8_requireArgument) (nL := 1) (ret := none) (rm := rX8_requireArgument) (mX8_requireArgument) 51 1 wX8_51 ⟨by decide +kernel, by decide +kernel, by decide +kernel⟩ (by decide) ⟨Nat.le_of_ble_eq_true rfl, Nat.le_of_ble_eq_true rfl⟩) znil))

theorem mX8_account : zMet (ULM) yX8_account cX8_account 2 (some .int) rX8_account (sX8_account) := by
  refine zmet (Y := YX8_account) rfl (by decide +kernel) ?_
  intro av F ok ex h
  unfold sX8_account at h
  split at h
  · rename_i w
    refine zgo_ok (YX8_account_ok) zno kX8_account (List.all_eq_true.mp kX8_account_ok) 0 _ _ _ _ _ ?_
    refine And.intro (fun h2 => ?_) (fun h2 => zreq0 (h.2 h2))
    refine zreq1 ?_
    have h := h.1 h2
    refine And.intro ((And.intro (fun h3 => ?_) (And.intro (fun h3 => ?_) (And.intro (fun h3 => ?_) (And.intro (fun h3 => ?_) (And.intro (fun h3 => ?_) (And.intro (fun h3 => ?_) (And.intro (fun h3 => ?_) (And.intro (fun h3 => ?_) (And.intro (fun h3 => ?_) (And.intro (fun h3 => ?_) trivial))))))))))) (fun hq => ?_)
    · have h3 : w = 0 := h3
      subst h3
      unfold aAcc at h
      rw [if_pos rfl] at h
      exact h
    · have h3 : w = 1 := h3
      subst h3
      unfold aAcc at h
      rw [if_neg (by decide), if_pos rfl] at h
      exact h
    · have h3 : w = 2 := h3
      subst h3
      unfold aAcc at h
      rw [if_neg (by decide), if_neg (by decide), if_pos rfl] at h
      exact h
    · have h3 : w = 3 := h3
      subst h3
      unfold aAcc at h
      rw [if_neg (by decide), if_neg (by decide), if_neg (by decide), if_pos rfl] at h
      exact h
    · have h3 : w = 4 := h3
      subst h3
      unfold aAcc at h
      rw [if_neg (by decide), if_neg (by decide), if_neg (by decide), if_neg (by decide), if_pos rfl] at h
      exact h
    · have h3 : w = 5 := h3
      subst h3
      unfold aAcc at h
      rw [if_neg (by decide), if_neg (by decide), if_neg (by decide), if_neg (by decide), if_neg (by decide), if_pos rfl] at h
      exact h
    · have h3 : w = 6 := h3
      subst h3
      unfold aAcc at h
      rw [if_neg (by decide), if_neg (by decide), if_neg (by decide), if_neg (by decide), if_neg (by decide), if_neg (by decide), if_pos rfl] at h
      exact h
    · have h3 : w = 7 := h3
      subst h3
      unfold aAcc at h
      rw [if_neg (by decide), if_neg (by decide), if_neg (by decide), if_neg (by decide), if_neg (by decide), if_neg (by decide), if_neg (by decide), if_pos rfl] at h
      exact h
    · have h3 : w = 8 := h3
      subst h3
      unfold aAcc at h
      rw [if_neg (by decide), if_neg (by decide), if_neg (by decide), if_neg (by decide), if_neg (by decide), if_neg (by decide), if_neg (by decide), if_neg (by decide), if_pos rfl] at h
      exact h
    · have h3 : w = 9 := h3
      subst h3
      unfold aAcc at h
      rw [if_neg (by decide), if_neg (by decide), if_neg (by decide), if_neg (by decide), if_neg (by decide), if_neg (by decide), if_neg (by decide), if_neg (by decide), if_neg (by decide), if_pos rfl] at h
      exact h
    · unfold aAcc at h
      rw [if_neg (fun h0 => by rw [h0] at hq; exact absurd hq (by decide)), if_neg (fun h0 => by rw [h0] at hq; exact absurd hq (by decide)), if_neg (fun h0 => by rw [h0] at hq; exact absurd hq (by decide)), if_neg (fun h0 => by rw [h0] at hq; exact absurd hq (by decide)), if_neg (fun h0 => by rw [h0] at hq; exact absurd hq (by decide)), if_neg (fun h0 => by rw [h0] at hq; exact absurd hq (by decide)), if_neg (fun h0 => by rw [h0] at hq; exact absurd hq (by decide)), if_neg (fun h0 => by rw [h0] at hq; exact absurd hq (by decide)), if_neg (fun h0 => by rw [h0] at hq; exact absurd hq (by decide)), if_neg (fun h0 => by rw [h0] at hq; exact absurd hq (by decide))] at h
      exact h
  · exact h.elim

def kX8_faultPosition : List zI := [
  (0, 1, .aload_n 0, [], 0),
  (1, 3, .getfield 40, [], 0),
  (4, 1, .ireturn, [], 0)]
theorem kX8_faultPosition_ok : kX8_faultPosition.all (zck cX8_faultPosition) = true := by decide +kernel

def rX8_faultPosition : Room := { frames := 0, cells := 0, slots := 0, locals := 0 }
abbrev YX8_faultPosition : zM := (RX8, cX8_faultPosition, 1, some .int, rX8_faultPosition, ULM, zlk fX8, zcs [] [])
theorem YX8_faultPosition_ok : zYok (YX8_faultPosition) := zYok_of fX8_ok znil znil

theorem mX8_faultPosition : zMet (ULM) yX8_faultPosition cX8_faultPosition 1 (some .int) rX8_faultPosition (sX8_faultPosition) := by
  refine zmet (Y := YX8_faultPosition) rfl (by decide +kernel) ?_
  intro av F ok ex h
  unfold sX8_faultPosition at h
  split at h
  · refine zgo_ok (YX8_faultPosition_ok) zno kX8_faultPosition (List.all_eq_true.mp kX8_faultPosition_ok) 0 _ _ _ _ _ ?_
    exact h
  · exact h.elim

def kX8_tick : List zI := [
  (0, 1, .aload_n 0, [], 0),
  (1, 3, .getfield 10, [], 0),
  (4, 3, .getfield 255, [], 0),
  (7, 1, .ireturn, [], 0)]
theorem kX8_tick_ok : kX8_tick.all (zck cX8_tick) = true := by decide +kernel

def rX8_tick : Room := { frames := 0, cells := 0, slots := 0, locals := 0 }
abbrev YX8_tick : zM := (RX8, cX8_tick, 1, some .int, rX8_tick, ULM, zlk fX8, zcs [] [])
theorem YX8_tick_ok : zYok (YX8_tick) := zYok_of fX8_ok znil znil

theorem mX8_tick : zMet (ULM) yX8_tick cX8_tick 1 (some .int) rX8_tick (sX8_tick) := by
  refine zmet (Y := YX8_tick) rfl (by decide +kernel) ?_
  intro av F ok ex h
  unfold sX8_tick at h
  split at h
  · refine zgo_ok (YX8_tick_ok) zno kX8_tick (List.all_eq_true.mp kX8_tick_ok) 0 _ _ _ _ _ ?_
    exact h
  · exact h.elim

def kX8_append : List zI := [
  (0, 1, .aload_n 0, [], 0),
  (1, 3, .getfield 32, [], 0),
  (4, 3, .getfield 169, [], 0),
  (7, 2, .bipush 50, [], 50),
  (9, 3, .if_icmp .ge 7, [16], 0),
  (12, 1, .iconst 1, [], 1),
  (13, 3, .goto 4, [17], 0),
  (16, 1, .iconst 0, [], 0),
  (17, 3, .invokestatic 71, [], 0),
  (20, 1, .aload_n 0, [], 0),
  (21, 3, .getfield 32, [], 0),
  (24, 1, .iload_n 1, [], 0),
  (25, 3, .invokevirtual 171, [], 0),
  (28, 1, .return_, [], 0)]
theorem kX8_append_ok : kX8_append.all (zck cX8_append) = true := by decide +kernel

def rX8_append : Room := { frames := 7, cells := 1, slots := 6, locals := 102 }
abbrev YX8_append : zM := (RX8, cX8_append, 2, none, rX8_append, ULM, zlk fX8, zcs [(171, 2, 0, 0, zvs (ULM) 0 (sT_put))] [(71, 1, 1, 6, sX8_requireState)])
theorem YX8_append_ok : zYok (YX8_append) := zYok_of fX8_ok (zall (zcal_mono (zcalV (Y := YX8_append) (y := yX0_put) (cc := cX0_put) (nL := 2) (ret := none) (rm := rX0_put) (uT_put) 171 1 0 (T := TX0) rfl wX8_171 ⟨by decide +kernel, by decide +kernel, by decide +kernel⟩ (by decide) ⟨Nat.le_of_ble_eq_true rfl, Nat.le_of_ble_eq_true rfl⟩) (fun _ _ _ _ h => zvs_P h)) znil) (zall (zcalS (Y := YX8_append) (y := yX8_requireState) (cc := cX8_requireState) (nL := 1) (ret := none) (rm := rX8_requireState) (mX8_requireState) 71 1 wX8_71 ⟨by decide +kernel, by decide +kernel, by decide +kernel⟩ (by decide) ⟨Nat.le_of_ble_eq_true rfl, Nat.le_of_ble_eq_true rfl⟩) znil)

theorem mX8_append : zMet (ULM) yX8_append cX8_append 2 (none) rX8_append (sX8_append) := by
  refine zmet (Y := YX8_append) rfl (by decide +kernel) ?_
  intro av F ok ex h
  unfold sX8_append at h
  split at h
  · rename_i c
    refine zgo_ok (YX8_append_ok) zno kX8_append (List.all_eq_true.mp kX8_append_ok) 0 _ _ _ _ _ ?_
    refine And.intro (fun h1 => zreq0 (h.2 (Int32.not_lt.mpr h1))) (fun h1 => ?_)
    refine zreq1 ?_
    exact h.1 (Int32.not_le.mp h1)
  · exact h.elim

def kX8_refusal : List zI := [
  (0, 1, .aload_n 0, [], 0),
  (1, 3, .getfield 44, [], 0),
  (4, 3, .ifCond .eq 7, [11], 0),
  (7, 1, .iconst 1, [], 1),
  (8, 3, .goto 4, [12], 0),
  (11, 1, .iconst 0, [], 0),
  (12, 3, .invokestatic 212, [], 0),
  (15, 1, .aload_n 0, [], 0),
  (16, 3, .getfield 44, [], 0),
  (19, 1, .ireturn, [], 0)]
theorem kX8_refusal_ok : kX8_refusal.all (zck cX8_refusal) = true := by decide +kernel

def rX8_refusal : Room := { frames := 7, cells := 1, slots := 6, locals := 102 }
abbrev YX8_refusal : zM := (RX8, cX8_refusal, 1, some .int, rX8_refusal, ULM, zlk fX8, zcs [] [(212, 1, 1, 6, sX8_requireElement)])
theorem YX8_refusal_ok : zYok (YX8_refusal) := zYok_of fX8_ok znil (zall (zcalS (Y := YX8_refusal) (y := yX8_requireElement) (cc := cX8_requireElement) (nL := 1) (ret := none) (rm := rX8_requireElement) (mX8_requireElement) 212 1 wX8_212 ⟨by decide +kernel, by decide +kernel, by decide +kernel⟩ (by decide) ⟨Nat.le_of_ble_eq_true rfl, Nat.le_of_ble_eq_true rfl⟩) znil)

theorem mX8_refusal : zMet (ULM) yX8_refusal cX8_refusal 1 (some .int) rX8_refusal (sX8_refusal) := by
  refine zmet (Y := YX8_refusal) rfl (by decide +kernel) ?_
  intro av F ok ex h
  unfold sX8_refusal at h
  split at h
  · refine zgo_ok (YX8_refusal_ok) zno kX8_refusal (List.all_eq_true.mp kX8_refusal_ok) 0 _ _ _ _ _ ?_
    refine And.intro (fun h1 => zreq0 (h.2 (fun h2 => h2 h1))) (fun h1 => ?_)
    refine zreq1 ?_
    exact h.1 h1
  · exact h.elim

def kX8_convoy : List zI := [
  (0, 1, .iload_n 1, [], 0),
  (1, 1, .aload_n 0, [], 0),
  (2, 3, .getfield 10, [], 0),
  (5, 3, .getfield 64, [], 0),
  (8, 3, .getfield 68, [], 0),
  (11, 3, .invokestatic 92, [], 0),
  (14, 1, .aload_n 0, [], 0),
  (15, 3, .getfield 10, [], 0),
  (18, 3, .getfield 64, [], 0),
  (21, 1, .iload_n 1, [], 0),
  (22, 1, .iload_n 2, [], 0),
  (23, 3, .invokevirtual 243, [], 0),
  (26, 1, .istore_n 3, [], 0),
  (27, 1, .iload_n 3, [], 0),
  (28, 1, .iconst (-1), [], (-1)),
  (29, 3, .if_icmp .eq 7, [36], 0),
  (32, 1, .iconst 1, [], 1),
  (33, 3, .goto 4, [37], 0),
  (36, 1, .iconst 0, [], 0),
  (37, 3, .invokestatic 212, [], 0),
  (40, 1, .iload_n 3, [], 0),
  (41, 1, .ireturn, [], 0)]
theorem kX8_convoy_ok : kX8_convoy.all (zck cX8_convoy) = true := by decide +kernel

def rX8_convoy : Room := { frames := 7, cells := 2, slots := 12, locals := 103 }
abbrev YX8_convoy : zM := (RX8, cX8_convoy, 4, some .int, rX8_convoy, ULM, zlk fX8, zcs [(243, 3, 0, 0, zvs (ULM) 3 (sX3_shipOfConvoy))] [(92, 2, 1, 6, sX8_requireIndex), (212, 1, 1, 6, sX8_requireElement)])
theorem YX8_convoy_ok : zYok (YX8_convoy) := zYok_of fX8_ok (zall (zcal_mono (zcalV (Y := YX8_convoy) (y := yX3_shipOfConvoy) (cc := cX3_shipOfConvoy) (nL := 5) (ret := some .int) (rm := rX3_shipOfConvoy) (uX3_shipOfConvoy) 243 2 3 (T := TX3) rfl wX8_243 ⟨by decide +kernel, by decide +kernel, by decide +kernel⟩ (by decide) ⟨Nat.le_of_ble_eq_true rfl, Nat.le_of_ble_eq_true rfl⟩) (fun _ _ _ _ h => zvs_P h)) znil) (zall (zcalS (Y := YX8_convoy) (y := yX8_requireIndex) (cc := cX8_requireIndex) (nL := 2) (ret := none) (rm := rX8_requireIndex) (mX8_requireIndex) 92 2 wX8_92 ⟨by decide +kernel, by decide +kernel, by decide +kernel⟩ (by decide) ⟨Nat.le_of_ble_eq_true rfl, Nat.le_of_ble_eq_true rfl⟩) (zall (zcalS (Y := YX8_convoy) (y := yX8_requireElement) (cc := cX8_requireElement) (nL := 1) (ret := none) (rm := rX8_requireElement) (mX8_requireElement) 212 1 wX8_212 ⟨by decide +kernel, by decide +kernel, by decide +kernel⟩ (by decide) ⟨Nat.le_of_ble_eq_true rfl, Nat.le_of_ble_eq_true rfl⟩) znil))

theorem mX8_convoy : zMet (ULM) yX8_convoy cX8_convoy 4 (some .int) rX8_convoy (sX8_convoy) := by
  refine zmet (Y := YX8_convoy) rfl (by decide +kernel) ?_
  intro av F ok ex h
  unfold sX8_convoy at h
  split at h
  · rename_i s x
    refine zgo_ok (YX8_convoy_ok) zno kX8_convoy (List.all_eq_true.mp kX8_convoy_ok) 0 _ _ _ _ _ ?_
    refine And.intro (fun h1 => ?_) h.2
    have h := h.1 h1
    refine And.intro (fun h2 => zreq0 (h.2 (fun h3 => h3 h2))) (fun h2 => ?_)
    refine zreq1 ?_
    exact h.1 h2
  · exact h.elim

def kX8_waiting : List zI := [
  (0, 1, .iload_n 1, [], 0),
  (1, 1, .aload_n 0, [], 0),
  (2, 3, .getfield 10, [], 0),
  (5, 3, .getfield 78, [], 0),
  (8, 3, .getfield 127, [], 0),
  (11, 3, .invokestatic 92, [], 0),
  (14, 1, .aload_n 0, [], 0),
  (15, 3, .getfield 10, [], 0),
  (18, 1, .iload_n 1, [], 0),
  (19, 1, .iload_n 2, [], 0),
  (20, 3, .invokevirtual 246, [], 0),
  (23, 1, .istore_n 3, [], 0),
  (24, 1, .iload_n 3, [], 0),
  (25, 1, .iconst (-1), [], (-1)),
  (26, 3, .if_icmp .eq 7, [33], 0),
  (29, 1, .iconst 1, [], 1),
  (30, 3, .goto 4, [34], 0),
  (33, 1, .iconst 0, [], 0),
  (34, 3, .invokestatic 212, [], 0),
  (37, 1, .iload_n 3, [], 0),
  (38, 1, .ireturn, [], 0)]
theorem kX8_waiting_ok : kX8_waiting.all (zck cX8_waiting) = true := by decide +kernel

def rX8_waiting : Room := { frames := 7, cells := 2, slots := 12, locals := 137 }
abbrev YX8_waiting : zM := (RX8, cX8_waiting, 4, some .int, rX8_waiting, ULM, zlk fX8, zcs [(246, 3, 0, 0, zvs (ULM) 1 (sX1_convoyInOrder))] [(92, 2, 1, 6, sX8_requireIndex), (212, 1, 1, 6, sX8_requireElement)])
theorem YX8_waiting_ok : zYok (YX8_waiting) := zYok_of fX8_ok (zall (zcal_mono (zcalV (Y := YX8_waiting) (y := yX1_convoyInOrder) (cc := cX1_convoyInOrder) (nL := 4) (ret := some .int) (rm := rX1_convoyInOrder) (uX1_convoyInOrder) 246 2 1 (T := TX1) rfl wX8_246 ⟨by decide +kernel, by decide +kernel, by decide +kernel⟩ (by decide) ⟨Nat.le_of_ble_eq_true rfl, Nat.le_of_ble_eq_true rfl⟩) (fun _ _ _ _ h => zvs_P h)) znil) (zall (zcalS (Y := YX8_waiting) (y := yX8_requireIndex) (cc := cX8_requireIndex) (nL := 2) (ret := none) (rm := rX8_requireIndex) (mX8_requireIndex) 92 2 wX8_92 ⟨by decide +kernel, by decide +kernel, by decide +kernel⟩ (by decide) ⟨Nat.le_of_ble_eq_true rfl, Nat.le_of_ble_eq_true rfl⟩) (zall (zcalS (Y := YX8_waiting) (y := yX8_requireElement) (cc := cX8_requireElement) (nL := 1) (ret := none) (rm := rX8_requireElement) (mX8_requireElement) 212 1 wX8_212 ⟨by decide +kernel, by decide +kernel, by decide +kernel⟩ (by decide) ⟨Nat.le_of_ble_eq_true rfl, Nat.le_of_ble_eq_true rfl⟩) znil))

theorem mX8_waiting : zMet (ULM) yX8_waiting cX8_waiting 4 (some .int) rX8_waiting (sX8_waiting) := by
  refine zmet (Y := YX8_waiting) rfl (by decide +kernel) ?_
  intro av F ok ex h
  unfold sX8_waiting at h
  split at h
  · rename_i l x
    refine zgo_ok (YX8_waiting_ok) zno kX8_waiting (List.all_eq_true.mp kX8_waiting_ok) 0 _ _ _ _ _ ?_
    refine And.intro (fun h1 => ?_) h.2
    have h := h.1 h1
    refine And.intro (fun h2 => zreq0 (h.2 (fun h3 => h3 h2))) (fun h2 => ?_)
    refine zreq1 ?_
    exact h.1 h2
  · exact h.elim

def kX8_priority : List zI := [
  (0, 1, .iload_n 1, [], 0),
  (1, 1, .aload_n 0, [], 0),
  (2, 3, .getfield 10, [], 0),
  (5, 3, .getfield 64, [], 0),
  (8, 3, .getfield 68, [], 0),
  (11, 3, .invokestatic 92, [], 0),
  (14, 1, .aload_n 0, [], 0),
  (15, 3, .getfield 10, [], 0),
  (18, 3, .getfield 64, [], 0),
  (21, 1, .iload_n 1, [], 0),
  (22, 3, .invokevirtual 233, [], 0),
  (25, 3, .ifCond .ne 7, [32], 0),
  (28, 1, .iconst 1, [], 1),
  (29, 3, .goto 4, [33], 0),
  (32, 1, .iconst 0, [], 0),
  (33, 3, .invokestatic 71, [], 0),
  (36, 1, .aload_n 0, [], 0),
  (37, 3, .getfield 10, [], 0),
  (40, 1, .aload_n 0, [], 0),
  (41, 3, .getfield 10, [], 0),
  (44, 3, .getfield 64, [], 0),
  (47, 3, .getfield 197, [], 0),
  (50, 1, .iload_n 1, [], 0),
  (51, 3, .invokevirtual 107, [], 0),
  (54, 3, .invokevirtual 249, [], 0),
  (57, 1, .ireturn, [], 0)]
theorem kX8_priority_ok : kX8_priority.all (zck cX8_priority) = true := by decide +kernel

def rX8_priority : Room := { frames := 7, cells := 2, slots := 12, locals := 103 }
abbrev YX8_priority : zM := (RX8, cX8_priority, 2, some .int, rX8_priority, ULM, zlk fX8, zcs [(233, 2, 0, 0, zvs (ULM) 3 (sF_hasLeft)), (107, 2, 0, 0, zvs (ULM) 7 (sU_at ULM)), (249, 2, 0, 0, zvs (ULM) 1 (sX1_priorityOf))] [(92, 2, 1, 6, sX8_requireIndex), (71, 1, 1, 6, sX8_requireState)])
theorem YX8_priority_ok : zYok (YX8_priority) := zYok_of fX8_ok (zall (zcal_mono (zcalV (Y := YX8_priority) (y := yX3_hasLeft) (cc := cX3_hasLeft) (nL := 2) (ret := some .boolean) (rm := rX3_hasLeft) (uF_hasLeft) 233 1 3 (T := TX3) rfl wX8_233 ⟨by decide +kernel, by decide +kernel, by decide +kernel⟩ (by decide) ⟨Nat.le_of_ble_eq_true rfl, Nat.le_of_ble_eq_true rfl⟩) (fun _ _ _ _ h => zvs_P h)) (zall (zcal_mono (zcalV (Y := YX8_priority) (y := yX7_at) (cc := cX7_at) (nL := 2) (ret := some .int) (rm := rX7_at) (mU_at ULM ULM_small) 107 1 7 (T := TX7) rfl wX8_107 ⟨by decide +kernel, by decide +kernel, by decide +kernel⟩ (by decide) ⟨Nat.le_of_ble_eq_true rfl, Nat.le_of_ble_eq_true rfl⟩) (fun _ _ _ _ h => zvs_P h)) (zall (zcal_mono (zcalV (Y := YX8_priority) (y := yX1_priorityOf) (cc := cX1_priorityOf) (nL := 3) (ret := some .int) (rm := rX1_priorityOf) (uX1_priorityOf) 249 1 1 (T := TX1) rfl wX8_249 ⟨by decide +kernel, by decide +kernel, by decide +kernel⟩ (by decide) ⟨Nat.le_of_ble_eq_true rfl, Nat.le_of_ble_eq_true rfl⟩) (fun _ _ _ _ h => zvs_P h)) znil))) (zall (zcalS (Y := YX8_priority) (y := yX8_requireIndex) (cc := cX8_requireIndex) (nL := 2) (ret := none) (rm := rX8_requireIndex) (mX8_requireIndex) 92 2 wX8_92 ⟨by decide +kernel, by decide +kernel, by decide +kernel⟩ (by decide) ⟨Nat.le_of_ble_eq_true rfl, Nat.le_of_ble_eq_true rfl⟩) (zall (zcalS (Y := YX8_priority) (y := yX8_requireState) (cc := cX8_requireState) (nL := 1) (ret := none) (rm := rX8_requireState) (mX8_requireState) 71 1 wX8_71 ⟨by decide +kernel, by decide +kernel, by decide +kernel⟩ (by decide) ⟨Nat.le_of_ble_eq_true rfl, Nat.le_of_ble_eq_true rfl⟩) znil))

theorem mX8_priority : zMet (ULM) yX8_priority cX8_priority 2 (some .int) rX8_priority (sX8_priority) := by
  refine zmet (Y := YX8_priority) rfl (by decide +kernel) ?_
  intro av F ok ex h
  unfold sX8_priority at h
  split at h
  · rename_i s
    refine zgo_ok (YX8_priority_ok) zno kX8_priority (List.all_eq_true.mp kX8_priority_ok) 0 _ _ _ _ _ ?_
    refine And.intro (fun h1 => ?_) h.2
    have h := h.1 h1
    refine And.intro (fun h2 => zjne1 (zreq0 (h.2 (fun h3 => h3 h2)))) (fun h2 => ?_)
    refine zjne0 ?_
    refine zreq1 ?_
    have h := h.1 h2
    exact h
  · exact h.elim

def kX8_hindrance : List zI := [
  (0, 1, .iload_n 1, [], 0),
  (1, 1, .aload_n 0, [], 0),
  (2, 3, .getfield 10, [], 0),
  (5, 3, .getfield 64, [], 0),
  (8, 3, .getfield 68, [], 0),
  (11, 3, .invokestatic 92, [], 0),
  (14, 1, .aload_n 0, [], 0),
  (15, 3, .getfield 10, [], 0),
  (18, 3, .getfield 64, [], 0),
  (21, 1, .iload_n 1, [], 0),
  (22, 3, .invokevirtual 233, [], 0),
  (25, 3, .ifCond .ne 7, [32], 0),
  (28, 1, .iconst 1, [], 1),
  (29, 3, .goto 4, [33], 0),
  (32, 1, .iconst 0, [], 0),
  (33, 3, .invokestatic 71, [], 0),
  (36, 1, .aload_n 0, [], 0),
  (37, 3, .getfield 10, [], 0),
  (40, 1, .aload_n 0, [], 0),
  (41, 3, .getfield 10, [], 0),
  (44, 3, .getfield 64, [], 0),
  (47, 3, .getfield 197, [], 0),
  (50, 1, .iload_n 1, [], 0),
  (51, 3, .invokevirtual 107, [], 0),
  (54, 3, .invokevirtual 252, [], 0),
  (57, 1, .ireturn, [], 0)]
theorem kX8_hindrance_ok : kX8_hindrance.all (zck cX8_hindrance) = true := by decide +kernel

def rX8_hindrance : Room := { frames := 7, cells := 2, slots := 12, locals := 110 }
abbrev YX8_hindrance : zM := (RX8, cX8_hindrance, 2, some .int, rX8_hindrance, ULM, zlk fX8, zcs [(233, 2, 0, 0, zvs (ULM) 3 (sF_hasLeft)), (107, 2, 0, 0, zvs (ULM) 7 (sU_at ULM)), (252, 2, 0, 0, zvs (ULM) 1 (sX1_hindranceOf))] [(92, 2, 1, 6, sX8_requireIndex), (71, 1, 1, 6, sX8_requireState)])
theorem YX8_hindrance_ok : zYok (YX8_hindrance) := zYok_of fX8_ok (zall (zcal_mono (zcalV (Y := YX8_hindrance) (y := yX3_hasLeft) (cc := cX3_hasLeft) (nL := 2) (ret := some .boolean) (rm := rX3_hasLeft) (uF_hasLeft) 233 1 3 (T := TX3) rfl wX8_233 ⟨by decide +kernel, by decide +kernel, by decide +kernel⟩ (by decide) ⟨Nat.le_of_ble_eq_true rfl, Nat.le_of_ble_eq_true rfl⟩) (fun _ _ _ _ h => zvs_P h)) (zall (zcal_mono (zcalV (Y := YX8_hindrance) (y := yX7_at) (cc := cX7_at) (nL := 2) (ret := some .int) (rm := rX7_at) (mU_at ULM ULM_small) 107 1 7 (T := TX7) rfl wX8_107 ⟨by decide +kernel, by decide +kernel, by decide +kernel⟩ (by decide) ⟨Nat.le_of_ble_eq_true rfl, Nat.le_of_ble_eq_true rfl⟩) (fun _ _ _ _ h => zvs_P h)) (zall (zcal_mono (zcalV (Y := YX8_hindrance) (y := yX1_hindranceOf) (cc := cX1_hindranceOf) (nL := 5) (ret := some .int) (rm := rX1_hindranceOf) (uX1_hindranceOf) 252 1 1 (T := TX1) rfl wX8_252 ⟨by decide +kernel, by decide +kernel, by decide +kernel⟩ (by decide) ⟨Nat.le_of_ble_eq_true rfl, Nat.le_of_ble_eq_true rfl⟩) (fun _ _ _ _ h => zvs_P h)) znil))) (zall (zcalS (Y := YX8_hindrance) (y := yX8_requireIndex) (cc := cX8_requireIndex) (nL := 2) (ret := none) (rm := rX8_requireIndex) (mX8_requireIndex) 92 2 wX8_92 ⟨by decide +kernel, by decide +kernel, by decide +kernel⟩ (by decide) ⟨Nat.le_of_ble_eq_true rfl, Nat.le_of_ble_eq_true rfl⟩) (zall (zcalS (Y := YX8_hindrance) (y := yX8_requireState) (cc := cX8_requireState) (nL := 1) (ret := none) (rm := rX8_requireState) (mX8_requireState) 71 1 wX8_71 ⟨by decide +kernel, by decide +kernel, by decide +kernel⟩ (by decide) ⟨Nat.le_of_ble_eq_true rfl, Nat.le_of_ble_eq_true rfl⟩) znil))

theorem mX8_hindrance : zMet (ULM) yX8_hindrance cX8_hindrance 2 (some .int) rX8_hindrance (sX8_hindrance) := by
  refine zmet (Y := YX8_hindrance) rfl (by decide +kernel) ?_
  intro av F ok ex h
  unfold sX8_hindrance at h
  split at h
  · rename_i s
    refine zgo_ok (YX8_hindrance_ok) zno kX8_hindrance (List.all_eq_true.mp kX8_hindrance_ok) 0 _ _ _ _ _ ?_
    refine And.intro (fun h1 => ?_) h.2
    have h := h.1 h1
    refine And.intro (fun h2 => zjne1 (zreq0 (h.2 (fun h3 => h3 h2)))) (fun h2 => ?_)
    refine zjne0 ?_
    refine zreq1 ?_
    have h := h.1 h2
    exact h
  · exact h.elim

def kX8_save : List zI := [
  (0, 1, .aload_n 0, [], 0),
  (1, 3, .getfield 19, [], 0),
  (4, 1, .aload_n 0, [], 0),
  (5, 3, .getfield 10, [], 0),
  (8, 3, .invokevirtual 264, [], 0),
  (11, 1, .aload_n 0, [], 0),
  (12, 1, .iconst 1, [], 1),
  (13, 3, .putfield 36, [], 0),
  (16, 1, .return_, [], 0)]
theorem kX8_save_ok : kX8_save.all (zck cX8_save) = true := by decide +kernel

def rX8_save : Room := { frames := 4, cells := 0, slots := 0, locals := 85 }
abbrev YX8_save : zM := (RX8, cX8_save, 1, none, rX8_save, ULM, zlk fX8, zcs [(264, 2, 0, 0, zvs (ULM) 1 (sL_copyFrom))] [])
theorem YX8_save_ok : zYok (YX8_save) := zYok_of fX8_ok (zall (zcal_mono (zcalV (Y := YX8_save) (y := yX1_copyFrom) (cc := cX1_copyFrom) (nL := 2) (ret := none) (rm := rX1_copyFrom) (uL_copyFrom) 264 1 1 (T := TX1) rfl wX8_264 ⟨by decide +kernel, by decide +kernel, by decide +kernel⟩ (by decide) ⟨Nat.le_of_ble_eq_true rfl, Nat.le_of_ble_eq_true rfl⟩) (fun _ _ _ _ h => zvs_P h)) znil) znil

theorem mX8_save : zMet (ULM) yX8_save cX8_save 1 (none) rX8_save (sX8_save) := by
  refine zmet (Y := YX8_save) rfl (by decide +kernel) ?_
  intro av F ok ex h
  unfold sX8_save at h
  split at h
  · refine zgo_ok (YX8_save_ok) zno kX8_save (List.all_eq_true.mp kX8_save_ok) 0 _ _ _ _ _ ?_
    exact Exists.intro (Or.inr rfl) h
  · exact h.elim

def kX8_restore : List zI := [
  (0, 1, .aload_n 0, [], 0),
  (1, 3, .getfield 36, [], 0),
  (4, 3, .invokestatic 71, [], 0),
  (7, 1, .aload_n 0, [], 0),
  (8, 3, .getfield 10, [], 0),
  (11, 1, .aload_n 0, [], 0),
  (12, 3, .getfield 19, [], 0),
  (15, 3, .invokevirtual 264, [], 0),
  (18, 1, .aload_n 0, [], 0),
  (19, 3, .getfield 25, [], 0),
  (22, 3, .invokevirtual 299, [], 0),
  (25, 1, .return_, [], 0)]
theorem kX8_restore_ok : kX8_restore.all (zck cX8_restore) = true := by decide +kernel

def rX8_restore : Room := { frames := 7, cells := 1, slots := 6, locals := 102 }
abbrev YX8_restore : zM := (RX8, cX8_restore, 1, none, rX8_restore, ULM, zlk fX8, zcs [(264, 2, 0, 0, zvs (ULM) 1 (sL_copyFrom)), (299, 1, 0, 0, zvs (ULM) 2 (sX2_forget))] [(71, 1, 1, 6, sX8_requireState)])
theorem YX8_restore_ok : zYok (YX8_restore) := zYok_of fX8_ok (zall (zcal_mono (zcalV (Y := YX8_restore) (y := yX1_copyFrom) (cc := cX1_copyFrom) (nL := 2) (ret := none) (rm := rX1_copyFrom) (uL_copyFrom) 264 1 1 (T := TX1) rfl wX8_264 ⟨by decide +kernel, by decide +kernel, by decide +kernel⟩ (by decide) ⟨Nat.le_of_ble_eq_true rfl, Nat.le_of_ble_eq_true rfl⟩) (fun _ _ _ _ h => zvs_P h)) (zall (zcal_mono (zcalV (Y := YX8_restore) (y := yX2_forget) (cc := cX2_forget) (nL := 1) (ret := none) (rm := rX2_forget) (mX2_forget) 299 0 2 (T := TX2) rfl wX8_299 ⟨by decide +kernel, by decide +kernel, by decide +kernel⟩ (by decide) ⟨Nat.le_of_ble_eq_true rfl, Nat.le_of_ble_eq_true rfl⟩) (fun _ _ _ _ h => zvs_P h)) znil)) (zall (zcalS (Y := YX8_restore) (y := yX8_requireState) (cc := cX8_requireState) (nL := 1) (ret := none) (rm := rX8_requireState) (mX8_requireState) 71 1 wX8_71 ⟨by decide +kernel, by decide +kernel, by decide +kernel⟩ (by decide) ⟨Nat.le_of_ble_eq_true rfl, Nat.le_of_ble_eq_true rfl⟩) znil)

theorem mX8_restore : zMet (ULM) yX8_restore cX8_restore 1 (none) rX8_restore (sX8_restore) := by
  refine zmet (Y := YX8_restore) rfl (by decide +kernel) ?_
  intro av F ok ex h
  unfold sX8_restore at h
  split at h
  · refine zgo_ok (YX8_restore_ok) zno kX8_restore (List.all_eq_true.mp kX8_restore_ok) 0 _ _ _ _ _ ?_
    refine And.intro (fun h1 => ?_) h.2
    exact h.1 h1
  · exact h.elim

def kX8_undo : List zI := [
  (0, 1, .aload_n 0, [], 0),
  (1, 3, .getfield 25, [], 0),
  (4, 3, .getfield 295, [], 0),
  (7, 3, .ifCond .le 7, [14], 0),
  (10, 1, .iconst 1, [], 1),
  (11, 3, .goto 4, [15], 0),
  (14, 1, .iconst 0, [], 0),
  (15, 3, .invokestatic 71, [], 0),
  (18, 1, .aload_n 0, [], 0),
  (19, 3, .getfield 25, [], 0),
  (22, 1, .aload_n 0, [], 0),
  (23, 3, .getfield 10, [], 0),
  (26, 3, .invokevirtual 296, [], 0),
  (29, 1, .aload_n 0, [], 0),
  (30, 3, .getfield 25, [], 0),
  (33, 3, .getfield 295, [], 0),
  (36, 1, .ireturn, [], 0)]
theorem kX8_undo_ok : kX8_undo.all (zck cX8_undo) = true := by decide +kernel

def rX8_undo : Room := { frames := 7, cells := 1, slots := 6, locals := 107 }
abbrev YX8_undo : zM := (RX8, cX8_undo, 1, some .int, rX8_undo, ULM, zlk fX8, zcs [(296, 2, 0, 0, zvs (ULM) 2 (sX2_takeBack))] [(71, 1, 1, 6, sX8_requireState)])
theorem YX8_undo_ok : zYok (YX8_undo) := zYok_of fX8_ok (zall (zcal_mono (zcalV (Y := YX8_undo) (y := yX2_takeBack) (cc := cX2_takeBack) (nL := 3) (ret := none) (rm := rX2_takeBack) (mX2_takeBack) 296 1 2 (T := TX2) rfl wX8_296 ⟨by decide +kernel, by decide +kernel, by decide +kernel⟩ (by decide) ⟨Nat.le_of_ble_eq_true rfl, Nat.le_of_ble_eq_true rfl⟩) (fun _ _ _ _ h => zvs_P h)) znil) (zall (zcalS (Y := YX8_undo) (y := yX8_requireState) (cc := cX8_requireState) (nL := 1) (ret := none) (rm := rX8_requireState) (mX8_requireState) 71 1 wX8_71 ⟨by decide +kernel, by decide +kernel, by decide +kernel⟩ (by decide) ⟨Nat.le_of_ble_eq_true rfl, Nat.le_of_ble_eq_true rfl⟩) znil)

theorem mX8_undo : zMet (ULM) yX8_undo cX8_undo 1 (some .int) rX8_undo (sX8_undo) := by
  refine zmet (Y := YX8_undo) rfl (by decide +kernel) ?_
  intro av F ok ex h
  unfold sX8_undo at h
  split at h
  · refine zgo_ok (YX8_undo_ok) zno kX8_undo (List.all_eq_true.mp kX8_undo_ok) 0 _ _ _ _ _ ?_
    refine And.intro (fun h1 => zreq0 (h.2 (Int32.not_lt.mpr h1))) (fun h1 => ?_)
    refine zreq1 ?_
    have h := h.1 (Int32.not_le.mp h1)
    obtain ⟨kk, hk, h3, h⟩ := h
    refine ⟨kk, hk, h3, ?_⟩
    refine zleaf ok h ?_ rfl
    have h4 : aTb F (zcp F 0 (135 + 45 * kk)) 496 2 = F 496 2 - 1 := by
      unfold aTb
      rw [zup_at]
    show some (Value.int (F 496 2 - 1)) = some (Value.int (aTb F (zcp F 0 (135 + 45 * kk)) 496 2))
    rw [h4]
  · exact h.elim

def kX8_set : List zI := [
  (0, 1, .iload_n 1, [], 0),
  (1, 1, .iconst 3, [], 3),
  (2, 3, .invokestatic 92, [], 0),
  (5, 1, .iload_n 2, [], 0),
  (6, 1, .iload_n 1, [], 0),
  (7, 3, .ifCond .ne 7, [14], 0),
  (10, 1, .iconst 1, [], 1),
  (11, 3, .goto 4, [15], 0),
  (14, 1, .iconst 0, [], 0),
  (15, 1, .iload_n 1, [], 0),
  (16, 3, .invokestatic 96, [], 0),
  (19, 3, .invokestatic 47, [], 0),
  (22, 3, .invokestatic 51, [], 0),
  (25, 1, .aload_n 0, [], 0),
  (26, 3, .getfield 25, [], 0),
  (29, 1, .aload_n 0, [], 0),
  (30, 3, .getfield 10, [], 0),
  (33, 3, .invokevirtual 74, [], 0),
  (36, 1, .aload_n 0, [], 0),
  (37, 3, .getfield 10, [], 0),
  (40, 1, .iload_n 1, [], 0),
  (41, 1, .iload_n 2, [], 0),
  (42, 3, .invokevirtual 100, [], 0),
  (45, 1, .ireturn, [], 0)]
theorem kX8_set_ok : kX8_set.all (zck cX8_set) = true := by decide +kernel

def rX8_set : Room := { frames := 7, cells := 2, slots := 12, locals := 107 }
abbrev YX8_set : zM := (RX8, cX8_set, 3, some .int, rX8_set, ULM, zlk fX8, zcs [(74, 2, 0, 0, zvs (ULM) 2 (sX2_keep)), (100, 3, 0, 0, zvs (ULM) 1 (sX1_change))] [(92, 2, 1, 6, sX8_requireIndex), (96, 1, 0, 0, sX8_mostOfSetting), (47, 3, 0, 0, sX8_isWithin), (51, 1, 1, 6, sX8_requireArgument)])
theorem YX8_set_ok : zYok (YX8_set) := zYok_of fX8_ok (zall (zcal_mono (zcalV (Y := YX8_set) (y := yX2_keep) (cc := cX2_keep) (nL := 3) (ret := none) (rm := rX2_keep) (mX2_keep) 74 1 2 (T := TX2) rfl wX8_74 ⟨by decide +kernel, by decide +kernel, by decide +kernel⟩ (by decide) ⟨Nat.le_of_ble_eq_true rfl, Nat.le_of_ble_eq_true rfl⟩) (fun _ _ _ _ h => zvs_P h)) (zall (zcal_mono (zcalV (Y := YX8_set) (y := yX1_change) (cc := cX1_change) (nL := 4) (ret := some .int) (rm := rX1_change) (uX1_change) 100 2 1 (T := TX1) rfl wX8_100 ⟨by decide +kernel, by decide +kernel, by decide +kernel⟩ (by decide) ⟨Nat.le_of_ble_eq_true rfl, Nat.le_of_ble_eq_true rfl⟩) (fun _ _ _ _ h => zvs_P h)) znil)) (zall (zcalS (Y := YX8_set) (y := yX8_requireIndex) (cc := cX8_requireIndex) (nL := 2) (ret := none) (rm := rX8_requireIndex) (mX8_requireIndex) 92 2 wX8_92 ⟨by decide +kernel, by decide +kernel, by decide +kernel⟩ (by decide) ⟨Nat.le_of_ble_eq_true rfl, Nat.le_of_ble_eq_true rfl⟩) (zall (zcalS (Y := YX8_set) (y := yX8_mostOfSetting) (cc := cX8_mostOfSetting) (nL := 1) (ret := some .int) (rm := rX8_mostOfSetting) (mX8_mostOfSetting) 96 1 wX8_96 ⟨by decide +kernel, by decide +kernel, by decide +kernel⟩ (by decide) ⟨Nat.le_of_ble_eq_true rfl, Nat.le_of_ble_eq_true rfl⟩) (zall (zcalS (Y := YX8_set) (y := yX8_isWithin) (cc := cX8_isWithin) (nL := 3) (ret := some .boolean) (rm := rX8_isWithin) (mX8_isWithin) 47 3 wX8_47 ⟨by decide +kernel, by decide +kernel, by decide +kernel⟩ (by decide) ⟨Nat.le_of_ble_eq_true rfl, Nat.le_of_ble_eq_true rfl⟩) (zall (zcalS (Y := YX8_set) (y := yX8_requireArgument) (cc := cX8_requireArgument) (nL := 1) (ret := none) (rm := rX8_requireArgument) (mX8_requireArgument) 51 1 wX8_51 ⟨by decide +kernel, by decide +kernel, by decide +kernel⟩ (by decide) ⟨Nat.le_of_ble_eq_true rfl, Nat.le_of_ble_eq_true rfl⟩) znil))))

theorem mX8_set : zMet (ULM) yX8_set cX8_set 3 (some .int) rX8_set (sX8_set) := by
  refine zmet (Y := YX8_set) rfl (by decide +kernel) ?_
  intro av F ok ex h
  unfold sX8_set at h
  split at h
  · rename_i s v
    refine zgo_ok (YX8_set_ok) zno kX8_set (List.all_eq_true.mp kX8_set_ok) 0 _ _ _ _ _ ?_
    refine And.intro (fun h1 => ?_) h.2
    have h := h.1 h1
    have hb : (s = 0 → (1 : Int32) = if s = 0 then 1 else 0) ∧ (¬ s = 0 → (0 : Int32) = if s = 0 then 1 else 0) := ⟨fun h0 => (if_pos h0).symm, fun h0 => (if_neg h0).symm⟩
    refine And.intro (fun h0 => ?_) (fun h0 => ?_)
    · have h0 : ¬ s = 0 := h0
      rw [← hb.2 h0] at h
      refine And.intro (fun h2 => ?_) (fun h2 => zreq0 (h.2 h2))
      refine zreq1 ?_
      exact h.1 h2
    · have h0 : s = 0 := h0
      rw [← hb.1 h0] at h
      refine And.intro (fun h2 => ?_) (fun h2 => zreq0 (h.2 h2))
      refine zreq1 ?_
      exact h.1 h2
  · exact h.elim

def kX8_addShip : List zI := [
  (0, 1, .iload_n 1, [], 0),
  (1, 1, .iconst 1, [], 1),
  (2, 2, .bipush 9, [], 9),
  (4, 3, .invokestatic 47, [], 0),
  (7, 3, .ifCond .eq 26, [33], 0),
  (10, 1, .iload_n 2, [], 0),
  (11, 1, .iconst 1, [], 1),
  (12, 2, .bipush 99, [], 99),
  (14, 3, .invokestatic 47, [], 0),
  (17, 3, .ifCond .eq 16, [33], 0),
  (20, 1, .iload_n 3, [], 0),
  (21, 1, .iconst 0, [], 0),
  (22, 1, .iconst 3, [], 3),
  (23, 3, .invokestatic 47, [], 0),
  (26, 3, .ifCond .eq 7, [33], 0),
  (29, 1, .iconst 1, [], 1),
  (30, 3, .goto 4, [34], 0),
  (33, 1, .iconst 0, [], 0),
  (34, 3, .invokestatic 51, [], 0),
  (37, 1, .aload_n 0, [], 0),
  (38, 1, .aload_n 0, [], 0),
  (39, 1, .iconst 1, [], 1),
  (40, 3, .invokevirtual 158, [], 0),
  (43, 3, .invokevirtual 161, [], 0),
  (46, 1, .aload_n 0, [], 0),
  (47, 3, .getfield 25, [], 0),
  (50, 1, .aload_n 0, [], 0),
  (51, 3, .getfield 10, [], 0),
  (54, 3, .invokevirtual 74, [], 0),
  (57, 1, .aload_n 0, [], 0),
  (58, 3, .getfield 10, [], 0),
  (61, 1, .iload_n 1, [], 0),
  (62, 1, .iload_n 2, [], 0),
  (63, 1, .iload_n 3, [], 0),
  (64, 2, .iload 4, [], 0),
  (66, 3, .invokevirtual 165, [], 0),
  (69, 1, .ireturn, [], 0)]
theorem kX8_addShip_ok : kX8_addShip.all (zck cX8_addShip) = true := by decide +kernel

def rX8_addShip : Room := { frames := 7, cells := 2, slots := 12, locals := 107 }
abbrev YX8_addShip : zM := (RX8, cX8_addShip, 5, some .int, rX8_addShip, ULM, zlk fX8, zcs [(158, 2, 0, 0, zvs (ULM) 8 (sX8_refusalOfShips)), (161, 2, 1, 6, zvs (ULM) 8 (sX8_refuseFor)), (74, 2, 0, 0, zvs (ULM) 2 (sX2_keep)), (165, 5, 0, 0, zvs (ULM) 1 (sX1_makeShip))] [(47, 3, 0, 0, sX8_isWithin), (51, 1, 1, 6, sX8_requireArgument)])
theorem YX8_addShip_ok : zYok (YX8_addShip) := zYok_of fX8_ok (zall (zcal_mono (zcalV (Y := YX8_addShip) (y := yX8_refusalOfShips) (cc := cX8_refusalOfShips) (nL := 2) (ret := some .int) (rm := rX8_refusalOfShips) (mX8_refusalOfShips) 158 1 8 (T := TX8) rfl wX8_158 ⟨by decide +kernel, by decide +kernel, by decide +kernel⟩ (by decide) ⟨Nat.le_of_ble_eq_true rfl, Nat.le_of_ble_eq_true rfl⟩) (fun _ _ _ _ h => zvs_P h)) (zall (zcal_mono (zcalV (Y := YX8_addShip) (y := yX8_refuseFor) (cc := cX8_refuseFor) (nL := 2) (ret := none) (rm := rX8_refuseFor) (mX8_refuseFor) 161 1 8 (T := TX8) rfl wX8_161 ⟨by decide +kernel, by decide +kernel, by decide +kernel⟩ (by decide) ⟨Nat.le_of_ble_eq_true rfl, Nat.le_of_ble_eq_true rfl⟩) (fun _ _ _ _ h => zvs_P h)) (zall (zcal_mono (zcalV (Y := YX8_addShip) (y := yX2_keep) (cc := cX2_keep) (nL := 3) (ret := none) (rm := rX2_keep) (mX2_keep) 74 1 2 (T := TX2) rfl wX8_74 ⟨by decide +kernel, by decide +kernel, by decide +kernel⟩ (by decide) ⟨Nat.le_of_ble_eq_true rfl, Nat.le_of_ble_eq_true rfl⟩) (fun _ _ _ _ h => zvs_P h)) (zall (zcal_mono (zcalV (Y := YX8_addShip) (y := yX1_makeShip) (cc := cX1_makeShip) (nL := 6) (ret := some .int) (rm := rX1_makeShip) (uX1_makeShip) 165 4 1 (T := TX1) rfl wX8_165 ⟨by decide +kernel, by decide +kernel, by decide +kernel⟩ (by decide) ⟨Nat.le_of_ble_eq_true rfl, Nat.le_of_ble_eq_true rfl⟩) (fun _ _ _ _ h => zvs_P h)) znil)))) (zall (zcalS (Y := YX8_addShip) (y := yX8_isWithin) (cc := cX8_isWithin) (nL := 3) (ret := some .boolean) (rm := rX8_isWithin) (mX8_isWithin) 47 3 wX8_47 ⟨by decide +kernel, by decide +kernel, by decide +kernel⟩ (by decide) ⟨Nat.le_of_ble_eq_true rfl, Nat.le_of_ble_eq_true rfl⟩) (zall (zcalS (Y := YX8_addShip) (y := yX8_requireArgument) (cc := cX8_requireArgument) (nL := 1) (ret := none) (rm := rX8_requireArgument) (mX8_requireArgument) 51 1 wX8_51 ⟨by decide +kernel, by decide +kernel, by decide +kernel⟩ (by decide) ⟨Nat.le_of_ble_eq_true rfl, Nat.le_of_ble_eq_true rfl⟩) znil))

theorem mX8_addShip : zMet (ULM) yX8_addShip cX8_addShip 5 (some .int) rX8_addShip (sX8_addShip) := by
  refine zmet (Y := YX8_addShip) rfl (by decide +kernel) ?_
  intro av F ok ex h
  unfold sX8_addShip at h
  split at h
  · rename_i s d r b
    refine zgo_ok (YX8_addShip_ok) zno kX8_addShip (List.all_eq_true.mp kX8_addShip_ok) 0 _ _ _ _ _ ?_
    refine And.intro (fun h1 => ?_) (fun h1 => zjeq0 (zreq0 (h.2 fun h0 => h1 h0.1)))
    refine zjeq1 ?_
    refine And.intro (fun h2 => ?_) (fun h2 => zjeq0 (zreq0 (h.2 fun h0 => h2 h0.2.1)))
    refine zjeq1 ?_
    refine And.intro (fun h3 => ?_) (fun h3 => zjeq0 (zreq0 (h.2 fun h0 => h3 h0.2.2)))
    refine zjeq1 ?_
    refine zreq1 ?_
    exact h.1 ⟨h1, h2, h3⟩
  · exact h.elim

def kX8_join : List zI := [
  (0, 1, .aload_n 0, [], 0),
  (1, 1, .aload_n 0, [], 0),
  (2, 1, .iload_n 1, [], 0),
  (3, 1, .iload_n 2, [], 0),
  (4, 3, .invokevirtual 194, [], 0),
  (7, 3, .invokevirtual 161, [], 0),
  (10, 1, .aload_n 0, [], 0),
  (11, 3, .getfield 25, [], 0),
  (14, 1, .aload_n 0, [], 0),
  (15, 3, .getfield 10, [], 0),
  (18, 3, .invokevirtual 74, [], 0),
  (21, 1, .aload_n 0, [], 0),
  (22, 3, .getfield 10, [], 0),
  (25, 3, .getfield 64, [], 0),
  (28, 1, .aload_n 0, [], 0),
  (29, 3, .getfield 10, [], 0),
  (32, 3, .getfield 64, [], 0),
  (35, 3, .getfield 197, [], 0),
  (38, 1, .iload_n 2, [], 0),
  (39, 3, .invokevirtual 107, [], 0),
  (42, 1, .aload_n 0, [], 0),
  (43, 3, .getfield 10, [], 0),
  (46, 3, .getfield 64, [], 0),
  (49, 3, .getfield 197, [], 0),
  (52, 1, .iload_n 1, [], 0),
  (53, 3, .invokevirtual 107, [], 0),
  (56, 3, .invokevirtual 200, [], 0),
  (59, 1, .aload_n 0, [], 0),
  (60, 3, .getfield 10, [], 0),
  (63, 3, .getfield 64, [], 0),
  (66, 1, .iload_n 2, [], 0),
  (67, 3, .invokevirtual 203, [], 0),
  (70, 1, .ireturn, [], 0)]
theorem kX8_join_ok : kX8_join.all (zck cX8_join) = true := by decide +kernel

def rX8_join : Room := { frames := 7, cells := 1, slots := 6, locals := 107 }
abbrev YX8_join : zM := (RX8, cX8_join, 3, some .int, rX8_join, ULM, zlk fX8, zcs [(194, 3, 0, 0, zvs (ULM) 8 (sX8_refusalOfJoin)), (161, 2, 1, 6, zvs (ULM) 8 (sX8_refuseFor)), (74, 2, 0, 0, zvs (ULM) 2 (sX2_keep)), (107, 2, 0, 0, zvs (ULM) 7 (sU_at ULM)), (200, 3, 0, 0, zvs (ULM) 3 (sX3_joinBehind)), (203, 2, 0, 0, zvs (ULM) 3 (sX3_shipsInConvoy))] [])
theorem YX8_join_ok : zYok (YX8_join) := zYok_of fX8_ok (zall (zcal_mono (zcalV (Y := YX8_join) (y := yX8_refusalOfJoin) (cc := cX8_refusalOfJoin) (nL := 5) (ret := some .int) (rm := rX8_refusalOfJoin) (mX8_refusalOfJoin) 194 2 8 (T := TX8) rfl wX8_194 ⟨by decide +kernel, by decide +kernel, by decide +kernel⟩ (by decide) ⟨Nat.le_of_ble_eq_true rfl, Nat.le_of_ble_eq_true rfl⟩) (fun _ _ _ _ h => zvs_P h)) (zall (zcal_mono (zcalV (Y := YX8_join) (y := yX8_refuseFor) (cc := cX8_refuseFor) (nL := 2) (ret := none) (rm := rX8_refuseFor) (mX8_refuseFor) 161 1 8 (T := TX8) rfl wX8_161 ⟨by decide +kernel, by decide +kernel, by decide +kernel⟩ (by decide) ⟨Nat.le_of_ble_eq_true rfl, Nat.le_of_ble_eq_true rfl⟩) (fun _ _ _ _ h => zvs_P h)) (zall (zcal_mono (zcalV (Y := YX8_join) (y := yX2_keep) (cc := cX2_keep) (nL := 3) (ret := none) (rm := rX2_keep) (mX2_keep) 74 1 2 (T := TX2) rfl wX8_74 ⟨by decide +kernel, by decide +kernel, by decide +kernel⟩ (by decide) ⟨Nat.le_of_ble_eq_true rfl, Nat.le_of_ble_eq_true rfl⟩) (fun _ _ _ _ h => zvs_P h)) (zall (zcal_mono (zcalV (Y := YX8_join) (y := yX7_at) (cc := cX7_at) (nL := 2) (ret := some .int) (rm := rX7_at) (mU_at ULM ULM_small) 107 1 7 (T := TX7) rfl wX8_107 ⟨by decide +kernel, by decide +kernel, by decide +kernel⟩ (by decide) ⟨Nat.le_of_ble_eq_true rfl, Nat.le_of_ble_eq_true rfl⟩) (fun _ _ _ _ h => zvs_P h)) (zall (zcal_mono (zcalV (Y := YX8_join) (y := yX3_joinBehind) (cc := cX3_joinBehind) (nL := 3) (ret := none) (rm := rX3_joinBehind) (uX3_joinBehind) 200 2 3 (T := TX3) rfl wX8_200 ⟨by decide +kernel, by decide +kernel, by decide +kernel⟩ (by decide) ⟨Nat.le_of_ble_eq_true rfl, Nat.le_of_ble_eq_true rfl⟩) (fun _ _ _ _ h => zvs_P h)) (zall (zcal_mono (zcalV (Y := YX8_join) (y := yX3_shipsInConvoy) (cc := cX3_shipsInConvoy) (nL := 4) (ret := some .int) (rm := rX3_shipsInConvoy) (uX3_shipsInConvoy) 203 1 3 (T := TX3) rfl wX8_203 ⟨by decide +kernel, by decide +kernel, by decide +kernel⟩ (by decide) ⟨Nat.le_of_ble_eq_true rfl, Nat.le_of_ble_eq_true rfl⟩) (fun _ _ _ _ h => zvs_P h)) znil)))))) znil

theorem mX8_join : zMet (ULM) yX8_join cX8_join 3 (some .int) rX8_join (sX8_join) := by
  refine zmet (Y := YX8_join) rfl (by decide +kernel) ?_
  intro av F ok ex h
  unfold sX8_join at h
  split at h
  · rename_i s t
    refine zgo_ok (YX8_join_ok) zno kX8_join (List.all_eq_true.mp kX8_join_ok) 0 _ _ _ _ _ ?_
    refine And.intro (fun h1 => ?_) h.2
    exact h.1 h1
  · exact h.elim

def kX8_part : List zI := [
  (0, 1, .aload_n 0, [], 0),
  (1, 1, .aload_n 0, [], 0),
  (2, 1, .iload_n 1, [], 0),
  (3, 3, .invokevirtual 206, [], 0),
  (6, 3, .invokevirtual 161, [], 0),
  (9, 1, .aload_n 0, [], 0),
  (10, 3, .getfield 25, [], 0),
  (13, 1, .aload_n 0, [], 0),
  (14, 3, .getfield 10, [], 0),
  (17, 3, .invokevirtual 74, [], 0),
  (20, 1, .aload_n 0, [], 0),
  (21, 3, .getfield 10, [], 0),
  (24, 3, .getfield 64, [], 0),
  (27, 1, .iload_n 1, [], 0),
  (28, 3, .invokevirtual 203, [], 0),
  (31, 1, .istore_n 2, [], 0),
  (32, 1, .aload_n 0, [], 0),
  (33, 3, .getfield 10, [], 0),
  (36, 3, .getfield 64, [], 0),
  (39, 1, .iload_n 1, [], 0),
  (40, 3, .invokevirtual 209, [], 0),
  (43, 1, .iload_n 2, [], 0),
  (44, 1, .iconst 1, [], 1),
  (45, 1, .isub, [], 0),
  (46, 1, .ireturn, [], 0)]
theorem kX8_part_ok : kX8_part.all (zck cX8_part) = true := by decide +kernel

def rX8_part : Room := { frames := 7, cells := 1, slots := 6, locals := 107 }
abbrev YX8_part : zM := (RX8, cX8_part, 3, some .int, rX8_part, ULM, zlk fX8, zcs [(206, 2, 0, 0, zvs (ULM) 8 (sX8_refusalOfPart)), (161, 2, 1, 6, zvs (ULM) 8 (sX8_refuseFor)), (74, 2, 0, 0, zvs (ULM) 2 (sX2_keep)), (203, 2, 0, 0, zvs (ULM) 3 (sX3_shipsInConvoy)), (209, 2, 0, 0, zvs (ULM) 3 (sX3_takeOut))] [])
theorem YX8_part_ok : zYok (YX8_part) := zYok_of fX8_ok (zall (zcal_mono (zcalV (Y := YX8_part) (y := yX8_refusalOfPart) (cc := cX8_refusalOfPart) (nL := 2) (ret := some .int) (rm := rX8_refusalOfPart) (mX8_refusalOfPart) 206 1 8 (T := TX8) rfl wX8_206 ⟨by decide +kernel, by decide +kernel, by decide +kernel⟩ (by decide) ⟨Nat.le_of_ble_eq_true rfl, Nat.le_of_ble_eq_true rfl⟩) (fun _ _ _ _ h => zvs_P h)) (zall (zcal_mono (zcalV (Y := YX8_part) (y := yX8_refuseFor) (cc := cX8_refuseFor) (nL := 2) (ret := none) (rm := rX8_refuseFor) (mX8_refuseFor) 161 1 8 (T := TX8) rfl wX8_161 ⟨by decide +kernel, by decide +kernel, by decide +kernel⟩ (by decide) ⟨Nat.le_of_ble_eq_true rfl, Nat.le_of_ble_eq_true rfl⟩) (fun _ _ _ _ h => zvs_P h)) (zall (zcal_mono (zcalV (Y := YX8_part) (y := yX2_keep) (cc := cX2_keep) (nL := 3) (ret := none) (rm := rX2_keep) (mX2_keep) 74 1 2 (T := TX2) rfl wX8_74 ⟨by decide +kernel, by decide +kernel, by decide +kernel⟩ (by decide) ⟨Nat.le_of_ble_eq_true rfl, Nat.le_of_ble_eq_true rfl⟩) (fun _ _ _ _ h => zvs_P h)) (zall (zcal_mono (zcalV (Y := YX8_part) (y := yX3_shipsInConvoy) (cc := cX3_shipsInConvoy) (nL := 4) (ret := some .int) (rm := rX3_shipsInConvoy) (uX3_shipsInConvoy) 203 1 3 (T := TX3) rfl wX8_203 ⟨by decide +kernel, by decide +kernel, by decide +kernel⟩ (by decide) ⟨Nat.le_of_ble_eq_true rfl, Nat.le_of_ble_eq_true rfl⟩) (fun _ _ _ _ h => zvs_P h)) (zall (zcal_mono (zcalV (Y := YX8_part) (y := yX3_takeOut) (cc := cX3_takeOut) (nL := 4) (ret := none) (rm := rX3_takeOut) (uX3_takeOut) 209 1 3 (T := TX3) rfl wX8_209 ⟨by decide +kernel, by decide +kernel, by decide +kernel⟩ (by decide) ⟨Nat.le_of_ble_eq_true rfl, Nat.le_of_ble_eq_true rfl⟩) (fun _ _ _ _ h => zvs_P h)) znil))))) znil

theorem mX8_part : zMet (ULM) yX8_part cX8_part 3 (some .int) rX8_part (sX8_part) := by
  refine zmet (Y := YX8_part) rfl (by decide +kernel) ?_
  intro av F ok ex h
  unfold sX8_part at h
  split at h
  · rename_i s
    refine zgo_ok (YX8_part_ok) zno kX8_part (List.all_eq_true.mp kX8_part_ok) 0 _ _ _ _ _ ?_
    refine And.intro (fun h1 => ?_) h.2
    exact h.1 h1
  · exact h.elim

def kX8_meanLocked : List zI := [
  (0, 1, .aload_n 0, [], 0),
  (1, 3, .getfield 10, [], 0),
  (4, 3, .getfield 78, [], 0),
  (7, 3, .getfield 155, [], 0),
  (10, 3, .invokevirtual 270, [], 0),
  (13, 1, .istore_n 1, [], 0),
  (14, 1, .iload_n 1, [], 0),
  (15, 3, .ifCond .ne 14, [29], 0),
  (18, 3, .new 288, [], 0),
  (21, 1, .dup, [], 0),
  (22, 3, .ldc_w 290, [], 0),
  (25, 3, .invokespecial 292, [], 0),
  (28, 1, .athrow, [], 0),
  (29, 1, .aload_n 0, [], 0),
  (30, 3, .getfield 10, [], 0),
  (33, 3, .getfield 78, [], 0),
  (36, 3, .getfield 152, [], 0),
  (39, 3, .invokevirtual 270, [], 0),
  (42, 1, .i2d, [], 0),
  (43, 1, .iload_n 1, [], 0),
  (44, 1, .i2d, [], 0),
  (45, 1, .ddiv, [], 0),
  (46, 1, .dreturn, [], 0)]
theorem kX8_meanLocked_ok : kX8_meanLocked.all (zck cX8_meanLocked) = true := by decide +kernel

def rX8_meanLocked : Room := { frames := 6, cells := 1, slots := 6, locals := 82 }
abbrev YX8_meanLocked : zM := (RX8, cX8_meanLocked, 2, some .double, rX8_meanLocked, ULM, zlk fX8, zcs [(270, 1, 0, 0, zvs (ULM) 7 (sU_sum ULM))] [])
theorem YX8_meanLocked_ok : zYok (YX8_meanLocked) := zYok_of fX8_ok (zall (zcal_mono (zcalV (Y := YX8_meanLocked) (y := yX7_sum) (cc := cX7_sum) (nL := 3) (ret := some .int) (rm := rX7_sum) (mU_sum ULM ULM_small) 270 0 7 (T := TX7) rfl wX8_270 ⟨by decide +kernel, by decide +kernel, by decide +kernel⟩ (by decide) ⟨Nat.le_of_ble_eq_true rfl, Nat.le_of_ble_eq_true rfl⟩) (fun _ _ _ _ h => zvs_P h)) znil) znil

theorem mX8_meanLocked : zMet (ULM) yX8_meanLocked cX8_meanLocked 2 (some .double) rX8_meanLocked (sX8_meanLocked) := by
  refine zmet (Y := YX8_meanLocked) rfl (by decide +kernel) ?_
  intro av F ok ex h
  unfold sX8_meanLocked at h
  split at h
  · refine zgo_ok (YX8_meanLocked_ok) (inv := zi1 18 (fun ls st kc ks G => zWP YX8_meanLocked ok ex 18 ls st kc ks G)) (zone fun _ _ _ _ _ h => h) kX8_meanLocked (List.all_eq_true.mp kX8_meanLocked_ok) 0 _ _ _ _ _ ?_
    refine And.intro (fun h1 => h.1 h1) (fun h1 => ?_)
    exact (zthrow (Y := YX8_meanLocked) (ik := 288) (is := 290) (ic := 292) (E := "java/lang/ArithmeticException") (text := "there was no locking") (names := ["java/lang/RuntimeException", "java/lang/Exception"]) (by decide +kernel) (by decide +kernel) (by decide +kernel) (zmem_of (by decide +kernel)) (zmem_of (by decide +kernel)) (by decide +kernel) (by decide +kernel) (by decide +kernel) (by decide +kernel) (by decide +kernel) (by decide +kernel) (by decide +kernel) (by decide) (by decide) (by decide) (by decide) (h.2 fun h0 => h0 h1))
  · exact h.elim

theorem aKp_13 (F : zF) (k : Nat) : zcp (aKp F) (135 + 45 * k) 0 1 3 = F 1 3 := by
  rw [zcp_out _ _ _ (by omega)]
  unfold aKp
  rw [zup_ne _ _ _ (by decide), zup_ne _ _ _ (by decide)]

def kX8_addReach : List zI := [
  (0, 1, .iload_n 1, [], 0),
  (1, 1, .iconst 1, [], 1),
  (2, 2, .bipush 9, [], 9),
  (4, 3, .invokestatic 47, [], 0),
  (7, 3, .ifCond .eq 18, [25], 0),
  (10, 1, .iload_n 2, [], 0),
  (11, 2, .bipush 10, [], 10),
  (13, 2, .bipush 99, [], 99),
  (15, 3, .invokestatic 47, [], 0),
  (18, 3, .ifCond .eq 7, [25], 0),
  (21, 1, .iconst 1, [], 1),
  (22, 3, .goto 4, [26], 0),
  (25, 1, .iconst 0, [], 0),
  (26, 3, .invokestatic 51, [], 0),
  (29, 1, .aload_n 0, [], 0),
  (30, 3, .getfield 10, [], 0),
  (33, 3, .getfield 55, [], 0),
  (36, 3, .getfield 59, [], 0),
  (39, 3, .ifCond .le 7, [46], 0),
  (42, 1, .iconst 1, [], 1),
  (43, 3, .goto 4, [47], 0),
  (46, 1, .iconst 0, [], 0),
  (47, 2, .istore 6, [], 0),
  (49, 2, .iload 6, [], 0),
  (51, 3, .ifCond .eq 34, [85], 0),
  (54, 1, .iload_n 3, [], 0),
  (55, 1, .iconst 1, [], 1),
  (56, 2, .bipush 9, [], 9),
  (58, 3, .invokestatic 47, [], 0),
  (61, 3, .ifCond .eq 28, [89], 0),
  (64, 2, .iload 4, [], 0),
  (66, 1, .iconst 4, [], 4),
  (67, 2, .bipush 60, [], 60),
  (69, 3, .invokestatic 47, [], 0),
  (72, 3, .ifCond .eq 17, [89], 0),
  (75, 2, .iload 5, [], 0),
  (77, 1, .iconst 0, [], 0),
  (78, 1, .iconst 3, [], 3),
  (79, 3, .invokestatic 47, [], 0),
  (82, 3, .ifCond .eq 7, [89], 0),
  (85, 1, .iconst 1, [], 1),
  (86, 3, .goto 4, [90], 0),
  (89, 1, .iconst 0, [], 0),
  (90, 3, .invokestatic 51, [], 0),
  (93, 1, .aload_n 0, [], 0),
  (94, 3, .getfield 10, [], 0),
  (97, 3, .getfield 55, [], 0),
  (100, 3, .getfield 59, [], 0),
  (103, 1, .iconst 5, [], 5),
  (104, 3, .if_icmp .ge 20, [124], 0),
  (107, 1, .aload_n 0, [], 0),
  (108, 3, .getfield 10, [], 0),
  (111, 3, .getfield 64, [], 0),
  (114, 3, .getfield 68, [], 0),
  (117, 3, .ifCond .ne 7, [124], 0),
  (120, 1, .iconst 1, [], 1),
  (121, 3, .goto 4, [125], 0),
  (124, 1, .iconst 0, [], 0),
  (125, 3, .invokestatic 71, [], 0),
  (128, 1, .aload_n 0, [], 0),
  (129, 3, .getfield 25, [], 0),
  (132, 1, .aload_n 0, [], 0),
  (133, 3, .getfield 10, [], 0),
  (136, 3, .invokevirtual 74, [], 0),
  (139, 2, .iload 6, [], 0),
  (141, 3, .ifCond .eq 18, [159], 0),
  (144, 1, .aload_n 0, [], 0),
  (145, 3, .getfield 10, [], 0),
  (148, 3, .getfield 78, [], 0),
  (151, 1, .iload_n 3, [], 0),
  (152, 2, .iload 4, [], 0),
  (154, 2, .iload 5, [], 0),
  (156, 3, .invokevirtual 82, [], 0),
  (159, 1, .aload_n 0, [], 0),
  (160, 3, .getfield 10, [], 0),
  (163, 1, .iload_n 1, [], 0),
  (164, 1, .iload_n 2, [], 0),
  (165, 3, .invokevirtual 88, [], 0),
  (168, 1, .ireturn, [], 0)]
theorem kX8_addReach_ok : kX8_addReach.all (zck cX8_addReach) = true := by decide +kernel

def rX8_addReach : Room := { frames := 7, cells := 3, slots := 18, locals := 107 }
abbrev YX8_addReach : zM := (RX8, cX8_addReach, 7, some .int, rX8_addReach, ULM, zlk fX8, zcs [(74, 2, 0, 0, zvs (ULM) 2 (sX2_keep)), (82, 4, 0, 0, zvs (ULM) 5 (sX5_make)), (88, 3, 0, 0, zvs (ULM) 1 (sX1_makeReach))] [(47, 3, 0, 0, sX8_isWithin), (51, 1, 1, 6, sX8_requireArgument), (71, 1, 1, 6, sX8_requireState)])
theorem YX8_addReach_ok : zYok (YX8_addReach) := zYok_of fX8_ok (zall (zcal_mono (zcalV (Y := YX8_addReach) (y := yX2_keep) (cc := cX2_keep) (nL := 3) (ret := none) (rm := rX2_keep) (mX2_keep) 74 1 2 (T := TX2) rfl wX8_74 ⟨by decide +kernel, by decide +kernel, by decide +kernel⟩ (by decide) ⟨Nat.le_of_ble_eq_true rfl, Nat.le_of_ble_eq_true rfl⟩) (fun _ _ _ _ h => zvs_P h)) (zall (zcal_mono (zcalV (Y := YX8_addReach) (y := yX5_make) (cc := cX5_make) (nL := 4) (ret := none) (rm := rX5_make) (uX5_make) 82 3 5 (T := TX5) rfl wX8_82 ⟨by decide +kernel, by decide +kernel, by decide +kernel⟩ (by decide) ⟨Nat.le_of_ble_eq_true rfl, Nat.le_of_ble_eq_true rfl⟩) (fun _ _ _ _ h => zvs_P h)) (zall (zcal_mono (zcalV (Y := YX8_addReach) (y := yX1_makeReach) (cc := cX1_makeReach) (nL := 3) (ret := some .int) (rm := rX1_makeReach) (uX1_makeReach) 88 2 1 (T := TX1) rfl wX8_88 ⟨by decide +kernel, by decide +kernel, by decide +kernel⟩ (by decide) ⟨Nat.le_of_ble_eq_true rfl, Nat.le_of_ble_eq_true rfl⟩) (fun _ _ _ _ h => zvs_P h)) znil))) (zall (zcalS (Y := YX8_addReach) (y := yX8_isWithin) (cc := cX8_isWithin) (nL := 3) (ret := some .boolean) (rm := rX8_isWithin) (mX8_isWithin) 47 3 wX8_47 ⟨by decide +kernel, by decide +kernel, by decide +kernel⟩ (by decide) ⟨Nat.le_of_ble_eq_true rfl, Nat.le_of_ble_eq_true rfl⟩) (zall (zcalS (Y := YX8_addReach) (y := yX8_requireArgument) (cc := cX8_requireArgument) (nL := 1) (ret := none) (rm := rX8_requireArgument) (mX8_requireArgument) 51 1 wX8_51 ⟨by decide +kernel, by decide +kernel, by decide +kernel⟩ (by decide) ⟨Nat.le_of_ble_eq_true rfl, Nat.le_of_ble_eq_true rfl⟩) (zall (zcalS (Y := YX8_addReach) (y := yX8_requireState) (cc := cX8_requireState) (nL := 1) (ret := none) (rm := rX8_requireState) (mX8_requireState) 71 1 wX8_71 ⟨by decide +kernel, by decide +kernel, by decide +kernel⟩ (by decide) ⟨Nat.le_of_ble_eq_true rfl, Nat.le_of_ble_eq_true rfl⟩) znil)))

theorem mX8_addReach : zMet (ULM) yX8_addReach cX8_addReach 7 (some .int) rX8_addReach (sX8_addReach) := by
  refine zmet (Y := YX8_addReach) rfl (by decide +kernel) ?_
  intro av F ok ex h
  unfold sX8_addReach at h
  split at h
  · rename_i a l n m b
    refine zgo_ok (YX8_addReach_ok) zno kX8_addReach (List.all_eq_true.mp kX8_addReach_ok) 0 _ _ _ _ _ ?_
    refine And.intro (fun h1 => ?_) (fun h1 => zjeq0 (zreq0 (h.2 fun h0 => h1 h0.1)))
    refine zjeq1 ?_
    refine And.intro (fun h2 => ?_) (fun h2 => zjeq0 (zreq0 (h.2 fun h0 => h2 h0.2)))
    refine zjeq1 ?_
    refine zreq1 ?_
    have h := h.1 ⟨h1, h2⟩
    refine And.intro (fun h3 => ?_) (fun h3 => ?_)
    · have h3 : ¬ 0 < F 1 3 := Int32.not_lt.mpr h3
      refine zjeq0 ?_
      refine zreq1 ?_
      have h := h.1 (fun h0 => absurd h0 h3)
      refine And.intro (fun h4 => zreq0 (h.2 fun h0 => absurd h0.1 (Int32.not_lt.mpr h4))) (fun h4 => ?_)
      refine And.intro (fun h5 => zreq0 (h.2 fun h0 => h5 h0.2)) (fun h5 => ?_)
      refine zreq1 ?_
      have h := h.1 ⟨Int32.not_le.mp h4, h5⟩
      rw [decide_eq_false h3] at h
      obtain ⟨kk, hk, h6, h⟩ := h
      refine ⟨kk, hk, h6, ?_⟩
      refine zjeq0 ?_
      exact h
    · have h3 : 0 < F 1 3 := Int32.not_le.mp h3
      refine zjeq1 ?_
      refine And.intro (fun h4 => ?_) (fun h4 => zjeq0 (zreq0 (h.2 fun h0 => h4 (h0 h3).1)))
      refine zjeq1 ?_
      refine And.intro (fun h5 => ?_) (fun h5 => zjeq0 (zreq0 (h.2 fun h0 => h5 (h0 h3).2.1)))
      refine zjeq1 ?_
      refine And.intro (fun h6 => ?_) (fun h6 => zjeq0 (zreq0 (h.2 fun h0 => h6 (h0 h3).2.2)))
      refine zjeq1 ?_
      refine zreq1 ?_
      have h := h.1 (fun _ => ⟨h4, h5, h6⟩)
      refine And.intro (fun h4 => zreq0 (h.2 fun h0 => absurd h0.1 (Int32.not_lt.mpr h4))) (fun h4 => ?_)
      refine And.intro (fun h5 => zreq0 (h.2 fun h0 => h5 h0.2)) (fun h5 => ?_)
      refine zreq1 ?_
      have h := h.1 ⟨Int32.not_le.mp h4, h5⟩
      rw [decide_eq_true h3] at h
      obtain ⟨kk, hk, h6, h⟩ := h
      refine ⟨kk, hk, h6, ?_⟩
      refine zjeq1 ?_
      exact h
  · exact h.elim

end ZL2
end
section
/-! LockMaster's methods with loops: pass, arrive, untilLeft -/
section ZL3
set_option maxRecDepth 20000

def kX8_pass : List zI := [
  (0, 1, .iload_n 1, [], 0),
  (1, 1, .iconst 1, [], 1),
  (2, 2, .bipush 40, [], 40),
  (4, 3, .invokestatic 47, [], 0),
  (7, 3, .ifCond .eq 22, [29], 0),
  (10, 1, .iload_n 1, [], 0),
  (11, 3, .sipush 500, [], 500),
  (14, 1, .aload_n 0, [], 0),
  (15, 3, .getfield 10, [], 0),
  (18, 3, .getfield 255, [], 0),
  (21, 1, .isub, [], 0),
  (22, 3, .if_icmp .gt 7, [29], 0),
  (25, 1, .iconst 1, [], 1),
  (26, 3, .goto 4, [30], 0),
  (29, 1, .iconst 0, [], 0),
  (30, 3, .invokestatic 51, [], 0),
  (33, 1, .aload_n 0, [], 0),
  (34, 3, .getfield 10, [], 0),
  (37, 3, .getfield 55, [], 0),
  (40, 3, .getfield 59, [], 0),
  (43, 1, .iconst 2, [], 2),
  (44, 3, .if_icmp .lt 7, [51], 0),
  (47, 1, .iconst 1, [], 1),
  (48, 3, .goto 4, [52], 0),
  (51, 1, .iconst 0, [], 0),
  (52, 3, .invokestatic 71, [], 0),
  (55, 1, .aload_n 0, [], 0),
  (56, 3, .getfield 25, [], 0),
  (59, 1, .aload_n 0, [], 0),
  (60, 3, .getfield 10, [], 0),
  (63, 3, .invokevirtual 74, [], 0),
  (66, 1, .aload_n 0, [], 0),
  (67, 3, .getfield 10, [], 0),
  (70, 3, .getfield 64, [], 0),
  (73, 3, .invokevirtual 258, [], 0),
  (76, 1, .istore_n 2, [], 0),
  (77, 1, .iconst 0, [], 0),
  (78, 1, .istore_n 3, [], 0),
  (79, 1, .iload_n 3, [], 0),
  (80, 1, .iload_n 1, [], 0),
  (81, 3, .if_icmp .ge 16, [97], 0),
  (84, 1, .aload_n 0, [], 0),
  (85, 3, .getfield 10, [], 0),
  (88, 3, .invokevirtual 261, [], 0),
  (91, 3, .iinc 3 1, [], 1),
  (94, 3, .goto (-15), [79], 0),
  (97, 1, .aload_n 0, [], 0),
  (98, 3, .getfield 10, [], 0),
  (101, 3, .getfield 64, [], 0),
  (104, 3, .invokevirtual 258, [], 0),
  (107, 1, .iload_n 2, [], 0),
  (108, 1, .isub, [], 0),
  (109, 1, .ireturn, [], 0)]
theorem kX8_pass_ok : kX8_pass.all (zck cX8_pass) = true := by decide +kernel

def rX8_pass : Room := { frames := 7, cells := 2, slots := 12, locals := 139 }
abbrev YX8_pass : zM := (RX8, cX8_pass, 4, some .int, rX8_pass, ULM, zlk fX8, zcs [(74, 2, 0, 0, zvs (ULM) 2 (sX2_keep)), (258, 1, 0, 0, zvs (ULM) 3 (sX3_shipsThatLeft)), (261, 1, 0, 0, zvs (ULM) 1 (sF_goOneTick))] [(47, 3, 0, 0, sX8_isWithin), (51, 1, 1, 6, sX8_requireArgument), (71, 1, 1, 6, sX8_requireState)])
theorem YX8_pass_ok : zYok (YX8_pass) := zYok_of fX8_ok (zall (zcal_mono (zcalV (Y := YX8_pass) (y := yX2_keep) (cc := cX2_keep) (nL := 3) (ret := none) (rm := rX2_keep) (mX2_keep) 74 1 2 (T := TX2) rfl wX8_74 ⟨by decide +kernel, by decide +kernel, by decide +kernel⟩ (by decide) ⟨Nat.le_of_ble_eq_true rfl, Nat.le_of_ble_eq_true rfl⟩) (fun _ _ _ _ h => zvs_P h)) (zall (zcal_mono (zcalV (Y := YX8_pass) (y := yX3_shipsThatLeft) (cc := cX3_shipsThatLeft) (nL := 1) (ret := some .int) (rm := rX3_shipsThatLeft) (uX3_shipsThatLeft) 258 0 3 (T := TX3) rfl wX8_258 ⟨by decide +kernel, by decide +kernel, by decide +kernel⟩ (by decide) ⟨Nat.le_of_ble_eq_true rfl, Nat.le_of_ble_eq_true rfl⟩) (fun _ _ _ _ h => zvs_P h)) (zall (zcal_mono (zcalV (Y := YX8_pass) (y := yX1_goOneTick) (cc := cX1_goOneTick) (nL := 2) (ret := none) (rm := rX1_goOneTick) (uF_goOneTick) 261 0 1 (T := TX1) rfl wX8_261 ⟨by decide +kernel, by decide +kernel, by decide +kernel⟩ (by decide) ⟨Nat.le_of_ble_eq_true rfl, Nat.le_of_ble_eq_true rfl⟩) (fun _ _ _ _ h => zvs_P h)) znil))) (zall (zcalS (Y := YX8_pass) (y := yX8_isWithin) (cc := cX8_isWithin) (nL := 3) (ret := some .boolean) (rm := rX8_isWithin) (mX8_isWithin) 47 3 wX8_47 ⟨by decide +kernel, by decide +kernel, by decide +kernel⟩ (by decide) ⟨Nat.le_of_ble_eq_true rfl, Nat.le_of_ble_eq_true rfl⟩) (zall (zcalS (Y := YX8_pass) (y := yX8_requireArgument) (cc := cX8_requireArgument) (nL := 1) (ret := none) (rm := rX8_requireArgument) (mX8_requireArgument) 51 1 wX8_51 ⟨by decide +kernel, by decide +kernel, by decide +kernel⟩ (by decide) ⟨Nat.le_of_ble_eq_true rfl, Nat.le_of_ble_eq_true rfl⟩) (zall (zcalS (Y := YX8_pass) (y := yX8_requireState) (cc := cX8_requireState) (nL := 1) (ret := none) (rm := rX8_requireState) (mX8_requireState) 71 1 wX8_71 ⟨by decide +kernel, by decide +kernel, by decide +kernel⟩ (by decide) ⟨Nat.le_of_ble_eq_true rfl, Nat.le_of_ble_eq_true rfl⟩) znil)))

theorem lX8_pass (ok : zO) (ex : zX) (G : zF) (n b : Int32) (h : ok (some (.int (qSir (aTicks G n.toNatClampNeg) (-1) (aTicks G n.toNatClampNeg 25 9).toNatClampNeg - b))) (aTicks G n.toNatClampNeg)) : ∀ (d k : Nat), k + d = n.toNatClampNeg → zWP YX8_pass ok ex 79 [some (.ref 495), some (.int n), some (.int b), some (.int (nI k))] [] 2 12 (aTicks G k) := by
  intro d
  induction d with
  | zero =>
    intro k hk
    have hk : k = n.toNatClampNeg := hk
    subst hk
    refine zat_ok YX8_pass_ok (inv := zi1 79 (fun ls st kc ks G => zWP YX8_pass ok ex 79 ls st kc ks G)) (zone fun _ _ _ _ _ h => h) kX8_pass (List.all_eq_true.mp kX8_pass_ok) 79 _ _ _ _ _ ?_
    exact And.intro (fun _ => h) (fun h1 => absurd (zcnt_ge n) h1)
  | succ d ih =>
    intro k hk
    refine zat_ok YX8_pass_ok (inv := zi1 79 (fun ls st kc ks G => zWP YX8_pass ok ex 79 ls st kc ks G)) (zone fun _ _ _ _ _ h => h) kX8_pass (List.all_eq_true.mp kX8_pass_ok) 79 _ _ _ _ _ ?_
    refine And.intro (fun h1 => absurd h1 (zcnt_lt (c := n) (k := k) (by omega))) (fun h1 => ?_)
    have ih := ih (k + 1) (by omega)
    rw [← nI_1] at ih
    exact ih

theorem mX8_pass : zMet (ULM) yX8_pass cX8_pass 4 (some .int) rX8_pass (sX8_pass) := by
  refine zmet (Y := YX8_pass) rfl (by decide +kernel) ?_
  intro av F ok ex h
  unfold sX8_pass at h
  split at h
  · rename_i n
    refine zgo_ok (YX8_pass_ok) (inv := zi1 79 (fun ls st kc ks G => zWP YX8_pass ok ex 79 ls st kc ks G)) (zone fun _ _ _ _ _ h => h) kX8_pass (List.all_eq_true.mp kX8_pass_ok) 0 _ _ _ _ _ ?_
    refine And.intro (fun h1 => ?_) (fun h1 => zjeq0 (zreq0 (h.2 fun h0 => h1 h0.1)))
    refine zjeq1 ?_
    refine And.intro (fun h2 => zreq0 (h.2 fun h0 => absurd h0.2 (Int32.not_le.mpr h2))) (fun h2 => ?_)
    refine zreq1 ?_
    have h := h.1 ⟨h1, Int32.not_lt.mp h2⟩
    refine And.intro (fun h3 => zreq0 (h.2 (Int32.not_le.mpr h3))) (fun h3 => ?_)
    refine zreq1 ?_
    have h := h.1 (Int32.not_lt.mp h3)
    obtain ⟨kk, hk, h4, h⟩ := h
    refine ⟨kk, hk, h4, ?_⟩
    exact lX8_pass ok ex _ n _ h n.toNatClampNeg 0 (Nat.zero_add _)
  · exact h.elim

def kX8_arrive : List zI := [
  (0, 1, .aload_n 0, [], 0),
  (1, 1, .aload_n 0, [], 0),
  (2, 3, .getfield 32, [], 0),
  (5, 3, .invokevirtual 175, [], 0),
  (8, 3, .putfield 40, [], 0),
  (11, 1, .aload_n 0, [], 0),
  (12, 3, .getfield 32, [], 0),
  (15, 1, .iconst 0, [], 0),
  (16, 3, .putfield 169, [], 0),
  (19, 1, .aload_n 0, [], 0),
  (20, 3, .getfield 40, [], 0),
  (23, 1, .iconst (-1), [], (-1)),
  (24, 3, .if_icmp .ne 7, [31], 0),
  (27, 1, .iconst 1, [], 1),
  (28, 3, .goto 4, [32], 0),
  (31, 1, .iconst 0, [], 0),
  (32, 3, .invokestatic 51, [], 0),
  (35, 1, .aload_n 0, [], 0),
  (36, 1, .aload_n 0, [], 0),
  (37, 1, .aload_n 0, [], 0),
  (38, 3, .getfield 32, [], 0),
  (41, 3, .getfield 179, [], 0),
  (44, 3, .invokevirtual 158, [], 0),
  (47, 3, .invokevirtual 161, [], 0),
  (50, 1, .aload_n 0, [], 0),
  (51, 3, .getfield 25, [], 0),
  (54, 1, .aload_n 0, [], 0),
  (55, 3, .getfield 10, [], 0),
  (58, 3, .invokevirtual 74, [], 0),
  (61, 1, .iconst 0, [], 0),
  (62, 1, .istore_n 1, [], 0),
  (63, 1, .iload_n 1, [], 0),
  (64, 1, .aload_n 0, [], 0),
  (65, 3, .getfield 32, [], 0),
  (68, 3, .getfield 179, [], 0),
  (71, 3, .if_icmp .ge 70, [141], 0),
  (74, 1, .aload_n 0, [], 0),
  (75, 3, .getfield 10, [], 0),
  (78, 1, .aload_n 0, [], 0),
  (79, 3, .getfield 32, [], 0),
  (82, 3, .getfield 182, [], 0),
  (85, 1, .iload_n 1, [], 0),
  (86, 3, .invokevirtual 107, [], 0),
  (89, 1, .aload_n 0, [], 0),
  (90, 3, .getfield 32, [], 0),
  (93, 3, .getfield 185, [], 0),
  (96, 1, .iload_n 1, [], 0),
  (97, 3, .invokevirtual 107, [], 0),
  (100, 1, .aload_n 0, [], 0),
  (101, 3, .getfield 32, [], 0),
  (104, 3, .getfield 188, [], 0),
  (107, 1, .iload_n 1, [], 0),
  (108, 3, .invokevirtual 107, [], 0),
  (111, 1, .aload_n 0, [], 0),
  (112, 3, .getfield 32, [], 0),
  (115, 3, .getfield 191, [], 0),
  (118, 1, .iload_n 1, [], 0),
  (119, 3, .invokevirtual 107, [], 0),
  (122, 1, .iconst 1, [], 1),
  (123, 3, .if_icmp .ne 7, [130], 0),
  (126, 1, .iconst 1, [], 1),
  (127, 3, .goto 4, [131], 0),
  (130, 1, .iconst 0, [], 0),
  (131, 3, .invokevirtual 165, [], 0),
  (134, 1, .pop, [], 0),
  (135, 3, .iinc 1 1, [], 1),
  (138, 3, .goto (-75), [63], 0),
  (141, 1, .aload_n 0, [], 0),
  (142, 3, .getfield 32, [], 0),
  (145, 3, .getfield 179, [], 0),
  (148, 1, .ireturn, [], 0)]
theorem kX8_arrive_ok : kX8_arrive.all (zck cX8_arrive) = true := by decide +kernel

def rX8_arrive : Room := { frames := 7, cells := 2, slots := 12, locals := 107 }
abbrev YX8_arrive : zM := (RX8, cX8_arrive, 2, some .int, rX8_arrive, ULM, zlk fX8, zcs [(175, 1, 0, 0, zvs (ULM) 0 (sT_read)), (158, 2, 0, 0, zvs (ULM) 8 (sX8_refusalOfShips)), (161, 2, 1, 6, zvs (ULM) 8 (sX8_refuseFor)), (74, 2, 0, 0, zvs (ULM) 2 (sX2_keep)), (107, 2, 0, 0, zvs (ULM) 7 (sU_at ULM)), (165, 5, 0, 0, zvs (ULM) 1 (sX1_makeShip))] [(51, 1, 1, 6, sX8_requireArgument)])
theorem YX8_arrive_ok : zYok (YX8_arrive) := zYok_of fX8_ok (zall (zcal_mono (zcalV (Y := YX8_arrive) (y := yX0_read) (cc := cX0_read) (nL := 3) (ret := some .int) (rm := rX0_read) (uT_read) 175 0 0 (T := TX0) rfl wX8_175 ⟨by decide +kernel, by decide +kernel, by decide +kernel⟩ (by decide) ⟨Nat.le_of_ble_eq_true rfl, Nat.le_of_ble_eq_true rfl⟩) (fun _ _ _ _ h => zvs_P h)) (zall (zcal_mono (zcalV (Y := YX8_arrive) (y := yX8_refusalOfShips) (cc := cX8_refusalOfShips) (nL := 2) (ret := some .int) (rm := rX8_refusalOfShips) (mX8_refusalOfShips) 158 1 8 (T := TX8) rfl wX8_158 ⟨by decide +kernel, by decide +kernel, by decide +kernel⟩ (by decide) ⟨Nat.le_of_ble_eq_true rfl, Nat.le_of_ble_eq_true rfl⟩) (fun _ _ _ _ h => zvs_P h)) (zall (zcal_mono (zcalV (Y := YX8_arrive) (y := yX8_refuseFor) (cc := cX8_refuseFor) (nL := 2) (ret := none) (rm := rX8_refuseFor) (mX8_refuseFor) 161 1 8 (T := TX8) rfl wX8_161 ⟨by decide +kernel, by decide +kernel, by decide +kernel⟩ (by decide) ⟨Nat.le_of_ble_eq_true rfl, Nat.le_of_ble_eq_true rfl⟩) (fun _ _ _ _ h => zvs_P h)) (zall (zcal_mono (zcalV (Y := YX8_arrive) (y := yX2_keep) (cc := cX2_keep) (nL := 3) (ret := none) (rm := rX2_keep) (mX2_keep) 74 1 2 (T := TX2) rfl wX8_74 ⟨by decide +kernel, by decide +kernel, by decide +kernel⟩ (by decide) ⟨Nat.le_of_ble_eq_true rfl, Nat.le_of_ble_eq_true rfl⟩) (fun _ _ _ _ h => zvs_P h)) (zall (zcal_mono (zcalV (Y := YX8_arrive) (y := yX7_at) (cc := cX7_at) (nL := 2) (ret := some .int) (rm := rX7_at) (mU_at ULM ULM_small) 107 1 7 (T := TX7) rfl wX8_107 ⟨by decide +kernel, by decide +kernel, by decide +kernel⟩ (by decide) ⟨Nat.le_of_ble_eq_true rfl, Nat.le_of_ble_eq_true rfl⟩) (fun _ _ _ _ h => zvs_P h)) (zall (zcal_mono (zcalV (Y := YX8_arrive) (y := yX1_makeShip) (cc := cX1_makeShip) (nL := 6) (ret := some .int) (rm := rX1_makeShip) (uX1_makeShip) 165 4 1 (T := TX1) rfl wX8_165 ⟨by decide +kernel, by decide +kernel, by decide +kernel⟩ (by decide) ⟨Nat.le_of_ble_eq_true rfl, Nat.le_of_ble_eq_true rfl⟩) (fun _ _ _ _ h => zvs_P h)) znil)))))) (zall (zcalS (Y := YX8_arrive) (y := yX8_requireArgument) (cc := cX8_requireArgument) (nL := 1) (ret := none) (rm := rX8_requireArgument) (mX8_requireArgument) 51 1 wX8_51 ⟨by decide +kernel, by decide +kernel, by decide +kernel⟩ (by decide) ⟨Nat.le_of_ble_eq_true rfl, Nat.le_of_ble_eq_true rfl⟩) znil)

theorem qMkC_o (F : zF) (a b c d : Int32) {k : Nat} (h : 45 ≤ k) : qMkC F a b c d k = F k := by
  unfold qMkC
  rw [zwr_ne _ _ _ _ (by omega), zwr_ne _ _ _ _ (by omega), qMkS_o _ _ _ _ _ h]
theorem aArr_o (G : zF) {k : Nat} (h : 45 ≤ k) : ∀ n, aArr G n k = G k
  | 0 => rfl
  | n + 1 => (qMkC_o _ _ _ _ _ h).trans (aArr_o G h n)
theorem lX8_arrive (ok : zO) (ex : zX) (G : zF) (h : ok (some (.int (G 498 6))) (aArr G (G 498 6).toNatClampNeg)) : ∀ (d k : Nat), k + d = (G 498 6).toNatClampNeg → zWP YX8_arrive ok ex 63 [some (.ref 495), some (.int (nI k))] [] 2 12 (aArr G k) := by
  intro d
  induction d with
  | zero =>
    intro k hk
    have hk : k = (G 498 6).toNatClampNeg := hk
    refine zat_ok YX8_arrive_ok (inv := zi1 63 (fun ls st kc ks G => zWP YX8_arrive ok ex 63 ls st kc ks G)) (zone fun _ _ _ _ _ h => h) kX8_arrive (List.all_eq_true.mp kX8_arrive_ok) 63 _ _ _ _ _ ?_
    refine And.intro (fun _ => ?_) (fun h1 => absurd ?_ h1)
    · rw [← hk] at h
      refine zleaf ok h ?_ rfl
      show some (Value.int (G 498 6)) = some (Value.int (aArr G k 498 6))
      rw [aArr_o G (by decide)]
    · show aArr G k 498 6 ≤ nI k
      rw [aArr_o G (by decide), hk]
      exact zcnt_ge _
  | succ d ih =>
    intro k hk
    refine zat_ok YX8_arrive_ok (inv := zi1 63 (fun ls st kc ks G => zWP YX8_arrive ok ex 63 ls st kc ks G)) (zone fun _ _ _ _ _ h => h) kX8_arrive (List.all_eq_true.mp kX8_arrive_ok) 63 _ _ _ _ _ ?_
    refine And.intro (fun h1 => absurd ?_ (zcnt_lt (c := G 498 6) (k := k) (by omega))) (fun h1 => ?_)
    · have h1 : aArr G k 498 6 ≤ nI k := h1
      rw [aArr_o G (by decide)] at h1
      exact h1
    have ih := ih (k + 1) (by omega)
    rw [← nI_1] at ih
    refine And.intro (fun h2 => ?_) (fun h2 => ?_)
    · have h2 : ¬ zrd 10 (aArr G k 508) (nI k) = 1 := h2
      have h3 : aArr G (k + 1) = qMkC (aArr G k) (zrd 10 (aArr G k 502) (nI k)) (zrd 10 (aArr G k 504) (nI k)) (zrd 10 (aArr G k 506) (nI k)) 0 := by
        show qMkC (aArr G k) (zrd 10 (aArr G k 502) (nI k)) (zrd 10 (aArr G k 504) (nI k)) (zrd 10 (aArr G k 506) (nI k)) (if zrd 10 (aArr G k 508) (nI k) = 1 then 1 else 0) = _
        rw [if_neg h2]
      rw [h3] at ih
      exact ih
    · have h2 : zrd 10 (aArr G k 508) (nI k) = 1 := h2
      have h3 : aArr G (k + 1) = qMkC (aArr G k) (zrd 10 (aArr G k 502) (nI k)) (zrd 10 (aArr G k 504) (nI k)) (zrd 10 (aArr G k 506) (nI k)) 1 := by
        show qMkC (aArr G k) (zrd 10 (aArr G k 502) (nI k)) (zrd 10 (aArr G k 504) (nI k)) (zrd 10 (aArr G k 506) (nI k)) (if zrd 10 (aArr G k 508) (nI k) = 1 then 1 else 0) = _
        rw [if_pos h2]
      rw [h3] at ih
      exact ih

theorem aArR_6 (F : zF) : aArR F 495 6 = (xRead (vw 498 F)).1 := by
  unfold aArR
  rw [zup_ne _ _ _ (by decide), zup_at]

theorem mX8_arrive : zMet (ULM) yX8_arrive cX8_arrive 2 (some .int) rX8_arrive (sX8_arrive) := by
  refine zmet (Y := YX8_arrive) rfl (by decide +kernel) ?_
  intro av F ok ex h
  unfold sX8_arrive at h
  split at h
  · refine zgo_ok (YX8_arrive_ok) (inv := zi1 63 (fun ls st kc ks G => zWP YX8_arrive ok ex 63 ls st kc ks G)) (zone fun _ _ _ _ _ h => h) kX8_arrive (List.all_eq_true.mp kX8_arrive_ok) 0 _ _ _ _ _ ?_
    refine And.intro (fun h1 => zreq0 (h.2 fun h0 => h1 ?_)) (fun h1 => ?_)
    · rw [← aArR_6] at h0
      exact h0
    refine zreq1 ?_
    have h1 : aArR F 495 6 = -1 := h1
    rw [aArR_6] at h1
    have h := h.1 h1
    refine And.intro (fun h2 => ?_) h.2
    have h := h.1 h2
    obtain ⟨kk, hk, h4, h⟩ := h
    refine ⟨kk, hk, h4, ?_⟩
    have h5 : zcp (aKp (aArR F)) (135 + 45 * kk) 0 498 6 = aArR F 498 6 := by
      rw [zcp_out _ _ _ (by omega)]
      unfold aKp
      rw [zup_ne _ _ _ (by decide), zup_ne _ _ _ (by decide)]
    rw [← h5] at h
    exact lX8_arrive ok ex _ h _ 0 (Nat.zero_add _)
  · exact h.elim

def kX8_untilLeft : List zI := [
  (0, 1, .iload_n 1, [], 0),
  (1, 1, .aload_n 0, [], 0),
  (2, 3, .getfield 10, [], 0),
  (5, 3, .getfield 64, [], 0),
  (8, 3, .getfield 68, [], 0),
  (11, 3, .invokestatic 92, [], 0),
  (14, 1, .iload_n 2, [], 0),
  (15, 1, .iconst 1, [], 1),
  (16, 2, .bipush 40, [], 40),
  (18, 3, .invokestatic 47, [], 0),
  (21, 3, .invokestatic 51, [], 0),
  (24, 1, .aload_n 0, [], 0),
  (25, 3, .getfield 10, [], 0),
  (28, 3, .getfield 64, [], 0),
  (31, 1, .iload_n 1, [], 0),
  (32, 3, .invokevirtual 233, [], 0),
  (35, 3, .ifCond .ne 7, [42], 0),
  (38, 1, .iconst 1, [], 1),
  (39, 3, .goto 4, [43], 0),
  (42, 1, .iconst 0, [], 0),
  (43, 3, .invokestatic 71, [], 0),
  (46, 1, .aload_n 0, [], 0),
  (47, 3, .getfield 16, [], 0),
  (50, 1, .aload_n 0, [], 0),
  (51, 3, .getfield 10, [], 0),
  (54, 3, .invokevirtual 264, [], 0),
  (57, 1, .iconst 0, [], 0),
  (58, 1, .istore_n 3, [], 0),
  (59, 1, .iload_n 3, [], 0),
  (60, 1, .iload_n 2, [], 0),
  (61, 3, .if_icmp .ge 43, [104], 0),
  (64, 1, .aload_n 0, [], 0),
  (65, 3, .getfield 16, [], 0),
  (68, 3, .getfield 255, [], 0),
  (71, 3, .sipush 500, [], 500),
  (74, 3, .if_icmp .ge 30, [104], 0),
  (77, 1, .aload_n 0, [], 0),
  (78, 3, .getfield 16, [], 0),
  (81, 3, .getfield 64, [], 0),
  (84, 1, .iload_n 1, [], 0),
  (85, 3, .invokevirtual 233, [], 0),
  (88, 3, .ifCond .ne 16, [104], 0),
  (91, 1, .aload_n 0, [], 0),
  (92, 3, .getfield 16, [], 0),
  (95, 3, .invokevirtual 261, [], 0),
  (98, 3, .iinc 3 1, [], 1),
  (101, 3, .goto (-42), [59], 0),
  (104, 1, .aload_n 0, [], 0),
  (105, 3, .getfield 16, [], 0),
  (108, 3, .getfield 64, [], 0),
  (111, 1, .iload_n 1, [], 0),
  (112, 3, .invokevirtual 233, [], 0),
  (115, 3, .invokestatic 212, [], 0),
  (118, 1, .iload_n 3, [], 0),
  (119, 1, .ireturn, [], 0)]
theorem kX8_untilLeft_ok : kX8_untilLeft.all (zck cX8_untilLeft) = true := by decide +kernel

def rX8_untilLeft : Room := { frames := 7, cells := 4, slots := 24, locals := 139 }
abbrev YX8_untilLeft : zM := (RX8, cX8_untilLeft, 4, some .int, rX8_untilLeft, ULM, zlk fX8, zcs [(233, 2, 0, 0, zvs (ULM) 3 (sF_hasLeft)), (264, 2, 0, 0, zvs (ULM) 1 (sL_copyFrom)), (261, 1, 0, 0, zvs (ULM) 1 (sF_goOneTick))] [(92, 2, 1, 6, sX8_requireIndex), (47, 3, 0, 0, sX8_isWithin), (51, 1, 1, 6, sX8_requireArgument), (71, 1, 1, 6, sX8_requireState), (212, 1, 1, 6, sX8_requireElement)])
theorem YX8_untilLeft_ok : zYok (YX8_untilLeft) := zYok_of fX8_ok (zall (zcal_mono (zcalV (Y := YX8_untilLeft) (y := yX3_hasLeft) (cc := cX3_hasLeft) (nL := 2) (ret := some .boolean) (rm := rX3_hasLeft) (uF_hasLeft) 233 1 3 (T := TX3) rfl wX8_233 ⟨by decide +kernel, by decide +kernel, by decide +kernel⟩ (by decide) ⟨Nat.le_of_ble_eq_true rfl, Nat.le_of_ble_eq_true rfl⟩) (fun _ _ _ _ h => zvs_P h)) (zall (zcal_mono (zcalV (Y := YX8_untilLeft) (y := yX1_copyFrom) (cc := cX1_copyFrom) (nL := 2) (ret := none) (rm := rX1_copyFrom) (uL_copyFrom) 264 1 1 (T := TX1) rfl wX8_264 ⟨by decide +kernel, by decide +kernel, by decide +kernel⟩ (by decide) ⟨Nat.le_of_ble_eq_true rfl, Nat.le_of_ble_eq_true rfl⟩) (fun _ _ _ _ h => zvs_P h)) (zall (zcal_mono (zcalV (Y := YX8_untilLeft) (y := yX1_goOneTick) (cc := cX1_goOneTick) (nL := 2) (ret := none) (rm := rX1_goOneTick) (uF_goOneTick) 261 0 1 (T := TX1) rfl wX8_261 ⟨by decide +kernel, by decide +kernel, by decide +kernel⟩ (by decide) ⟨Nat.le_of_ble_eq_true rfl, Nat.le_of_ble_eq_true rfl⟩) (fun _ _ _ _ h => zvs_P h)) znil))) (zall (zcalS (Y := YX8_untilLeft) (y := yX8_requireIndex) (cc := cX8_requireIndex) (nL := 2) (ret := none) (rm := rX8_requireIndex) (mX8_requireIndex) 92 2 wX8_92 ⟨by decide +kernel, by decide +kernel, by decide +kernel⟩ (by decide) ⟨Nat.le_of_ble_eq_true rfl, Nat.le_of_ble_eq_true rfl⟩) (zall (zcalS (Y := YX8_untilLeft) (y := yX8_isWithin) (cc := cX8_isWithin) (nL := 3) (ret := some .boolean) (rm := rX8_isWithin) (mX8_isWithin) 47 3 wX8_47 ⟨by decide +kernel, by decide +kernel, by decide +kernel⟩ (by decide) ⟨Nat.le_of_ble_eq_true rfl, Nat.le_of_ble_eq_true rfl⟩) (zall (zcalS (Y := YX8_untilLeft) (y := yX8_requireArgument) (cc := cX8_requireArgument) (nL := 1) (ret := none) (rm := rX8_requireArgument) (mX8_requireArgument) 51 1 wX8_51 ⟨by decide +kernel, by decide +kernel, by decide +kernel⟩ (by decide) ⟨Nat.le_of_ble_eq_true rfl, Nat.le_of_ble_eq_true rfl⟩) (zall (zcalS (Y := YX8_untilLeft) (y := yX8_requireState) (cc := cX8_requireState) (nL := 1) (ret := none) (rm := rX8_requireState) (mX8_requireState) 71 1 wX8_71 ⟨by decide +kernel, by decide +kernel, by decide +kernel⟩ (by decide) ⟨Nat.le_of_ble_eq_true rfl, Nat.le_of_ble_eq_true rfl⟩) (zall (zcalS (Y := YX8_untilLeft) (y := yX8_requireElement) (cc := cX8_requireElement) (nL := 1) (ret := none) (rm := rX8_requireElement) (mX8_requireElement) 212 1 wX8_212 ⟨by decide +kernel, by decide +kernel, by decide +kernel⟩ (by decide) ⟨Nat.le_of_ble_eq_true rfl, Nat.le_of_ble_eq_true rfl⟩) znil)))))

theorem aFc_go (s : Int32) (d n : Nat) (G : zF) (h1 : G 45 7 < 500) (h2 : ¬ qWa (vw 45 G) s = -1) : aFc s (d + 1) n G = aFc s d (n + 1) (aFt G) := if_pos ⟨h1, h2⟩
theorem aFc_no (s : Int32) (d n : Nat) (G : zF) (h : ¬ (G 45 7 < 500 ∧ ¬ qWa (vw 45 G) s = -1)) : aFc s (d + 1) n G = (n, G) := if_neg h
theorem lX8_untilLeft (ok : zO) (ex : zX) (s n : Int32) : ∀ (d k : Nat) (G : zF), k + d = n.toNatClampNeg → zfo (qWa (vw 45 (aFc s d k G).2) s = -1) xE (aFc s d k G).2 ex (ok (some (.int (nI (aFc s d k G).1))) (aFc s d k G).2) → zWP YX8_untilLeft ok ex 59 [some (.ref 495), some (.int s), some (.int n), some (.int (nI k))] [] 3 18 G := by
  intro d
  induction d with
  | zero =>
    intro k G hk h
    have hk : k = n.toNatClampNeg := hk
    subst hk
    refine zat_ok YX8_untilLeft_ok (inv := zi1 59 (fun ls st kc ks G => zWP YX8_untilLeft ok ex 59 ls st kc ks G)) (zone fun _ _ _ _ _ h => h) kX8_untilLeft (List.all_eq_true.mp kX8_untilLeft_ok) 59 _ _ _ _ _ ?_
    exact And.intro (fun _ => And.intro (fun h5 => zreq1 (h.1 h5)) (fun h5 => zreq0 (h.2 h5))) (fun h1 => absurd (zcnt_ge n) h1)
  | succ d ih =>
    intro k G hk h
    refine zat_ok YX8_untilLeft_ok (inv := zi1 59 (fun ls st kc ks G => zWP YX8_untilLeft ok ex 59 ls st kc ks G)) (zone fun _ _ _ _ _ h => h) kX8_untilLeft (List.all_eq_true.mp kX8_untilLeft_ok) 59 _ _ _ _ _ ?_
    refine And.intro (fun h1 => absurd h1 (zcnt_lt (c := n) (k := k) (by omega))) (fun h1 => ?_)
    refine And.intro (fun h2 => ?_) (fun h2 => ?_)
    · have h2 : (500 : Int32) ≤ G 45 7 := h2
      rw [aFc_no s d k G (fun h0 => absurd h0.1 (Int32.not_lt.mpr h2))] at h
      exact And.intro (fun h5 => zreq1 (h.1 h5)) (fun h5 => zreq0 (h.2 h5))
    · have h2 : ¬ (500 : Int32) ≤ G 45 7 := h2
      refine And.intro (fun h3 => ?_) (fun h3 => ?_)
      · have h3 : qWa (vw 45 G) s = -1 := h3
        rw [aFc_no s d k G (fun h0 => h0.2 h3)] at h
        refine zjne1 ?_
        exact And.intro (fun h5 => zreq1 (h.1 h5)) (fun h5 => zreq0 (h.2 h5))
      · have h3 : ¬ qWa (vw 45 G) s = -1 := h3
        rw [aFc_go s d k G (Int32.not_le.mp h2) h3] at h
        refine zjne0 ?_
        have ih := ih (k + 1) _ (by omega) h
        rw [← nI_1] at ih
        exact ih

theorem mX8_untilLeft : zMet (ULM) yX8_untilLeft cX8_untilLeft 4 (some .int) rX8_untilLeft (sX8_untilLeft) := by
  refine zmet (Y := YX8_untilLeft) rfl (by decide +kernel) ?_
  intro av F ok ex h
  unfold sX8_untilLeft at h
  split at h
  · rename_i s n
    refine zgo_ok (YX8_untilLeft_ok) (inv := zi1 59 (fun ls st kc ks G => zWP YX8_untilLeft ok ex 59 ls st kc ks G)) (zone fun _ _ _ _ _ h => h) kX8_untilLeft (List.all_eq_true.mp kX8_untilLeft_ok) 0 _ _ _ _ _ ?_
    refine And.intro (fun h1 => ?_) h.2
    have h := h.1 h1
    refine And.intro (fun h2 => ?_) (fun h2 => zreq0 (h.2 h2))
    refine zreq1 ?_
    have h := h.1 h2
    refine And.intro (fun h2 => zjne1 (zreq0 (h.2 (fun h3 => h3 h2)))) (fun h2 => ?_)
    refine zjne0 ?_
    refine zreq1 ?_
    have h := h.1 h2
    exact lX8_untilLeft ok ex s n n.toNatClampNeg 0 _ (Nat.zero_add _) h
  · exact h.elim

end ZL3
end
section
/-! the reference's own object: its world, its small helps -/
section ZM0
set_option maxRecDepth 20000
def lMo : List zS := [(0, 9, [none, some 1, some 2, none, some 3, none, some 4, some 5, none, none, none, none, some 6, some 7, none, some 8, none, some 9, none]), (1, 197, []), (1, 1576, []), (1, 197, []), (1, 197, []), (1, 50, []), (1, 200, []), (1, 16, []), (1, 16, []), (2, 16, [])]
def UM : zU := (10, fun k => (znth lMo k).getD (1, 0, []))
theorem UM_small : zsmall UM := by
  have h : ∀ k, k < 10 → (UM.2 k).2.1 < 2 ^ 31 := by decide +kernel
  exact h
theorem zix {x : Int32} {k n : Nat} (hx : x = nI k) (hk : k < n) (hn : n < 2 ^ 31) : vp_in x n := by
  rw [hx]
  exact vp_in_nI hk hn
theorem zicl {x : Int32} {k : Nat} (hx : x = nI k) (hk : k < 2 ^ 31) : x.toNatClampNeg = k := by
  rw [hx]
  exact nI_clamp hk
theorem nI_mulc (a b : Nat) : nI a * nI b = nI (a * b) := (Int32.ofNat_mul a b).symm
theorem ix_of (s w : Nat) : 53 + 9 * nI s + nI w = nI (53 + 9 * s + w) := by
  rw [show (53 : Int32) = nI 53 from rfl, show (9 : Int32) = nI 9 from rfl, nI_mulc, nI_add, nI_add]
theorem ix_lp (s w : Nat) : 25 + 7 * nI s + nI w = nI (25 + 7 * s + w) := by
  rw [show (25 : Int32) = nI 25 from rfl, show (7 : Int32) = nI 7 from rfl, nI_mulc, nI_add, nI_add]
theorem ix_re (s : Nat) : 10 + 3 * nI s = nI (10 + 3 * s) := by
  rw [show (10 : Int32) = nI 10 from rfl, show (3 : Int32) = nI 3 from rfl, nI_mulc, nI_add]
theorem ix_re1 (s : Nat) : 10 + 3 * nI s + 1 = nI (10 + 3 * s + 1) := by rw [ix_re, nI_1]
theorem ix_re2 (s : Nat) : 10 + 3 * nI s + 2 = nI (10 + 3 * s + 2) := by rw [ix_re, show (2 : Int32) = nI 2 from rfl, nI_add]
theorem zup_zup (F : zF) (j i : Nat) (a b : Int32) : zup (zup F j i a) j i b = zup F j i b := by
  funext x y
  unfold zup
  split
  · split <;> rfl
  · rfl
def mOf (F : zF) (s w : Nat) : Int32 := F 1 (53 + 9 * s + w)
def mLP (F : zF) (s w : Nat) : Int32 := F 1 (25 + 7 * s + w)
def mWa (F : zF) (r : Nat) : Int32 := F 1 (10 + 3 * r + 2)
def mLev (F : zF) (r : Nat) : Int32 := mWa F r / F 1 (10 + 3 * r)
def mDry (F : zF) (r : Nat) : Int32 := if F 1 (10 + 3 * r + 1) - mLev F r ≤ 2 then 0 else if F 1 (10 + 3 * r + 1) - mLev F r ≤ 6 then 1 else 2
def mLk (F : zF) (s : Nat) : Int32 := if mOf F s 4 < 0 then -1 else if mOf F s 3 = 1 then mOf F s 4 - 1 else mOf F s 4
def mWd (F : zF) (s : Nat) : Int32 := if mOf F s 4 < 0 then 0 else F 1 0 - mOf F s 5
def mNx (F : zF) (s : Nat) : Int32 := if mOf F s 3 = 1 then mOf F s 4 - 1 else mOf F s 4 + 1
def mFd (x y : Int32) : Int32 := if 0 ≤ (x ^^^ y) then x / y else if x / y * y = x then x / y else x / y - 1
def mBit (k : Nat) : Nat := k % 2 + k / 2 % 2 + k / 4 % 2
def mHe (F : zF) : Int32 := if F 0 9 < F 0 8 then F 5 (F 0 9).toNatClampNeg else 0
def sX9_in : zSp := fun as F ok _ => match as with
  | [.int x, .int a, .int b] => zbo (a ≤ x ∧ x ≤ b) F ok
  | _ => False
def sX9_raises : zSp := fun as F ok _ => match as with
  | [.ref 0, .int c] => ok (some (.int 0)) (zup F 0 0 c)
  | _ => False
def sX9_refuses : zSp := fun as F ok _ => match as with
  | [.ref 0, .int r, .int c] => ok (some (.int 0)) (zup (zup F 0 11 r) 0 0 c)
  | _ => False
def sX9_isReach : zSp := fun as F ok _ => match as with
  | [.ref 0, .int r] => zbo (0 ≤ r ∧ r ≤ F 1 1 - 1) F ok
  | _ => False
def sX9_isLock : zSp := fun as F ok _ => match as with
  | [.ref 0, .int r] => zbo (0 ≤ r ∧ r ≤ F 1 1 - 2) F ok
  | _ => False
def sX9_isShip : zSp := fun as F ok _ => match as with
  | [.ref 0, .int r] => zbo (0 ≤ r ∧ r ≤ F 1 2 - 1) F ok
  | _ => False
def sX9_thrown : zSp := fun as F ok _ => match as with
  | [.ref 0] => ok (some (.int (F 0 0))) F
  | _ => False
def sX9_tick : zSp := fun as F ok _ => match as with
  | [.ref 0] => ok (some (.int (F 1 0))) (zup F 0 0 0)
  | _ => False
def sX9_faultPosition : zSp := fun as F ok _ => match as with
  | [.ref 0] => ok (some (.int (F 0 10))) (zup F 0 0 0)
  | _ => False
def sX9_refusal : zSp := fun as F ok _ => match as with
  | [.ref 0] => ok (some (.int (F 0 11))) (zup F 0 0 (if F 0 11 = 0 then 1 else 0))
  | _ => False
def sX9_water : zSp := fun as F ok _ => match as with
  | [.ref 0, .int x] => ∃ r, x = nI r ∧ r < 5 ∧ ok (some (.int (mWa F r))) F
  | _ => False
def sX9_level : zSp := fun as F ok _ => match as with
  | [.ref 0, .int x] => ∃ r, x = nI r ∧ r < 5 ∧ ¬ F 1 (10 + 3 * r) = 0 ∧ ok (some (.int (mLev F r))) F
  | _ => False
def sX9_dryness : zSp := fun as F ok _ => match as with
  | [.ref 0, .int x] => ∃ r, x = nI r ∧ r < 5 ∧ ¬ F 1 (10 + 3 * r) = 0 ∧ ok (some (.int (mDry F r))) F
  | _ => False
def sX9_lockPart : zSp := fun as F ok _ => match as with
  | [.ref 0, .int x, .int y] => ∃ k w, x = nI k ∧ y = nI w ∧ k < 4 ∧ w < 7 ∧ ok (some (.int (mLP F k w))) F
  | _ => False
def sX9_quarter : zSp := fun as F ok _ => match as with
  | [.ref 0, .int x] => ∃ k, x = nI k ∧ k < 4 ∧ ok (some (.int (mLP F k 1 / 4))) F
  | _ => False
def sX9_lacks : zSp := fun as F ok _ => match as with
  | [.ref 0, .int x, .int b] => ∃ k, x = nI k ∧ k < 4 ∧ ok (some (.int (mLP F k 1 - mLP F k 1 / 4 * b))) F
  | _ => False
def sX9_of : zSp := fun as F ok _ => match as with
  | [.ref 0, .int x, .int y] => ∃ s w, x = nI s ∧ y = nI w ∧ s < 16 ∧ w < 9 ∧ ok (some (.int (mOf F s w))) F
  | _ => False
def sX9_puts : zSp := fun as F ok _ => match as with
  | [.ref 0, .int x, .int y, .int v] => ∃ s w, x = nI s ∧ y = nI w ∧ s < 16 ∧ w < 9 ∧ ok none (zup F 1 (53 + 9 * s + w) v)
  | _ => False
def sX9_lockOf : zSp := fun as F ok _ => match as with
  | [.ref 0, .int x] => ∃ s, x = nI s ∧ s < 16 ∧ ok (some (.int (mLk F s))) F
  | _ => False
def sX9_waited : zSp := fun as F ok _ => match as with
  | [.ref 0, .int x] => ∃ s, x = nI s ∧ s < 16 ∧ ok (some (.int (mWd F s))) F
  | _ => False
def sX9_next : zSp := fun as F ok _ => match as with
  | [.ref 0, .int x] => ∃ s, x = nI s ∧ s < 16 ∧ ok (some (.int (mNx F s))) F
  | _ => False
def sX9_here : zSp := fun as F ok _ => match as with
  | [.ref 0] => (F 0 9 < F 0 8 → vp_in (F 0 9) 50) ∧ ok (some (.int (mHe F))) F
  | _ => False
def sX9_takes : zSp := fun as F ok _ => match as with
  | [.ref 0, .int c] => (F 0 9 < F 0 8 → vp_in (F 0 9) 50) ∧ ((¬ F 0 9 = F 0 8 ∧ mHe F = c) → ok (some (.int 1)) (zup F 0 9 (F 0 9 + 1))) ∧ (¬ (¬ F 0 9 = F 0 8 ∧ mHe F = c) → ok (some (.int 0)) F)
  | _ => False
def sJ9_floorDiv_7cf53 : zSp := fun as F ok _ => match as with
  | [.int x, .int y] => ¬ y = 0 ∧ ok (some (.int (mFd x y))) F
  | _ => False
def sJ6_bitCount_0f7a4 : zSp := fun as F ok _ => match as with
  | [.int x] => ∃ k, k < 8 ∧ x = nI k ∧ ok (some (.int (nI (mBit k)))) F
  | _ => False
def mBc (x : Int32) : Int32 := nI (mBit x.toNatClampNeg)
def mHd (F : zF) (k : Nat) : Int32 := mLP F k 3 * mLP F k 1 + mLP F k 1 / 4 * mBc (mLP F k 4)
def sX9_held : zSp := fun as F ok _ => match as with
  | [.ref 0, .int x] => ∃ k, x = nI k ∧ k < 4 ∧ (∃ b, b < 8 ∧ mLP F k 4 = nI b) ∧ ok (some (.int (mHd F k))) F
  | _ => False

def kJ9_floorDiv_7cf53 : List zI := [
  (0, 1, .iload_n 0, [], 0),
  (1, 1, .iload_n 1, [], 0),
  (2, 1, .idiv, [], 0),
  (3, 1, .istore_n 2, [], 0),
  (4, 1, .iload_n 0, [], 0),
  (5, 1, .iload_n 1, [], 0),
  (6, 1, .ixor, [], 0),
  (7, 3, .ifCond .ge 14, [21], 0),
  (10, 1, .iload_n 2, [], 0),
  (11, 1, .iload_n 1, [], 0),
  (12, 1, .imul, [], 0),
  (13, 1, .iload_n 0, [], 0),
  (14, 3, .if_icmp .eq 7, [21], 0),
  (17, 1, .iload_n 2, [], 0),
  (18, 1, .iconst 1, [], 1),
  (19, 1, .isub, [], 0),
  (20, 1, .ireturn, [], 0),
  (21, 1, .iload_n 2, [], 0),
  (22, 1, .ireturn, [], 0)]
theorem kJ9_floorDiv_7cf53_ok : kJ9_floorDiv_7cf53.all (zck cJ9_floorDiv_7cf53) = true := by decide +kernel

def rJ9_floorDiv_7cf53 : Room := { frames := 0, cells := 0, slots := 0, locals := 0 }
abbrev YJ9_floorDiv_7cf53 : zM := (RJ9, cJ9_floorDiv_7cf53, 3, some .int, rJ9_floorDiv_7cf53, UM, zlk ([] : List (Nat × Nat × Nat × Nat)), zcs [] [])
theorem YJ9_floorDiv_7cf53_ok : zYok (YJ9_floorDiv_7cf53) := zYok_of rfl znil znil

theorem mJ9_floorDiv_7cf53 : zMet (UM) yJ9_floorDiv_7cf53 cJ9_floorDiv_7cf53 3 (some .int) rJ9_floorDiv_7cf53 (sJ9_floorDiv_7cf53) := by
  refine zmet (Y := YJ9_floorDiv_7cf53) rfl (by decide +kernel) ?_
  intro av F ok ex h
  unfold sJ9_floorDiv_7cf53 at h
  split at h
  · rename_i x y
    refine zgo_ok (YJ9_floorDiv_7cf53_ok) zno kJ9_floorDiv_7cf53 (List.all_eq_true.mp kJ9_floorDiv_7cf53_ok) 0 _ _ _ _ _ ?_
    obtain ⟨h0, h⟩ := h
    unfold mFd at h
    refine Exists.intro h0 ?_
    refine And.intro (fun h1 => ?_) (fun h1 => ?_)
    · rw [if_pos h1] at h
      exact h
    · rw [if_neg h1] at h
      refine And.intro (fun h2 => ?_) (fun h2 => ?_)
      · rw [if_pos h2] at h
        exact h
      · rw [if_neg h2] at h
        exact h
  · exact h.elim

def kJ6_bitCount_0f7a4 : List zI := [
  (0, 1, .iload_n 0, [], 0),
  (1, 1, .iload_n 0, [], 0),
  (2, 1, .iconst 1, [], 1),
  (3, 1, .iushr, [], 0),
  (4, 3, .ldc_w 265, [], 1431655765),
  (7, 1, .iand, [], 0),
  (8, 1, .isub, [], 0),
  (9, 1, .istore_n 0, [], 0),
  (10, 1, .iload_n 0, [], 0),
  (11, 3, .ldc_w 266, [], 858993459),
  (14, 1, .iand, [], 0),
  (15, 1, .iload_n 0, [], 0),
  (16, 1, .iconst 2, [], 2),
  (17, 1, .iushr, [], 0),
  (18, 3, .ldc_w 266, [], 858993459),
  (21, 1, .iand, [], 0),
  (22, 1, .iadd, [], 0),
  (23, 1, .istore_n 0, [], 0),
  (24, 1, .iload_n 0, [], 0),
  (25, 1, .iload_n 0, [], 0),
  (26, 1, .iconst 4, [], 4),
  (27, 1, .iushr, [], 0),
  (28, 1, .iadd, [], 0),
  (29, 3, .ldc_w 267, [], 252645135),
  (32, 1, .iand, [], 0),
  (33, 1, .istore_n 0, [], 0),
  (34, 1, .iload_n 0, [], 0),
  (35, 1, .iload_n 0, [], 0),
  (36, 2, .bipush 8, [], 8),
  (38, 1, .iushr, [], 0),
  (39, 1, .iadd, [], 0),
  (40, 1, .istore_n 0, [], 0),
  (41, 1, .iload_n 0, [], 0),
  (42, 1, .iload_n 0, [], 0),
  (43, 2, .bipush 16, [], 16),
  (45, 1, .iushr, [], 0),
  (46, 1, .iadd, [], 0),
  (47, 1, .istore_n 0, [], 0),
  (48, 1, .iload_n 0, [], 0),
  (49, 2, .bipush 63, [], 63),
  (51, 1, .iand, [], 0),
  (52, 1, .ireturn, [], 0)]
theorem kJ6_bitCount_0f7a4_ok : kJ6_bitCount_0f7a4.all (zck cJ6_bitCount_0f7a4) = true := by decide +kernel

def rJ6_bitCount_0f7a4 : Room := { frames := 0, cells := 0, slots := 0, locals := 0 }
abbrev YJ6_bitCount_0f7a4 : zM := (RJ6, cJ6_bitCount_0f7a4, 1, some .int, rJ6_bitCount_0f7a4, UM, zlk ([] : List (Nat × Nat × Nat × Nat)), zcs [] [])
theorem YJ6_bitCount_0f7a4_ok : zYok (YJ6_bitCount_0f7a4) := zYok_of rfl znil znil

theorem mJ6_bitCount_0f7a4 : zMet (UM) yJ6_bitCount_0f7a4 cJ6_bitCount_0f7a4 1 (some .int) rJ6_bitCount_0f7a4 (sJ6_bitCount_0f7a4) := by
  refine zmet (Y := YJ6_bitCount_0f7a4) rfl (by decide +kernel) ?_
  intro av F ok ex h
  unfold sJ6_bitCount_0f7a4 at h
  split at h
  · rename_i x
    refine zgo_ok (YJ6_bitCount_0f7a4_ok) zno kJ6_bitCount_0f7a4 (List.all_eq_true.mp kJ6_bitCount_0f7a4_ok) 0 _ _ _ _ _ ?_
    obtain ⟨b, hb, h1, h⟩ := h
    subst h1
    refine Exists.intro (zmem_of (by decide +kernel)) ?_
    refine Exists.intro (zmem_of (by decide +kernel)) ?_
    refine Exists.intro (zmem_of (by decide +kernel)) ?_
    refine Exists.intro (zmem_of (by decide +kernel)) ?_
    rcases z8_or hb with rfl | rfl | rfl | rfl | rfl | rfl | rfl | rfl
    all_goals exact zleaf ok h (by decide +kernel) rfl
  · exact h.elim

def kX9_in : List zI := [
  (0, 1, .iload_n 0, [], 0),
  (1, 1, .iload_n 1, [], 0),
  (2, 3, .if_icmp .lt 12, [14], 0),
  (5, 1, .iload_n 0, [], 0),
  (6, 1, .iload_n 2, [], 0),
  (7, 3, .if_icmp .gt 7, [14], 0),
  (10, 1, .iconst 1, [], 1),
  (11, 3, .goto 4, [15], 0),
  (14, 1, .iconst 0, [], 0),
  (15, 1, .ireturn, [], 0)]
theorem kX9_in_ok : kX9_in.all (zck cX9_in) = true := by decide +kernel

def rX9_in : Room := { frames := 0, cells := 0, slots := 0, locals := 0 }
abbrev YX9_in : zM := (RX9, cX9_in, 3, some .boolean, rX9_in, UM, zlk fX9, zcs [] [])
theorem YX9_in_ok : zYok (YX9_in) := zYok_of fX9_ok znil znil

theorem mX9_in : zMet (UM) yX9_in cX9_in 3 (some .boolean) rX9_in (sX9_in) := by
  refine zmet (Y := YX9_in) rfl (by decide +kernel) ?_
  intro av F ok ex h
  unfold sX9_in at h
  split at h
  · rename_i x a b
    refine zgo_ok (YX9_in_ok) zno kX9_in (List.all_eq_true.mp kX9_in_ok) 0 _ _ _ _ _ ?_
    refine And.intro (fun h1 => Exists.intro (Or.inl rfl) (h.2 fun h0 => absurd h1 (Int32.not_lt.mpr h0.1))) (fun h1 => ?_)
    refine And.intro (fun h2 => Exists.intro (Or.inl rfl) (h.2 fun h0 => absurd h2 (Int32.not_lt.mpr h0.2))) (fun h2 => Exists.intro (Or.inr rfl) (h.1 ⟨Int32.not_lt.mp h1, Int32.not_lt.mp h2⟩))
  · exact h.elim

def kX9_raises : List zI := [
  (0, 1, .aload_n 0, [], 0),
  (1, 1, .iload_n 1, [], 0),
  (2, 3, .putfield 42, [], 0),
  (5, 1, .iconst 0, [], 0),
  (6, 1, .ireturn, [], 0)]
theorem kX9_raises_ok : kX9_raises.all (zck cX9_raises) = true := by decide +kernel

def rX9_raises : Room := { frames := 0, cells := 0, slots := 0, locals := 0 }
abbrev YX9_raises : zM := (RX9, cX9_raises, 2, some .int, rX9_raises, UM, zlk fX9, zcs [] [])
theorem YX9_raises_ok : zYok (YX9_raises) := zYok_of fX9_ok znil znil

theorem mX9_raises : zMet (UM) yX9_raises cX9_raises 2 (some .int) rX9_raises (sX9_raises) := by
  refine zmet (Y := YX9_raises) rfl (by decide +kernel) ?_
  intro av F ok ex h
  unfold sX9_raises at h
  split at h
  · rename_i c
    refine zgo_ok (YX9_raises_ok) zno kX9_raises (List.all_eq_true.mp kX9_raises_ok) 0 _ _ _ _ _ ?_
    exact h
  · exact h.elim

def kX9_refuses : List zI := [
  (0, 1, .aload_n 0, [], 0),
  (1, 1, .iload_n 1, [], 0),
  (2, 3, .putfield 45, [], 0),
  (5, 1, .aload_n 0, [], 0),
  (6, 1, .iload_n 2, [], 0),
  (7, 3, .invokevirtual 48, [], 0),
  (10, 1, .ireturn, [], 0)]
theorem kX9_refuses_ok : kX9_refuses.all (zck cX9_refuses) = true := by decide +kernel

def rX9_refuses : Room := { frames := 1, cells := 0, slots := 0, locals := 21 }
abbrev YX9_refuses : zM := (RX9, cX9_refuses, 3, some .int, rX9_refuses, UM, zlk fX9, zcs [(48, 2, 0, 0, zvs (UM) 9 (sX9_raises))] [])
theorem YX9_refuses_ok : zYok (YX9_refuses) := zYok_of fX9_ok (zall (zcal_mono (zcalV (Y := YX9_refuses) (y := yX9_raises) (cc := cX9_raises) (nL := 2) (ret := some .int) (rm := rX9_raises) (mX9_raises) 48 1 9 (T := TX9) rfl wX9_48 ⟨by decide +kernel, by decide +kernel, by decide +kernel⟩ (by decide) ⟨Nat.le_of_ble_eq_true rfl, Nat.le_of_ble_eq_true rfl⟩) (fun _ _ _ _ h => zvs_P h)) znil) znil

theorem mX9_refuses : zMet (UM) yX9_refuses cX9_refuses 3 (some .int) rX9_refuses (sX9_refuses) := by
  refine zmet (Y := YX9_refuses) rfl (by decide +kernel) ?_
  intro av F ok ex h
  unfold sX9_refuses at h
  split at h
  · rename_i r c
    refine zgo_ok (YX9_refuses_ok) zno kX9_refuses (List.all_eq_true.mp kX9_refuses_ok) 0 _ _ _ _ _ ?_
    exact h
  · exact h.elim

def kX9_isReach : List zI := [
  (0, 1, .iload_n 1, [], 0),
  (1, 1, .iconst 0, [], 0),
  (2, 1, .aload_n 0, [], 0),
  (3, 3, .getfield 9, [], 0),
  (6, 1, .iconst 1, [], 1),
  (7, 1, .iaload, [], 0),
  (8, 1, .iconst 1, [], 1),
  (9, 1, .isub, [], 0),
  (10, 3, .invokestatic 55, [], 0),
  (13, 1, .ireturn, [], 0)]
theorem kX9_isReach_ok : kX9_isReach.all (zck cX9_isReach) = true := by decide +kernel

def rX9_isReach : Room := { frames := 1, cells := 0, slots := 0, locals := 22 }
abbrev YX9_isReach : zM := (RX9, cX9_isReach, 2, some .boolean, rX9_isReach, UM, zlk fX9, zcs [] [(55, 3, 0, 0, sX9_in)])
theorem YX9_isReach_ok : zYok (YX9_isReach) := zYok_of fX9_ok znil (zall (zcalS (Y := YX9_isReach) (y := yX9_in) (cc := cX9_in) (nL := 3) (ret := some .boolean) (rm := rX9_in) (mX9_in) 55 3 wX9_55 ⟨by decide +kernel, by decide +kernel, by decide +kernel⟩ (by decide) ⟨Nat.le_of_ble_eq_true rfl, Nat.le_of_ble_eq_true rfl⟩) znil)

theorem mX9_isReach : zMet (UM) yX9_isReach cX9_isReach 2 (some .boolean) rX9_isReach (sX9_isReach) := by
  refine zmet (Y := YX9_isReach) rfl (by decide +kernel) ?_
  intro av F ok ex h
  unfold sX9_isReach at h
  split at h
  · rename_i r
    refine zgo_ok (YX9_isReach_ok) zno kX9_isReach (List.all_eq_true.mp kX9_isReach_ok) 0 _ _ _ _ _ ?_
    refine Exists.intro (zix (k := 1) rfl (by decide) (by decide)) ?_
    exact And.intro (fun h1 => Exists.intro (Or.inr rfl) (h.1 h1)) (fun h1 => Exists.intro (Or.inl rfl) (h.2 h1))
  · exact h.elim

def kX9_isLock : List zI := [
  (0, 1, .iload_n 1, [], 0),
  (1, 1, .iconst 0, [], 0),
  (2, 1, .aload_n 0, [], 0),
  (3, 3, .getfield 9, [], 0),
  (6, 1, .iconst 1, [], 1),
  (7, 1, .iaload, [], 0),
  (8, 1, .iconst 2, [], 2),
  (9, 1, .isub, [], 0),
  (10, 3, .invokestatic 55, [], 0),
  (13, 1, .ireturn, [], 0)]
theorem kX9_isLock_ok : kX9_isLock.all (zck cX9_isLock) = true := by decide +kernel

def rX9_isLock : Room := { frames := 1, cells := 0, slots := 0, locals := 22 }
abbrev YX9_isLock : zM := (RX9, cX9_isLock, 2, some .boolean, rX9_isLock, UM, zlk fX9, zcs [] [(55, 3, 0, 0, sX9_in)])
theorem YX9_isLock_ok : zYok (YX9_isLock) := zYok_of fX9_ok znil (zall (zcalS (Y := YX9_isLock) (y := yX9_in) (cc := cX9_in) (nL := 3) (ret := some .boolean) (rm := rX9_in) (mX9_in) 55 3 wX9_55 ⟨by decide +kernel, by decide +kernel, by decide +kernel⟩ (by decide) ⟨Nat.le_of_ble_eq_true rfl, Nat.le_of_ble_eq_true rfl⟩) znil)

theorem mX9_isLock : zMet (UM) yX9_isLock cX9_isLock 2 (some .boolean) rX9_isLock (sX9_isLock) := by
  refine zmet (Y := YX9_isLock) rfl (by decide +kernel) ?_
  intro av F ok ex h
  unfold sX9_isLock at h
  split at h
  · rename_i r
    refine zgo_ok (YX9_isLock_ok) zno kX9_isLock (List.all_eq_true.mp kX9_isLock_ok) 0 _ _ _ _ _ ?_
    refine Exists.intro (zix (k := 1) rfl (by decide) (by decide)) ?_
    exact And.intro (fun h1 => Exists.intro (Or.inr rfl) (h.1 h1)) (fun h1 => Exists.intro (Or.inl rfl) (h.2 h1))
  · exact h.elim

def kX9_isShip : List zI := [
  (0, 1, .iload_n 1, [], 0),
  (1, 1, .iconst 0, [], 0),
  (2, 1, .aload_n 0, [], 0),
  (3, 3, .getfield 9, [], 0),
  (6, 1, .iconst 2, [], 2),
  (7, 1, .iaload, [], 0),
  (8, 1, .iconst 1, [], 1),
  (9, 1, .isub, [], 0),
  (10, 3, .invokestatic 55, [], 0),
  (13, 1, .ireturn, [], 0)]
theorem kX9_isShip_ok : kX9_isShip.all (zck cX9_isShip) = true := by decide +kernel

def rX9_isShip : Room := { frames := 1, cells := 0, slots := 0, locals := 22 }
abbrev YX9_isShip : zM := (RX9, cX9_isShip, 2, some .boolean, rX9_isShip, UM, zlk fX9, zcs [] [(55, 3, 0, 0, sX9_in)])
theorem YX9_isShip_ok : zYok (YX9_isShip) := zYok_of fX9_ok znil (zall (zcalS (Y := YX9_isShip) (y := yX9_in) (cc := cX9_in) (nL := 3) (ret := some .boolean) (rm := rX9_in) (mX9_in) 55 3 wX9_55 ⟨by decide +kernel, by decide +kernel, by decide +kernel⟩ (by decide) ⟨Nat.le_of_ble_eq_true rfl, Nat.le_of_ble_eq_true rfl⟩) znil)

theorem mX9_isShip : zMet (UM) yX9_isShip cX9_isShip 2 (some .boolean) rX9_isShip (sX9_isShip) := by
  refine zmet (Y := YX9_isShip) rfl (by decide +kernel) ?_
  intro av F ok ex h
  unfold sX9_isShip at h
  split at h
  · rename_i r
    refine zgo_ok (YX9_isShip_ok) zno kX9_isShip (List.all_eq_true.mp kX9_isShip_ok) 0 _ _ _ _ _ ?_
    refine Exists.intro (zix (k := 2) rfl (by decide) (by decide)) ?_
    exact And.intro (fun h1 => Exists.intro (Or.inr rfl) (h.1 h1)) (fun h1 => Exists.intro (Or.inl rfl) (h.2 h1))
  · exact h.elim

def kX9_thrown : List zI := [
  (0, 1, .aload_n 0, [], 0),
  (1, 3, .getfield 42, [], 0),
  (4, 1, .ireturn, [], 0)]
theorem kX9_thrown_ok : kX9_thrown.all (zck cX9_thrown) = true := by decide +kernel

def rX9_thrown : Room := { frames := 0, cells := 0, slots := 0, locals := 0 }
abbrev YX9_thrown : zM := (RX9, cX9_thrown, 1, some .int, rX9_thrown, UM, zlk fX9, zcs [] [])
theorem YX9_thrown_ok : zYok (YX9_thrown) := zYok_of fX9_ok znil znil

theorem mX9_thrown : zMet (UM) yX9_thrown cX9_thrown 1 (some .int) rX9_thrown (sX9_thrown) := by
  refine zmet (Y := YX9_thrown) rfl (by decide +kernel) ?_
  intro av F ok ex h
  unfold sX9_thrown at h
  split at h
  · refine zgo_ok (YX9_thrown_ok) zno kX9_thrown (List.all_eq_true.mp kX9_thrown_ok) 0 _ _ _ _ _ ?_
    exact h
  · exact h.elim

def kX9_tick : List zI := [
  (0, 1, .aload_n 0, [], 0),
  (1, 1, .iconst 0, [], 0),
  (2, 3, .putfield 42, [], 0),
  (5, 1, .aload_n 0, [], 0),
  (6, 3, .getfield 9, [], 0),
  (9, 1, .iconst 0, [], 0),
  (10, 1, .iaload, [], 0),
  (11, 1, .ireturn, [], 0)]
theorem kX9_tick_ok : kX9_tick.all (zck cX9_tick) = true := by decide +kernel

def rX9_tick : Room := { frames := 0, cells := 0, slots := 0, locals := 0 }
abbrev YX9_tick : zM := (RX9, cX9_tick, 1, some .int, rX9_tick, UM, zlk fX9, zcs [] [])
theorem YX9_tick_ok : zYok (YX9_tick) := zYok_of fX9_ok znil znil

theorem mX9_tick : zMet (UM) yX9_tick cX9_tick 1 (some .int) rX9_tick (sX9_tick) := by
  refine zmet (Y := YX9_tick) rfl (by decide +kernel) ?_
  intro av F ok ex h
  unfold sX9_tick at h
  split at h
  · refine zgo_ok (YX9_tick_ok) zno kX9_tick (List.all_eq_true.mp kX9_tick_ok) 0 _ _ _ _ _ ?_
    exact Exists.intro (zix (k := 0) rfl (by decide) (by decide)) h
  · exact h.elim

def kX9_faultPosition : List zI := [
  (0, 1, .aload_n 0, [], 0),
  (1, 1, .iconst 0, [], 0),
  (2, 3, .putfield 42, [], 0),
  (5, 1, .aload_n 0, [], 0),
  (6, 3, .getfield 25, [], 0),
  (9, 1, .ireturn, [], 0)]
theorem kX9_faultPosition_ok : kX9_faultPosition.all (zck cX9_faultPosition) = true := by decide +kernel

def rX9_faultPosition : Room := { frames := 0, cells := 0, slots := 0, locals := 0 }
abbrev YX9_faultPosition : zM := (RX9, cX9_faultPosition, 1, some .int, rX9_faultPosition, UM, zlk fX9, zcs [] [])
theorem YX9_faultPosition_ok : zYok (YX9_faultPosition) := zYok_of fX9_ok znil znil

theorem mX9_faultPosition : zMet (UM) yX9_faultPosition cX9_faultPosition 1 (some .int) rX9_faultPosition (sX9_faultPosition) := by
  refine zmet (Y := YX9_faultPosition) rfl (by decide +kernel) ?_
  intro av F ok ex h
  unfold sX9_faultPosition at h
  split at h
  · refine zgo_ok (YX9_faultPosition_ok) zno kX9_faultPosition (List.all_eq_true.mp kX9_faultPosition_ok) 0 _ _ _ _ _ ?_
    exact h
  · exact h.elim

def kX9_refusal : List zI := [
  (0, 1, .aload_n 0, [], 0),
  (1, 1, .iconst 0, [], 0),
  (2, 3, .putfield 42, [], 0),
  (5, 1, .aload_n 0, [], 0),
  (6, 3, .getfield 45, [], 0),
  (9, 3, .ifCond .ne 11, [20], 0),
  (12, 1, .aload_n 0, [], 0),
  (13, 1, .iconst 1, [], 1),
  (14, 3, .invokevirtual 48, [], 0),
  (17, 3, .goto 7, [24], 0),
  (20, 1, .aload_n 0, [], 0),
  (21, 3, .getfield 45, [], 0),
  (24, 1, .ireturn, [], 0)]
theorem kX9_refusal_ok : kX9_refusal.all (zck cX9_refusal) = true := by decide +kernel

def rX9_refusal : Room := { frames := 1, cells := 0, slots := 0, locals := 21 }
abbrev YX9_refusal : zM := (RX9, cX9_refusal, 1, some .int, rX9_refusal, UM, zlk fX9, zcs [(48, 2, 0, 0, zvs (UM) 9 (sX9_raises))] [])
theorem YX9_refusal_ok : zYok (YX9_refusal) := zYok_of fX9_ok (zall (zcal_mono (zcalV (Y := YX9_refusal) (y := yX9_raises) (cc := cX9_raises) (nL := 2) (ret := some .int) (rm := rX9_raises) (mX9_raises) 48 1 9 (T := TX9) rfl wX9_48 ⟨by decide +kernel, by decide +kernel, by decide +kernel⟩ (by decide) ⟨Nat.le_of_ble_eq_true rfl, Nat.le_of_ble_eq_true rfl⟩) (fun _ _ _ _ h => zvs_P h)) znil) znil

theorem mX9_refusal : zMet (UM) yX9_refusal cX9_refusal 1 (some .int) rX9_refusal (sX9_refusal) := by
  refine zmet (Y := YX9_refusal) rfl (by decide +kernel) ?_
  intro av F ok ex h
  unfold sX9_refusal at h
  split at h
  · refine zgo_ok (YX9_refusal_ok) zno kX9_refusal (List.all_eq_true.mp kX9_refusal_ok) 0 _ _ _ _ _ ?_
    refine And.intro (fun h1 => ?_) (fun h1 => ?_)
    · have h1 : ¬ F 0 11 = 0 := h1
      rw [if_neg h1] at h
      exact h
    · have h1 : F 0 11 = 0 := h1
      rw [if_pos h1, h1] at h
      refine zleaf ok h rfl ?_
      show zup F 0 0 1 = zup (zup F 0 0 0) 0 0 1
      rw [zup_zup]
  · exact h.elim

def kX9_water : List zI := [
  (0, 1, .aload_n 0, [], 0),
  (1, 3, .getfield 9, [], 0),
  (4, 2, .bipush 10, [], 10),
  (6, 1, .iconst 3, [], 3),
  (7, 1, .iload_n 1, [], 0),
  (8, 1, .imul, [], 0),
  (9, 1, .iadd, [], 0),
  (10, 1, .iconst 2, [], 2),
  (11, 1, .iadd, [], 0),
  (12, 1, .iaload, [], 0),
  (13, 1, .ireturn, [], 0)]
theorem kX9_water_ok : kX9_water.all (zck cX9_water) = true := by decide +kernel

def rX9_water : Room := { frames := 0, cells := 0, slots := 0, locals := 0 }
abbrev YX9_water : zM := (RX9, cX9_water, 2, some .int, rX9_water, UM, zlk fX9, zcs [] [])
theorem YX9_water_ok : zYok (YX9_water) := zYok_of fX9_ok znil znil

theorem mX9_water : zMet (UM) yX9_water cX9_water 2 (some .int) rX9_water (sX9_water) := by
  refine zmet (Y := YX9_water) rfl (by decide +kernel) ?_
  intro av F ok ex h
  unfold sX9_water at h
  split at h
  · rename_i x
    refine zgo_ok (YX9_water_ok) zno kX9_water (List.all_eq_true.mp kX9_water_ok) 0 _ _ _ _ _ ?_
    obtain ⟨r, rfl, hr, h⟩ := h
    refine Exists.intro (zix (ix_re2 r) (by omega) (by decide)) ?_
    show ok (some (.int (F 1 (10 + 3 * nI r + 2).toNatClampNeg))) F
    rw [zicl (ix_re2 r) (by omega)]
    exact h
  · exact h.elim

def kX9_level : List zI := [
  (0, 1, .aload_n 0, [], 0),
  (1, 1, .iload_n 1, [], 0),
  (2, 3, .invokevirtual 62, [], 0),
  (5, 1, .aload_n 0, [], 0),
  (6, 3, .getfield 9, [], 0),
  (9, 2, .bipush 10, [], 10),
  (11, 1, .iconst 3, [], 3),
  (12, 1, .iload_n 1, [], 0),
  (13, 1, .imul, [], 0),
  (14, 1, .iadd, [], 0),
  (15, 1, .iaload, [], 0),
  (16, 1, .idiv, [], 0),
  (17, 1, .ireturn, [], 0)]
theorem kX9_level_ok : kX9_level.all (zck cX9_level) = true := by decide +kernel

def rX9_level : Room := { frames := 1, cells := 0, slots := 0, locals := 21 }
abbrev YX9_level : zM := (RX9, cX9_level, 2, some .int, rX9_level, UM, zlk fX9, zcs [(62, 2, 0, 0, zvs (UM) 9 (sX9_water))] [])
theorem YX9_level_ok : zYok (YX9_level) := zYok_of fX9_ok (zall (zcal_mono (zcalV (Y := YX9_level) (y := yX9_water) (cc := cX9_water) (nL := 2) (ret := some .int) (rm := rX9_water) (mX9_water) 62 1 9 (T := TX9) rfl wX9_62 ⟨by decide +kernel, by decide +kernel, by decide +kernel⟩ (by decide) ⟨Nat.le_of_ble_eq_true rfl, Nat.le_of_ble_eq_true rfl⟩) (fun _ _ _ _ h => zvs_P h)) znil) znil

theorem mX9_level : zMet (UM) yX9_level cX9_level 2 (some .int) rX9_level (sX9_level) := by
  refine zmet (Y := YX9_level) rfl (by decide +kernel) ?_
  intro av F ok ex h
  unfold sX9_level at h
  split at h
  · rename_i x
    refine zgo_ok (YX9_level_ok) zno kX9_level (List.all_eq_true.mp kX9_level_ok) 0 _ _ _ _ _ ?_
    obtain ⟨r, rfl, hr, h0, h⟩ := h
    refine ⟨r, rfl, hr, ?_⟩
    refine Exists.intro (zix (ix_re r) (by omega) (by decide)) ?_
    refine Exists.intro ?_ ?_
    · show ¬ F 1 (10 + 3 * nI r).toNatClampNeg = 0
      rw [zicl (ix_re r) (by omega)]
      exact h0
    · show ok (some (.int (mWa F r / F 1 (10 + 3 * nI r).toNatClampNeg))) F
      rw [zicl (ix_re r) (by omega)]
      exact h
  · exact h.elim

def kX9_dryness : List zI := [
  (0, 1, .aload_n 0, [], 0),
  (1, 3, .getfield 9, [], 0),
  (4, 2, .bipush 10, [], 10),
  (6, 1, .iconst 3, [], 3),
  (7, 1, .iload_n 1, [], 0),
  (8, 1, .imul, [], 0),
  (9, 1, .iadd, [], 0),
  (10, 1, .iconst 1, [], 1),
  (11, 1, .iadd, [], 0),
  (12, 1, .iaload, [], 0),
  (13, 1, .aload_n 0, [], 0),
  (14, 1, .iload_n 1, [], 0),
  (15, 3, .invokevirtual 65, [], 0),
  (18, 1, .isub, [], 0),
  (19, 1, .istore_n 2, [], 0),
  (20, 1, .iload_n 2, [], 0),
  (21, 1, .iconst 2, [], 2),
  (22, 3, .if_icmp .gt 7, [29], 0),
  (25, 1, .iconst 0, [], 0),
  (26, 3, .goto 14, [40], 0),
  (29, 1, .iload_n 2, [], 0),
  (30, 2, .bipush 6, [], 6),
  (32, 3, .if_icmp .gt 7, [39], 0),
  (35, 1, .iconst 1, [], 1),
  (36, 3, .goto 4, [40], 0),
  (39, 1, .iconst 2, [], 2),
  (40, 1, .ireturn, [], 0)]
theorem kX9_dryness_ok : kX9_dryness.all (zck cX9_dryness) = true := by decide +kernel

def rX9_dryness : Room := { frames := 2, cells := 0, slots := 0, locals := 42 }
abbrev YX9_dryness : zM := (RX9, cX9_dryness, 3, some .int, rX9_dryness, UM, zlk fX9, zcs [(65, 2, 0, 0, zvs (UM) 9 (sX9_level))] [])
theorem YX9_dryness_ok : zYok (YX9_dryness) := zYok_of fX9_ok (zall (zcal_mono (zcalV (Y := YX9_dryness) (y := yX9_level) (cc := cX9_level) (nL := 2) (ret := some .int) (rm := rX9_level) (mX9_level) 65 1 9 (T := TX9) rfl wX9_65 ⟨by decide +kernel, by decide +kernel, by decide +kernel⟩ (by decide) ⟨Nat.le_of_ble_eq_true rfl, Nat.le_of_ble_eq_true rfl⟩) (fun _ _ _ _ h => zvs_P h)) znil) znil

theorem mX9_dryness : zMet (UM) yX9_dryness cX9_dryness 3 (some .int) rX9_dryness (sX9_dryness) := by
  refine zmet (Y := YX9_dryness) rfl (by decide +kernel) ?_
  intro av F ok ex h
  unfold sX9_dryness at h
  split at h
  · rename_i x
    refine zgo_ok (YX9_dryness_ok) zno kX9_dryness (List.all_eq_true.mp kX9_dryness_ok) 0 _ _ _ _ _ ?_
    obtain ⟨r, rfl, hr, h0, h⟩ := h
    refine Exists.intro (zix (ix_re1 r) (by omega) (by decide)) ?_
    refine ⟨r, rfl, hr, h0, ?_⟩
    have h5 : (10 + 3 * nI r + 1).toNatClampNeg = 10 + 3 * r + 1 := zicl (ix_re1 r) (by omega)
    unfold mDry at h
    rw [← h5] at h
    refine And.intro (fun h1 => ?_) (fun h1 => ?_)
    · rw [if_neg (Int32.not_le.mpr h1)] at h
      refine And.intro (fun h2 => ?_) (fun h2 => ?_)
      · rw [if_neg (Int32.not_le.mpr h2)] at h
        exact h
      · rw [if_pos (Int32.not_lt.mp h2)] at h
        exact h
    · rw [if_pos (Int32.not_lt.mp h1)] at h
      exact h
  · exact h.elim

def kX9_lockPart : List zI := [
  (0, 1, .aload_n 0, [], 0),
  (1, 3, .getfield 9, [], 0),
  (4, 2, .bipush 25, [], 25),
  (6, 2, .bipush 7, [], 7),
  (8, 1, .iload_n 1, [], 0),
  (9, 1, .imul, [], 0),
  (10, 1, .iadd, [], 0),
  (11, 1, .iload_n 2, [], 0),
  (12, 1, .iadd, [], 0),
  (13, 1, .iaload, [], 0),
  (14, 1, .ireturn, [], 0)]
theorem kX9_lockPart_ok : kX9_lockPart.all (zck cX9_lockPart) = true := by decide +kernel

def rX9_lockPart : Room := { frames := 0, cells := 0, slots := 0, locals := 0 }
abbrev YX9_lockPart : zM := (RX9, cX9_lockPart, 3, some .int, rX9_lockPart, UM, zlk fX9, zcs [] [])
theorem YX9_lockPart_ok : zYok (YX9_lockPart) := zYok_of fX9_ok znil znil

theorem mX9_lockPart : zMet (UM) yX9_lockPart cX9_lockPart 3 (some .int) rX9_lockPart (sX9_lockPart) := by
  refine zmet (Y := YX9_lockPart) rfl (by decide +kernel) ?_
  intro av F ok ex h
  unfold sX9_lockPart at h
  split at h
  · rename_i x y
    refine zgo_ok (YX9_lockPart_ok) zno kX9_lockPart (List.all_eq_true.mp kX9_lockPart_ok) 0 _ _ _ _ _ ?_
    obtain ⟨k, w, rfl, rfl, hk, hw, h⟩ := h
    refine Exists.intro (zix (ix_lp k w) (by omega) (by decide)) ?_
    show ok (some (.int (F 1 (25 + 7 * nI k + nI w).toNatClampNeg))) F
    rw [zicl (ix_lp k w) (by omega)]
    exact h
  · exact h.elim

def kX9_quarter : List zI := [
  (0, 1, .aload_n 0, [], 0),
  (1, 1, .iload_n 1, [], 0),
  (2, 1, .iconst 1, [], 1),
  (3, 3, .invokevirtual 79, [], 0),
  (6, 1, .iconst 4, [], 4),
  (7, 1, .idiv, [], 0),
  (8, 1, .ireturn, [], 0)]
theorem kX9_quarter_ok : kX9_quarter.all (zck cX9_quarter) = true := by decide +kernel

def rX9_quarter : Room := { frames := 1, cells := 0, slots := 0, locals := 22 }
abbrev YX9_quarter : zM := (RX9, cX9_quarter, 2, some .int, rX9_quarter, UM, zlk fX9, zcs [(79, 3, 0, 0, zvs (UM) 9 (sX9_lockPart))] [])
theorem YX9_quarter_ok : zYok (YX9_quarter) := zYok_of fX9_ok (zall (zcal_mono (zcalV (Y := YX9_quarter) (y := yX9_lockPart) (cc := cX9_lockPart) (nL := 3) (ret := some .int) (rm := rX9_lockPart) (mX9_lockPart) 79 2 9 (T := TX9) rfl wX9_79 ⟨by decide +kernel, by decide +kernel, by decide +kernel⟩ (by decide) ⟨Nat.le_of_ble_eq_true rfl, Nat.le_of_ble_eq_true rfl⟩) (fun _ _ _ _ h => zvs_P h)) znil) znil

theorem mX9_quarter : zMet (UM) yX9_quarter cX9_quarter 2 (some .int) rX9_quarter (sX9_quarter) := by
  refine zmet (Y := YX9_quarter) rfl (by decide +kernel) ?_
  intro av F ok ex h
  unfold sX9_quarter at h
  split at h
  · rename_i x
    refine zgo_ok (YX9_quarter_ok) zno kX9_quarter (List.all_eq_true.mp kX9_quarter_ok) 0 _ _ _ _ _ ?_
    obtain ⟨k, rfl, hk, h⟩ := h
    refine ⟨k, 1, rfl, rfl, hk, by decide, ?_⟩
    exact Exists.intro (by decide) h
  · exact h.elim

def kX9_lacks : List zI := [
  (0, 1, .aload_n 0, [], 0),
  (1, 1, .iload_n 1, [], 0),
  (2, 1, .iconst 1, [], 1),
  (3, 3, .invokevirtual 79, [], 0),
  (6, 1, .aload_n 0, [], 0),
  (7, 1, .iload_n 1, [], 0),
  (8, 3, .invokevirtual 82, [], 0),
  (11, 1, .iload_n 2, [], 0),
  (12, 1, .imul, [], 0),
  (13, 1, .isub, [], 0),
  (14, 1, .ireturn, [], 0)]
theorem kX9_lacks_ok : kX9_lacks.all (zck cX9_lacks) = true := by decide +kernel

def rX9_lacks : Room := { frames := 2, cells := 0, slots := 0, locals := 43 }
abbrev YX9_lacks : zM := (RX9, cX9_lacks, 3, some .int, rX9_lacks, UM, zlk fX9, zcs [(79, 3, 0, 0, zvs (UM) 9 (sX9_lockPart)), (82, 2, 0, 0, zvs (UM) 9 (sX9_quarter))] [])
theorem YX9_lacks_ok : zYok (YX9_lacks) := zYok_of fX9_ok (zall (zcal_mono (zcalV (Y := YX9_lacks) (y := yX9_lockPart) (cc := cX9_lockPart) (nL := 3) (ret := some .int) (rm := rX9_lockPart) (mX9_lockPart) 79 2 9 (T := TX9) rfl wX9_79 ⟨by decide +kernel, by decide +kernel, by decide +kernel⟩ (by decide) ⟨Nat.le_of_ble_eq_true rfl, Nat.le_of_ble_eq_true rfl⟩) (fun _ _ _ _ h => zvs_P h)) (zall (zcal_mono (zcalV (Y := YX9_lacks) (y := yX9_quarter) (cc := cX9_quarter) (nL := 2) (ret := some .int) (rm := rX9_quarter) (mX9_quarter) 82 1 9 (T := TX9) rfl wX9_82 ⟨by decide +kernel, by decide +kernel, by decide +kernel⟩ (by decide) ⟨Nat.le_of_ble_eq_true rfl, Nat.le_of_ble_eq_true rfl⟩) (fun _ _ _ _ h => zvs_P h)) znil)) znil

theorem mX9_lacks : zMet (UM) yX9_lacks cX9_lacks 3 (some .int) rX9_lacks (sX9_lacks) := by
  refine zmet (Y := YX9_lacks) rfl (by decide +kernel) ?_
  intro av F ok ex h
  unfold sX9_lacks at h
  split at h
  · rename_i x b
    refine zgo_ok (YX9_lacks_ok) zno kX9_lacks (List.all_eq_true.mp kX9_lacks_ok) 0 _ _ _ _ _ ?_
    obtain ⟨k, rfl, hk, h⟩ := h
    refine ⟨k, 1, rfl, rfl, hk, by decide, ?_⟩
    refine ⟨k, rfl, hk, ?_⟩
    exact h
  · exact h.elim

def kX9_of : List zI := [
  (0, 1, .aload_n 0, [], 0),
  (1, 3, .getfield 9, [], 0),
  (4, 2, .bipush 53, [], 53),
  (6, 2, .bipush 9, [], 9),
  (8, 1, .iload_n 1, [], 0),
  (9, 1, .imul, [], 0),
  (10, 1, .iadd, [], 0),
  (11, 1, .iload_n 2, [], 0),
  (12, 1, .iadd, [], 0),
  (13, 1, .iaload, [], 0),
  (14, 1, .ireturn, [], 0)]
theorem kX9_of_ok : kX9_of.all (zck cX9_of) = true := by decide +kernel

def rX9_of : Room := { frames := 0, cells := 0, slots := 0, locals := 0 }
abbrev YX9_of : zM := (RX9, cX9_of, 3, some .int, rX9_of, UM, zlk fX9, zcs [] [])
theorem YX9_of_ok : zYok (YX9_of) := zYok_of fX9_ok znil znil

theorem mX9_of : zMet (UM) yX9_of cX9_of 3 (some .int) rX9_of (sX9_of) := by
  refine zmet (Y := YX9_of) rfl (by decide +kernel) ?_
  intro av F ok ex h
  unfold sX9_of at h
  split at h
  · rename_i x y
    refine zgo_ok (YX9_of_ok) zno kX9_of (List.all_eq_true.mp kX9_of_ok) 0 _ _ _ _ _ ?_
    obtain ⟨k, w, rfl, rfl, hk, hw, h⟩ := h
    refine Exists.intro (zix (ix_of k w) (by omega) (by decide)) ?_
    show ok (some (.int (F 1 (53 + 9 * nI k + nI w).toNatClampNeg))) F
    rw [zicl (ix_of k w) (by omega)]
    exact h
  · exact h.elim

def kX9_puts : List zI := [
  (0, 1, .aload_n 0, [], 0),
  (1, 3, .getfield 9, [], 0),
  (4, 2, .bipush 53, [], 53),
  (6, 2, .bipush 9, [], 9),
  (8, 1, .iload_n 1, [], 0),
  (9, 1, .imul, [], 0),
  (10, 1, .iadd, [], 0),
  (11, 1, .iload_n 2, [], 0),
  (12, 1, .iadd, [], 0),
  (13, 1, .iload_n 3, [], 0),
  (14, 1, .iastore, [], 0),
  (15, 1, .return_, [], 0)]
theorem kX9_puts_ok : kX9_puts.all (zck cX9_puts) = true := by decide +kernel

def rX9_puts : Room := { frames := 0, cells := 0, slots := 0, locals := 0 }
abbrev YX9_puts : zM := (RX9, cX9_puts, 4, none, rX9_puts, UM, zlk fX9, zcs [] [])
theorem YX9_puts_ok : zYok (YX9_puts) := zYok_of fX9_ok znil znil

theorem mX9_puts : zMet (UM) yX9_puts cX9_puts 4 (none) rX9_puts (sX9_puts) := by
  refine zmet (Y := YX9_puts) rfl (by decide +kernel) ?_
  intro av F ok ex h
  unfold sX9_puts at h
  split at h
  · rename_i x y v
    refine zgo_ok (YX9_puts_ok) zno kX9_puts (List.all_eq_true.mp kX9_puts_ok) 0 _ _ _ _ _ ?_
    obtain ⟨k, w, rfl, rfl, hk, hw, h⟩ := h
    refine Exists.intro (zix (ix_of k w) (by omega) (by decide)) ?_
    show ok none (zup F 1 (53 + 9 * nI k + nI w).toNatClampNeg v)
    rw [zicl (ix_of k w) (by omega)]
    exact h
  · exact h.elim

def kX9_lockOf : List zI := [
  (0, 1, .aload_n 0, [], 0),
  (1, 1, .iload_n 1, [], 0),
  (2, 1, .iconst 4, [], 4),
  (3, 3, .invokevirtual 75, [], 0),
  (6, 3, .ifCond .ge 7, [13], 0),
  (9, 1, .iconst (-1), [], (-1)),
  (10, 3, .goto 30, [40], 0),
  (13, 1, .aload_n 0, [], 0),
  (14, 1, .iload_n 1, [], 0),
  (15, 1, .iconst 3, [], 3),
  (16, 3, .invokevirtual 75, [], 0),
  (19, 1, .iconst 1, [], 1),
  (20, 3, .if_icmp .ne 14, [34], 0),
  (23, 1, .aload_n 0, [], 0),
  (24, 1, .iload_n 1, [], 0),
  (25, 1, .iconst 4, [], 4),
  (26, 3, .invokevirtual 75, [], 0),
  (29, 1, .iconst 1, [], 1),
  (30, 1, .isub, [], 0),
  (31, 3, .goto 9, [40], 0),
  (34, 1, .aload_n 0, [], 0),
  (35, 1, .iload_n 1, [], 0),
  (36, 1, .iconst 4, [], 4),
  (37, 3, .invokevirtual 75, [], 0),
  (40, 1, .ireturn, [], 0)]
theorem kX9_lockOf_ok : kX9_lockOf.all (zck cX9_lockOf) = true := by decide +kernel

def rX9_lockOf : Room := { frames := 1, cells := 0, slots := 0, locals := 22 }
abbrev YX9_lockOf : zM := (RX9, cX9_lockOf, 2, some .int, rX9_lockOf, UM, zlk fX9, zcs [(75, 3, 0, 0, zvs (UM) 9 (sX9_of))] [])
theorem YX9_lockOf_ok : zYok (YX9_lockOf) := zYok_of fX9_ok (zall (zcal_mono (zcalV (Y := YX9_lockOf) (y := yX9_of) (cc := cX9_of) (nL := 3) (ret := some .int) (rm := rX9_of) (mX9_of) 75 2 9 (T := TX9) rfl wX9_75 ⟨by decide +kernel, by decide +kernel, by decide +kernel⟩ (by decide) ⟨Nat.le_of_ble_eq_true rfl, Nat.le_of_ble_eq_true rfl⟩) (fun _ _ _ _ h => zvs_P h)) znil) znil

theorem mX9_lockOf : zMet (UM) yX9_lockOf cX9_lockOf 2 (some .int) rX9_lockOf (sX9_lockOf) := by
  refine zmet (Y := YX9_lockOf) rfl (by decide +kernel) ?_
  intro av F ok ex h
  unfold sX9_lockOf at h
  split at h
  · rename_i x
    refine zgo_ok (YX9_lockOf_ok) zno kX9_lockOf (List.all_eq_true.mp kX9_lockOf_ok) 0 _ _ _ _ _ ?_
    obtain ⟨k, rfl, hk, h⟩ := h
    unfold mLk at h
    refine ⟨k, 4, rfl, rfl, hk, by decide, ?_⟩
    refine And.intro (fun h1 => ?_) (fun h1 => ?_)
    · rw [if_neg (Int32.not_lt.mpr h1)] at h
      refine ⟨k, 3, rfl, rfl, hk, by decide, ?_⟩
      refine And.intro (fun h2 => ?_) (fun h2 => ?_)
      · rw [if_neg h2] at h
        refine ⟨k, 4, rfl, rfl, hk, by decide, ?_⟩
        exact h
      · rw [if_pos h2] at h
        refine ⟨k, 4, rfl, rfl, hk, by decide, ?_⟩
        exact h
    · rw [if_pos (Int32.not_le.mp h1)] at h
      exact h
  · exact h.elim

def kX9_waited : List zI := [
  (0, 1, .aload_n 0, [], 0),
  (1, 1, .iload_n 1, [], 0),
  (2, 1, .iconst 4, [], 4),
  (3, 3, .invokevirtual 75, [], 0),
  (6, 3, .ifCond .ge 7, [13], 0),
  (9, 1, .iconst 0, [], 0),
  (10, 3, .goto 16, [26], 0),
  (13, 1, .aload_n 0, [], 0),
  (14, 3, .getfield 9, [], 0),
  (17, 1, .iconst 0, [], 0),
  (18, 1, .iaload, [], 0),
  (19, 1, .aload_n 0, [], 0),
  (20, 1, .iload_n 1, [], 0),
  (21, 1, .iconst 5, [], 5),
  (22, 3, .invokevirtual 75, [], 0),
  (25, 1, .isub, [], 0),
  (26, 1, .ireturn, [], 0)]
theorem kX9_waited_ok : kX9_waited.all (zck cX9_waited) = true := by decide +kernel

def rX9_waited : Room := { frames := 1, cells := 0, slots := 0, locals := 22 }
abbrev YX9_waited : zM := (RX9, cX9_waited, 2, some .int, rX9_waited, UM, zlk fX9, zcs [(75, 3, 0, 0, zvs (UM) 9 (sX9_of))] [])
theorem YX9_waited_ok : zYok (YX9_waited) := zYok_of fX9_ok (zall (zcal_mono (zcalV (Y := YX9_waited) (y := yX9_of) (cc := cX9_of) (nL := 3) (ret := some .int) (rm := rX9_of) (mX9_of) 75 2 9 (T := TX9) rfl wX9_75 ⟨by decide +kernel, by decide +kernel, by decide +kernel⟩ (by decide) ⟨Nat.le_of_ble_eq_true rfl, Nat.le_of_ble_eq_true rfl⟩) (fun _ _ _ _ h => zvs_P h)) znil) znil

theorem mX9_waited : zMet (UM) yX9_waited cX9_waited 2 (some .int) rX9_waited (sX9_waited) := by
  refine zmet (Y := YX9_waited) rfl (by decide +kernel) ?_
  intro av F ok ex h
  unfold sX9_waited at h
  split at h
  · rename_i x
    refine zgo_ok (YX9_waited_ok) zno kX9_waited (List.all_eq_true.mp kX9_waited_ok) 0 _ _ _ _ _ ?_
    obtain ⟨k, rfl, hk, h⟩ := h
    unfold mWd at h
    refine ⟨k, 4, rfl, rfl, hk, by decide, ?_⟩
    refine And.intro (fun h1 => ?_) (fun h1 => ?_)
    · rw [if_neg (Int32.not_lt.mpr h1)] at h
      refine Exists.intro (zix (k := 0) rfl (by decide) (by decide)) ?_
      refine ⟨k, 5, rfl, rfl, hk, by decide, ?_⟩
      exact h
    · rw [if_pos (Int32.not_le.mp h1)] at h
      exact h
  · exact h.elim

def kX9_next : List zI := [
  (0, 1, .aload_n 0, [], 0),
  (1, 1, .iload_n 1, [], 0),
  (2, 1, .iconst 3, [], 3),
  (3, 3, .invokevirtual 75, [], 0),
  (6, 1, .iconst 1, [], 1),
  (7, 3, .if_icmp .ne 14, [21], 0),
  (10, 1, .aload_n 0, [], 0),
  (11, 1, .iload_n 1, [], 0),
  (12, 1, .iconst 4, [], 4),
  (13, 3, .invokevirtual 75, [], 0),
  (16, 1, .iconst 1, [], 1),
  (17, 1, .isub, [], 0),
  (18, 3, .goto 11, [29], 0),
  (21, 1, .aload_n 0, [], 0),
  (22, 1, .iload_n 1, [], 0),
  (23, 1, .iconst 4, [], 4),
  (24, 3, .invokevirtual 75, [], 0),
  (27, 1, .iconst 1, [], 1),
  (28, 1, .iadd, [], 0),
  (29, 1, .ireturn, [], 0)]
theorem kX9_next_ok : kX9_next.all (zck cX9_next) = true := by decide +kernel

def rX9_next : Room := { frames := 1, cells := 0, slots := 0, locals := 22 }
abbrev YX9_next : zM := (RX9, cX9_next, 2, some .int, rX9_next, UM, zlk fX9, zcs [(75, 3, 0, 0, zvs (UM) 9 (sX9_of))] [])
theorem YX9_next_ok : zYok (YX9_next) := zYok_of fX9_ok (zall (zcal_mono (zcalV (Y := YX9_next) (y := yX9_of) (cc := cX9_of) (nL := 3) (ret := some .int) (rm := rX9_of) (mX9_of) 75 2 9 (T := TX9) rfl wX9_75 ⟨by decide +kernel, by decide +kernel, by decide +kernel⟩ (by decide) ⟨Nat.le_of_ble_eq_true rfl, Nat.le_of_ble_eq_true rfl⟩) (fun _ _ _ _ h => zvs_P h)) znil) znil

theorem mX9_next : zMet (UM) yX9_next cX9_next 2 (some .int) rX9_next (sX9_next) := by
  refine zmet (Y := YX9_next) rfl (by decide +kernel) ?_
  intro av F ok ex h
  unfold sX9_next at h
  split at h
  · rename_i x
    refine zgo_ok (YX9_next_ok) zno kX9_next (List.all_eq_true.mp kX9_next_ok) 0 _ _ _ _ _ ?_
    obtain ⟨k, rfl, hk, h⟩ := h
    unfold mNx at h
    refine ⟨k, 3, rfl, rfl, hk, by decide, ?_⟩
    refine And.intro (fun h2 => ?_) (fun h2 => ?_)
    · rw [if_neg h2] at h
      refine ⟨k, 4, rfl, rfl, hk, by decide, ?_⟩
      exact h
    · rw [if_pos h2] at h
      refine ⟨k, 4, rfl, rfl, hk, by decide, ?_⟩
      exact h
  · exact h.elim

def kX9_here : List zI := [
  (0, 1, .aload_n 0, [], 0),
  (1, 3, .getfield 120, [], 0),
  (4, 1, .aload_n 0, [], 0),
  (5, 3, .getfield 117, [], 0),
  (8, 3, .if_icmp .ge 15, [23], 0),
  (11, 1, .aload_n 0, [], 0),
  (12, 3, .getfield 22, [], 0),
  (15, 1, .aload_n 0, [], 0),
  (16, 3, .getfield 120, [], 0),
  (19, 1, .iaload, [], 0),
  (20, 3, .goto 4, [24], 0),
  (23, 1, .iconst 0, [], 0),
  (24, 1, .ireturn, [], 0)]
theorem kX9_here_ok : kX9_here.all (zck cX9_here) = true := by decide +kernel

def rX9_here : Room := { frames := 0, cells := 0, slots := 0, locals := 0 }
abbrev YX9_here : zM := (RX9, cX9_here, 1, some .int, rX9_here, UM, zlk fX9, zcs [] [])
theorem YX9_here_ok : zYok (YX9_here) := zYok_of fX9_ok znil znil

theorem mX9_here : zMet (UM) yX9_here cX9_here 1 (some .int) rX9_here (sX9_here) := by
  refine zmet (Y := YX9_here) rfl (by decide +kernel) ?_
  intro av F ok ex h
  unfold sX9_here at h
  split at h
  · refine zgo_ok (YX9_here_ok) zno kX9_here (List.all_eq_true.mp kX9_here_ok) 0 _ _ _ _ _ ?_
    obtain ⟨h0, h⟩ := h
    unfold mHe at h
    refine And.intro (fun h1 => ?_) (fun h1 => ?_)
    · rw [if_neg (Int32.not_lt.mpr h1)] at h
      exact h
    · rw [if_pos (Int32.not_le.mp h1)] at h
      exact Exists.intro (h0 (Int32.not_le.mp h1)) h
  · exact h.elim

def kX9_takes : List zI := [
  (0, 1, .aload_n 0, [], 0),
  (1, 3, .getfield 120, [], 0),
  (4, 1, .aload_n 0, [], 0),
  (5, 3, .getfield 117, [], 0),
  (8, 3, .if_icmp .eq 11, [19], 0),
  (11, 1, .aload_n 0, [], 0),
  (12, 3, .invokevirtual 123, [], 0),
  (15, 1, .iload_n 1, [], 0),
  (16, 3, .if_icmp .eq 5, [21], 0),
  (19, 1, .iconst 0, [], 0),
  (20, 1, .ireturn, [], 0),
  (21, 1, .aload_n 0, [], 0),
  (22, 1, .dup, [], 0),
  (23, 3, .getfield 120, [], 0),
  (26, 1, .iconst 1, [], 1),
  (27, 1, .iadd, [], 0),
  (28, 3, .putfield 120, [], 0),
  (31, 1, .iconst 1, [], 1),
  (32, 1, .ireturn, [], 0)]
theorem kX9_takes_ok : kX9_takes.all (zck cX9_takes) = true := by decide +kernel

def rX9_takes : Room := { frames := 1, cells := 0, slots := 0, locals := 20 }
abbrev YX9_takes : zM := (RX9, cX9_takes, 2, some .boolean, rX9_takes, UM, zlk fX9, zcs [(123, 1, 0, 0, zvs (UM) 9 (sX9_here))] [])
theorem YX9_takes_ok : zYok (YX9_takes) := zYok_of fX9_ok (zall (zcal_mono (zcalV (Y := YX9_takes) (y := yX9_here) (cc := cX9_here) (nL := 1) (ret := some .int) (rm := rX9_here) (mX9_here) 123 0 9 (T := TX9) rfl wX9_123 ⟨by decide +kernel, by decide +kernel, by decide +kernel⟩ (by decide) ⟨Nat.le_of_ble_eq_true rfl, Nat.le_of_ble_eq_true rfl⟩) (fun _ _ _ _ h => zvs_P h)) znil) znil

theorem mX9_takes : zMet (UM) yX9_takes cX9_takes 2 (some .boolean) rX9_takes (sX9_takes) := by
  refine zmet (Y := YX9_takes) rfl (by decide +kernel) ?_
  intro av F ok ex h
  unfold sX9_takes at h
  split at h
  · rename_i c
    refine zgo_ok (YX9_takes_ok) zno kX9_takes (List.all_eq_true.mp kX9_takes_ok) 0 _ _ _ _ _ ?_
    obtain ⟨h0, h3, h4⟩ := h
    refine And.intro (fun h1 => ?_) (fun h1 => ?_)
    · exact Exists.intro (Or.inl rfl) (h4 (fun h5 => h5.1 h1))
    · refine ⟨h0, ?_⟩
      refine And.intro (fun h2 => ?_) (fun h2 => ?_)
      · exact Exists.intro (Or.inr rfl) (h3 ⟨h1, h2⟩)
      · exact Exists.intro (Or.inl rfl) (h4 (fun h5 => h2 h5.2))
  · exact h.elim

def kX9_held : List zI := [
  (0, 1, .aload_n 0, [], 0),
  (1, 1, .iload_n 1, [], 0),
  (2, 1, .iconst 3, [], 3),
  (3, 3, .invokevirtual 79, [], 0),
  (6, 1, .aload_n 0, [], 0),
  (7, 1, .iload_n 1, [], 0),
  (8, 1, .iconst 1, [], 1),
  (9, 3, .invokevirtual 79, [], 0),
  (12, 1, .imul, [], 0),
  (13, 1, .aload_n 0, [], 0),
  (14, 1, .iload_n 1, [], 0),
  (15, 3, .invokevirtual 82, [], 0),
  (18, 1, .aload_n 0, [], 0),
  (19, 1, .iload_n 1, [], 0),
  (20, 1, .iconst 4, [], 4),
  (21, 3, .invokevirtual 79, [], 0),
  (24, 3, .invokestatic 85, [], 0),
  (27, 1, .imul, [], 0),
  (28, 1, .iadd, [], 0),
  (29, 1, .ireturn, [], 0)]
theorem kX9_held_ok : kX9_held.all (zck cX9_held) = true := by decide +kernel

def rX9_held : Room := { frames := 2, cells := 0, slots := 0, locals := 43 }
abbrev YX9_held : zM := (RX9, cX9_held, 2, some .int, rX9_held, UM, zlk fX9, zcs [(79, 3, 0, 0, zvs (UM) 9 (sX9_lockPart)), (82, 2, 0, 0, zvs (UM) 9 (sX9_quarter))] [(85, 1, 0, 0, sJ6_bitCount_0f7a4)])
theorem YX9_held_ok : zYok (YX9_held) := zYok_of fX9_ok (zall (zcal_mono (zcalV (Y := YX9_held) (y := yX9_lockPart) (cc := cX9_lockPart) (nL := 3) (ret := some .int) (rm := rX9_lockPart) (mX9_lockPart) 79 2 9 (T := TX9) rfl wX9_79 ⟨by decide +kernel, by decide +kernel, by decide +kernel⟩ (by decide) ⟨Nat.le_of_ble_eq_true rfl, Nat.le_of_ble_eq_true rfl⟩) (fun _ _ _ _ h => zvs_P h)) (zall (zcal_mono (zcalV (Y := YX9_held) (y := yX9_quarter) (cc := cX9_quarter) (nL := 2) (ret := some .int) (rm := rX9_quarter) (mX9_quarter) 82 1 9 (T := TX9) rfl wX9_82 ⟨by decide +kernel, by decide +kernel, by decide +kernel⟩ (by decide) ⟨Nat.le_of_ble_eq_true rfl, Nat.le_of_ble_eq_true rfl⟩) (fun _ _ _ _ h => zvs_P h)) znil)) (zall (zcalS (Y := YX9_held) (y := yJ6_bitCount_0f7a4) (cc := cJ6_bitCount_0f7a4) (nL := 1) (ret := some .int) (rm := rJ6_bitCount_0f7a4) (mJ6_bitCount_0f7a4) 85 1 wX9_85 ⟨by decide +kernel, by decide +kernel, by decide +kernel⟩ (by decide) ⟨Nat.le_of_ble_eq_true rfl, Nat.le_of_ble_eq_true rfl⟩) znil)

theorem mX9_held : zMet (UM) yX9_held cX9_held 2 (some .int) rX9_held (sX9_held) := by
  refine zmet (Y := YX9_held) rfl (by decide +kernel) ?_
  intro av F ok ex h
  unfold sX9_held at h
  split at h
  · rename_i x
    refine zgo_ok (YX9_held_ok) zno kX9_held (List.all_eq_true.mp kX9_held_ok) 0 _ _ _ _ _ ?_
    obtain ⟨k, rfl, hk, ⟨b, hb, h5⟩, h⟩ := h
    refine ⟨k, 3, rfl, rfl, hk, by decide, ?_⟩
    refine ⟨k, 1, rfl, rfl, hk, by decide, ?_⟩
    refine ⟨k, rfl, hk, ?_⟩
    refine ⟨k, 4, rfl, rfl, hk, by decide, ?_⟩
    refine ⟨b, hb, h5, ?_⟩
    have h6 : mBc (mLP F k 4) = nI (mBit b) := by
      unfold mBc
      rw [h5, nI_clamp (by omega)]
    unfold mHd at h
    rw [h6] at h
    exact h
  · exact h.elim

end ZM0
end
section
/-! the reference's loops over ships, its kept states -/
section ZM1
set_option maxRecDepth 20000
def mSz (F : zF) (h : Int32) : Nat → Nat
  | 0 => 0
  | k + 1 => mSz F h k + (if mOf F k 6 = h then 1 else 0)
theorem mSz_le (F : zF) (h : Int32) : ∀ n, mSz F h n ≤ n
  | 0 => Nat.le_refl _
  | k + 1 => by
    have h1 := mSz_le F h k
    show mSz F h k + (if mOf F k 6 = h then 1 else 0) ≤ k + 1
    split <;> omega
def sX9_sizeOf : zSp := fun as F ok _ => match as with
  | [.ref 0, .int h] => ∃ n, n ≤ 16 ∧ F 1 2 = nI n ∧ ok (some (.int (nI (mSz F h n)))) F
  | _ => False
def sX9_shipIn : zSp := fun as F ok _ => match as with
  | [.ref 0, .int h, .int p] => ∃ s, s < 16 ∧ mOf F s 6 = h ∧ mOf F s 7 = p ∧ (∀ j, j < s → ¬ (mOf F j 6 = h ∧ mOf F j 7 = p)) ∧ ok (some (.int (nI s))) F
  | _ => False
def mMost (F : zF) (h : Int32) : Nat → Int32
  | 0 => 0
  | k + 1 => if mOf F k 6 = h then imax (mMost F h k) (mOf F k 2) else mMost F h k
def mPr (F : zF) (n s : Nat) : Int32 := 4 * mMost F (nI s) n + mFd (mWd F s) (F 1 3)
def sX9_priorityOf : zSp := fun as F ok _ => match as with
  | [.ref 0, .int x] => ∃ s n, x = nI s ∧ s < 16 ∧ n ≤ 16 ∧ F 1 2 = nI n ∧ ¬ F 1 3 = 0 ∧ ok (some (.int (mPr F n s))) F
  | _ => False
def mNS (F : zF) (n : Nat) (a b c d : Int32) : zF := zup (zup (zup (zup (zup (zup (zup (zup (zup (zup F 1 2 (nI n + 1)) 1 (53 + 9 * n + 0) a) 1 (53 + 9 * n + 1) b) 1 (53 + 9 * n + 2) c) 1 (53 + 9 * n + 3) d) 1 (53 + 9 * n + 4) (if d = 1 then F 1 1 - 1 else 0)) 1 (53 + 9 * n + 5) (F 1 0)) 1 (53 + 9 * n + 6) (nI n)) 1 (53 + 9 * n + 7) 0) 1 (53 + 9 * n + 8) (-1)
def sX9_newShip : zSp := fun as F ok _ => match as with
  | [.ref 0, .int a, .int b, .int c, .int d] => ∃ n, n < 16 ∧ F 1 2 = nI n ∧ ok (some (.int (nI n))) (mNS F n a b c d)
  | _ => False
def mShift (F : zF) (k : Nat) : zF := fun c i => if c = 2 ∧ i < k then F 2 (197 + i) else F c i
def mPush (F : zF) (u k : Nat) : zF := fun c i => if c = 2 ∧ 197 * u ≤ i ∧ i < 197 * u + k then F 1 (i - 197 * u) else F c i
def mKeep (F : zF) (u : Nat) : zF := if u = 8 then zup (mPush (zup (mShift F 1379) 0 3 7) 7 197) 0 3 8 else zup (mPush F u 197) 0 3 (nI (u + 1))
def sX9_changes : zSp := fun as F ok _ => match as with
  | [.ref 0] => ∃ u, u ≤ 8 ∧ F 0 3 = nI u ∧ ok none (mKeep F u)
  | _ => False

def kX9_sizeOf : List zI := [
  (0, 1, .iconst 0, [], 0),
  (1, 1, .istore_n 2, [], 0),
  (2, 1, .iconst 0, [], 0),
  (3, 1, .istore_n 3, [], 0),
  (4, 1, .iload_n 3, [], 0),
  (5, 1, .aload_n 0, [], 0),
  (6, 3, .getfield 9, [], 0),
  (9, 1, .iconst 2, [], 2),
  (10, 1, .iaload, [], 0),
  (11, 3, .if_icmp .ge 23, [34], 0),
  (14, 1, .aload_n 0, [], 0),
  (15, 1, .iload_n 3, [], 0),
  (16, 2, .bipush 6, [], 6),
  (18, 3, .invokevirtual 75, [], 0),
  (21, 1, .iload_n 1, [], 0),
  (22, 3, .if_icmp .ne 6, [28], 0),
  (25, 3, .iinc 2 1, [], 1),
  (28, 3, .iinc 3 1, [], 1),
  (31, 3, .goto (-27), [4], 0),
  (34, 1, .iload_n 2, [], 0),
  (35, 1, .ireturn, [], 0)]
theorem kX9_sizeOf_ok : kX9_sizeOf.all (zck cX9_sizeOf) = true := by decide +kernel

def rX9_sizeOf : Room := { frames := 1, cells := 0, slots := 0, locals := 22 }
abbrev YX9_sizeOf : zM := (RX9, cX9_sizeOf, 4, some .int, rX9_sizeOf, UM, zlk fX9, zcs [(75, 3, 0, 0, zvs (UM) 9 (sX9_of))] [])
theorem YX9_sizeOf_ok : zYok (YX9_sizeOf) := zYok_of fX9_ok (zall (zcal_mono (zcalV (Y := YX9_sizeOf) (y := yX9_of) (cc := cX9_of) (nL := 3) (ret := some .int) (rm := rX9_of) (mX9_of) 75 2 9 (T := TX9) rfl wX9_75 ⟨by decide +kernel, by decide +kernel, by decide +kernel⟩ (by decide) ⟨Nat.le_of_ble_eq_true rfl, Nat.le_of_ble_eq_true rfl⟩) (fun _ _ _ _ h => zvs_P h)) znil) znil

theorem lX9_sizeOf (ok : zO) (ex : zX) (F : zF) (x : Int32) (n : Nat) (hn : n ≤ 16) (h0 : F 1 2 = nI n) (h : ok (some (.int (nI (mSz F x n)))) F) : ∀ (d k : Nat), k + d = n → zWP YX9_sizeOf ok ex 4 [some (.ref 0), some (.int x), some (.int (nI (mSz F x k))), some (.int (nI k))] [] 0 0 F := by
  intro d
  induction d with
  | zero =>
    intro k hk
    have hk : k = n := hk
    subst hk
    refine zat_ok YX9_sizeOf_ok (inv := zi1 4 (fun ls st kc ks G => zWP YX9_sizeOf ok ex 4 ls st kc ks G)) (zone fun _ _ _ _ _ h => h) kX9_sizeOf (List.all_eq_true.mp kX9_sizeOf_ok) 4 _ _ _ _ _ ?_
    refine Exists.intro (zix (k := 2) rfl (by decide) (by decide)) ?_
    refine And.intro (fun _ => h) (fun h1 => absurd ?_ h1)
    show F 1 2 ≤ nI k
    rw [h0]
    exact nI_le (Nat.le_refl _) (by omega)
  | succ d ih =>
    intro k hk
    refine zat_ok YX9_sizeOf_ok (inv := zi1 4 (fun ls st kc ks G => zWP YX9_sizeOf ok ex 4 ls st kc ks G)) (zone fun _ _ _ _ _ h => h) kX9_sizeOf (List.all_eq_true.mp kX9_sizeOf_ok) 4 _ _ _ _ _ ?_
    refine Exists.intro (zix (k := 2) rfl (by decide) (by decide)) ?_
    refine And.intro (fun h1 => absurd ?_ (nI_ge (a := k) (b := n) (by omega) (by omega))) (fun h1 => ?_)
    · have h1 : F 1 2 ≤ nI k := h1
      rw [h0] at h1
      exact h1
    refine ⟨k, 6, rfl, rfl, by omega, by decide, ?_⟩
    have ih := ih (k + 1) (by omega)
    rw [← nI_1 k] at ih
    refine And.intro (fun h2 => ?_) (fun h2 => ?_)
    · have h2 : ¬ mOf F k 6 = x := h2
      have h3 : mSz F x (k + 1) = mSz F x k := by
        show mSz F x k + (if mOf F k 6 = x then 1 else 0) = mSz F x k
        rw [if_neg h2, Nat.add_zero]
      rw [h3] at ih
      exact ih
    · have h2 : mOf F k 6 = x := h2
      have h3 : mSz F x (k + 1) = mSz F x k + 1 := by
        show mSz F x k + (if mOf F k 6 = x then 1 else 0) = mSz F x k + 1
        rw [if_pos h2]
      rw [h3, ← nI_1] at ih
      exact ih

theorem mX9_sizeOf : zMet (UM) yX9_sizeOf cX9_sizeOf 4 (some .int) rX9_sizeOf (sX9_sizeOf) := by
  refine zmet (Y := YX9_sizeOf) rfl (by decide +kernel) ?_
  intro av F ok ex h
  unfold sX9_sizeOf at h
  split at h
  · rename_i x
    refine zgo_ok (YX9_sizeOf_ok) (inv := zi1 4 (fun ls st kc ks G => zWP YX9_sizeOf ok ex 4 ls st kc ks G)) (zone fun _ _ _ _ _ h => h) kX9_sizeOf (List.all_eq_true.mp kX9_sizeOf_ok) 0 _ _ _ _ _ ?_
    obtain ⟨n, hn, h0, h⟩ := h
    exact lX9_sizeOf ok ex F x n hn h0 h n 0 (Nat.zero_add _)
  · exact h.elim

def kX9_shipIn : List zI := [
  (0, 1, .iconst 0, [], 0),
  (1, 1, .istore_n 3, [], 0),
  (2, 1, .aload_n 0, [], 0),
  (3, 1, .iload_n 3, [], 0),
  (4, 2, .bipush 6, [], 6),
  (6, 3, .invokevirtual 75, [], 0),
  (9, 1, .iload_n 1, [], 0),
  (10, 3, .if_icmp .ne 14, [24], 0),
  (13, 1, .aload_n 0, [], 0),
  (14, 1, .iload_n 3, [], 0),
  (15, 2, .bipush 7, [], 7),
  (17, 3, .invokevirtual 75, [], 0),
  (20, 1, .iload_n 2, [], 0),
  (21, 3, .if_icmp .eq 9, [30], 0),
  (24, 3, .iinc 3 1, [], 1),
  (27, 3, .goto (-25), [2], 0),
  (30, 1, .iload_n 3, [], 0),
  (31, 1, .ireturn, [], 0)]
theorem kX9_shipIn_ok : kX9_shipIn.all (zck cX9_shipIn) = true := by decide +kernel

def rX9_shipIn : Room := { frames := 1, cells := 0, slots := 0, locals := 22 }
abbrev YX9_shipIn : zM := (RX9, cX9_shipIn, 4, some .int, rX9_shipIn, UM, zlk fX9, zcs [(75, 3, 0, 0, zvs (UM) 9 (sX9_of))] [])
theorem YX9_shipIn_ok : zYok (YX9_shipIn) := zYok_of fX9_ok (zall (zcal_mono (zcalV (Y := YX9_shipIn) (y := yX9_of) (cc := cX9_of) (nL := 3) (ret := some .int) (rm := rX9_of) (mX9_of) 75 2 9 (T := TX9) rfl wX9_75 ⟨by decide +kernel, by decide +kernel, by decide +kernel⟩ (by decide) ⟨Nat.le_of_ble_eq_true rfl, Nat.le_of_ble_eq_true rfl⟩) (fun _ _ _ _ h => zvs_P h)) znil) znil

theorem lX9_shipIn (ok : zO) (ex : zX) (F : zF) (x p : Int32) (n : Nat) (hn : n < 16) (h0 : mOf F n 6 = x) (h1 : mOf F n 7 = p) (h2 : ∀ j, j < n → ¬ (mOf F j 6 = x ∧ mOf F j 7 = p)) (h : ok (some (.int (nI n))) F) : ∀ (d k : Nat), k + d = n → zWP YX9_shipIn ok ex 2 [some (.ref 0), some (.int x), some (.int p), some (.int (nI k))] [] 0 0 F := by
  intro d
  induction d with
  | zero =>
    intro k hk
    have hk : k = n := hk
    subst hk
    refine zat_ok YX9_shipIn_ok (inv := zi1 2 (fun ls st kc ks G => zWP YX9_shipIn ok ex 2 ls st kc ks G)) (zone fun _ _ _ _ _ h => h) kX9_shipIn (List.all_eq_true.mp kX9_shipIn_ok) 2 _ _ _ _ _ ?_
    refine ⟨k, 6, rfl, rfl, hn, by decide, ?_⟩
    refine And.intro (fun h3 => absurd h0 h3) (fun _ => ?_)
    refine ⟨k, 7, rfl, rfl, hn, by decide, ?_⟩
    exact And.intro (fun _ => h) (fun h3 => absurd h1 h3)
  | succ d ih =>
    intro k hk
    refine zat_ok YX9_shipIn_ok (inv := zi1 2 (fun ls st kc ks G => zWP YX9_shipIn ok ex 2 ls st kc ks G)) (zone fun _ _ _ _ _ h => h) kX9_shipIn (List.all_eq_true.mp kX9_shipIn_ok) 2 _ _ _ _ _ ?_
    have ih := ih (k + 1) (by omega)
    rw [← nI_1 k] at ih
    refine ⟨k, 6, rfl, rfl, by omega, by decide, ?_⟩
    refine And.intro (fun _ => ih) (fun h3 => ?_)
    refine ⟨k, 7, rfl, rfl, by omega, by decide, ?_⟩
    exact And.intro (fun h4 => absurd ⟨h3, h4⟩ (h2 k (by omega))) (fun _ => ih)

theorem mX9_shipIn : zMet (UM) yX9_shipIn cX9_shipIn 4 (some .int) rX9_shipIn (sX9_shipIn) := by
  refine zmet (Y := YX9_shipIn) rfl (by decide +kernel) ?_
  intro av F ok ex h
  unfold sX9_shipIn at h
  split at h
  · rename_i x p
    refine zgo_ok (YX9_shipIn_ok) (inv := zi1 2 (fun ls st kc ks G => zWP YX9_shipIn ok ex 2 ls st kc ks G)) (zone fun _ _ _ _ _ h => h) kX9_shipIn (List.all_eq_true.mp kX9_shipIn_ok) 0 _ _ _ _ _ ?_
    obtain ⟨n, hn, h0, h1, h2, h⟩ := h
    exact lX9_shipIn ok ex F x p n hn h0 h1 h2 h n 0 (Nat.zero_add _)
  · exact h.elim

def kX9_priorityOf : List zI := [
  (0, 1, .iconst 0, [], 0),
  (1, 1, .istore_n 2, [], 0),
  (2, 1, .iconst 0, [], 0),
  (3, 1, .istore_n 3, [], 0),
  (4, 1, .iload_n 3, [], 0),
  (5, 1, .aload_n 0, [], 0),
  (6, 3, .getfield 9, [], 0),
  (9, 1, .iconst 2, [], 2),
  (10, 1, .iaload, [], 0),
  (11, 3, .if_icmp .ge 31, [42], 0),
  (14, 1, .aload_n 0, [], 0),
  (15, 1, .iload_n 3, [], 0),
  (16, 2, .bipush 6, [], 6),
  (18, 3, .invokevirtual 75, [], 0),
  (21, 1, .iload_n 1, [], 0),
  (22, 3, .if_icmp .ne 14, [36], 0),
  (25, 1, .iload_n 2, [], 0),
  (26, 1, .aload_n 0, [], 0),
  (27, 1, .iload_n 3, [], 0),
  (28, 1, .iconst 2, [], 2),
  (29, 3, .invokevirtual 75, [], 0),
  (32, 3, .invokestatic 145, [], 0),
  (35, 1, .istore_n 2, [], 0),
  (36, 3, .iinc 3 1, [], 1),
  (39, 3, .goto (-35), [4], 0),
  (42, 1, .iconst 4, [], 4),
  (43, 1, .iload_n 2, [], 0),
  (44, 1, .imul, [], 0),
  (45, 1, .aload_n 0, [], 0),
  (46, 1, .iload_n 1, [], 0),
  (47, 3, .invokevirtual 150, [], 0),
  (50, 1, .aload_n 0, [], 0),
  (51, 3, .getfield 9, [], 0),
  (54, 1, .iconst 3, [], 3),
  (55, 1, .iaload, [], 0),
  (56, 3, .invokestatic 153, [], 0),
  (59, 1, .iadd, [], 0),
  (60, 1, .ireturn, [], 0)]
theorem kX9_priorityOf_ok : kX9_priorityOf.all (zck cX9_priorityOf) = true := by decide +kernel

def rX9_priorityOf : Room := { frames := 2, cells := 0, slots := 0, locals := 43 }
abbrev YX9_priorityOf : zM := (RX9, cX9_priorityOf, 4, some .int, rX9_priorityOf, UM, zlk fX9, zcs [(75, 3, 0, 0, zvs (UM) 9 (sX9_of)), (150, 2, 0, 0, zvs (UM) 9 (sX9_waited))] [(145, 2, 0, 0, sJ9_max_7cf53), (153, 2, 0, 0, sJ9_floorDiv_7cf53)])
theorem YX9_priorityOf_ok : zYok (YX9_priorityOf) := zYok_of fX9_ok (zall (zcal_mono (zcalV (Y := YX9_priorityOf) (y := yX9_of) (cc := cX9_of) (nL := 3) (ret := some .int) (rm := rX9_of) (mX9_of) 75 2 9 (T := TX9) rfl wX9_75 ⟨by decide +kernel, by decide +kernel, by decide +kernel⟩ (by decide) ⟨Nat.le_of_ble_eq_true rfl, Nat.le_of_ble_eq_true rfl⟩) (fun _ _ _ _ h => zvs_P h)) (zall (zcal_mono (zcalV (Y := YX9_priorityOf) (y := yX9_waited) (cc := cX9_waited) (nL := 2) (ret := some .int) (rm := rX9_waited) (mX9_waited) 150 1 9 (T := TX9) rfl wX9_150 ⟨by decide +kernel, by decide +kernel, by decide +kernel⟩ (by decide) ⟨Nat.le_of_ble_eq_true rfl, Nat.le_of_ble_eq_true rfl⟩) (fun _ _ _ _ h => zvs_P h)) znil)) (zall (zcalS (Y := YX9_priorityOf) (y := yJ9_max_7cf53) (cc := cJ9_max_7cf53) (nL := 2) (ret := some .int) (rm := rJ9_max_7cf53) (mJ9_max_7cf53 UM) 145 2 wX9_145 ⟨by decide +kernel, by decide +kernel, by decide +kernel⟩ (by decide) ⟨Nat.le_of_ble_eq_true rfl, Nat.le_of_ble_eq_true rfl⟩) (zall (zcalS (Y := YX9_priorityOf) (y := yJ9_floorDiv_7cf53) (cc := cJ9_floorDiv_7cf53) (nL := 3) (ret := some .int) (rm := rJ9_floorDiv_7cf53) (mJ9_floorDiv_7cf53) 153 2 wX9_153 ⟨by decide +kernel, by decide +kernel, by decide +kernel⟩ (by decide) ⟨Nat.le_of_ble_eq_true rfl, Nat.le_of_ble_eq_true rfl⟩) znil))

theorem lX9_priorityOf (ok : zO) (ex : zX) (F : zF) (t n : Nat) (ht : t < 16) (hn : n ≤ 16) (h0 : F 1 2 = nI n) (h9 : ¬ F 1 3 = 0) (h : ok (some (.int (mPr F n t))) F) : ∀ (d k : Nat), k + d = n → zWP YX9_priorityOf ok ex 4 [some (.ref 0), some (.int (nI t)), some (.int (mMost F (nI t) k)), some (.int (nI k))] [] 0 0 F := by
  intro d
  induction d with
  | zero =>
    intro k hk
    have hk : k = n := hk
    subst hk
    refine zat_ok YX9_priorityOf_ok (inv := zi1 4 (fun ls st kc ks G => zWP YX9_priorityOf ok ex 4 ls st kc ks G)) (zone fun _ _ _ _ _ h => h) kX9_priorityOf (List.all_eq_true.mp kX9_priorityOf_ok) 4 _ _ _ _ _ ?_
    refine Exists.intro (zix (k := 2) rfl (by decide) (by decide)) ?_
    refine And.intro (fun _ => ?_) (fun h1 => absurd ?_ h1)
    · refine ⟨t, rfl, ht, ?_⟩
      refine Exists.intro (zix (k := 3) rfl (by decide) (by decide)) ?_
      exact ⟨h9, h⟩
    · show F 1 2 ≤ nI k
      rw [h0]
      exact nI_le (Nat.le_refl _) (by omega)
  | succ d ih =>
    intro k hk
    refine zat_ok YX9_priorityOf_ok (inv := zi1 4 (fun ls st kc ks G => zWP YX9_priorityOf ok ex 4 ls st kc ks G)) (zone fun _ _ _ _ _ h => h) kX9_priorityOf (List.all_eq_true.mp kX9_priorityOf_ok) 4 _ _ _ _ _ ?_
    refine Exists.intro (zix (k := 2) rfl (by decide) (by decide)) ?_
    refine And.intro (fun h1 => absurd ?_ (nI_ge (a := k) (b := n) (by omega) (by omega))) (fun h1 => ?_)
    · have h1 : F 1 2 ≤ nI k := h1
      rw [h0] at h1
      exact h1
    refine ⟨k, 6, rfl, rfl, by omega, by decide, ?_⟩
    have ih := ih (k + 1) (by omega)
    rw [← nI_1 k] at ih
    refine And.intro (fun h2 => ?_) (fun h2 => ?_)
    · have h2 : ¬ mOf F k 6 = nI t := h2
      have h3 : mMost F (nI t) (k + 1) = mMost F (nI t) k := if_neg h2
      rw [h3] at ih
      exact ih
    · have h2 : mOf F k 6 = nI t := h2
      have h3 : mMost F (nI t) (k + 1) = imax (mMost F (nI t) k) (mOf F k 2) := if_pos h2
      rw [h3] at ih
      refine ⟨k, 2, rfl, rfl, by omega, by decide, ?_⟩
      exact ih

theorem mX9_priorityOf : zMet (UM) yX9_priorityOf cX9_priorityOf 4 (some .int) rX9_priorityOf (sX9_priorityOf) := by
  refine zmet (Y := YX9_priorityOf) rfl (by decide +kernel) ?_
  intro av F ok ex h
  unfold sX9_priorityOf at h
  split at h
  · rename_i x
    refine zgo_ok (YX9_priorityOf_ok) (inv := zi1 4 (fun ls st kc ks G => zWP YX9_priorityOf ok ex 4 ls st kc ks G)) (zone fun _ _ _ _ _ h => h) kX9_priorityOf (List.all_eq_true.mp kX9_priorityOf_ok) 0 _ _ _ _ _ ?_
    obtain ⟨t, n, rfl, ht, hn, h0, h1, h⟩ := h
    exact lX9_priorityOf ok ex F t n ht hn h0 h1 h n 0 (Nat.zero_add _)
  · exact h.elim

def kX9_newShip : List zI := [
  (0, 1, .aload_n 0, [], 0),
  (1, 3, .getfield 9, [], 0),
  (4, 1, .iconst 2, [], 2),
  (5, 1, .dup2, [], 0),
  (6, 1, .iaload, [], 0),
  (7, 1, .dup_x2, [], 0),
  (8, 1, .iconst 1, [], 1),
  (9, 1, .iadd, [], 0),
  (10, 1, .iastore, [], 0),
  (11, 2, .istore 5, [], 0),
  (13, 1, .aload_n 0, [], 0),
  (14, 2, .iload 5, [], 0),
  (16, 1, .iconst 0, [], 0),
  (17, 1, .iload_n 1, [], 0),
  (18, 3, .invokevirtual 106, [], 0),
  (21, 1, .aload_n 0, [], 0),
  (22, 2, .iload 5, [], 0),
  (24, 1, .iconst 1, [], 1),
  (25, 1, .iload_n 2, [], 0),
  (26, 3, .invokevirtual 106, [], 0),
  (29, 1, .aload_n 0, [], 0),
  (30, 2, .iload 5, [], 0),
  (32, 1, .iconst 2, [], 2),
  (33, 1, .iload_n 3, [], 0),
  (34, 3, .invokevirtual 106, [], 0),
  (37, 1, .aload_n 0, [], 0),
  (38, 2, .iload 5, [], 0),
  (40, 1, .iconst 3, [], 3),
  (41, 2, .iload 4, [], 0),
  (43, 3, .invokevirtual 106, [], 0),
  (46, 1, .aload_n 0, [], 0),
  (47, 2, .iload 5, [], 0),
  (49, 1, .iconst 4, [], 4),
  (50, 2, .iload 4, [], 0),
  (52, 1, .iconst 1, [], 1),
  (53, 3, .if_icmp .ne 14, [67], 0),
  (56, 1, .aload_n 0, [], 0),
  (57, 3, .getfield 9, [], 0),
  (60, 1, .iconst 1, [], 1),
  (61, 1, .iaload, [], 0),
  (62, 1, .iconst 1, [], 1),
  (63, 1, .isub, [], 0),
  (64, 3, .goto 4, [68], 0),
  (67, 1, .iconst 0, [], 0),
  (68, 3, .invokevirtual 106, [], 0),
  (71, 1, .aload_n 0, [], 0),
  (72, 2, .iload 5, [], 0),
  (74, 1, .iconst 5, [], 5),
  (75, 1, .aload_n 0, [], 0),
  (76, 3, .getfield 9, [], 0),
  (79, 1, .iconst 0, [], 0),
  (80, 1, .iaload, [], 0),
  (81, 3, .invokevirtual 106, [], 0),
  (84, 1, .aload_n 0, [], 0),
  (85, 2, .iload 5, [], 0),
  (87, 2, .bipush 6, [], 6),
  (89, 2, .iload 5, [], 0),
  (91, 3, .invokevirtual 106, [], 0),
  (94, 1, .aload_n 0, [], 0),
  (95, 2, .iload 5, [], 0),
  (97, 2, .bipush 7, [], 7),
  (99, 1, .iconst 0, [], 0),
  (100, 3, .invokevirtual 106, [], 0),
  (103, 1, .aload_n 0, [], 0),
  (104, 2, .iload 5, [], 0),
  (106, 2, .bipush 8, [], 8),
  (108, 1, .iconst (-1), [], (-1)),
  (109, 3, .invokevirtual 106, [], 0),
  (112, 2, .iload 5, [], 0),
  (114, 1, .ireturn, [], 0)]
theorem kX9_newShip_ok : kX9_newShip.all (zck cX9_newShip) = true := by decide +kernel

def rX9_newShip : Room := { frames := 1, cells := 0, slots := 0, locals := 23 }
abbrev YX9_newShip : zM := (RX9, cX9_newShip, 6, some .int, rX9_newShip, UM, zlk fX9, zcs [(106, 4, 0, 0, zvs (UM) 9 (sX9_puts))] [])
theorem YX9_newShip_ok : zYok (YX9_newShip) := zYok_of fX9_ok (zall (zcal_mono (zcalV (Y := YX9_newShip) (y := yX9_puts) (cc := cX9_puts) (nL := 4) (ret := none) (rm := rX9_puts) (mX9_puts) 106 3 9 (T := TX9) rfl wX9_106 ⟨by decide +kernel, by decide +kernel, by decide +kernel⟩ (by decide) ⟨Nat.le_of_ble_eq_true rfl, Nat.le_of_ble_eq_true rfl⟩) (fun _ _ _ _ h => zvs_P h)) znil) znil

theorem mX9_newShip : zMet (UM) yX9_newShip cX9_newShip 6 (some .int) rX9_newShip (sX9_newShip) := by
  refine zmet (Y := YX9_newShip) rfl (by decide +kernel) ?_
  intro av F ok ex h
  unfold sX9_newShip at h
  split at h
  · rename_i a b c d
    refine zgo_ok (YX9_newShip_ok) zno kX9_newShip (List.all_eq_true.mp kX9_newShip_ok) 0 _ _ _ _ _ ?_
    obtain ⟨n, hn, h0, h⟩ := h
    unfold mNS at h
    rw [← h0] at h
    refine Exists.intro (zix (k := 2) rfl (by decide) (by decide)) ?_
    refine Exists.intro (zix (k := 2) rfl (by decide) (by decide)) ?_
    refine ⟨n, 0, h0, rfl, hn, by decide, ?_⟩
    refine ⟨n, 1, h0, rfl, hn, by decide, ?_⟩
    refine ⟨n, 2, h0, rfl, hn, by decide, ?_⟩
    refine ⟨n, 3, h0, rfl, hn, by decide, ?_⟩
    refine And.intro (fun h2 => ?_) (fun h2 => ?_)
    · rw [if_neg h2] at h
      have h3 : (zup (zup (zup (zup (zup (zup F 1 2 (F 1 2 + 1)) 1 (53 + 9 * n + 0) a) 1 (53 + 9 * n + 1) b) 1 (53 + 9 * n + 2) c) 1 (53 + 9 * n + 3) d) 1 (53 + 9 * n + 4) (0)) 1 0 = F 1 0 := by
        rw [zup_an _ _ _ (by omega), zup_an _ _ _ (by omega), zup_an _ _ _ (by omega), zup_an _ _ _ (by omega), zup_an _ _ _ (by omega), zup_an _ _ _ (by decide)]
      rw [← h3] at h
      skip
      refine ⟨n, 4, h0, rfl, hn, by decide, ?_⟩
      refine Exists.intro (zix (k := 0) rfl (by decide) (by decide)) ?_
      refine ⟨n, 5, h0, rfl, hn, by decide, ?_⟩
      refine ⟨n, 6, h0, rfl, hn, by decide, ?_⟩
      refine ⟨n, 7, h0, rfl, hn, by decide, ?_⟩
      refine ⟨n, 8, h0, rfl, hn, by decide, ?_⟩
      exact h
    · rw [if_pos h2] at h
      have h4 : (zup (zup (zup (zup (zup F 1 2 (F 1 2 + 1)) 1 (53 + 9 * n + 0) a) 1 (53 + 9 * n + 1) b) 1 (53 + 9 * n + 2) c) 1 (53 + 9 * n + 3) d) 1 1 = F 1 1 := by
        rw [zup_an _ _ _ (by omega), zup_an _ _ _ (by omega), zup_an _ _ _ (by omega), zup_an _ _ _ (by omega), zup_an _ _ _ (by decide)]
      rw [← h4] at h
      have h3 : (zup (zup (zup (zup (zup (zup F 1 2 (F 1 2 + 1)) 1 (53 + 9 * n + 0) a) 1 (53 + 9 * n + 1) b) 1 (53 + 9 * n + 2) c) 1 (53 + 9 * n + 3) d) 1 (53 + 9 * n + 4) ((zup (zup (zup (zup (zup F 1 2 (F 1 2 + 1)) 1 (53 + 9 * n + 0) a) 1 (53 + 9 * n + 1) b) 1 (53 + 9 * n + 2) c) 1 (53 + 9 * n + 3) d) 1 1 - 1)) 1 0 = F 1 0 := by
        rw [zup_an _ _ _ (by omega), zup_an _ _ _ (by omega), zup_an _ _ _ (by omega), zup_an _ _ _ (by omega), zup_an _ _ _ (by omega), zup_an _ _ _ (by decide)]
      rw [← h3] at h
      refine Exists.intro (zix (k := 1) rfl (by decide) (by decide)) ?_
      refine ⟨n, 4, h0, rfl, hn, by decide, ?_⟩
      refine Exists.intro (zix (k := 0) rfl (by decide) (by decide)) ?_
      refine ⟨n, 5, h0, rfl, hn, by decide, ?_⟩
      refine ⟨n, 6, h0, rfl, hn, by decide, ?_⟩
      refine ⟨n, 7, h0, rfl, hn, by decide, ?_⟩
      refine ⟨n, 8, h0, rfl, hn, by decide, ?_⟩
      exact h
  · exact h.elim

def kX9_changes : List zI := [
  (0, 1, .aload_n 0, [], 0),
  (1, 3, .getfield 52, [], 0),
  (4, 2, .bipush 8, [], 8),
  (6, 3, .if_icmp .ne 44, [50], 0),
  (9, 1, .iconst 0, [], 0),
  (10, 1, .istore_n 1, [], 0),
  (11, 1, .iload_n 1, [], 0),
  (12, 3, .sipush 1379, [], 1379),
  (15, 3, .if_icmp .ge 25, [40], 0),
  (18, 1, .aload_n 0, [], 0),
  (19, 3, .getfield 13, [], 0),
  (22, 1, .iload_n 1, [], 0),
  (23, 1, .aload_n 0, [], 0),
  (24, 3, .getfield 13, [], 0),
  (27, 3, .sipush 197, [], 197),
  (30, 1, .iload_n 1, [], 0),
  (31, 1, .iadd, [], 0),
  (32, 1, .iaload, [], 0),
  (33, 1, .iastore, [], 0),
  (34, 3, .iinc 1 1, [], 1),
  (37, 3, .goto (-26), [11], 0),
  (40, 1, .aload_n 0, [], 0),
  (41, 1, .dup, [], 0),
  (42, 3, .getfield 52, [], 0),
  (45, 1, .iconst 1, [], 1),
  (46, 1, .isub, [], 0),
  (47, 3, .putfield 52, [], 0),
  (50, 1, .iconst 0, [], 0),
  (51, 1, .istore_n 1, [], 0),
  (52, 1, .iload_n 1, [], 0),
  (53, 3, .sipush 197, [], 197),
  (56, 3, .if_icmp .ge 30, [86], 0),
  (59, 1, .aload_n 0, [], 0),
  (60, 3, .getfield 13, [], 0),
  (63, 3, .sipush 197, [], 197),
  (66, 1, .aload_n 0, [], 0),
  (67, 3, .getfield 52, [], 0),
  (70, 1, .imul, [], 0),
  (71, 1, .iload_n 1, [], 0),
  (72, 1, .iadd, [], 0),
  (73, 1, .aload_n 0, [], 0),
  (74, 3, .getfield 9, [], 0),
  (77, 1, .iload_n 1, [], 0),
  (78, 1, .iaload, [], 0),
  (79, 1, .iastore, [], 0),
  (80, 3, .iinc 1 1, [], 1),
  (83, 3, .goto (-31), [52], 0),
  (86, 1, .aload_n 0, [], 0),
  (87, 1, .dup, [], 0),
  (88, 3, .getfield 52, [], 0),
  (91, 1, .iconst 1, [], 1),
  (92, 1, .iadd, [], 0),
  (93, 3, .putfield 52, [], 0),
  (96, 1, .return_, [], 0)]
theorem kX9_changes_ok : kX9_changes.all (zck cX9_changes) = true := by decide +kernel

def rX9_changes : Room := { frames := 0, cells := 0, slots := 0, locals := 0 }
abbrev YX9_changes : zM := (RX9, cX9_changes, 2, none, rX9_changes, UM, zlk fX9, zcs [] [])
theorem YX9_changes_ok : zYok (YX9_changes) := zYok_of fX9_ok znil znil

theorem mPush_0 (G : zF) (u : Nat) : mPush G u 0 = G := by
  funext c i
  unfold mPush
  rw [if_neg (by omega)]
theorem mPush_ne (G : zF) (u k : Nat) {c : Nat} (h : c ≠ 2) : mPush G u k c = G c := by
  funext i
  unfold mPush
  rw [if_neg (fun h0 => h h0.1)]
theorem mPush_s (G : zF) (u k : Nat) : zup (mPush G u k) 2 (197 * u + k) (G 1 k) = mPush G u (k + 1) := by
  funext c i
  unfold zup mPush
  by_cases hc : c = 2
  · subst hc
    rw [if_pos rfl]
    by_cases hi : i = 197 * u + k
    · subst hi
      rw [if_pos rfl, if_pos ⟨rfl, by omega, by omega⟩]
      congr 1
      omega
    · rw [if_neg hi]
      by_cases h2 : 197 * u ≤ i ∧ i < 197 * u + k
      · rw [if_pos ⟨rfl, h2.1, h2.2⟩, if_pos ⟨rfl, h2.1, by omega⟩]
      · rw [if_neg (fun h0 => h2 h0.2), if_neg (fun h0 => h2 ⟨h0.2.1, by omega⟩)]
  · rw [if_neg hc, if_neg (fun h0 => hc h0.1), if_neg (fun h0 => hc h0.1)]
theorem mShift_0 (G : zF) : mShift G 0 = G := by
  funext c i
  unfold mShift
  rw [if_neg (by omega)]
theorem mShift_ne (G : zF) (k : Nat) {c : Nat} (h : c ≠ 2) : mShift G k c = G c := by
  funext i
  unfold mShift
  rw [if_neg (fun h0 => h h0.1)]
theorem mShift_s (G : zF) (k : Nat) : zup (mShift G k) 2 k (mShift G k 2 (197 + k)) = mShift G (k + 1) := by
  funext c i
  unfold zup mShift
  by_cases hc : c = 2
  · subst hc
    rw [if_pos rfl]
    by_cases hi : i = k
    · subst hi
      rw [if_pos rfl, if_neg (show ¬ (2 = 2 ∧ 197 + i < i) by omega), if_pos ⟨rfl, by omega⟩]
    · rw [if_neg hi]
      by_cases h2 : i < k
      · rw [if_pos ⟨rfl, h2⟩, if_pos ⟨rfl, by omega⟩]
      · rw [if_neg (fun h0 => h2 h0.2), if_neg (fun h0 => h2 (by omega))]
  · rw [if_neg hc, if_neg (fun h0 => hc h0.1), if_neg (fun h0 => hc h0.1)]
theorem ix_ke (u k : Nat) : 197 * nI u + nI k = nI (197 * u + k) := by
  rw [show (197 : Int32) = nI 197 from rfl, nI_mulc, nI_add]
theorem ix_sh (k : Nat) : 197 + nI k = nI (197 + k) := by
  rw [show (197 : Int32) = nI 197 from rfl, nI_add]
theorem lX9_push (ok : zO) (ex : zX) (G : zF) (u : Nat) (hu : u < 8) (h0 : G 0 3 = nI u) (h : ok none (zup (mPush G u 197) 0 3 (nI (u + 1)))) : ∀ (d k : Nat), k + d = 197 → zWP YX9_changes ok ex 52 [some (.ref 0), some (.int (nI k))] [] 0 0 (mPush G u k) := by
  intro d
  induction d with
  | zero =>
    intro k hk
    have hk : k = 197 := hk
    subst hk
    refine zat_ok YX9_changes_ok (inv := zi2 11 (fun ls st kc ks G => zWP YX9_changes ok ex 11 ls st kc ks G) 52 (fun ls st kc ks G => zWP YX9_changes ok ex 52 ls st kc ks G)) (ztwo (fun _ _ _ _ _ h => h) (fun _ _ _ _ _ h => h)) kX9_changes (List.all_eq_true.mp kX9_changes_ok) 52 _ _ _ _ _ ?_
    refine And.intro (fun _ => ?_) (fun h1 => absurd (by decide) h1)
    refine zleaf ok h rfl ?_
    show zup (mPush G u 197) 0 3 (nI (u + 1)) = zup (mPush G u 197) 0 3 (mPush G u 197 0 3 + 1)
    rw [mPush_ne G u 197 (by decide), h0, nI_1]
  | succ d ih =>
    intro k hk
    refine zat_ok YX9_changes_ok (inv := zi2 11 (fun ls st kc ks G => zWP YX9_changes ok ex 11 ls st kc ks G) 52 (fun ls st kc ks G => zWP YX9_changes ok ex 52 ls st kc ks G)) (ztwo (fun _ _ _ _ _ h => h) (fun _ _ _ _ _ h => h)) kX9_changes (List.all_eq_true.mp kX9_changes_ok) 52 _ _ _ _ _ ?_
    refine And.intro (fun h1 => absurd h1 (nI_ge (a := k) (b := 197) (by omega) (by decide))) (fun h1 => ?_)
    refine Exists.intro (zix rfl (by omega) (by decide)) ?_
    have h3 : 197 * mPush G u k 0 3 + nI k = nI (197 * u + k) := by
      rw [mPush_ne G u k (by decide), h0, ix_ke]
    refine Exists.intro (zix h3 (by omega) (by decide)) ?_
    have ih := ih (k + 1) (by omega)
    rw [← nI_1 k, ← mPush_s] at ih
    show zWP YX9_changes ok ex 52 [some (.ref 0), some (.int (nI k + 1))] [] 0 0 (zup (mPush G u k) 2 (197 * mPush G u k 0 3 + nI k).toNatClampNeg (mPush G u k 1 (nI k).toNatClampNeg))
    rw [zicl h3 (by omega), nI_clamp (by omega), mPush_ne G u k (c := 1) (by decide)]
    exact ih
theorem lX9_shift (ok : zO) (ex : zX) (G : zF) (h0 : G 0 3 = nI 8) (h : ok none (zup (mPush (zup (mShift G 1379) 0 3 7) 7 197) 0 3 8)) : ∀ (d k : Nat), k + d = 1379 → zWP YX9_changes ok ex 11 [some (.ref 0), some (.int (nI k))] [] 0 0 (mShift G k) := by
  intro d
  induction d with
  | zero =>
    intro k hk
    have hk : k = 1379 := hk
    subst hk
    refine zat_ok YX9_changes_ok (inv := zi2 11 (fun ls st kc ks G => zWP YX9_changes ok ex 11 ls st kc ks G) 52 (fun ls st kc ks G => zWP YX9_changes ok ex 52 ls st kc ks G)) (ztwo (fun _ _ _ _ _ h => h) (fun _ _ _ _ _ h => h)) kX9_changes (List.all_eq_true.mp kX9_changes_ok) 11 _ _ _ _ _ ?_
    refine And.intro (fun _ => ?_) (fun h1 => absurd (by decide) h1)
    have h5 := lX9_push ok ex (zup (mShift G 1379) 0 3 7) 7 (by decide) (zup_at _ _ _ _) h 197 0 rfl
    rw [mPush_0] at h5
    have h6 : mShift G 1379 0 3 - 1 = 7 := by
      rw [mShift_ne G 1379 (by decide), h0]
      decide
    rw [← h6] at h5
    exact h5
  | succ d ih =>
    intro k hk
    refine zat_ok YX9_changes_ok (inv := zi2 11 (fun ls st kc ks G => zWP YX9_changes ok ex 11 ls st kc ks G) 52 (fun ls st kc ks G => zWP YX9_changes ok ex 52 ls st kc ks G)) (ztwo (fun _ _ _ _ _ h => h) (fun _ _ _ _ _ h => h)) kX9_changes (List.all_eq_true.mp kX9_changes_ok) 11 _ _ _ _ _ ?_
    refine And.intro (fun h1 => absurd h1 (nI_ge (a := k) (b := 1379) (by omega) (by decide))) (fun h1 => ?_)
    refine Exists.intro (zix (ix_sh k) (by omega) (by decide)) ?_
    refine Exists.intro (zix rfl (by omega) (by decide)) ?_
    have ih := ih (k + 1) (by omega)
    rw [← nI_1 k, ← mShift_s] at ih
    show zWP YX9_changes ok ex 11 [some (.ref 0), some (.int (nI k + 1))] [] 0 0 (zup (mShift G k) 2 (nI k).toNatClampNeg (mShift G k 2 (197 + nI k).toNatClampNeg))
    rw [zicl (ix_sh k) (by omega), nI_clamp (by omega)]
    exact ih

theorem mX9_changes : zMet (UM) yX9_changes cX9_changes 2 (none) rX9_changes (sX9_changes) := by
  refine zmet (Y := YX9_changes) rfl (by decide +kernel) ?_
  intro av F ok ex h
  unfold sX9_changes at h
  split at h
  · refine zgo_ok (YX9_changes_ok) (inv := zi2 11 (fun ls st kc ks G => zWP YX9_changes ok ex 11 ls st kc ks G) 52 (fun ls st kc ks G => zWP YX9_changes ok ex 52 ls st kc ks G)) (ztwo (fun _ _ _ _ _ h => h) (fun _ _ _ _ _ h => h)) kX9_changes (List.all_eq_true.mp kX9_changes_ok) 0 _ _ _ _ _ ?_
    obtain ⟨u, hu, h0, h⟩ := h
    unfold mKeep at h
    refine And.intro (fun h1 => ?_) (fun h1 => ?_)
    · have h1 : ¬ F 0 3 = 8 := h1
      have h2 : ¬ u = 8 := fun h3 => h1 (by rw [h0, h3]; rfl)
      rw [if_neg h2] at h
      have h5 := lX9_push ok ex F u (by omega) h0 h 197 0 rfl
      rw [mPush_0] at h5
      exact h5
    · have h1 : F 0 3 = 8 := h1
      have h2 : u = 8 := by
        rw [h0] at h1
        exact (nI_eq (by omega) (by decide)).mp h1
      rw [if_pos h2] at h
      have h5 := lX9_shift ok ex F h1 h 1379 0 rfl
      rw [mShift_0] at h5
      exact h5
  · exact h.elim

end ZM1
end
section
/-! the reference's locks: filling, emptying; who was locked -/
section ZM2
set_option maxRecDepth 20000
theorem zup_id (F : zF) (j i : Nat) : zup F j i (F j i) = F := by
  funext x y
  unfold zup
  split
  · rename_i hx
    split
    · rename_i hy
      rw [hx, hy]
    · rfl
  · rfl
def mLc (F : zF) (k b : Nat) : Int32 := mLP F k 1 - mLP F k 1 / 4 * nI (mBit b)
def mFil (F : zF) (k b : Nat) : zF := zup (zup (zup (zup F 1 (10 + 3 * k + 2) (mWa F k - mLc F k b)) 1 8 (F 1 8 + mLP F k 1 / 4 * nI (mBit b))) 1 (25 + 7 * k + 3) 1) 1 (25 + 7 * k + 4) 0
def sX9_fills : zSp := fun as F ok _ => match as with
  | [.ref 0, .int x] => ∃ k b, x = nI k ∧ k < 4 ∧ b < 8 ∧ mLP F k 4 = nI b ∧ (mWa F k < mLc F k b → ok (some (.int 0)) F) ∧ (¬ mWa F k < mLc F k b → ok (some (.int 1)) (mFil F k b))
  | _ => False
def mEa : Nat → Nat → Nat → Nat → Nat × Nat
  | 0, _, m, j => (m, j)
  | d + 1, b, m, j => if m / 2 ^ b % 2 = 1 then mEa d (b + 1) m j else mEa d (b + 1) (m ||| 2 ^ b) (j + 1)
def mEmp (F : zF) (k c nb m : Nat) : zF := zup (zup (zup F 1 (25 + 7 * k + 4) (nI (2 ^ nb - 1))) 1 (10 + 3 * (k + 1) + 2) (F 1 (10 + 3 * (k + 1) + 2) + nI (c - (nb - mBit m) * (c / 4)))) 1 (25 + 7 * k + 3) 0
def sX9_empties : zSp := fun as F ok _ => match as with
  | [.ref 0, .int x] => ∃ k c nb m, x = nI k ∧ k < 4 ∧ mLP F k 1 = nI c ∧ c ≤ 60 ∧ mLP F k 2 = nI nb ∧ nb ≤ 3 ∧ mLP F k 4 = nI m ∧ m < 2 ^ nb ∧ ok none (mEmp F k c nb m)
  | _ => False
def sX9_wasLocked : zSp := fun as F ok _ => match as with
  | [.ref 0, .int h] => ∃ n, n ≤ 16 ∧ F 1 2 = nI n ∧ zbo (∃ s, s < n ∧ mOf F s 6 = h ∧ ¬ F 9 s = 0) F ok
  | _ => False

def kX9_wasLocked : List zI := [
  (0, 1, .iconst 0, [], 0),
  (1, 1, .istore_n 2, [], 0),
  (2, 1, .iload_n 2, [], 0),
  (3, 1, .aload_n 0, [], 0),
  (4, 3, .getfield 9, [], 0),
  (7, 1, .iconst 2, [], 2),
  (8, 1, .iaload, [], 0),
  (9, 3, .if_icmp .ge 31, [40], 0),
  (12, 1, .aload_n 0, [], 0),
  (13, 1, .iload_n 2, [], 0),
  (14, 2, .bipush 6, [], 6),
  (16, 3, .invokevirtual 75, [], 0),
  (19, 1, .iload_n 1, [], 0),
  (20, 3, .if_icmp .ne 14, [34], 0),
  (23, 1, .aload_n 0, [], 0),
  (24, 3, .getfield 38, [], 0),
  (27, 1, .iload_n 2, [], 0),
  (28, 1, .baload, [], 0),
  (29, 3, .ifCond .eq 5, [34], 0),
  (32, 1, .iconst 1, [], 1),
  (33, 1, .ireturn, [], 0),
  (34, 3, .iinc 2 1, [], 1),
  (37, 3, .goto (-35), [2], 0),
  (40, 1, .iconst 0, [], 0),
  (41, 1, .ireturn, [], 0)]
theorem kX9_wasLocked_ok : kX9_wasLocked.all (zck cX9_wasLocked) = true := by decide +kernel

def rX9_wasLocked : Room := { frames := 1, cells := 0, slots := 0, locals := 22 }
abbrev YX9_wasLocked : zM := (RX9, cX9_wasLocked, 3, some .boolean, rX9_wasLocked, UM, zlk fX9, zcs [(75, 3, 0, 0, zvs (UM) 9 (sX9_of))] [])
theorem YX9_wasLocked_ok : zYok (YX9_wasLocked) := zYok_of fX9_ok (zall (zcal_mono (zcalV (Y := YX9_wasLocked) (y := yX9_of) (cc := cX9_of) (nL := 3) (ret := some .int) (rm := rX9_of) (mX9_of) 75 2 9 (T := TX9) rfl wX9_75 ⟨by decide +kernel, by decide +kernel, by decide +kernel⟩ (by decide) ⟨Nat.le_of_ble_eq_true rfl, Nat.le_of_ble_eq_true rfl⟩) (fun _ _ _ _ h => zvs_P h)) znil) znil

theorem lX9_wasLocked (ok : zO) (ex : zX) (F : zF) (x : Int32) (n : Nat) (hn : n ≤ 16) (h0 : F 1 2 = nI n) (h : zbo (∃ s, s < n ∧ mOf F s 6 = x ∧ ¬ F 9 s = 0) F ok) : ∀ (d k : Nat), k + d = n → (∀ j, j < k → ¬ (mOf F j 6 = x ∧ ¬ F 9 j = 0)) → zWP YX9_wasLocked ok ex 2 [some (.ref 0), some (.int x), some (.int (nI k))] [] 0 0 F := by
  intro d
  induction d with
  | zero =>
    intro k hk hb
    have hk : k = n := hk
    subst hk
    refine zat_ok YX9_wasLocked_ok (inv := zi1 2 (fun ls st kc ks G => zWP YX9_wasLocked ok ex 2 ls st kc ks G)) (zone fun _ _ _ _ _ h => h) kX9_wasLocked (List.all_eq_true.mp kX9_wasLocked_ok) 2 _ _ _ _ _ ?_
    refine Exists.intro (zix (k := 2) rfl (by decide) (by decide)) ?_
    refine And.intro (fun _ => Exists.intro (Or.inl rfl) (h.2 fun h1 => ?_)) (fun h1 => absurd ?_ h1)
    · obtain ⟨t, ht, h2⟩ := h1
      exact hb t ht h2
    · show F 1 2 ≤ nI k
      rw [h0]
      exact nI_le (Nat.le_refl _) (by omega)
  | succ d ih =>
    intro k hk hb
    refine zat_ok YX9_wasLocked_ok (inv := zi1 2 (fun ls st kc ks G => zWP YX9_wasLocked ok ex 2 ls st kc ks G)) (zone fun _ _ _ _ _ h => h) kX9_wasLocked (List.all_eq_true.mp kX9_wasLocked_ok) 2 _ _ _ _ _ ?_
    refine Exists.intro (zix (k := 2) rfl (by decide) (by decide)) ?_
    refine And.intro (fun h1 => absurd ?_ (nI_ge (a := k) (b := n) (by omega) (by omega))) (fun h1 => ?_)
    · have h1 : F 1 2 ≤ nI k := h1
      rw [h0] at h1
      exact h1
    refine ⟨k, 6, rfl, rfl, by omega, by decide, ?_⟩
    have ih := ih (k + 1) (by omega)
    rw [← nI_1 k] at ih
    refine And.intro (fun h2 => ih fun j hj h3 => ?_) (fun h2 => ?_)
    · by_cases h4 : j = k
      · exact h2 (by rw [← h4]; exact h3.1)
      · exact hb j (by omega) h3
    · refine Exists.intro (zix rfl (by omega) (by decide)) ?_
      have h5 : (nI k).toNatClampNeg = k := nI_clamp (by omega)
      refine And.intro (fun h3 => ih fun j hj h6 => ?_) (fun h3 => Exists.intro (Or.inr rfl) (h.1 ⟨k, by omega, h2, ?_⟩))
      · have h3 : F 9 (nI k).toNatClampNeg = 0 := h3
        rw [h5] at h3
        by_cases h4 : j = k
        · exact h6.2 (by rw [h4]; exact h3)
        · exact hb j (by omega) h6
      · have h3 : ¬ F 9 (nI k).toNatClampNeg = 0 := h3
        rw [h5] at h3
        exact h3

theorem mX9_wasLocked : zMet (UM) yX9_wasLocked cX9_wasLocked 3 (some .boolean) rX9_wasLocked (sX9_wasLocked) := by
  refine zmet (Y := YX9_wasLocked) rfl (by decide +kernel) ?_
  intro av F ok ex h
  unfold sX9_wasLocked at h
  split at h
  · rename_i x
    refine zgo_ok (YX9_wasLocked_ok) (inv := zi1 2 (fun ls st kc ks G => zWP YX9_wasLocked ok ex 2 ls st kc ks G)) (zone fun _ _ _ _ _ h => h) kX9_wasLocked (List.all_eq_true.mp kX9_wasLocked_ok) 0 _ _ _ _ _ ?_
    obtain ⟨n, hn, h0, h⟩ := h
    exact lX9_wasLocked ok ex F x n hn h0 h n 0 (Nat.zero_add _) (fun j hj => absurd hj (Nat.not_lt_zero j))
  · exact h.elim

theorem ix_lp3 (k : Nat) : 25 + 7 * nI k + 3 = nI (25 + 7 * k + 3) := by
  rw [show (3 : Int32) = nI 3 from rfl, ix_lp]
theorem ix_lp4 (k : Nat) : 25 + 7 * nI k + 4 = nI (25 + 7 * k + 4) := by
  rw [show (4 : Int32) = nI 4 from rfl, ix_lp]
theorem ix_lp5 (k : Nat) : 25 + 7 * nI k + 5 = nI (25 + 7 * k + 5) := by
  rw [show (5 : Int32) = nI 5 from rfl, ix_lp]
theorem ix_lp6 (k : Nat) : 25 + 7 * nI k + 6 = nI (25 + 7 * k + 6) := by
  rw [show (6 : Int32) = nI 6 from rfl, ix_lp]
theorem ix_rs2 (k : Nat) : 10 + 3 * (nI k + 1) + 2 = nI (10 + 3 * (k + 1) + 2) := by
  rw [nI_1, ix_re2]

def kX9_fills : List zI := [
  (0, 1, .aload_n 0, [], 0),
  (1, 1, .iload_n 1, [], 0),
  (2, 1, .iconst 4, [], 4),
  (3, 3, .invokevirtual 79, [], 0),
  (6, 3, .invokestatic 85, [], 0),
  (9, 1, .istore_n 2, [], 0),
  (10, 1, .aload_n 0, [], 0),
  (11, 1, .iload_n 1, [], 0),
  (12, 1, .iload_n 2, [], 0),
  (13, 3, .invokevirtual 103, [], 0),
  (16, 1, .istore_n 3, [], 0),
  (17, 1, .aload_n 0, [], 0),
  (18, 1, .iload_n 1, [], 0),
  (19, 3, .invokevirtual 62, [], 0),
  (22, 1, .iload_n 3, [], 0),
  (23, 3, .if_icmp .ge 5, [28], 0),
  (26, 1, .iconst 0, [], 0),
  (27, 1, .ireturn, [], 0),
  (28, 1, .aload_n 0, [], 0),
  (29, 3, .getfield 9, [], 0),
  (32, 2, .bipush 10, [], 10),
  (34, 1, .iconst 3, [], 3),
  (35, 1, .iload_n 1, [], 0),
  (36, 1, .imul, [], 0),
  (37, 1, .iadd, [], 0),
  (38, 1, .iconst 2, [], 2),
  (39, 1, .iadd, [], 0),
  (40, 1, .dup2, [], 0),
  (41, 1, .iaload, [], 0),
  (42, 1, .iload_n 3, [], 0),
  (43, 1, .isub, [], 0),
  (44, 1, .iastore, [], 0),
  (45, 1, .aload_n 0, [], 0),
  (46, 3, .getfield 9, [], 0),
  (49, 2, .bipush 8, [], 8),
  (51, 1, .dup2, [], 0),
  (52, 1, .iaload, [], 0),
  (53, 1, .aload_n 0, [], 0),
  (54, 1, .iload_n 1, [], 0),
  (55, 3, .invokevirtual 82, [], 0),
  (58, 1, .iload_n 2, [], 0),
  (59, 1, .imul, [], 0),
  (60, 1, .iadd, [], 0),
  (61, 1, .iastore, [], 0),
  (62, 1, .aload_n 0, [], 0),
  (63, 3, .getfield 9, [], 0),
  (66, 2, .bipush 25, [], 25),
  (68, 2, .bipush 7, [], 7),
  (70, 1, .iload_n 1, [], 0),
  (71, 1, .imul, [], 0),
  (72, 1, .iadd, [], 0),
  (73, 1, .iconst 3, [], 3),
  (74, 1, .iadd, [], 0),
  (75, 1, .iconst 1, [], 1),
  (76, 1, .iastore, [], 0),
  (77, 1, .aload_n 0, [], 0),
  (78, 3, .getfield 9, [], 0),
  (81, 2, .bipush 25, [], 25),
  (83, 2, .bipush 7, [], 7),
  (85, 1, .iload_n 1, [], 0),
  (86, 1, .imul, [], 0),
  (87, 1, .iadd, [], 0),
  (88, 1, .iconst 4, [], 4),
  (89, 1, .iadd, [], 0),
  (90, 1, .iconst 0, [], 0),
  (91, 1, .iastore, [], 0),
  (92, 1, .iconst 1, [], 1),
  (93, 1, .ireturn, [], 0)]
theorem kX9_fills_ok : kX9_fills.all (zck cX9_fills) = true := by decide +kernel

def rX9_fills : Room := { frames := 3, cells := 0, slots := 0, locals := 65 }
abbrev YX9_fills : zM := (RX9, cX9_fills, 4, some .boolean, rX9_fills, UM, zlk fX9, zcs [(79, 3, 0, 0, zvs (UM) 9 (sX9_lockPart)), (103, 3, 0, 0, zvs (UM) 9 (sX9_lacks)), (62, 2, 0, 0, zvs (UM) 9 (sX9_water)), (82, 2, 0, 0, zvs (UM) 9 (sX9_quarter))] [(85, 1, 0, 0, sJ6_bitCount_0f7a4)])
theorem YX9_fills_ok : zYok (YX9_fills) := zYok_of fX9_ok (zall (zcal_mono (zcalV (Y := YX9_fills) (y := yX9_lockPart) (cc := cX9_lockPart) (nL := 3) (ret := some .int) (rm := rX9_lockPart) (mX9_lockPart) 79 2 9 (T := TX9) rfl wX9_79 ⟨by decide +kernel, by decide +kernel, by decide +kernel⟩ (by decide) ⟨Nat.le_of_ble_eq_true rfl, Nat.le_of_ble_eq_true rfl⟩) (fun _ _ _ _ h => zvs_P h)) (zall (zcal_mono (zcalV (Y := YX9_fills) (y := yX9_lacks) (cc := cX9_lacks) (nL := 3) (ret := some .int) (rm := rX9_lacks) (mX9_lacks) 103 2 9 (T := TX9) rfl wX9_103 ⟨by decide +kernel, by decide +kernel, by decide +kernel⟩ (by decide) ⟨Nat.le_of_ble_eq_true rfl, Nat.le_of_ble_eq_true rfl⟩) (fun _ _ _ _ h => zvs_P h)) (zall (zcal_mono (zcalV (Y := YX9_fills) (y := yX9_water) (cc := cX9_water) (nL := 2) (ret := some .int) (rm := rX9_water) (mX9_water) 62 1 9 (T := TX9) rfl wX9_62 ⟨by decide +kernel, by decide +kernel, by decide +kernel⟩ (by decide) ⟨Nat.le_of_ble_eq_true rfl, Nat.le_of_ble_eq_true rfl⟩) (fun _ _ _ _ h => zvs_P h)) (zall (zcal_mono (zcalV (Y := YX9_fills) (y := yX9_quarter) (cc := cX9_quarter) (nL := 2) (ret := some .int) (rm := rX9_quarter) (mX9_quarter) 82 1 9 (T := TX9) rfl wX9_82 ⟨by decide +kernel, by decide +kernel, by decide +kernel⟩ (by decide) ⟨Nat.le_of_ble_eq_true rfl, Nat.le_of_ble_eq_true rfl⟩) (fun _ _ _ _ h => zvs_P h)) znil)))) (zall (zcalS (Y := YX9_fills) (y := yJ6_bitCount_0f7a4) (cc := cJ6_bitCount_0f7a4) (nL := 1) (ret := some .int) (rm := rJ6_bitCount_0f7a4) (mJ6_bitCount_0f7a4) 85 1 wX9_85 ⟨by decide +kernel, by decide +kernel, by decide +kernel⟩ (by decide) ⟨Nat.le_of_ble_eq_true rfl, Nat.le_of_ble_eq_true rfl⟩) znil)

theorem mX9_fills : zMet (UM) yX9_fills cX9_fills 4 (some .boolean) rX9_fills (sX9_fills) := by
  refine zmet (Y := YX9_fills) rfl (by decide +kernel) ?_
  intro av F ok ex h
  unfold sX9_fills at h
  split at h
  · rename_i x
    refine zgo_ok (YX9_fills_ok) zno kX9_fills (List.all_eq_true.mp kX9_fills_ok) 0 _ _ _ _ _ ?_
    obtain ⟨k, b, rfl, hk, hb, h0, h1, h2⟩ := h
    refine ⟨k, 4, rfl, rfl, hk, by decide, ?_⟩
    refine ⟨b, hb, h0, ?_⟩
    refine ⟨k, rfl, hk, ?_⟩
    refine ⟨k, rfl, by omega, ?_⟩
    refine And.intro (fun h3 => ?_) (fun h3 => Exists.intro (Or.inl rfl) (h1 (Int32.not_le.mp h3)))
    have h2 := h2 (Int32.not_lt.mpr h3)
    refine Exists.intro (zix (ix_re2 k) (by omega) (by decide)) ?_
    refine Exists.intro (zix (ix_re2 k) (by omega) (by decide)) ?_
    refine Exists.intro (zix (k := 8) rfl (by decide) (by decide)) ?_
    refine ⟨k, rfl, hk, ?_⟩
    refine Exists.intro (zix (k := 8) rfl (by decide) (by decide)) ?_
    refine Exists.intro (zix (ix_lp3 k) (by omega) (by decide)) ?_
    refine Exists.intro (zix (ix_lp4 k) (by omega) (by decide)) ?_
    refine Exists.intro (Or.inr rfl) ?_
    refine zleaf ok h2 rfl ?_
    have h5 : (10 + 3 * nI k + 2).toNatClampNeg = 10 + 3 * k + 2 := zicl (ix_re2 k) (by omega)
    have h6 : (25 + 7 * nI k + 3).toNatClampNeg = 25 + 7 * k + 3 := zicl (ix_lp3 k) (by omega)
    have h7 : (25 + 7 * nI k + 4).toNatClampNeg = 25 + 7 * k + 4 := zicl (ix_lp4 k) (by omega)
    have h8 : mFil F k b = zup (zup (zup (zup F 1 (10 + 3 * k + 2) (F 1 (10 + 3 * k + 2) - mLc F k b)) 1 8 (zup F 1 (10 + 3 * k + 2) (F 1 (10 + 3 * k + 2) - mLc F k b) 1 8 + mLP (zup F 1 (10 + 3 * k + 2) (F 1 (10 + 3 * k + 2) - mLc F k b)) k 1 / 4 * nI (mBit b))) 1 (25 + 7 * k + 3) 1) 1 (25 + 7 * k + 4) 0 := by
      have h9 : mLP (zup F 1 (10 + 3 * k + 2) (F 1 (10 + 3 * k + 2) - mLc F k b)) k 1 = mLP F k 1 := by
        unfold mLP
        rw [zup_an _ _ _ (by omega)]
      rw [h9, zup_an _ _ _ (by omega)]
      rfl
    rw [h8]
    show _ = zup (zup (zup (zup F 1 (10 + 3 * nI k + 2).toNatClampNeg (F 1 (10 + 3 * nI k + 2).toNatClampNeg - mLc F k b)) 1 8 (zup F 1 (10 + 3 * nI k + 2).toNatClampNeg (F 1 (10 + 3 * nI k + 2).toNatClampNeg - mLc F k b) 1 8 + mLP (zup F 1 (10 + 3 * nI k + 2).toNatClampNeg (F 1 (10 + 3 * nI k + 2).toNatClampNeg - mLc F k b)) k 1 / 4 * nI (mBit b))) 1 (25 + 7 * nI k + 3).toNatClampNeg 1) 1 (25 + 7 * nI k + 4).toNatClampNeg 0
    rw [h5, h6, h7]
  · exact h.elim

theorem mB_bit : ∀ b, b < 3 → ∀ m, m < 8 → (((nI m >>> (nI b &&& 31)) &&& 1 = 1) ↔ m / 2 ^ b % 2 = 1) := by decide +kernel
theorem mB_or : ∀ b, b < 3 → ∀ m, m < 8 → (nI m ||| ((1 : Int32) <<< (nI b &&& 31))) = nI (m ||| 2 ^ b) ∧ m ||| 2 ^ b < 8 := by decide +kernel
theorem mB_fin : ∀ nb, nb < 4 → ∀ m, m < 2 ^ nb → mEa nb 0 m 0 = (2 ^ nb - 1, nb - mBit m) := by decide +kernel
theorem nI_div4 (c : Nat) (h : c ≤ 60) : nI c / 4 = nI (c / 4) := by
  have h1 : ∀ c, c < 61 → nI c / 4 = nI (c / 4) := by decide +kernel
  exact h1 c (by omega)
theorem nI_subc {a b : Nat} (h : b ≤ a) : nI a - nI b = nI (a - b) := by
  have h1 : nI (a - b) + nI b = nI a := by rw [nI_add, Nat.sub_add_cancel h]
  rw [← h1, Int32.add_sub_cancel]

def kX9_empties : List zI := [
  (0, 1, .aload_n 0, [], 0),
  (1, 1, .iload_n 1, [], 0),
  (2, 1, .iconst 1, [], 1),
  (3, 3, .invokevirtual 79, [], 0),
  (6, 1, .istore_n 2, [], 0),
  (7, 1, .iconst 0, [], 0),
  (8, 1, .istore_n 3, [], 0),
  (9, 1, .iload_n 3, [], 0),
  (10, 1, .aload_n 0, [], 0),
  (11, 1, .iload_n 1, [], 0),
  (12, 1, .iconst 2, [], 2),
  (13, 3, .invokevirtual 79, [], 0),
  (16, 3, .if_icmp .ge 63, [79], 0),
  (19, 1, .aload_n 0, [], 0),
  (20, 1, .iload_n 1, [], 0),
  (21, 1, .iconst 4, [], 4),
  (22, 3, .invokevirtual 79, [], 0),
  (25, 1, .iload_n 3, [], 0),
  (26, 1, .ishr, [], 0),
  (27, 1, .iconst 1, [], 1),
  (28, 1, .iand, [], 0),
  (29, 1, .iconst 1, [], 1),
  (30, 3, .if_icmp .eq 43, [73], 0),
  (33, 1, .iload_n 2, [], 0),
  (34, 1, .aload_n 0, [], 0),
  (35, 1, .iload_n 1, [], 0),
  (36, 3, .invokevirtual 82, [], 0),
  (39, 3, .if_icmp .ge 6, [45], 0),
  (42, 3, .goto 31, [73], 0),
  (45, 1, .aload_n 0, [], 0),
  (46, 3, .getfield 9, [], 0),
  (49, 2, .bipush 25, [], 25),
  (51, 2, .bipush 7, [], 7),
  (53, 1, .iload_n 1, [], 0),
  (54, 1, .imul, [], 0),
  (55, 1, .iadd, [], 0),
  (56, 1, .iconst 4, [], 4),
  (57, 1, .iadd, [], 0),
  (58, 1, .dup2, [], 0),
  (59, 1, .iaload, [], 0),
  (60, 1, .iconst 1, [], 1),
  (61, 1, .iload_n 3, [], 0),
  (62, 1, .ishl, [], 0),
  (63, 1, .ior, [], 0),
  (64, 1, .iastore, [], 0),
  (65, 1, .iload_n 2, [], 0),
  (66, 1, .aload_n 0, [], 0),
  (67, 1, .iload_n 1, [], 0),
  (68, 3, .invokevirtual 82, [], 0),
  (71, 1, .isub, [], 0),
  (72, 1, .istore_n 2, [], 0),
  (73, 3, .iinc 3 1, [], 1),
  (76, 3, .goto (-67), [9], 0),
  (79, 1, .aload_n 0, [], 0),
  (80, 3, .getfield 9, [], 0),
  (83, 2, .bipush 10, [], 10),
  (85, 1, .iconst 3, [], 3),
  (86, 1, .iload_n 1, [], 0),
  (87, 1, .iconst 1, [], 1),
  (88, 1, .iadd, [], 0),
  (89, 1, .imul, [], 0),
  (90, 1, .iadd, [], 0),
  (91, 1, .iconst 2, [], 2),
  (92, 1, .iadd, [], 0),
  (93, 1, .dup2, [], 0),
  (94, 1, .iaload, [], 0),
  (95, 1, .iload_n 2, [], 0),
  (96, 1, .iadd, [], 0),
  (97, 1, .iastore, [], 0),
  (98, 1, .aload_n 0, [], 0),
  (99, 3, .getfield 9, [], 0),
  (102, 2, .bipush 25, [], 25),
  (104, 2, .bipush 7, [], 7),
  (106, 1, .iload_n 1, [], 0),
  (107, 1, .imul, [], 0),
  (108, 1, .iadd, [], 0),
  (109, 1, .iconst 3, [], 3),
  (110, 1, .iadd, [], 0),
  (111, 1, .iconst 0, [], 0),
  (112, 1, .iastore, [], 0),
  (113, 1, .return_, [], 0)]
theorem kX9_empties_ok : kX9_empties.all (zck cX9_empties) = true := by decide +kernel

def rX9_empties : Room := { frames := 2, cells := 0, slots := 0, locals := 43 }
abbrev YX9_empties : zM := (RX9, cX9_empties, 4, none, rX9_empties, UM, zlk fX9, zcs [(79, 3, 0, 0, zvs (UM) 9 (sX9_lockPart)), (82, 2, 0, 0, zvs (UM) 9 (sX9_quarter))] [])
theorem YX9_empties_ok : zYok (YX9_empties) := zYok_of fX9_ok (zall (zcal_mono (zcalV (Y := YX9_empties) (y := yX9_lockPart) (cc := cX9_lockPart) (nL := 3) (ret := some .int) (rm := rX9_lockPart) (mX9_lockPart) 79 2 9 (T := TX9) rfl wX9_79 ⟨by decide +kernel, by decide +kernel, by decide +kernel⟩ (by decide) ⟨Nat.le_of_ble_eq_true rfl, Nat.le_of_ble_eq_true rfl⟩) (fun _ _ _ _ h => zvs_P h)) (zall (zcal_mono (zcalV (Y := YX9_empties) (y := yX9_quarter) (cc := cX9_quarter) (nL := 2) (ret := some .int) (rm := rX9_quarter) (mX9_quarter) 82 1 9 (T := TX9) rfl wX9_82 ⟨by decide +kernel, by decide +kernel, by decide +kernel⟩ (by decide) ⟨Nat.le_of_ble_eq_true rfl, Nat.le_of_ble_eq_true rfl⟩) (fun _ _ _ _ h => zvs_P h)) znil)) znil

theorem mLP_z (F : zF) (k w : Nat) (v : Int32) (hk : k < 4) (h : w < 4) : mLP (zup F 1 (25 + 7 * k + 4) v) k w = mLP F k w := by
  unfold mLP
  rw [zup_an _ _ _ (by omega)]
theorem mLP_4 (F : zF) (k : Nat) (v : Int32) : mLP (zup F 1 (25 + 7 * k + 4) v) k 4 = v := by
  unfold mLP
  rw [zup_at]
theorem lX9_empties (ok : zO) (ex : zX) (F : zF) (k c nb : Nat) (hk : k < 4) (hc : mLP F k 1 = nI c) (h60 : c ≤ 60) (hb : mLP F k 2 = nI nb) (h3 : nb ≤ 3) :
    ∀ (d b m j : Nat), b + d = nb → m < 8 → j ≤ b → ok none (zup (zup (zup F 1 (25 + 7 * k + 4) (nI (mEa d b m j).1)) 1 (10 + 3 * (k + 1) + 2) (F 1 (10 + 3 * (k + 1) + 2) + nI (c - (mEa d b m j).2 * (c / 4)))) 1 (25 + 7 * k + 3) 0) →
    zWP YX9_empties ok ex 9 [some (.ref 0), some (.int (nI k)), some (.int (nI (c - j * (c / 4)))), some (.int (nI b))] [] 0 0 (zup F 1 (25 + 7 * k + 4) (nI m)) := by
  intro d
  induction d with
  | zero =>
    intro b m j hd hm hj h
    have hd : b = nb := hd
    subst hd
    refine zat_ok YX9_empties_ok (inv := zi1 9 (fun ls st kc ks G => zWP YX9_empties ok ex 9 ls st kc ks G)) (zone fun _ _ _ _ _ h => h) kX9_empties (List.all_eq_true.mp kX9_empties_ok) 9 _ _ _ _ _ ?_
    refine ⟨k, 2, rfl, rfl, hk, by decide, ?_⟩
    refine And.intro (fun _ => ?_) (fun h1 => absurd ?_ h1)
    · refine Exists.intro (zix (ix_rs2 k) (by omega) (by decide)) ?_
      refine Exists.intro (zix (ix_rs2 k) (by omega) (by decide)) ?_
      refine Exists.intro (zix (ix_lp3 k) (by omega) (by decide)) ?_
      refine zleaf ok h rfl ?_
      have h5 : (10 + 3 * (nI k + 1) + 2).toNatClampNeg = 10 + 3 * (k + 1) + 2 := zicl (ix_rs2 k) (by omega)
      have h6 : (25 + 7 * nI k + 3).toNatClampNeg = 25 + 7 * k + 3 := zicl (ix_lp3 k) (by omega)
      show _ = zup (zup (zup F 1 (25 + 7 * k + 4) (nI m)) 1 (10 + 3 * (nI k + 1) + 2).toNatClampNeg (zup F 1 (25 + 7 * k + 4) (nI m) 1 (10 + 3 * (nI k + 1) + 2).toNatClampNeg + nI (c - j * (c / 4)))) 1 (25 + 7 * nI k + 3).toNatClampNeg 0
      rw [h5, h6, zup_an _ _ _ (show 10 + 3 * (k + 1) + 2 ≠ 25 + 7 * k + 4 by omega)]
      rfl
    · show mLP (zup F 1 (25 + 7 * k + 4) (nI m)) k 2 ≤ nI b
      rw [mLP_z F k 2 _ hk (by decide), hb]
      exact nI_le (Nat.le_refl _) (by omega)
  | succ d ih =>
    intro b m j hd hm hj h
    refine zat_ok YX9_empties_ok (inv := zi1 9 (fun ls st kc ks G => zWP YX9_empties ok ex 9 ls st kc ks G)) (zone fun _ _ _ _ _ h => h) kX9_empties (List.all_eq_true.mp kX9_empties_ok) 9 _ _ _ _ _ ?_
    refine ⟨k, 2, rfl, rfl, hk, by decide, ?_⟩
    refine And.intro (fun h1 => absurd ?_ (nI_ge (a := b) (b := nb) (by omega) (by omega))) (fun h1 => ?_)
    · have h1 : mLP (zup F 1 (25 + 7 * k + 4) (nI m)) k 2 ≤ nI b := h1
      rw [mLP_z F k 2 _ hk (by decide), hb] at h1
      exact h1
    refine ⟨k, 4, rfl, rfl, hk, by decide, ?_⟩
    have h5 := mB_bit b (by omega) m hm
    refine And.intro (fun h2 => ?_) (fun h2 => ?_)
    · have h2 : (mLP (zup F 1 (25 + 7 * k + 4) (nI m)) k 4 >>> (nI b &&& 31)) &&& 1 = 1 := h2
      rw [mLP_4] at h2
      have h6 : mEa (d + 1) b m j = mEa d (b + 1) m j := if_pos (h5.mp h2)
      rw [h6] at h
      have ih := ih (b + 1) m j (by omega) hm (by omega) h
      rw [← nI_1 b] at ih
      exact ih
    · have h2 : ¬ (mLP (zup F 1 (25 + 7 * k + 4) (nI m)) k 4 >>> (nI b &&& 31)) &&& 1 = 1 := h2
      rw [mLP_4] at h2
      have h6 : mEa (d + 1) b m j = mEa d (b + 1) (m ||| 2 ^ b) (j + 1) := if_neg (fun h7 => h2 (h5.mpr h7))
      rw [h6] at h
      have h8 := mB_or b (by omega) m hm
      have h10 : mLP (zup F 1 (25 + 7 * k + 4) (nI m)) k 1 / 4 = nI (c / 4) := by
        rw [mLP_z F k 1 _ hk (by decide), hc, nI_div4 c h60]
      have h11 : j * (c / 4) ≤ 2 * (c / 4) := Nat.mul_le_mul_right _ (by omega)
      have ih := ih (b + 1) (m ||| 2 ^ b) (j + 1) (by omega) h8.2 (by omega) h
      refine ⟨k, rfl, hk, ?_⟩
      refine And.intro (fun h9 => ?_) (fun h9 => absurd ?_ h9)
      · refine Exists.intro (zix (ix_lp4 k) (by omega) (by decide)) ?_
        refine Exists.intro (zix (ix_lp4 k) (by omega) (by decide)) ?_
        refine ⟨k, rfl, hk, ?_⟩
        have h12 : (25 + 7 * nI k + 4).toNatClampNeg = 25 + 7 * k + 4 := zicl (ix_lp4 k) (by omega)
        show zWP YX9_empties ok ex 9 [some (.ref 0), some (.int (nI k)), some (.int (nI (c - j * (c / 4)) - mLP (zup (zup F 1 (25 + 7 * k + 4) (nI m)) 1 (25 + 7 * nI k + 4).toNatClampNeg (zup F 1 (25 + 7 * k + 4) (nI m) 1 (25 + 7 * nI k + 4).toNatClampNeg ||| (1 <<< (nI b &&& 31)))) k 1 / 4)), some (.int (nI b + 1))] [] 0 0 (zup (zup F 1 (25 + 7 * k + 4) (nI m)) 1 (25 + 7 * nI k + 4).toNatClampNeg (zup F 1 (25 + 7 * k + 4) (nI m) 1 (25 + 7 * nI k + 4).toNatClampNeg ||| (1 <<< (nI b &&& 31))))
        rw [h12, zup_zup, zup_at, h8.1, mLP_z F k 1 _ hk (by decide), hc, nI_div4 c h60, nI_subc (by omega), nI_1, show c - j * (c / 4) - c / 4 = c - (j + 1) * (c / 4) by rw [Nat.add_mul]; omega]
        exact ih
      · show mLP (zup F 1 (25 + 7 * k + 4) (nI m)) k 1 / 4 ≤ nI (c - j * (c / 4))
        rw [h10]
        exact nI_le (by omega) (by omega)

theorem mX9_empties : zMet (UM) yX9_empties cX9_empties 4 (none) rX9_empties (sX9_empties) := by
  refine zmet (Y := YX9_empties) rfl (by decide +kernel) ?_
  intro av F ok ex h
  unfold sX9_empties at h
  split at h
  · rename_i x
    refine zgo_ok (YX9_empties_ok) (inv := zi1 9 (fun ls st kc ks G => zWP YX9_empties ok ex 9 ls st kc ks G)) (zone fun _ _ _ _ _ h => h) kX9_empties (List.all_eq_true.mp kX9_empties_ok) 0 _ _ _ _ _ ?_
    obtain ⟨k, c, nb, m, rfl, hk, hc, h60, hb, h3, hm, h4, h⟩ := h
    refine ⟨k, 1, rfl, rfl, hk, by decide, ?_⟩
    have h8 : m < 8 := Nat.lt_of_lt_of_le h4 (Nat.pow_le_pow_right (n := 2) (by decide) h3)
    have h5 := lX9_empties ok ex F k c nb hk hc h60 hb h3 nb 0 m 0 (Nat.zero_add _) h8 (Nat.le_refl _)
    rw [mB_fin nb (by omega) m h4] at h5
    have h5 := h5 h
    have h6 : zup F 1 (25 + 7 * k + 4) (nI m) = F := by
      rw [← hm]
      exact zup_id F 1 (25 + 7 * k + 4)
    rw [h6, Nat.zero_mul, Nat.sub_zero, ← hc] at h5
    exact h5
  · exact h.elim

end ZM2
end
section
/-! the reference's convoys as lists; the row that would go; the rules -/
section ZM3
set_option maxRecDepth 20000
/-- the ships of the convoy with head h, in their order -/
def mCv (F : zF) (n h : Nat) (L : List Nat) : Prop := L.Nodup ∧ (∀ s, s < n → (mOf F s 6 = nI h ↔ s ∈ L)) ∧ ∀ i x, L[i]? = some x → x < n ∧ mOf F x 7 = nI i
theorem mSz_len (F : zF) (h : Int32) : ∀ (n : Nat) (L : List Nat), L.Nodup → (∀ s, s < n → (mOf F s 6 = h ↔ s ∈ L)) → (∀ x, x ∈ L → x < n) → mSz F h n = L.length
  | 0, L, _, _, h3 => by
    cases L with
    | nil => rfl
    | cons x t => exact absurd (h3 x List.mem_cons_self) (Nat.not_lt_zero x)
  | n + 1, L, h1, h2, h3 => by
    have ih := mSz_len F h n (L.erase n) (h1.erase n) (fun s hs => by rw [h2 s (by omega), h1.mem_erase_iff]; exact ⟨fun h4 => ⟨by omega, h4⟩, fun h4 => h4.2⟩) (fun x hx => by
      have h4 := h1.mem_erase_iff.mp hx
      have h5 := h3 x h4.2
      omega)
    show mSz F h n + (if mOf F n 6 = h then 1 else 0) = L.length
    rw [ih]
    by_cases h4 : n ∈ L
    · rw [if_pos ((h2 n (by omega)).mpr h4), List.length_erase_of_mem h4]
      have h5 := List.length_pos_of_mem h4
      omega
    · rw [if_neg (fun h5 => h4 ((h2 n (by omega)).mp h5)), List.erase_of_not_mem h4, Nat.add_zero]
theorem mCv_lt {F : zF} {n h : Nat} {L : List Nat} (c : mCv F n h L) : ∀ x, x ∈ L → x < n := by
  intro x hx
  obtain ⟨i, hi⟩ := List.mem_iff_getElem?.mp hx
  exact (c.2.2 i x hi).1
theorem mCv_sz {F : zF} {n h : Nat} {L : List Nat} (c : mCv F n h L) : mSz F (nI h) n = L.length := mSz_len F (nI h) n L c.1 c.2.1 (mCv_lt c)
theorem mCv_16 {F : zF} {n h : Nat} {L : List Nat} (c : mCv F n h L) (hn : n ≤ 16) : L.length ≤ 16 := by
  have h1 := mSz_le F (nI h) n
  rw [mCv_sz c] at h1
  omega
theorem mSz_c {F G : zF} (e : G 1 = F 1) (h : Int32) : ∀ n, mSz G h n = mSz F h n
  | 0 => rfl
  | n + 1 => by
    have h1 : mOf G n 6 = mOf F n 6 := by unfold mOf; rw [e]
    show mSz G h n + (if mOf G n 6 = h then 1 else 0) = mSz F h n + (if mOf F n 6 = h then 1 else 0)
    rw [mSz_c e h n, h1]
/-- a row of ships in cell c, its length at i0 of the object -/
def zls (c i0 : Nat) (F : zF) (L : List Nat) : zF := fun a b => if a = c ∧ b < L.length then nI (L.getD b 0) else if a = 0 ∧ b = i0 then nI L.length else F a b
theorem zls_nil (c i0 : Nat) (F : zF) : zup F 0 i0 0 = zls c i0 F [] := by
  funext a b
  unfold zup zls
  rw [if_neg (show ¬ (a = c ∧ b < [].length) from fun h => absurd h.2 (Nat.not_lt_zero b))]
  by_cases h : a = 0
  · by_cases h2 : b = i0
    · rw [if_pos h, if_pos h2, if_pos ⟨h, h2⟩]
      rfl
    · rw [if_pos h, if_neg h2, if_neg (fun h3 => h2 h3.2)]
  · rw [if_neg h, if_neg (fun h3 => h h3.1)]
theorem zls_push (c i0 : Nat) (hc : c ≠ 0) (F : zF) (L : List Nat) (s : Nat) : zup (zup (zls c i0 F L) 0 i0 (nI (L.length + 1))) c L.length (nI s) = zls c i0 F (L ++ [s]) := by
  funext a b
  unfold zup zls
  rw [List.length_append, List.length_singleton]
  by_cases h : a = c
  · subst h
    rw [if_pos rfl]
    by_cases h2 : b = L.length
    · subst h2
      rw [if_pos rfl, if_pos ⟨rfl, by omega⟩]
      simp
    · rw [if_neg h2, if_neg hc]
      by_cases h3 : b < L.length
      · rw [if_pos ⟨rfl, h3⟩, if_pos ⟨rfl, by omega⟩]
        simp [List.getElem?_append_left h3]
      · rw [if_neg (fun h4 => h3 h4.2), if_neg (fun h4 => hc h4.1), if_neg (fun h4 => h3 (by omega)), if_neg (fun h4 => hc h4.1)]
  · rw [if_neg h]
    by_cases h2 : a = 0
    · by_cases h3 : b = i0
      · rw [if_pos h2, if_pos h3, if_neg (fun h4 => h h4.1), if_pos ⟨h2, h3⟩]
      · rw [if_pos h2, if_neg h3, if_neg (fun h4 => h h4.1), if_neg (fun h4 => h3 h4.2), if_neg (fun h4 => h h4.1), if_neg (fun h4 => h3 h4.2)]
    · rw [if_neg h2, if_neg (fun h4 => h h4.1), if_neg (fun h4 => h2 h4.1), if_neg (fun h4 => h h4.1), if_neg (fun h4 => h2 h4.1)]
def mRw (F : zF) (len : Int32) : List Nat → Int32 → List Nat
  | [], _ => []
  | s :: t, a => if a + mOf F s 0 ≤ len then s :: mRw F len t (a + mOf F s 0) else []
def mRow (F : zF) (k : Nat) (L : List Nat) : List Nat := mRw F (mLP F k 0) L 0
def sX9_rows : zSp := fun as F ok _ => match as with
  | [.ref 0, .int x] => ∃ h n k L, x = nI h ∧ h < 16 ∧ n ≤ 16 ∧ k < 4 ∧ F 1 2 = nI n ∧ mCv F n h L ∧ mLk F h = nI k ∧ ok none (zls 8 16 F (mRow F k L))
  | _ => False
def mRf (F : zF) (h k : Nat) (a z : Int32) : Int32 := if mDry F k = 1 ∧ 2 * a < mLP F k 0 ∧ mWd F h < F 1 4 then 3 else if mDry F k = 2 ∧ z = 0 then 3 else 0
def mRl (F : zF) (h k : Nat) (low : Int32) : List Nat → Int32 → Int32 → Int32
  | [], a, z => mRf F h k a z
  | s :: t, a, z => if low < mOf F s 1 then 2 else mRl F h k low t (a + mOf F s 0) (if mOf F s 2 < 3 then 0 else z)
def mRu (F : zF) (h k r t : Nat) (L : List Nat) : Int32 := match mRow F k L with
  | [] => 1
  | s :: u => mRl F h k (imin (mLev F r) (mLev F t)) (s :: u) 0 1
def sX9_rules : zSp := fun as F ok _ => match as with
  | [.ref 0, .int x] => ∃ h n k r t L, x = nI h ∧ h < 16 ∧ n ≤ 16 ∧ k < 4 ∧ F 1 2 = nI n ∧ mCv F n h L ∧ mLk F h = nI k ∧ mOf F h 4 = nI r ∧ r < 5 ∧ mNx F h = nI t ∧ t < 5 ∧ (∀ j, j < 5 → j = r ∨ j = t ∨ j = k → ¬ F 1 (10 + 3 * j) = 0) ∧ ok (some (.int (mRu F h k r t L))) (zls 8 16 F (mRow F k L))
  | _ => False
theorem mRw_sub (F : zF) (len : Int32) : ∀ (L : List Nat) (a : Int32), ∀ x, x ∈ mRw F len L a → x ∈ L
  | [], _, x, h => h
  | s :: t, a, x, h => by
    unfold mRw at h
    split at h
    · rcases List.mem_cons.mp h with h1 | h1
      · rw [h1]
        exact List.mem_cons_self
      · exact List.mem_cons_of_mem _ (mRw_sub F len t _ x h1)
    · cases h
theorem mRw_len (F : zF) (len : Int32) : ∀ (L : List Nat) (a : Int32), (mRw F len L a).length ≤ L.length
  | [], _ => Nat.le_refl _
  | s :: t, a => by
    unfold mRw
    split
    · have h1 := mRw_len F len t (a + mOf F s 0)
      simp only [List.length_cons]
      omega
    · exact Nat.zero_le _

def kX9_rows : List zI := [
  (0, 1, .aload_n 0, [], 0),
  (1, 1, .iconst 0, [], 0),
  (2, 3, .putfield 159, [], 0),
  (5, 1, .iconst 0, [], 0),
  (6, 1, .istore_n 2, [], 0),
  (7, 1, .aload_n 0, [], 0),
  (8, 1, .iload_n 1, [], 0),
  (9, 3, .invokevirtual 139, [], 0),
  (12, 1, .istore_n 3, [], 0),
  (13, 1, .iconst 1, [], 1),
  (14, 2, .istore 4, [], 0),
  (16, 1, .iconst 0, [], 0),
  (17, 2, .istore 5, [], 0),
  (19, 2, .iload 5, [], 0),
  (21, 1, .iload_n 3, [], 0),
  (22, 3, .if_icmp .ge 77, [99], 0),
  (25, 2, .iload 4, [], 0),
  (27, 3, .ifCond .eq 72, [99], 0),
  (30, 1, .aload_n 0, [], 0),
  (31, 1, .iload_n 1, [], 0),
  (32, 2, .iload 5, [], 0),
  (34, 3, .invokevirtual 142, [], 0),
  (37, 2, .istore 6, [], 0),
  (39, 1, .iload_n 2, [], 0),
  (40, 1, .aload_n 0, [], 0),
  (41, 2, .iload 6, [], 0),
  (43, 1, .iconst 0, [], 0),
  (44, 3, .invokevirtual 75, [], 0),
  (47, 1, .iadd, [], 0),
  (48, 1, .istore_n 2, [], 0),
  (49, 1, .iload_n 2, [], 0),
  (50, 1, .aload_n 0, [], 0),
  (51, 1, .aload_n 0, [], 0),
  (52, 1, .iload_n 1, [], 0),
  (53, 3, .invokevirtual 136, [], 0),
  (56, 1, .iconst 0, [], 0),
  (57, 3, .invokevirtual 79, [], 0),
  (60, 3, .if_icmp .gt 7, [67], 0),
  (63, 1, .iconst 1, [], 1),
  (64, 3, .goto 4, [68], 0),
  (67, 1, .iconst 0, [], 0),
  (68, 2, .istore 4, [], 0),
  (70, 2, .iload 4, [], 0),
  (72, 3, .ifCond .eq 21, [93], 0),
  (75, 1, .aload_n 0, [], 0),
  (76, 3, .getfield 35, [], 0),
  (79, 1, .aload_n 0, [], 0),
  (80, 1, .dup, [], 0),
  (81, 3, .getfield 159, [], 0),
  (84, 1, .dup_x1, [], 0),
  (85, 1, .iconst 1, [], 1),
  (86, 1, .iadd, [], 0),
  (87, 3, .putfield 159, [], 0),
  (90, 2, .iload 6, [], 0),
  (92, 1, .iastore, [], 0),
  (93, 3, .iinc 5 1, [], 1),
  (96, 3, .goto (-77), [19], 0),
  (99, 1, .return_, [], 0)]
theorem kX9_rows_ok : kX9_rows.all (zck cX9_rows) = true := by decide +kernel

def rX9_rows : Room := { frames := 2, cells := 0, slots := 0, locals := 45 }
abbrev YX9_rows : zM := (RX9, cX9_rows, 7, none, rX9_rows, UM, zlk fX9, zcs [(139, 2, 0, 0, zvs (UM) 9 (sX9_sizeOf)), (142, 3, 0, 0, zvs (UM) 9 (sX9_shipIn)), (75, 3, 0, 0, zvs (UM) 9 (sX9_of)), (136, 2, 0, 0, zvs (UM) 9 (sX9_lockOf)), (79, 3, 0, 0, zvs (UM) 9 (sX9_lockPart))] [])
theorem YX9_rows_ok : zYok (YX9_rows) := zYok_of fX9_ok (zall (zcal_mono (zcalV (Y := YX9_rows) (y := yX9_sizeOf) (cc := cX9_sizeOf) (nL := 4) (ret := some .int) (rm := rX9_sizeOf) (mX9_sizeOf) 139 1 9 (T := TX9) rfl wX9_139 ⟨by decide +kernel, by decide +kernel, by decide +kernel⟩ (by decide) ⟨Nat.le_of_ble_eq_true rfl, Nat.le_of_ble_eq_true rfl⟩) (fun _ _ _ _ h => zvs_P h)) (zall (zcal_mono (zcalV (Y := YX9_rows) (y := yX9_shipIn) (cc := cX9_shipIn) (nL := 4) (ret := some .int) (rm := rX9_shipIn) (mX9_shipIn) 142 2 9 (T := TX9) rfl wX9_142 ⟨by decide +kernel, by decide +kernel, by decide +kernel⟩ (by decide) ⟨Nat.le_of_ble_eq_true rfl, Nat.le_of_ble_eq_true rfl⟩) (fun _ _ _ _ h => zvs_P h)) (zall (zcal_mono (zcalV (Y := YX9_rows) (y := yX9_of) (cc := cX9_of) (nL := 3) (ret := some .int) (rm := rX9_of) (mX9_of) 75 2 9 (T := TX9) rfl wX9_75 ⟨by decide +kernel, by decide +kernel, by decide +kernel⟩ (by decide) ⟨Nat.le_of_ble_eq_true rfl, Nat.le_of_ble_eq_true rfl⟩) (fun _ _ _ _ h => zvs_P h)) (zall (zcal_mono (zcalV (Y := YX9_rows) (y := yX9_lockOf) (cc := cX9_lockOf) (nL := 2) (ret := some .int) (rm := rX9_lockOf) (mX9_lockOf) 136 1 9 (T := TX9) rfl wX9_136 ⟨by decide +kernel, by decide +kernel, by decide +kernel⟩ (by decide) ⟨Nat.le_of_ble_eq_true rfl, Nat.le_of_ble_eq_true rfl⟩) (fun _ _ _ _ h => zvs_P h)) (zall (zcal_mono (zcalV (Y := YX9_rows) (y := yX9_lockPart) (cc := cX9_lockPart) (nL := 3) (ret := some .int) (rm := rX9_lockPart) (mX9_lockPart) 79 2 9 (T := TX9) rfl wX9_79 ⟨by decide +kernel, by decide +kernel, by decide +kernel⟩ (by decide) ⟨Nat.le_of_ble_eq_true rfl, Nat.le_of_ble_eq_true rfl⟩) (fun _ _ _ _ h => zvs_P h)) znil))))) znil

theorem lX9_rows0 (ok : zO) (ex : zX) (G : zF) (h : ok none G) (x a m p : Int32) (w : Option Value) : zWP YX9_rows ok ex 19 [some (.ref 0), some (.int x), some (.int a), some (.int m), some (.int 0), some (.int p), w] [] 0 0 G := by
  refine zat_ok YX9_rows_ok (inv := zi1 19 (fun ls st kc ks G => zWP YX9_rows ok ex 19 ls st kc ks G)) (zone fun _ _ _ _ _ h => h) kX9_rows (List.all_eq_true.mp kX9_rows_ok) 19 _ _ _ _ _ ?_
  exact And.intro (fun _ => h) (fun _ => zjeq0 h)
theorem lX9_rows (ok : zO) (ex : zX) (F : zF) (t n k : Nat) (L : List Nat) (ht : t < 16) (hn : n ≤ 16) (hk : k < 4) (h0 : F 1 2 = nI n) (c : mCv F n t L) (h1 : mLk F t = nI k) : ∀ (rest pre : List Nat) (a : Int32) (w : Option Value), L = pre ++ rest → ok none (zls 8 16 F (pre ++ mRw F (mLP F k 0) rest a)) → zWP YX9_rows ok ex 19 [some (.ref 0), some (.int (nI t)), some (.int a), some (.int (nI L.length)), some (.int 1), some (.int (nI pre.length)), w] [] 0 0 (zls 8 16 F pre) := by
  have h16 := mCv_16 c hn
  intro rest
  induction rest with
  | nil =>
    intro pre a w hL h
    have h2 : mRw F (mLP F k 0) [] a = [] := rfl
    rw [h2, List.append_nil] at h
    rw [List.append_nil] at hL
    subst hL
    refine zat_ok YX9_rows_ok (inv := zi1 19 (fun ls st kc ks G => zWP YX9_rows ok ex 19 ls st kc ks G)) (zone fun _ _ _ _ _ h => h) kX9_rows (List.all_eq_true.mp kX9_rows_ok) 19 _ _ _ _ _ ?_
    exact And.intro (fun _ => h) (fun h3 => absurd (nI_le (Nat.le_refl _) (by omega)) h3)
  | cons x u ih =>
    intro pre a w hL h
    have hlen : L.length = pre.length + (u.length + 1) := by rw [hL, List.length_append, List.length_cons]
    have hx : L[pre.length]? = some x := by rw [hL]; simp
    have h3 := c.2.2 pre.length x hx
    have h4 : x ∈ L := List.mem_of_getElem? hx
    refine zat_ok YX9_rows_ok (inv := zi1 19 (fun ls st kc ks G => zWP YX9_rows ok ex 19 ls st kc ks G)) (zone fun _ _ _ _ _ h => h) kX9_rows (List.all_eq_true.mp kX9_rows_ok) 19 _ _ _ _ _ ?_
    refine And.intro (fun h5 => absurd h5 (nI_ge (a := pre.length) (b := L.length) (by omega) (by omega))) (fun _ => ?_)
    refine zjeq1 ?_
    refine ⟨x, by omega, (c.2.1 x h3.1).mpr h4, h3.2, fun j hj h6 => ?_, ?_⟩
    · have h7 : mOf F j 6 = nI t ∧ mOf F j 7 = nI pre.length := h6
      have h8 := (c.2.1 j (by omega)).mp h7.1
      obtain ⟨i, hi⟩ := List.mem_iff_getElem?.mp h8
      have h9 := (c.2.2 i j hi).2
      have h10 : i < L.length := (List.getElem?_eq_some_iff.mp hi).1
      rw [h7.2, nI_eq (by omega) (by omega)] at h9
      rw [← h9, hx] at hi
      cases hi
      omega
    refine ⟨x, 0, rfl, rfl, by omega, by decide, ?_⟩
    refine ⟨t, rfl, ht, ?_⟩
    refine ⟨k, 0, h1, rfl, hk, by decide, ?_⟩
    refine And.intro (fun h5 => ?_) (fun h5 => ?_)
    · have h5 : mLP F k 0 < a + mOf F x 0 := h5
      have h6 : mRw F (mLP F k 0) (x :: u) a = [] := if_neg (Int32.not_le.mpr h5)
      rw [h6, List.append_nil] at h
      refine zjeq0 ?_
      exact lX9_rows0 ok ex _ h _ _ _ _ _
    · have h5 : ¬ mLP F k 0 < a + mOf F x 0 := h5
      have h6 : mRw F (mLP F k 0) (x :: u) a = x :: mRw F (mLP F k 0) u (a + mOf F x 0) := if_pos (Int32.not_lt.mp h5)
      rw [h6, List.append_cons] at h
      refine zjeq1 ?_
      have ih := ih (pre ++ [x]) (a + mOf F x 0) (some (.int (nI x))) (by rw [hL, List.append_cons]) h
      rw [List.length_append, List.length_singleton, ← nI_1, ← zls_push 8 16 (by decide), ← nI_1] at ih
      have h7 : (nI pre.length).toNatClampNeg = pre.length := nI_clamp (by omega)
      refine Exists.intro (zix (x := nI pre.length) rfl (by omega) (by decide)) ?_
      show zWP YX9_rows ok ex 19 _ [] 0 0 (zup (zup (zls 8 16 F pre) 0 16 (nI pre.length + 1)) 8 (nI pre.length).toNatClampNeg (nI x))
      rw [h7]
      exact ih

theorem mX9_rows : zMet (UM) yX9_rows cX9_rows 7 (none) rX9_rows (sX9_rows) := by
  refine zmet (Y := YX9_rows) rfl (by decide +kernel) ?_
  intro av F ok ex h
  unfold sX9_rows at h
  split at h
  · rename_i x
    refine zgo_ok (YX9_rows_ok) (inv := zi1 19 (fun ls st kc ks G => zWP YX9_rows ok ex 19 ls st kc ks G)) (zone fun _ _ _ _ _ h => h) kX9_rows (List.all_eq_true.mp kX9_rows_ok) 0 _ _ _ _ _ ?_
    obtain ⟨t, n, k, L, rfl, ht, hn, hk, h0, c, h1, h⟩ := h
    have h2 := mCv_sz c
    refine ⟨n, hn, h0, ?_⟩
    have h5 := lX9_rows ok ex F t n k L ht hn hk h0 c h1 L [] 0 none rfl h
    rw [← zls_nil, ← h2, ← mSz_c (F := F) (G := zup F 0 16 0) (zup_ne F 16 0 (by decide)) (nI t) n] at h5
    exact h5
  · exact h.elim

def kX9_rules : List zI := [
  (0, 1, .aload_n 0, [], 0),
  (1, 1, .iload_n 1, [], 0),
  (2, 3, .invokevirtual 162, [], 0),
  (5, 1, .aload_n 0, [], 0),
  (6, 3, .getfield 159, [], 0),
  (9, 3, .ifCond .ne 5, [14], 0),
  (12, 1, .iconst 1, [], 1),
  (13, 1, .ireturn, [], 0),
  (14, 1, .aload_n 0, [], 0),
  (15, 1, .aload_n 0, [], 0),
  (16, 1, .iload_n 1, [], 0),
  (17, 1, .iconst 4, [], 4),
  (18, 3, .invokevirtual 75, [], 0),
  (21, 3, .invokevirtual 65, [], 0),
  (24, 1, .aload_n 0, [], 0),
  (25, 1, .aload_n 0, [], 0),
  (26, 1, .iload_n 1, [], 0),
  (27, 3, .invokevirtual 165, [], 0),
  (30, 3, .invokevirtual 65, [], 0),
  (33, 3, .invokestatic 168, [], 0),
  (36, 1, .istore_n 2, [], 0),
  (37, 1, .iconst 0, [], 0),
  (38, 1, .istore_n 3, [], 0),
  (39, 1, .iconst 1, [], 1),
  (40, 2, .istore 4, [], 0),
  (42, 1, .iconst 0, [], 0),
  (43, 2, .istore 5, [], 0),
  (45, 2, .iload 5, [], 0),
  (47, 1, .aload_n 0, [], 0),
  (48, 3, .getfield 159, [], 0),
  (51, 3, .if_icmp .ge 61, [112], 0),
  (54, 1, .aload_n 0, [], 0),
  (55, 1, .aload_n 0, [], 0),
  (56, 3, .getfield 35, [], 0),
  (59, 2, .iload 5, [], 0),
  (61, 1, .iaload, [], 0),
  (62, 1, .iconst 1, [], 1),
  (63, 3, .invokevirtual 75, [], 0),
  (66, 1, .iload_n 2, [], 0),
  (67, 3, .if_icmp .le 5, [72], 0),
  (70, 1, .iconst 2, [], 2),
  (71, 1, .ireturn, [], 0),
  (72, 1, .iload_n 3, [], 0),
  (73, 1, .aload_n 0, [], 0),
  (74, 1, .aload_n 0, [], 0),
  (75, 3, .getfield 35, [], 0),
  (78, 2, .iload 5, [], 0),
  (80, 1, .iaload, [], 0),
  (81, 1, .iconst 0, [], 0),
  (82, 3, .invokevirtual 75, [], 0),
  (85, 1, .iadd, [], 0),
  (86, 1, .istore_n 3, [], 0),
  (87, 1, .aload_n 0, [], 0),
  (88, 1, .aload_n 0, [], 0),
  (89, 3, .getfield 35, [], 0),
  (92, 2, .iload 5, [], 0),
  (94, 1, .iaload, [], 0),
  (95, 1, .iconst 2, [], 2),
  (96, 3, .invokevirtual 75, [], 0),
  (99, 1, .iconst 3, [], 3),
  (100, 3, .if_icmp .ge 6, [106], 0),
  (103, 1, .iconst 0, [], 0),
  (104, 2, .istore 4, [], 0),
  (106, 3, .iinc 5 1, [], 1),
  (109, 3, .goto (-64), [45], 0),
  (112, 1, .aload_n 0, [], 0),
  (113, 1, .iload_n 1, [], 0),
  (114, 3, .invokevirtual 136, [], 0),
  (117, 2, .istore 5, [], 0),
  (119, 1, .aload_n 0, [], 0),
  (120, 2, .iload 5, [], 0),
  (122, 3, .invokevirtual 72, [], 0),
  (125, 2, .istore 6, [], 0),
  (127, 2, .iload 6, [], 0),
  (129, 1, .iconst 1, [], 1),
  (130, 3, .if_icmp .ne 32, [162], 0),
  (133, 1, .iconst 2, [], 2),
  (134, 1, .iload_n 3, [], 0),
  (135, 1, .imul, [], 0),
  (136, 1, .aload_n 0, [], 0),
  (137, 2, .iload 5, [], 0),
  (139, 1, .iconst 0, [], 0),
  (140, 3, .invokevirtual 79, [], 0),
  (143, 3, .if_icmp .ge 19, [162], 0),
  (146, 1, .aload_n 0, [], 0),
  (147, 1, .iload_n 1, [], 0),
  (148, 3, .invokevirtual 150, [], 0),
  (151, 1, .aload_n 0, [], 0),
  (152, 3, .getfield 9, [], 0),
  (155, 1, .iconst 4, [], 4),
  (156, 1, .iaload, [], 0),
  (157, 3, .if_icmp .ge 5, [162], 0),
  (160, 1, .iconst 3, [], 3),
  (161, 1, .ireturn, [], 0),
  (162, 2, .iload 6, [], 0),
  (164, 1, .iconst 2, [], 2),
  (165, 3, .if_icmp .ne 12, [177], 0),
  (168, 2, .iload 4, [], 0),
  (170, 3, .ifCond .ne 7, [177], 0),
  (173, 1, .iconst 3, [], 3),
  (174, 3, .goto 4, [178], 0),
  (177, 1, .iconst 0, [], 0),
  (178, 1, .ireturn, [], 0)]
theorem kX9_rules_ok : kX9_rules.all (zck cX9_rules) = true := by decide +kernel

def rX9_rules : Room := { frames := 3, cells := 0, slots := 0, locals := 71 }
abbrev YX9_rules : zM := (RX9, cX9_rules, 7, some .int, rX9_rules, UM, zlk fX9, zcs [(162, 2, 0, 0, zvs (UM) 9 (sX9_rows)), (75, 3, 0, 0, zvs (UM) 9 (sX9_of)), (65, 2, 0, 0, zvs (UM) 9 (sX9_level)), (165, 2, 0, 0, zvs (UM) 9 (sX9_next)), (136, 2, 0, 0, zvs (UM) 9 (sX9_lockOf)), (72, 2, 0, 0, zvs (UM) 9 (sX9_dryness)), (79, 3, 0, 0, zvs (UM) 9 (sX9_lockPart)), (150, 2, 0, 0, zvs (UM) 9 (sX9_waited))] [(168, 2, 0, 0, sJ9_min_7cf53)])
theorem YX9_rules_ok : zYok (YX9_rules) := zYok_of fX9_ok (zall (zcal_mono (zcalV (Y := YX9_rules) (y := yX9_rows) (cc := cX9_rows) (nL := 7) (ret := none) (rm := rX9_rows) (mX9_rows) 162 1 9 (T := TX9) rfl wX9_162 ⟨by decide +kernel, by decide +kernel, by decide +kernel⟩ (by decide) ⟨Nat.le_of_ble_eq_true rfl, Nat.le_of_ble_eq_true rfl⟩) (fun _ _ _ _ h => zvs_P h)) (zall (zcal_mono (zcalV (Y := YX9_rules) (y := yX9_of) (cc := cX9_of) (nL := 3) (ret := some .int) (rm := rX9_of) (mX9_of) 75 2 9 (T := TX9) rfl wX9_75 ⟨by decide +kernel, by decide +kernel, by decide +kernel⟩ (by decide) ⟨Nat.le_of_ble_eq_true rfl, Nat.le_of_ble_eq_true rfl⟩) (fun _ _ _ _ h => zvs_P h)) (zall (zcal_mono (zcalV (Y := YX9_rules) (y := yX9_level) (cc := cX9_level) (nL := 2) (ret := some .int) (rm := rX9_level) (mX9_level) 65 1 9 (T := TX9) rfl wX9_65 ⟨by decide +kernel, by decide +kernel, by decide +kernel⟩ (by decide) ⟨Nat.le_of_ble_eq_true rfl, Nat.le_of_ble_eq_true rfl⟩) (fun _ _ _ _ h => zvs_P h)) (zall (zcal_mono (zcalV (Y := YX9_rules) (y := yX9_next) (cc := cX9_next) (nL := 2) (ret := some .int) (rm := rX9_next) (mX9_next) 165 1 9 (T := TX9) rfl wX9_165 ⟨by decide +kernel, by decide +kernel, by decide +kernel⟩ (by decide) ⟨Nat.le_of_ble_eq_true rfl, Nat.le_of_ble_eq_true rfl⟩) (fun _ _ _ _ h => zvs_P h)) (zall (zcal_mono (zcalV (Y := YX9_rules) (y := yX9_lockOf) (cc := cX9_lockOf) (nL := 2) (ret := some .int) (rm := rX9_lockOf) (mX9_lockOf) 136 1 9 (T := TX9) rfl wX9_136 ⟨by decide +kernel, by decide +kernel, by decide +kernel⟩ (by decide) ⟨Nat.le_of_ble_eq_true rfl, Nat.le_of_ble_eq_true rfl⟩) (fun _ _ _ _ h => zvs_P h)) (zall (zcal_mono (zcalV (Y := YX9_rules) (y := yX9_dryness) (cc := cX9_dryness) (nL := 3) (ret := some .int) (rm := rX9_dryness) (mX9_dryness) 72 1 9 (T := TX9) rfl wX9_72 ⟨by decide +kernel, by decide +kernel, by decide +kernel⟩ (by decide) ⟨Nat.le_of_ble_eq_true rfl, Nat.le_of_ble_eq_true rfl⟩) (fun _ _ _ _ h => zvs_P h)) (zall (zcal_mono (zcalV (Y := YX9_rules) (y := yX9_lockPart) (cc := cX9_lockPart) (nL := 3) (ret := some .int) (rm := rX9_lockPart) (mX9_lockPart) 79 2 9 (T := TX9) rfl wX9_79 ⟨by decide +kernel, by decide +kernel, by decide +kernel⟩ (by decide) ⟨Nat.le_of_ble_eq_true rfl, Nat.le_of_ble_eq_true rfl⟩) (fun _ _ _ _ h => zvs_P h)) (zall (zcal_mono (zcalV (Y := YX9_rules) (y := yX9_waited) (cc := cX9_waited) (nL := 2) (ret := some .int) (rm := rX9_waited) (mX9_waited) 150 1 9 (T := TX9) rfl wX9_150 ⟨by decide +kernel, by decide +kernel, by decide +kernel⟩ (by decide) ⟨Nat.le_of_ble_eq_true rfl, Nat.le_of_ble_eq_true rfl⟩) (fun _ _ _ _ h => zvs_P h)) znil)))))))) (zall (zcalS (Y := YX9_rules) (y := yJ9_min_7cf53) (cc := cJ9_min_7cf53) (nL := 2) (ret := some .int) (rm := rJ9_min_7cf53) (mJ9_min_7cf53 UM) 168 2 wX9_168 ⟨by decide +kernel, by decide +kernel, by decide +kernel⟩ (by decide) ⟨Nat.le_of_ble_eq_true rfl, Nat.le_of_ble_eq_true rfl⟩) znil)

theorem lX9_rules (ok : zO) (ex : zX) (F : zF) (b k : Nat) (low : Int32) (R : List Nat) (hb : b < 16) (hk : k < 4) (h1 : mLk F b = nI k) (h4 : ¬ F 1 (10 + 3 * k) = 0) (h5 : R.length ≤ 16) (h7 : ∀ x, x ∈ R → x < 16) : ∀ (rest pre : List Nat) (a z : Int32) (w : Option Value), R = pre ++ rest → ok (some (.int (mRl F b k low rest a z))) (zls 8 16 F R) → zWP YX9_rules ok ex 45 [some (.ref 0), some (.int (nI b)), some (.int low), some (.int a), some (.int z), some (.int (nI pre.length)), w] [] 0 0 (zls 8 16 F R) := by
  intro rest
  induction rest with
  | nil =>
    intro pre a z w hR h
    rw [List.append_nil] at hR
    have h8 : mRl F b k low [] a z = mRf F b k a z := rfl
    rw [h8] at h
    unfold mRf at h
    refine zat_ok YX9_rules_ok (inv := zi1 45 (fun ls st kc ks G => zWP YX9_rules ok ex 45 ls st kc ks G)) (zone fun _ _ _ _ _ h => h) kX9_rules (List.all_eq_true.mp kX9_rules_ok) 45 _ _ _ _ _ ?_
    refine And.intro (fun _ => ?_) (fun h9 => absurd ?_ h9)
    · refine ⟨b, rfl, hb, ?_⟩
      refine ⟨k, h1, by omega, h4, ?_⟩
      have hz : ok (some (.int (if mDry F k = 2 ∧ z = 0 then 3 else 0))) (zls 8 16 F R) → (mDry F k = 2 → z = 0 → ok (some (.int 3)) (zls 8 16 F R)) ∧ ((¬ mDry F k = 2 ∨ ¬ z = 0) → ok (some (.int 0)) (zls 8 16 F R)) := fun h10 => ⟨fun g1 g2 => by rw [if_pos ⟨g1, g2⟩] at h10; exact h10, fun g1 => by rw [if_neg (fun g2 => g1.elim (fun g3 => g3 g2.1) (fun g3 => g3 g2.2))] at h10; exact h10⟩
      refine And.intro (fun h10 => ?_) (fun h10 => ?_)
      · have h10 : ¬ mDry F k = 1 := h10
        rw [if_neg (fun g => h10 g.1)] at h
        have h := hz h
        exact And.intro (fun g => h.2 (Or.inl g)) (fun g => And.intro (fun g2 => h.2 (Or.inr g2)) (fun g2 => h.1 g g2))
      · have h10 : mDry F k = 1 := h10
        refine ⟨k, 0, h1, rfl, hk, by decide, ?_⟩
        refine And.intro (fun h11 => ?_) (fun h11 => ?_)
        · have h11 : mLP F k 0 ≤ 2 * a := h11
          rw [if_neg (fun g => absurd g.2.1 (Int32.not_lt.mpr h11))] at h
          have h := hz h
          exact And.intro (fun g => h.2 (Or.inl g)) (fun g => And.intro (fun g2 => h.2 (Or.inr g2)) (fun g2 => h.1 g g2))
        · have h11 : ¬ mLP F k 0 ≤ 2 * a := h11
          refine ⟨b, rfl, hb, ?_⟩
          refine Exists.intro (zix (k := 4) rfl (by decide) (by decide)) ?_
          refine And.intro (fun h12 => ?_) (fun h12 => ?_)
          · have h12 : F 1 4 ≤ mWd F b := h12
            rw [if_neg (fun g => absurd g.2.2 (Int32.not_lt.mpr h12))] at h
            have h := hz h
            exact And.intro (fun g => h.2 (Or.inl g)) (fun g => And.intro (fun g2 => h.2 (Or.inr g2)) (fun g2 => h.1 g g2))
          · have h12 : ¬ F 1 4 ≤ mWd F b := h12
            rw [if_pos ⟨h10, Int32.not_le.mp h11, Int32.not_le.mp h12⟩] at h
            exact h
    · show nI R.length ≤ nI pre.length
      rw [hR]
      exact nI_le (Nat.le_refl _) (by rw [← hR]; omega)
  | cons x u ih =>
    intro pre a z w hR h
    have hlen : R.length = pre.length + (u.length + 1) := by rw [hR, List.length_append, List.length_cons]
    have hx : R[pre.length]? = some x := by rw [hR]; simp
    have h9 : x < 16 := h7 x (List.mem_of_getElem? hx)
    have hp : (nI pre.length).toNatClampNeg = pre.length := nI_clamp (by omega)
    have hg : zls 8 16 F R 8 (nI pre.length).toNatClampNeg = nI x := by
      rw [hp]
      unfold zls
      rw [if_pos ⟨rfl, by omega⟩, List.getD_eq_getElem?_getD, hx]
      rfl
    have ih := ih (pre ++ [x]) (a + mOf F x 0) (if mOf F x 2 < 3 then 0 else z) w (by rw [hR, List.append_cons])
    rw [List.length_append, List.length_singleton, ← nI_1] at ih
    refine zat_ok YX9_rules_ok (inv := zi1 45 (fun ls st kc ks G => zWP YX9_rules ok ex 45 ls st kc ks G)) (zone fun _ _ _ _ _ h => h) kX9_rules (List.all_eq_true.mp kX9_rules_ok) 45 _ _ _ _ _ ?_
    refine And.intro (fun h10 => absurd h10 (nI_ge (a := pre.length) (b := R.length) (by omega) (by omega))) (fun _ => ?_)
    refine Exists.intro (zix (x := nI pre.length) rfl (by omega) (by decide)) ?_
    refine ⟨x, 1, hg, rfl, h9, by decide, ?_⟩
    refine And.intro (fun h10 => ?_) (fun h10 => ?_)
    · have h10 : mOf F x 1 ≤ low := h10
      have h11 : mRl F b k low (x :: u) a z = mRl F b k low u (a + mOf F x 0) (if mOf F x 2 < 3 then 0 else z) := if_neg (Int32.not_lt.mpr h10)
      rw [h11] at h
      have ih := ih h
      refine Exists.intro (zix (x := nI pre.length) rfl (by omega) (by decide)) ?_
      refine ⟨x, 0, hg, rfl, h9, by decide, ?_⟩
      refine Exists.intro (zix (x := nI pre.length) rfl (by omega) (by decide)) ?_
      refine ⟨x, 2, hg, rfl, h9, by decide, ?_⟩
      refine And.intro (fun h12 => ?_) (fun h12 => ?_)
      · have h12 : (3 : Int32) ≤ mOf F x 2 := h12
        rw [if_neg (Int32.not_lt.mpr h12)] at ih
        exact ih
      · have h12 : ¬ (3 : Int32) ≤ mOf F x 2 := h12
        rw [if_pos (Int32.not_le.mp h12)] at ih
        exact ih
    · have h10 : ¬ mOf F x 1 ≤ low := h10
      have h11 : mRl F b k low (x :: u) a z = 2 := if_pos (Int32.not_le.mp h10)
      rw [h11] at h
      exact h

theorem mX9_rules : zMet (UM) yX9_rules cX9_rules 7 (some .int) rX9_rules (sX9_rules) := by
  refine zmet (Y := YX9_rules) rfl (by decide +kernel) ?_
  intro av F ok ex h
  unfold sX9_rules at h
  split at h
  · rename_i x
    refine zgo_ok (YX9_rules_ok) (inv := zi1 45 (fun ls st kc ks G => zWP YX9_rules ok ex 45 ls st kc ks G)) (zone fun _ _ _ _ _ h => h) kX9_rules (List.all_eq_true.mp kX9_rules_ok) 0 _ _ _ _ _ ?_
    obtain ⟨b, n, k, r, t, L, rfl, hb, hn, hk, h0, c, h1, h2, hr, h3, ht, h4, h⟩ := h
    refine ⟨b, n, k, L, rfl, hb, hn, hk, h0, c, h1, ?_⟩
    have h5 : (mRow F k L).length ≤ 16 := Nat.le_trans (mRw_len F (mLP F k 0) L 0) (mCv_16 c hn)
    have h7 : ∀ x, x ∈ mRow F k L → x < 16 := fun x hx => Nat.lt_of_lt_of_le (mCv_lt c x (mRw_sub F (mLP F k 0) L 0 x hx)) hn
    unfold mRu at h
    generalize mRow F k L = R at h h5 h7
    refine And.intro (fun h6 => ?_) (fun h6 => ?_)
    · have h6 : ¬ nI R.length = 0 := h6
      refine ⟨b, 4, rfl, rfl, hb, by decide, ?_⟩
      refine ⟨r, h2, hr, h4 r hr (Or.inl rfl), ?_⟩
      refine ⟨b, rfl, hb, ?_⟩
      refine ⟨t, h3, ht, h4 t ht (Or.inr (Or.inl rfl)), ?_⟩
      have h8 : ok (some (.int (mRl F b k (imin (mLev F r) (mLev F t)) R 0 1))) (zls 8 16 F R) := by
        cases R with
        | nil => exact absurd rfl h6
        | cons x u => exact h
      exact lX9_rules ok ex F b k (imin (mLev F r) (mLev F t)) R hb hk h1 (h4 k (by omega) (Or.inr (Or.inr rfl))) h5 h7 R [] 0 1 none rfl h8
    · have h6 : nI R.length = 0 := h6
      have h9 : R = [] := by
        cases R with
        | nil => rfl
        | cons x u => exact absurd h6 (nI_ne0 (by simp) (by omega))
      subst h9
      exact h
  · exact h.elim

end ZM3
end
