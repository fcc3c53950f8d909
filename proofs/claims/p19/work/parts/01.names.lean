def lw_okq (q : MethodName × Nat) : Prop := (q.1.cls ≠ "java/lang/invoke/MethodHandle" ∧ q.1.cls ≠ "java/lang/invoke/VarHandle") ∧ Cond.instantiable q.1.cls q.2 ∈ tables_1 ∧ Cond.privateMethod q.1 ∈ tables_1 ∧ Cond.instanceMethod q.1 ∈ tables_1
theorem lw_p0 : lw_okq (⟨"PodGuideway", "needPod", "(I)V"⟩, 2) := ⟨⟨by decide +kernel, by decide +kernel⟩, List.mem_of_getElem? (i := 15) (by decide +kernel), List.mem_of_getElem? (i := 104) (by decide +kernel), List.mem_of_getElem? (i := 105) (by decide +kernel)⟩
theorem lw_p1 : lw_okq (⟨"java/lang/Throwable", "fillInStackTrace", "(I)Ljava/lang/Throwable;"⟩, 6) := ⟨⟨by decide +kernel, by decide +kernel⟩, List.mem_of_getElem? (i := 146) (by decide +kernel), List.mem_of_getElem? (i := 144) (by decide +kernel), List.mem_of_getElem? (i := 145) (by decide +kernel)⟩
theorem lw_p2 : lw_okq (⟨"PodGuideway", "needWhat", "(III)V"⟩, 2) := ⟨⟨by decide +kernel, by decide +kernel⟩, List.mem_of_getElem? (i := 15) (by decide +kernel), List.mem_of_getElem? (i := 176) (by decide +kernel), List.mem_of_getElem? (i := 177) (by decide +kernel)⟩
theorem lw_p3 : lw_okq (⟨"PodGuideway$Ring", "tellPod", "(II)I"⟩, 17) := ⟨⟨by decide +kernel, by decide +kernel⟩, List.mem_of_getElem? (i := 23) (by decide +kernel), List.mem_of_getElem? (i := 181) (by decide +kernel), List.mem_of_getElem? (i := 182) (by decide +kernel)⟩
theorem lw_p4 : lw_okq (⟨"PodGuideway$Ring", "berthOf", "(I)I"⟩, 17) := ⟨⟨by decide +kernel, by decide +kernel⟩, List.mem_of_getElem? (i := 23) (by decide +kernel), List.mem_of_getElem? (i := 185) (by decide +kernel), List.mem_of_getElem? (i := 186) (by decide +kernel)⟩
theorem lw_p5 : lw_okq (⟨"PodGuideway$Ring", "goalOf", "(I)I"⟩, 17) := ⟨⟨by decide +kernel, by decide +kernel⟩, List.mem_of_getElem? (i := 23) (by decide +kernel), List.mem_of_getElem? (i := 192) (by decide +kernel), List.mem_of_getElem? (i := 193) (by decide +kernel)⟩
theorem lw_p6 : lw_okq (⟨"PodGuideway", "needStation", "(I)V"⟩, 2) := ⟨⟨by decide +kernel, by decide +kernel⟩, List.mem_of_getElem? (i := 15) (by decide +kernel), List.mem_of_getElem? (i := 203) (by decide +kernel), List.mem_of_getElem? (i := 204) (by decide +kernel)⟩
theorem lw_p7 : lw_okq (⟨"PodGuideway$Ring", "tellStation", "(II)I"⟩, 17) := ⟨⟨by decide +kernel, by decide +kernel⟩, List.mem_of_getElem? (i := 23) (by decide +kernel), List.mem_of_getElem? (i := 208) (by decide +kernel), List.mem_of_getElem? (i := 209) (by decide +kernel)⟩
theorem lw_p8 : lw_okq (⟨"PodGuideway$Ring", "placeOf", "(I)I"⟩, 17) := ⟨⟨by decide +kernel, by decide +kernel⟩, List.mem_of_getElem? (i := 23) (by decide +kernel), List.mem_of_getElem? (i := 212) (by decide +kernel), List.mem_of_getElem? (i := 213) (by decide +kernel)⟩
theorem lw_p9 : lw_okq (⟨"PodGuideway$Ring", "berthsThatHold", "(II)I"⟩, 17) := ⟨⟨by decide +kernel, by decide +kernel⟩, List.mem_of_getElem? (i := 23) (by decide +kernel), List.mem_of_getElem? (i := 216) (by decide +kernel), List.mem_of_getElem? (i := 217) (by decide +kernel)⟩
theorem lw_p10 : lw_okq (⟨"PodGuideway$Ring", "berthHolds", "(I)I"⟩, 17) := ⟨⟨by decide +kernel, by decide +kernel⟩, List.mem_of_getElem? (i := 23) (by decide +kernel), List.mem_of_getElem? (i := 220) (by decide +kernel), List.mem_of_getElem? (i := 221) (by decide +kernel)⟩
theorem lw_p11 : lw_okq (⟨"PodGuideway$Ring", "waitingAt", "(I)I"⟩, 17) := ⟨⟨by decide +kernel, by decide +kernel⟩, List.mem_of_getElem? (i := 23) (by decide +kernel), List.mem_of_getElem? (i := 224) (by decide +kernel), List.mem_of_getElem? (i := 225) (by decide +kernel)⟩
theorem lw_p12 : lw_okq (⟨"PodGuideway$Ring", "emptyPodsTo", "(I)I"⟩, 17) := ⟨⟨by decide +kernel, by decide +kernel⟩, List.mem_of_getElem? (i := 23) (by decide +kernel), List.mem_of_getElem? (i := 228) (by decide +kernel), List.mem_of_getElem? (i := 229) (by decide +kernel)⟩
theorem lw_p13 : lw_okq (⟨"PodGuideway$Ring", "waitedAt", "(I)I"⟩, 17) := ⟨⟨by decide +kernel, by decide +kernel⟩, List.mem_of_getElem? (i := 23) (by decide +kernel), List.mem_of_getElem? (i := 232) (by decide +kernel), List.mem_of_getElem? (i := 233) (by decide +kernel)⟩
theorem lw_p14 : lw_okq (⟨"PodGuideway$Ring", "waitedBy", "(II)I"⟩, 17) := ⟨⟨by decide +kernel, by decide +kernel⟩, List.mem_of_getElem? (i := 23) (by decide +kernel), List.mem_of_getElem? (i := 236) (by decide +kernel), List.mem_of_getElem? (i := 237) (by decide +kernel)⟩
theorem lw_p15 : lw_okq (⟨"PodGuideway$Ring", "tellCount", "(I)I"⟩, 17) := ⟨⟨by decide +kernel, by decide +kernel⟩, List.mem_of_getElem? (i := 23) (by decide +kernel), List.mem_of_getElem? (i := 244) (by decide +kernel), List.mem_of_getElem? (i := 245) (by decide +kernel)⟩
def lw_privs_1 : List (MethodName × Nat) := [(⟨"PodGuideway", "needPod", "(I)V"⟩, 2), (⟨"java/lang/Throwable", "fillInStackTrace", "(I)Ljava/lang/Throwable;"⟩, 6), (⟨"PodGuideway", "needWhat", "(III)V"⟩, 2), (⟨"PodGuideway$Ring", "tellPod", "(II)I"⟩, 17), (⟨"PodGuideway$Ring", "berthOf", "(I)I"⟩, 17), (⟨"PodGuideway$Ring", "goalOf", "(I)I"⟩, 17), (⟨"PodGuideway", "needStation", "(I)V"⟩, 2), (⟨"PodGuideway$Ring", "tellStation", "(II)I"⟩, 17), (⟨"PodGuideway$Ring", "placeOf", "(I)I"⟩, 17), (⟨"PodGuideway$Ring", "berthsThatHold", "(II)I"⟩, 17), (⟨"PodGuideway$Ring", "berthHolds", "(I)I"⟩, 17), (⟨"PodGuideway$Ring", "waitingAt", "(I)I"⟩, 17), (⟨"PodGuideway$Ring", "emptyPodsTo", "(I)I"⟩, 17), (⟨"PodGuideway$Ring", "waitedAt", "(I)I"⟩, 17), (⟨"PodGuideway$Ring", "waitedBy", "(II)I"⟩, 17), (⟨"PodGuideway$Ring", "tellCount", "(I)I"⟩, 17)]
theorem lw_r1 : ∀ q ∈ lw_privs_1, lw_okq q := List.forall_mem_cons.mpr ⟨lw_p0, List.forall_mem_cons.mpr ⟨lw_p1, List.forall_mem_cons.mpr ⟨lw_p2, List.forall_mem_cons.mpr ⟨lw_p3, List.forall_mem_cons.mpr ⟨lw_p4, List.forall_mem_cons.mpr ⟨lw_p5, List.forall_mem_cons.mpr ⟨lw_p6, List.forall_mem_cons.mpr ⟨lw_p7, List.forall_mem_cons.mpr ⟨lw_p8, List.forall_mem_cons.mpr ⟨lw_p9, List.forall_mem_cons.mpr ⟨lw_p10, List.forall_mem_cons.mpr ⟨lw_p11, List.forall_mem_cons.mpr ⟨lw_p12, List.forall_mem_cons.mpr ⟨lw_p13, List.forall_mem_cons.mpr ⟨lw_p14, List.forall_mem_cons.mpr ⟨lw_p15, fun _ h => absurd h List.not_mem_nil⟩⟩⟩⟩⟩⟩⟩⟩⟩⟩⟩⟩⟩⟩⟩⟩
theorem lw_p16 : lw_okq (⟨"PodGuideway$Ring", "waitingInAll", "()I"⟩, 17) := ⟨⟨by decide +kernel, by decide +kernel⟩, List.mem_of_getElem? (i := 23) (by decide +kernel), List.mem_of_getElem? (i := 248) (by decide +kernel), List.mem_of_getElem? (i := 249) (by decide +kernel)⟩
theorem lw_p17 : lw_okq (⟨"PodGuideway$Ring", "ridersInPods", "()I"⟩, 17) := ⟨⟨by decide +kernel, by decide +kernel⟩, List.mem_of_getElem? (i := 23) (by decide +kernel), List.mem_of_getElem? (i := 252) (by decide +kernel), List.mem_of_getElem? (i := 253) (by decide +kernel)⟩
theorem lw_p18 : lw_okq (⟨"PodGuideway$Ring", "arrivedInAll", "()I"⟩, 17) := ⟨⟨by decide +kernel, by decide +kernel⟩, List.mem_of_getElem? (i := 23) (by decide +kernel), List.mem_of_getElem? (i := 256) (by decide +kernel), List.mem_of_getElem? (i := 257) (by decide +kernel)⟩
theorem lw_p19 : lw_okq (⟨"PodGuideway$Ring", "freeSlots", "()I"⟩, 17) := ⟨⟨by decide +kernel, by decide +kernel⟩, List.mem_of_getElem? (i := 23) (by decide +kernel), List.mem_of_getElem? (i := 260) (by decide +kernel), List.mem_of_getElem? (i := 261) (by decide +kernel)⟩
theorem lw_p20 : lw_okq (⟨"PodGuideway$Ring", "podAtPlace", "(I)I"⟩, 17) := ⟨⟨by decide +kernel, by decide +kernel⟩, List.mem_of_getElem? (i := 23) (by decide +kernel), List.mem_of_getElem? (i := 264) (by decide +kernel), List.mem_of_getElem? (i := 265) (by decide +kernel)⟩
theorem lw_p21 : lw_okq (⟨"PodGuideway", "needMinutes", "(I)V"⟩, 2) := ⟨⟨by decide +kernel, by decide +kernel⟩, List.mem_of_getElem? (i := 15) (by decide +kernel), List.mem_of_getElem? (i := 272) (by decide +kernel), List.mem_of_getElem? (i := 273) (by decide +kernel)⟩
theorem lw_p22 : lw_okq (⟨"PodGuideway$Ring", "passMinute", "()V"⟩, 17) := ⟨⟨by decide +kernel, by decide +kernel⟩, List.mem_of_getElem? (i := 23) (by decide +kernel), List.mem_of_getElem? (i := 293) (by decide +kernel), List.mem_of_getElem? (i := 294) (by decide +kernel)⟩
theorem lw_p23 : lw_okq (⟨"PodGuideway$Ring", "moveSlots", "()V"⟩, 17) := ⟨⟨by decide +kernel, by decide +kernel⟩, List.mem_of_getElem? (i := 23) (by decide +kernel), List.mem_of_getElem? (i := 297) (by decide +kernel), List.mem_of_getElem? (i := 298) (by decide +kernel)⟩
theorem lw_p24 : lw_okq (⟨"PodGuideway$Ring", "letGoOff", "(I)V"⟩, 17) := ⟨⟨by decide +kernel, by decide +kernel⟩, List.mem_of_getElem? (i := 23) (by decide +kernel), List.mem_of_getElem? (i := 307) (by decide +kernel), List.mem_of_getElem? (i := 308) (by decide +kernel)⟩
theorem lw_p25 : lw_okq (⟨"PodGuideway$Ring", "firstBerth", "(II)I"⟩, 17) := ⟨⟨by decide +kernel, by decide +kernel⟩, List.mem_of_getElem? (i := 23) (by decide +kernel), List.mem_of_getElem? (i := 311) (by decide +kernel), List.mem_of_getElem? (i := 312) (by decide +kernel)⟩
theorem lw_p26 : lw_okq (⟨"PodGuideway$Ring", "setGoal", "(II)V"⟩, 17) := ⟨⟨by decide +kernel, by decide +kernel⟩, List.mem_of_getElem? (i := 23) (by decide +kernel), List.mem_of_getElem? (i := 315) (by decide +kernel), List.mem_of_getElem? (i := 316) (by decide +kernel)⟩
theorem lw_p27 : lw_okq (⟨"PodGuideway$Ring", "letBoard", "(I)V"⟩, 17) := ⟨⟨by decide +kernel, by decide +kernel⟩, List.mem_of_getElem? (i := 23) (by decide +kernel), List.mem_of_getElem? (i := 319) (by decide +kernel), List.mem_of_getElem? (i := 320) (by decide +kernel)⟩
theorem lw_p28 : lw_okq (⟨"PodGuideway$Ring", "boardFirst", "(II)V"⟩, 17) := ⟨⟨by decide +kernel, by decide +kernel⟩, List.mem_of_getElem? (i := 23) (by decide +kernel), List.mem_of_getElem? (i := 323) (by decide +kernel), List.mem_of_getElem? (i := 324) (by decide +kernel)⟩
theorem lw_p29 : lw_okq (⟨"PodGuideway$Ring", "letCall", "(I)V"⟩, 17) := ⟨⟨by decide +kernel, by decide +kernel⟩, List.mem_of_getElem? (i := 23) (by decide +kernel), List.mem_of_getElem? (i := 327) (by decide +kernel), List.mem_of_getElem? (i := 328) (by decide +kernel)⟩
theorem lw_p30 : lw_okq (⟨"PodGuideway$Ring", "stationThatAnswers", "(I)I"⟩, 17) := ⟨⟨by decide +kernel, by decide +kernel⟩, List.mem_of_getElem? (i := 23) (by decide +kernel), List.mem_of_getElem? (i := 331) (by decide +kernel), List.mem_of_getElem? (i := 332) (by decide +kernel)⟩
theorem lw_p31 : lw_okq (⟨"PodGuideway$Ring", "placesOn", "(II)I"⟩, 17) := ⟨⟨by decide +kernel, by decide +kernel⟩, List.mem_of_getElem? (i := 23) (by decide +kernel), List.mem_of_getElem? (i := 335) (by decide +kernel), List.mem_of_getElem? (i := 336) (by decide +kernel)⟩
def lw_privs_2 : List (MethodName × Nat) := [(⟨"PodGuideway$Ring", "waitingInAll", "()I"⟩, 17), (⟨"PodGuideway$Ring", "ridersInPods", "()I"⟩, 17), (⟨"PodGuideway$Ring", "arrivedInAll", "()I"⟩, 17), (⟨"PodGuideway$Ring", "freeSlots", "()I"⟩, 17), (⟨"PodGuideway$Ring", "podAtPlace", "(I)I"⟩, 17), (⟨"PodGuideway", "needMinutes", "(I)V"⟩, 2), (⟨"PodGuideway$Ring", "passMinute", "()V"⟩, 17), (⟨"PodGuideway$Ring", "moveSlots", "()V"⟩, 17), (⟨"PodGuideway$Ring", "letGoOff", "(I)V"⟩, 17), (⟨"PodGuideway$Ring", "firstBerth", "(II)I"⟩, 17), (⟨"PodGuideway$Ring", "setGoal", "(II)V"⟩, 17), (⟨"PodGuideway$Ring", "letBoard", "(I)V"⟩, 17), (⟨"PodGuideway$Ring", "boardFirst", "(II)V"⟩, 17), (⟨"PodGuideway$Ring", "letCall", "(I)V"⟩, 17), (⟨"PodGuideway$Ring", "stationThatAnswers", "(I)I"⟩, 17), (⟨"PodGuideway$Ring", "placesOn", "(II)I"⟩, 17)]
theorem lw_r2 : ∀ q ∈ lw_privs_2, lw_okq q := List.forall_mem_cons.mpr ⟨lw_p16, List.forall_mem_cons.mpr ⟨lw_p17, List.forall_mem_cons.mpr ⟨lw_p18, List.forall_mem_cons.mpr ⟨lw_p19, List.forall_mem_cons.mpr ⟨lw_p20, List.forall_mem_cons.mpr ⟨lw_p21, List.forall_mem_cons.mpr ⟨lw_p22, List.forall_mem_cons.mpr ⟨lw_p23, List.forall_mem_cons.mpr ⟨lw_p24, List.forall_mem_cons.mpr ⟨lw_p25, List.forall_mem_cons.mpr ⟨lw_p26, List.forall_mem_cons.mpr ⟨lw_p27, List.forall_mem_cons.mpr ⟨lw_p28, List.forall_mem_cons.mpr ⟨lw_p29, List.forall_mem_cons.mpr ⟨lw_p30, List.forall_mem_cons.mpr ⟨lw_p31, fun _ h => absurd h List.not_mem_nil⟩⟩⟩⟩⟩⟩⟩⟩⟩⟩⟩⟩⟩⟩⟩⟩
theorem lw_p32 : lw_okq (⟨"PodGuideway$Ring", "letMerge", "(I)V"⟩, 17) := ⟨⟨by decide +kernel, by decide +kernel⟩, List.mem_of_getElem? (i := 23) (by decide +kernel), List.mem_of_getElem? (i := 342) (by decide +kernel), List.mem_of_getElem? (i := 343) (by decide +kernel)⟩
theorem lw_p33 : lw_okq (⟨"PodGuideway$Ring", "copyFrom", "(LPodGuideway$Ring;)V"⟩, 17) := ⟨⟨by decide +kernel, by decide +kernel⟩, List.mem_of_getElem? (i := 23) (by decide +kernel), List.mem_of_getElem? (i := 351) (by decide +kernel), List.mem_of_getElem? (i := 352) (by decide +kernel)⟩
theorem lw_p34 : lw_okq (⟨"PodGuideway$Ring", "tellRider", "(II)I"⟩, 17) := ⟨⟨by decide +kernel, by decide +kernel⟩, List.mem_of_getElem? (i := 23) (by decide +kernel), List.mem_of_getElem? (i := 410) (by decide +kernel), List.mem_of_getElem? (i := 411) (by decide +kernel)⟩
theorem lw_p35 : lw_okq (⟨"PodGuideway", "needPlace", "(I)V"⟩, 2) := ⟨⟨by decide +kernel, by decide +kernel⟩, List.mem_of_getElem? (i := 15) (by decide +kernel), List.mem_of_getElem? (i := 421) (by decide +kernel), List.mem_of_getElem? (i := 422) (by decide +kernel)⟩
theorem lw_p36 : lw_okq (⟨"PodGuideway$Ring", "waitedInAll", "()I"⟩, 17) := ⟨⟨by decide +kernel, by decide +kernel⟩, List.mem_of_getElem? (i := 23) (by decide +kernel), List.mem_of_getElem? (i := 437) (by decide +kernel), List.mem_of_getElem? (i := 438) (by decide +kernel)⟩
theorem lw_p37 : lw_okq (⟨"PodGuideway$Ring", "stationAtPlace", "(I)I"⟩, 17) := ⟨⟨by decide +kernel, by decide +kernel⟩, List.mem_of_getElem? (i := 23) (by decide +kernel), List.mem_of_getElem? (i := 478) (by decide +kernel), List.mem_of_getElem? (i := 479) (by decide +kernel)⟩
theorem lw_p38 : lw_okq (⟨"PodGuideway$Ring", "addStation", "(I)I"⟩, 17) := ⟨⟨by decide +kernel, by decide +kernel⟩, List.mem_of_getElem? (i := 23) (by decide +kernel), List.mem_of_getElem? (i := 483) (by decide +kernel), List.mem_of_getElem? (i := 484) (by decide +kernel)⟩
theorem lw_p39 : lw_okq (⟨"PodGuideway$Ring", "addPod", "(I)I"⟩, 17) := ⟨⟨by decide +kernel, by decide +kernel⟩, List.mem_of_getElem? (i := 23) (by decide +kernel), List.mem_of_getElem? (i := 530) (by decide +kernel), List.mem_of_getElem? (i := 531) (by decide +kernel)⟩
theorem lw_p40 : lw_okq (⟨"PodGuideway", "needTwoStations", "(II)V"⟩, 2) := ⟨⟨by decide +kernel, by decide +kernel⟩, List.mem_of_getElem? (i := 15) (by decide +kernel), List.mem_of_getElem? (i := 550) (by decide +kernel), List.mem_of_getElem? (i := 551) (by decide +kernel)⟩
theorem lw_p41 : lw_okq (⟨"PodGuideway$Ring", "addRider", "(II)I"⟩, 17) := ⟨⟨by decide +kernel, by decide +kernel⟩, List.mem_of_getElem? (i := 23) (by decide +kernel), List.mem_of_getElem? (i := 556) (by decide +kernel), List.mem_of_getElem? (i := 557) (by decide +kernel)⟩
def lw_privs_3 : List (MethodName × Nat) := [(⟨"PodGuideway$Ring", "letMerge", "(I)V"⟩, 17), (⟨"PodGuideway$Ring", "copyFrom", "(LPodGuideway$Ring;)V"⟩, 17), (⟨"PodGuideway$Ring", "tellRider", "(II)I"⟩, 17), (⟨"PodGuideway", "needPlace", "(I)V"⟩, 2), (⟨"PodGuideway$Ring", "waitedInAll", "()I"⟩, 17), (⟨"PodGuideway$Ring", "stationAtPlace", "(I)I"⟩, 17), (⟨"PodGuideway$Ring", "addStation", "(I)I"⟩, 17), (⟨"PodGuideway$Ring", "addPod", "(I)I"⟩, 17), (⟨"PodGuideway", "needTwoStations", "(II)V"⟩, 2), (⟨"PodGuideway$Ring", "addRider", "(II)I"⟩, 17)]
theorem lw_r3 : ∀ q ∈ lw_privs_3, lw_okq q := List.forall_mem_cons.mpr ⟨lw_p32, List.forall_mem_cons.mpr ⟨lw_p33, List.forall_mem_cons.mpr ⟨lw_p34, List.forall_mem_cons.mpr ⟨lw_p35, List.forall_mem_cons.mpr ⟨lw_p36, List.forall_mem_cons.mpr ⟨lw_p37, List.forall_mem_cons.mpr ⟨lw_p38, List.forall_mem_cons.mpr ⟨lw_p39, List.forall_mem_cons.mpr ⟨lw_p40, List.forall_mem_cons.mpr ⟨lw_p41, fun _ h => absurd h List.not_mem_nil⟩⟩⟩⟩⟩⟩⟩⟩⟩⟩
def lw_privs : List (MethodName × Nat) := lw_privs_1 ++ (lw_privs_2 ++ (lw_privs_3))
def lw_tbl : List Cond := k2_sels lw_privs ++ tables_1
theorem lw_privs_ok : ∀ q ∈ lw_privs, lw_okq q := by
  show ∀ q ∈ lw_privs_1 ++ (lw_privs_2 ++ (lw_privs_3)), lw_okq q
  exact List.forall_mem_append.mpr ⟨lw_r1, List.forall_mem_append.mpr ⟨lw_r2, lw_r3⟩⟩
abbrev lw_cs : List Choice := [Jvm.Choice.named "NaN.bits"]
theorem lw_bits : nanBits ∈ lw_cs := by first | decide | exact List.mem_cons_self | simp [lw_cs, nanBits]

theorem goodIn_r {big : List Cond} (ws : List Cond) (ps : List Nat) (hp : ws = ps.filterMap (fun i => big[i]?)) (h : ws.all goodWord = true) : GoodIn big ws := by
  intro w hw
  have h1 := List.all_eq_true.mp h w hw
  rw [hp] at hw
  obtain ⟨i, -, hi⟩ := List.mem_filterMap.mp hw
  have hm : w ∈ big := by first | exact List.mem_of_getElem? hi | exact List.getElem?_mem hi
  exact ⟨hm, good_of_word h1⟩
theorem goodIn_app {big a b : List Cond} (ha : GoodIn big a) (hb : GoodIn big b) : GoodIn big (a ++ b) := fun w h => (List.mem_append.mp h).elim (ha w) (hb w)
theorem goodIn_ca {big a b : List Cond} {c : Cond} (ha : GoodIn big (c :: a)) (hb : GoodIn big b) : GoodIn big (c :: (a ++ b)) := fun w h => (List.mem_cons.mp h).elim (fun e => ha w (List.mem_cons.mpr (Or.inl e))) (fun h => (List.mem_append.mp h).elim (fun h => ha w (List.mem_cons.mpr (Or.inr h))) (hb w))
theorem goodIn_sub {big ws : List Cond} (hm : ∀ w ∈ ws, w ∈ big) (h : ws.all goodWord = true) : GoodIn big ws := fun w hw => ⟨hm w hw, good_of_word (List.all_eq_true.mp h w hw)⟩
section VXA
def vx_T (XC : String → State → State → Prop) (st : State) (q : Addr) (t : State) (mc ms : Nat) (free : Addr → Prop) : Prop :=
  ∃ (E : String) (ce : Cell) (L : List Loc), XC E st t ∧ t.heap[q]? = some ce ∧ ce.vm = .none ∧ st.vm.findClass E = some ce.cls ∧ st.WarmedH t.vm ∧ st.sameButNew ({ t with vm := st.vm } : State) L mc ms ∧ ∀ z ∈ L, free z.base
def vx_Q (Qc : Array Value → State → Outcome → State → Prop) (XC : String → State → State → Prop) (mc ms : Nat) (free : Addr → Prop) : Array Value → State → Outcome → State → Prop := fun a st o t =>
  (Qc a st o t ∧ ∃ L, FrameEnd st o t L mc ms ∧ ∀ q ∈ L, free q.base) ∨ ∃ q, o = .threw q ∧ vx_T XC st q t mc ms free
def vx_Met (l : Launch) (y : MethodName) (ws : List Cond) (rm : Room) (Pc : Array Value → State → Prop) (Qc : Array Value → State → Outcome → State → Prop) (XC : String → State → State → Prop) (mc ms : Nat) (free : Addr → Prop) : Prop :=
  MetFree l y (headSpec ws rm) Pc (fun _ _ _ _ _ => True) (vx_Q Qc XC mc ms free)
def vx_Post (XC : String → State → State → Prop) (mc ms : Nat) (free : Addr → Prop) : Pt → Array Value → Addr → Pt → Prop := fun A a q B =>
  ∃ (g : JFrame) (mk : MethodId) (t : State) (L : List Loc) (E : String) (ce : Cell), B.U.heap = t.heap ∧ B.U.vm = t.vm ∧ XC E (A.U.calling g mk a) t ∧ t.heap[q]? = some ce ∧ ce.vm = .none ∧ A.U.vm.findClass E = some ce.cls ∧ B.locs = A.locs ++ L ∧ (∀ z ∈ L, free z.base) ∧ B.cells = A.cells + mc ∧ B.slots = A.slots + ms
def vx_Back (l : Launch) (R : Room) (p : Program) (e : Env) (below : List Frame) (s : State) (sargs : Array Value) (y : MethodName) (len W9 : Nat)
    (Pre : Pt → Array Value → Prop) (Post : Pt → Array Value → Option Value → Pt → Prop) (PostX : Pt → Array Value → Addr → Pt → Prop) : Prop :=
  ∀ (m : MethodId) (meth : Method) (c : Code) (A : Pt) (g : JFrame) (ig : Instr) (mk : MethodId) (a : Array Value),
    Stand p l e R s m sargs below meth c A.U A.locs A.cells A.slots → g.method = m → g.locals.size = c.maxLocals → decode c.code g.pc = .ok (ig, len) →
    2 * g.monitorRoom + (g.stack.map fun v => v.category).sum ≤ W9 → A.U.methodNamed? y = some mk → Pre A a →
    (∃ (v : Option Value) (B : Pt), Stand p l e R s m sargs below meth c B.U B.locs B.cells B.slots ∧ Post A a v B ∧
      Steps p.tables e below (doInvoke e (A.U.setTop g) [] mk a).1 (B.U.setTop { g with pc := g.pc + len, stack := v.toList ++ g.stack })) ∨
    (∃ (q : Addr) (B : Pt), Stand p l e R s m sargs below meth c B.U B.locs B.cells B.slots ∧ PostX A a q B ∧
      Steps p.tables e below (doInvoke e (A.U.setTop g) [] mk a).1 ((B.U.setTop g).pushFrame (.throwing q)))
section Payer
variable {l : Launch} {R : Room} {p : Program} {e : Env} {below : List Frame} {s : State} {sargs : Array Value} {y : MethodName} {len W9 : Nat}
theorem vx_back {ws : List Cond} {rm : Room} {Pc : Array Value → State → Prop} {Qc : Array Value → State → Outcome → State → Prop} {XC : String → State → State → Prop} {mc ms : Nat} {free : Addr → Prop} {bytes : ByteArray} {maxL : Nat} {ret : Option FieldType}
    (hM : vx_Met l y ws rm Pc Qc XC mc ms free) (hblind : FrameBlind Pc) (hrc : rm.cells = mc) (hrs : rm.slots = ms)
    (hframes : rm.frames + 1 ≤ R.frames) (hlocals : W9 + (maxL + 11) + rm.locals ≤ R.locals)
    (hws : ∀ w ∈ ws, ∀ a' U, s.WarmedH U.vm → w.before a' U = true) (hcode : Cond.code y bytes maxL ret ∈ ws) (hinit : ∀ a' U, s.WarmedH U.vm → (Cond.initialized y.cls).before a' U = true) :
    vx_Back l R p e below s sargs y len W9 (PreOf R mc ms Pc) (PostOf Qc mc ms free) (vx_Post XC mc ms free) := by
  intro m meth c A g ig mk a X hg hsize hdg hW hn hp
  have h1 : (headSpec ws rm).pre.before a A.U = true := atoms_intro fun w hw => hws w hw _ _ X.warmed
  have h2 : (Cond.code y bytes maxL ret).before a A.U = true := hws _ hcode _ _ X.warmed
  have h3 : (Cond.initialized y.cls).before a A.U = true := hinit _ _ X.warmed
  have h4 : A.cells + (headSpec ws rm).room.cells ≤ R.cells := by rw [show (headSpec ws rm).room.cells = mc from hrc]; exact hp.1
  have h5 : A.slots + (headSpec ws rm).room.slots ≤ R.slots := by rw [show (headSpec ws rm).room.slots = ms from hrs]; exact hp.2.1
  have hPc : Pc a (A.U.calling g mk a) := hblind _ _ _ _ hp.2.2
  obtain ⟨U, Ls, c0, s0⟩ := A
  dsimp only [Pt.U, Pt.locs, Pt.cells, Pt.slots] at h1 h2 h3 h4 h5 X hn hPc ⊢
  obtain ⟨methY, cY, hmY, hcY, -, hlY, -, -, -, -⟩ := Cond.code_spec hn h2
  obtain ⟨kY, hkY, -⟩ := className_of_methodNamed hn
  have hinitY : kY.init = .initialized := Cond.initialized_spec (findClass_of_methodNamed hn) hkY h3
  have h : At U g.method c below := by rw [hg]; exact X.here
  have hlocals9 : W9 + (maxL + 11) + (headSpec ws rm).room.locals ≤ R.locals := hlocals
  have happ : (headSpec ws rm).appliesLoose y e.platform (U.calling g mk a) = true :=
    Spec.appliesLoose_calling (g := g) h hdg hn hkY hinitY
      (X.room_calling (g := g) (R' := (headSpec ws rm).room) hsize hmY hcY hframes (by rw [hlY]; omega) h4 h5) h1
  obtain ⟨mid, hmid⟩ := h.above
  have hfr : (U.setTop g).frames = (.java g :: mid) ++ below := by rw [State.frames_setTop' g h.top, hmid]; rfl
  obtain ⟨o, s₂, hsteps, -, hend, hq⟩ := Steps.callFree hM p X.admits X.cas X.clock (acts := []) hfr happ hPc trivial
  have hq' : vx_Q Qc XC mc ms free a (U.calling g mk a) o s₂ := hq
  rw [State.frames_setTop' g h.top] at hend
  obtain ⟨g₀, hg0⟩ := Option.isSome_iff_exists.mp h.top
  obtain ⟨r, hr⟩ := State.topJava?_eq_some.mp hg0
  have hr' : (({ U with heap := s₂.heap, slotsUsed := s₂.slotsUsed } : State).setVm s₂.vm).frames = .java g₀ :: r := hr
  rcases hq' with ⟨hqc, L, hfe, hL⟩ | ⟨q, rfl, E, ce, L, hx, hce, hcv, hcl, hW₂, hsm, hL⟩
  · obtain ⟨⟨v, rfl⟩, hW₂, e2, q2, q3, q4, q5, q6⟩ := id hfe
    have e3 : s₂ = ({ (U.calling g mk a).setFrames s₂.frames with heap := s₂.heap, slotsUsed := s₂.slotsUsed } : State).setVm s₂.vm := by
      have : s₂ = ({ s₂ with vm := (U.calling g mk a).vm } : State).setVm s₂.vm := rfl
      rw [e2] at this
      exact this
    obtain ⟨c₂, i₂, len₂, hc₂, hd₂, hf₂⟩ := hend
    have hW' : U.WarmedH s₂.vm := hW₂
    have hcc : c₂ = c := by
      have h1 : s₂.code? g.method = U.code? g.method := by
        rw [State.code?_eq, State.code?_eq, hW'.alike.method?]
      exact Option.some.inj (hc₂.symm.trans (h1.trans h.code))
    subst hcc
    have hlen : len₂ = len := by rw [hdg] at hd₂; cases hd₂; rfl
    subst hlen
    have hs₂ : s₂ = (({ U with heap := s₂.heap, slotsUsed := s₂.slotsUsed } : State).setVm s₂.vm).setTop { g with pc := g.pc + len₂, stack := v.toList ++ g.stack } := by
      refine e3.trans ?_
      rw [hf₂, State.calling_eq h.top, State.setFrames_setFrames, State.setTop_of_frames _ hr', hr]
      rfl
    have hsame : U.sameButNew ({ U with heap := s₂.heap, slotsUsed := s₂.slotsUsed } : State) L mc ms := by
      refine ⟨?_, q2, q3, q4, q5, q6⟩
      obtain ⟨t, ht, -⟩ := State.frames_cons hr
      show ({ U with heap := s₂.heap, slotsUsed := s₂.slotsUsed } : State) = { U.setFrames U.frames with heap := s₂.heap, slotsUsed := s₂.slotsUsed }
      rw [State.setFrames_self ht]
    subst hg
    refine Or.inl ⟨v, ⟨(({ U with heap := s₂.heap, slotsUsed := s₂.slotsUsed } : State).setVm s₂.vm), Ls ++ L, c0 + mc, s0 + ms⟩,
      ⟨X.admits, X.cas, X.clock, X.frames, X.room, X.hears, X.method, X.code, (X.here.setHeapUsed s₂.heap s₂.slotsUsed).setVm hW'.alike, X.tail, State.WarmedH.trans X.warmed hW', X.limits, X.bytes, X.same.trans (hsame.setVm s.vm)⟩,
      ⟨g, mk, s₂, L, rfl, rfl, hqc, rfl, hL, rfl, rfl⟩, ?_⟩
    show Steps p.tables e below _ ((({ U with heap := s₂.heap, slotsUsed := s₂.slotsUsed } : State).setVm s₂.vm).setTop { g with pc := g.pc + len₂, stack := v.toList ++ g.stack })
    rw [← hs₂]
    exact hsteps
  · obtain ⟨e2, q2, q3, q4, q5, q6⟩ := id hsm
    have e3 : s₂ = ({ (U.calling g mk a).setFrames s₂.frames with heap := s₂.heap, slotsUsed := s₂.slotsUsed } : State).setVm s₂.vm := by
      have : s₂ = ({ s₂ with vm := (U.calling g mk a).vm } : State).setVm s₂.vm := rfl
      rw [e2] at this
      exact this
    have hf₂ : s₂.frames = .throwing q :: .java g :: U.frames.tail := hend
    have hW' : U.WarmedH s₂.vm := hW₂
    have hs₂ : s₂ = ((({ U with heap := s₂.heap, slotsUsed := s₂.slotsUsed } : State).setVm s₂.vm).setTop g).pushFrame (.throwing q) := by
      refine e3.trans ?_
      rw [hf₂, State.calling_eq h.top, State.setFrames_setFrames, State.pushFrame, State.frames_setTop _ hr', State.setTop_of_frames _ hr', State.setFrames_setFrames, hr]
      rfl
    have hsame : U.sameButNew ({ U with heap := s₂.heap, slotsUsed := s₂.slotsUsed } : State) L mc ms := by
      refine ⟨?_, q2, q3, q4, q5, q6⟩
      obtain ⟨t, ht, -⟩ := State.frames_cons hr
      show ({ U with heap := s₂.heap, slotsUsed := s₂.slotsUsed } : State) = { U.setFrames U.frames with heap := s₂.heap, slotsUsed := s₂.slotsUsed }
      rw [State.setFrames_self ht]
    subst hg
    refine Or.inr ⟨q, ⟨(({ U with heap := s₂.heap, slotsUsed := s₂.slotsUsed } : State).setVm s₂.vm), Ls ++ L, c0 + mc, s0 + ms⟩,
      ⟨X.admits, X.cas, X.clock, X.frames, X.room, X.hears, X.method, X.code, (X.here.setHeapUsed s₂.heap s₂.slotsUsed).setVm hW'.alike, X.tail, State.WarmedH.trans X.warmed hW', X.limits, X.bytes, X.same.trans (hsame.setVm s.vm)⟩,
      ⟨g, mk, s₂, L, E, ce, rfl, rfl, hx, hce, hcv, hcl, rfl, hL, rfl, rfl⟩, ?_⟩
    show Steps p.tables e below _ (((({ U with heap := s₂.heap, slotsUsed := s₂.slotsUsed } : State).setVm s₂.vm).setTop g).pushFrame (.throwing q))
    rw [← hs₂]
    exact hsteps
end Payer
section Calls
variable {p : Program} {l : Launch} {e : Env} {R : Room} {s : State} {m : MethodId} {args : Array Value} {below : List Frame} {meth : Method} {c : Code} {T : State} {locs : List Loc} {cells slots : Nat}
theorem vx_callV (X : Stand p l e R s m args below meth c T locs cells slots) (hexec : p.tables.exec = Jvm.exec) {own C : String} {index : Nat} {y : MethodName} {bytes : ByteArray} {maxL : Nat} {ret : Option FieldType}
    (hown : s.vm.findClass own = some m.cls) (hlink : (Cond.methodLink own index y).before args s = true) (hinst : (Cond.instanceMethod y).before args s = true) (hsel : (Cond.selects C y y).before args s = true)
    (hcode : (Cond.code y bytes maxL ret).before args s = true) (hy : y.cls ≠ "java/lang/invoke/MethodHandle" ∧ y.cls ≠ "java/lang/invoke/VarHandle")
    {W9 : Nat} {Pre : Pt → Array Value → Prop} {Post : Pt → Array Value → Option Value → Pt → Prop} {PostX : Pt → Array Value → Addr → Pt → Prop} (hK : vx_Back l R p e below s args y 3 W9 Pre Post PostX)
    {b : Addr} {cellB : Cell} (hcell : T.heap[b]? = some cellB) (hobj : cellB.vm.isStatics = false) (hcls : s.vm.findClass C = some cellB.cls)
    {g : JFrame} (hg : g.method = m) (hsize : g.locals.size = c.maxLocals) {argsL rest : List Value} (hlen : ∀ sig, parseMethodDescriptor y.desc = some sig → argsL.length = sig.parameters.length)
    (hstack : g.stack = argsL.reverse ++ .ref b :: rest) (hW : 2 * g.monitorRoom + (rest.map fun v => v.category).sum ≤ W9) (hdg : decode c.code g.pc = .ok (.invokevirtual index, 3))
    (hpre : ∀ vm₁, s.WarmedH vm₁ → Pre ⟨T.setVm vm₁, locs, cells, slots⟩ (Value.ref b :: argsL).toArray) :
    (∃ (v : Option Value) (vm₁ : Vm) (B : Pt), s.WarmedH vm₁ ∧ Stand p l e R s m args below meth c B.U B.locs B.cells B.slots ∧ Post ⟨T.setVm vm₁, locs, cells, slots⟩ (Value.ref b :: argsL).toArray v B ∧
      ∀ target, Steps p.tables e below (B.U.setTop { g with pc := g.pc + 3, stack := v.toList ++ rest }) target → Steps p.tables e below (T.setTop g) target) ∨
    (∃ (q : Addr) (vm₁ : Vm) (B : Pt), s.WarmedH vm₁ ∧ Stand p l e R s m args below meth c B.U B.locs B.cells B.slots ∧ PostX ⟨T.setVm vm₁, locs, cells, slots⟩ (Value.ref b :: argsL).toArray q B ∧
      Steps p.tables e below (T.setTop g) ((B.U.setTop { g with stack := rest }).pushFrame (.throwing q))) := by
  obtain ⟨mk, methM, hnamed, hmethM, hstM, habM⟩ := Cond.instanceMethod_spec hinst
  obtain ⟨methM', cM, hmethM', -, -, -, -, -, -, hsigM⟩ := Cond.code_spec hnamed hcode
  cases hmethM.symm.trans hmethM'
  obtain ⟨c2, r2, m2, q1, q2, q3, q4, kP, hkP, hkPi⟩ := Cond.selects_spec hsel
  cases hcls.symm.trans q1
  cases (State.methodFound?_of_named hnamed hy).symm.trans q2
  cases hnamed.symm.trans q3
  have hselP : selectMethod e.platform s.vm cellB.cls mk = .method mk := by rw [Launch.admits_selectMethod X.admits]; exact q4
  obtain ⟨vm₁, X₁, hstep₁⟩ := X.invokevirtual hexec hown hlink hnamed hmethM hstM hkP hkPi hy (a := b) (cell := cellB) hcell
    (fun z h => by rw [h] at hobj; cases hobj) hselP hmethM habM hkP hkPi (g := g) hg (argsL := argsL) (rest := rest) (hlen _ hsigM) hstack hdg
  rcases hK m meth c ⟨T.setVm vm₁, locs, cells, slots⟩ { g with stack := rest } (.invokevirtual index) mk (Value.ref b :: argsL).toArray X₁ hg hsize hdg hW (X₁.named hnamed) (hpre vm₁ X₁.warmed) with ⟨v, B, X', hpost, hsteps⟩ | ⟨q, B, X', hpost, hsteps⟩
  · exact Or.inl ⟨v, vm₁, B, X₁.warmed, X', hpost, fun target h => hstep₁ _ fun acts => by rw [doInvoke_state]; exact hsteps.trans h⟩
  · exact Or.inr ⟨q, vm₁, B, X₁.warmed, X', hpost, hstep₁ _ fun acts => by rw [doInvoke_state]; exact hsteps⟩
theorem vx_callS (X : Stand p l e R s m args below meth c T locs cells slots) (hexec : p.tables.exec = Jvm.exec) {own : String} {index : Nat} {y : MethodName} {bytes : ByteArray} {maxL : Nat} {ret : Option FieldType}
    (hown : s.vm.findClass own = some m.cls) (hlink : (Cond.methodLink own index y).before args s = true) (hstat : (Cond.static y).before args s = true) (hinit : (Cond.initialized y.cls).before args s = true)
    (hcode : (Cond.code y bytes maxL ret).before args s = true) (hy : y.cls ≠ "java/lang/invoke/MethodHandle" ∧ y.cls ≠ "java/lang/invoke/VarHandle")
    {W9 : Nat} {Pre : Pt → Array Value → Prop} {Post : Pt → Array Value → Option Value → Pt → Prop} {PostX : Pt → Array Value → Addr → Pt → Prop} (hK : vx_Back l R p e below s args y 3 W9 Pre Post PostX)
    {g : JFrame} (hg : g.method = m) (hsize : g.locals.size = c.maxLocals) {argsL rest : List Value} (hlen : ∀ sig, parseMethodDescriptor y.desc = some sig → argsL.length = sig.parameters.length)
    (hstack : g.stack = argsL.reverse ++ rest) (hW : 2 * g.monitorRoom + (rest.map fun v => v.category).sum ≤ W9) (hdg : decode c.code g.pc = .ok (.invokestatic index, 3))
    (hpre : ∀ vm₁, s.WarmedH vm₁ → Pre ⟨T.setVm vm₁, locs, cells, slots⟩ argsL.toArray) :
    (∃ (v : Option Value) (vm₁ : Vm) (B : Pt), s.WarmedH vm₁ ∧ Stand p l e R s m args below meth c B.U B.locs B.cells B.slots ∧ Post ⟨T.setVm vm₁, locs, cells, slots⟩ argsL.toArray v B ∧
      ∀ target, Steps p.tables e below (B.U.setTop { g with pc := g.pc + 3, stack := v.toList ++ rest }) target → Steps p.tables e below (T.setTop g) target) ∨
    (∃ (q : Addr) (vm₁ : Vm) (B : Pt), s.WarmedH vm₁ ∧ Stand p l e R s m args below meth c B.U B.locs B.cells B.slots ∧ PostX ⟨T.setVm vm₁, locs, cells, slots⟩ argsL.toArray q B ∧
      Steps p.tables e below (T.setTop g) ((B.U.setTop { g with stack := rest }).pushFrame (.throwing q))) := by
  obtain ⟨mk, hnamed⟩ := Cond.code_named hcode
  obtain ⟨methM, cM, hmethM, -, -, -, -, -, -, hsigM⟩ := Cond.code_spec hnamed hcode
  have hstatic : methM.isStatic = true := Cond.static_spec hnamed hmethM hstat
  obtain ⟨kP, hkP, -⟩ := className_of_methodNamed hnamed
  have hinitP : kP.init = .initialized := Cond.initialized_spec (findClass_of_methodNamed hnamed) hkP hinit
  obtain ⟨vm₁, X₁, hstep₁⟩ := X.invokestatic hexec hown hlink hnamed hmethM hstatic hkP hinitP hy (g := g) hg (argsL := argsL) (rest := rest) (hlen _ hsigM) hstack hdg
  rcases hK m meth c ⟨T.setVm vm₁, locs, cells, slots⟩ { g with stack := rest } (.invokestatic index) mk argsL.toArray X₁ hg hsize hdg hW (X₁.named hnamed) (hpre vm₁ X₁.warmed) with ⟨v, B, X', hpost, hsteps⟩ | ⟨q, B, X', hpost, hsteps⟩
  · exact Or.inl ⟨v, vm₁, B, X₁.warmed, X', hpost, fun target h => hstep₁ _ fun acts => by rw [doInvoke_state]; exact hsteps.trans h⟩
  · exact Or.inr ⟨q, vm₁, B, X₁.warmed, X', hpost, hstep₁ _ fun acts => by rw [doInvoke_state]; exact hsteps⟩
end Calls
theorem vx_cls {s : State} {T : State} {vm₁ : Vm} {E : String} {k : ClassId} (hW : s.WarmedH vm₁) (h : (T.setVm vm₁).vm.findClass E = some k) : s.vm.findClass E = some k := by
  have h1 : vm₁.findClass E = some k := h
  rw [hW.alike.findClass] at h1
  exact h1
def vx_W (p : Program) (l : Launch) (e : Env) (R : Room) (s : State) (m : MethodId) (args : Array Value) (below : List Frame) (meth : Method) (c : Code) (H : Heap) (locs : List Loc) (cells slots : Nat) (Q : State → Prop) (g : JFrame) (q : Addr) : Prop :=
  ∀ T : State, T.heap = H → Stand p l e R s m args below meth c T locs cells slots → ∃ t, Steps p.tables e below ((T.setTop g).pushFrame (.throwing q)) t ∧ Q t
def vx_Run (p : Program) (l : Launch) (e : Env) (R : Room) (s : State) (m : MethodId) (args : Array Value) (below : List Frame) (meth : Method) (c : Code) (H : Heap) (locs : List Loc) (cells slots mc ms : Nat) (g : JFrame) (rest : List Value) (Qa : State → Outcome → State → Prop) (XC : String → State → State → Prop) (free : Addr → Prop) : Prop :=
  ∀ T : State, T.heap = H → Stand p l e R s m args below meth c T locs cells slots →
    (∃ (v : Option Value) (st₀ t T' : State) (L : List Loc), st₀.heap = H ∧ Stand p l e R s m args below meth c T' (locs ++ L) (cells + mc) (slots + ms) ∧ (∀ q ∈ L, free q.base) ∧ T'.heap = t.heap ∧ T'.vm = t.vm ∧ Qa st₀ (.returned v) t ∧
      Goes p e below T g T' { g with pc := g.pc + 3, stack := v.toList ++ rest }) ∨
    (∃ (q : Addr) (st₀ t T' : State) (L : List Loc) (E : String) (ce : Cell), st₀.heap = H ∧ Stand p l e R s m args below meth c T' (locs ++ L) (cells + mc) (slots + ms) ∧ (∀ z ∈ L, free z.base) ∧ T'.heap = t.heap ∧ T'.vm = t.vm ∧ XC E st₀ t ∧ t.heap[q]? = some ce ∧ ce.vm = .none ∧ s.vm.findClass E = some ce.cls ∧
      Steps p.tables e below (T.setTop g) ((T'.setTop { g with stack := rest }).pushFrame (.throwing q)))
def vx_X {S : Type} (px : S → Prop) (B : String → S → State → Prop) (A : Nat → Prop) : String → State → State → Prop := fun E st t => ∃ u : S, px u ∧ B E u t ∧ va_F A st t
section Runs
variable {p : Program} {l : Launch} {e : Env} {R : Room} {s : State} {m : MethodId} {args : Array Value} {below : List Frame} {meth : Method} {c : Code} {H : Heap} {locs : List Loc} {cells slots : Nat}
variable {y : MethodName} {bytes cc : ByteArray} {maxL nL mc ms n index : Nat} {ret : Option FieldType} {ws : List Cond} {rm : Room} {Pc : Array Value → State → Prop} {Qc : Array Value → State → Outcome → State → Prop} {XC : String → State → State → Prop} {free : Addr → Prop} {Ts : List Cond} {own C : String} {b : Addr} {As rest : List Value} {g : JFrame}
theorem vx_callBack (cb : CallB R s args own index y bytes maxL ret ws rm mc ms n) (hM : vx_Met l y ws rm Pc Qc XC mc ms free) (hbl : FrameBlind Pc) : vx_Back l R p e below s args y 3 8 (PreOf R mc ms Pc) (PostOf Qc mc ms free) (vx_Post XC mc ms free) := by
  obtain ⟨hrc, hrs, hfr, hlo, hws, hcw, -, hini, -⟩ := cb
  exact vx_back (bytes := bytes) (maxL := maxL) (ret := ret) hM hbl hrc hrs hfr hlo hws hcw (fun a' U hW => word_at hW (Or.inl (by first | rfl | simp [Cond.onTables, Cond.keeps, Cond.steady])) hini)
theorem vx_runV (S : CallFix p m c cc nL s args Ts own) (hM : vx_Met l y ws rm Pc Qc XC mc ms free) (cw : CallW R s args own C index y bytes maxL ret ws rm mc ms n) (hp : PreV s H C b Pc As)
    (hg : g.method = m) (hn : As.length = n) (hsize : g.locals.size = nL) (hstack : g.stack = As.reverse ++ .ref b :: rest) (hW : 2 * g.monitorRoom + (rest.map fun v => v.category).sum ≤ 8) (hdg : decode cc g.pc = .ok (.invokevirtual index, 3)) (hf : cells + mc ≤ R.cells ∧ slots + ms ≤ R.slots) :
    vx_Run p l e R s m args below meth c H locs cells slots mc ms g rest (Qc (Value.ref b :: As).toArray) XC free := by
  have hK : vx_Back l R p e below s args y 3 8 (PreOf R mc ms Pc) (PostOf Qc mc ms free) (vx_Post XC mc ms free) := vx_callBack cw.1 hM hp.1
  obtain ⟨⟨-, -, -, -, -, -, hcode, -, hy, hlen, hl⟩, hin, hse⟩ := cw
  obtain ⟨hx, hb, hml, ho, -⟩ := S
  obtain ⟨-, ⟨cellB, hcB, hoB, hclB⟩, hPc⟩ := hp
  intro T hT X
  rcases vx_callV X hx (C := C) (bytes := bytes) (maxL := maxL) (ret := ret) ho hl hin hse hcode hy hK (by rw [hT]; exact hcB) hoB hclB hg (hsize.trans hml.symm) (argsL := As) (rest := rest) (fun sig h => hn.trans (hlen sig h)) hstack hW (by rw [hb]; exact hdg)
    (fun vm₁ hW₁ => ⟨hf.1, hf.2, hPc (T.setVm vm₁) hT hW₁⟩) with ⟨v, vm₁, ⟨U', l2, c2, s2⟩, hW₁, X', ⟨g', mk, t, L, e1, e2, hq, h1, hL, h2, h3⟩, st⟩ | ⟨q, vm₁, ⟨U', l2, c2, s2⟩, hW₁, X', ⟨g', mk, t, L, E, ce, e1, e2, hq, hce, hcv, hcl, h1, hL, h2, h3⟩, st⟩
  · dsimp only [Pt.U, Pt.locs, Pt.cells, Pt.slots] at X' e1 e2 h1 h2 h3 st
    subst h1; subst h2; subst h3
    exact Or.inl ⟨v, (T.setVm vm₁).calling g' mk (Value.ref b :: As).toArray, t, U', L, hT, X', hL, e1, e2, hq, st⟩
  · dsimp only [Pt.U, Pt.locs, Pt.cells, Pt.slots] at X' e1 e2 h1 h2 h3 st hcl
    subst h1; subst h2; subst h3
    exact Or.inr ⟨q, (T.setVm vm₁).calling g' mk (Value.ref b :: As).toArray, t, U', L, E, ce, hT, X', hL, e1, e2, hq, hce, hcv, vx_cls hW₁ hcl, st⟩
theorem vx_runS (S : CallFix p m c cc nL s args Ts own) (hM : vx_Met l y ws rm Pc Qc XC mc ms free) (cw : CallB R s args own index y bytes maxL ret ws rm mc ms n ∧ (Cond.static y).before args s = true) (hp : PreS s H Pc As)
    (hg : g.method = m) (hn : As.length = n) (hsize : g.locals.size = nL) (hstack : g.stack = As.reverse ++ rest) (hW : 2 * g.monitorRoom + (rest.map fun v => v.category).sum ≤ 8) (hdg : decode cc g.pc = .ok (.invokestatic index, 3)) (hf : cells + mc ≤ R.cells ∧ slots + ms ≤ R.slots) :
    vx_Run p l e R s m args below meth c H locs cells slots mc ms g rest (Qc As.toArray) XC free := by
  have hK : vx_Back l R p e below s args y 3 8 (PreOf R mc ms Pc) (PostOf Qc mc ms free) (vx_Post XC mc ms free) := vx_callBack cw.1 hM hp.1
  obtain ⟨⟨-, -, -, -, -, -, hcode, hini, hy, hlen, hl⟩, hstt⟩ := cw
  obtain ⟨hx, hb, hml, ho, -⟩ := S
  intro T hT X
  rcases vx_callS X hx (bytes := bytes) (maxL := maxL) (ret := ret) ho hl hstt hini hcode hy hK hg (hsize.trans hml.symm) (argsL := As) (rest := rest) (fun sig h => hn.trans (hlen sig h)) hstack hW (by rw [hb]; exact hdg)
    (fun vm₁ hW₁ => ⟨hf.1, hf.2, hp.2 (T.setVm vm₁) hT hW₁⟩) with ⟨v, vm₁, ⟨U', l2, c2, s2⟩, hW₁, X', ⟨g', mk, t, L, e1, e2, hq, h1, hL, h2, h3⟩, st⟩ | ⟨q, vm₁, ⟨U', l2, c2, s2⟩, hW₁, X', ⟨g', mk, t, L, E, ce, e1, e2, hq, hce, hcv, hcl, h1, hL, h2, h3⟩, st⟩
  · dsimp only [Pt.U, Pt.locs, Pt.cells, Pt.slots] at X' e1 e2 h1 h2 h3 st
    subst h1; subst h2; subst h3
    exact Or.inl ⟨v, (T.setVm vm₁).calling g' mk As.toArray, t, U', L, hT, X', hL, e1, e2, hq, st⟩
  · dsimp only [Pt.U, Pt.locs, Pt.cells, Pt.slots] at X' e1 e2 h1 h2 h3 st hcl
    subst h1; subst h2; subst h3
    exact Or.inr ⟨q, (T.setVm vm₁).calling g' mk As.toArray, t, U', L, E, ce, hT, X', hL, e1, e2, hq, hce, hcv, vx_cls hW₁ hcl, st⟩
end Runs
section Rows
variable {p : Program} {l : Launch} {e : Env} {R : Room} {s : State} {m : MethodId} {args : Array Value} {below : List Frame} {meth : Method} {c : Code} {H : Heap} {locs : List Loc} {cells slots : Nat} {Q : State → Prop}
variable {mc ms : Nat} {free : Addr → Prop} {A0 A1 : Nat → Prop} {H0 : Heap} {a : Array Value} {pc : Nat} {ls : Array Slot} {st0 rest : List Value}
theorem vx_keep {st₀ t T' : State} {L : List Loc} (h0 : st₀.heap = H) (e1 : T'.heap = t.heap) (hS : va_S A0 H0 H locs) (hA : ∀ q, q < H.size → A1 q → A0 q) (hf : ∀ q, free q → A0 q) (hL : ∀ q ∈ L, free q.base) (hF : va_F A1 st₀ t) :
    H.size ≤ T'.heap.size ∧ (∀ q : Nat, q < H.size → ¬ A1 q → T'.heap[q]? = H[q]?) ∧ va_S A0 H0 T'.heap (locs ++ L) := by
  obtain ⟨hz, hk⟩ := hF
  rw [h0] at hz hk
  exact ⟨by rw [e1]; exact hz, fun q h1 h2 => by rw [e1]; exact hk q h1 h2,
    ⟨Nat.le_trans hS.1 (by rw [e1]; exact hz), fun q h1 h2 => by rw [e1, hk q (Nat.lt_of_lt_of_le h1 hS.1) (fun z => h2 (hA q (Nat.lt_of_lt_of_le h1 hS.1) z))]; exact hS.2.1 q h1 h2, fun q hq => by
      rcases List.mem_append.mp hq with h | h
      · exact hS.2.2 q h
      · exact hf _ (hL q h)⟩⟩
theorem vx_calli {S SX : Type} {post : Int32 → S → Prop} {px : SX → Prop} {B : S → State → Prop} {BX : String → SX → State → Prop} {AX : Nat → Prop} (hr : vx_Run p l e R s m args below meth c H locs cells slots mc ms (F0 m pc ls st0) rest (va_Qi post B A1 a) (vx_X px BX AX) free) (hS : va_S A0 H0 H locs) (hA : ∀ q, q < H.size → A1 q → A0 q) (hf : ∀ q, free q → A0 q) (hAX : ∀ q, q < H.size → AX q → A0 q)
    (kx : ∀ (E : String) (ce : Cell) (q9 : Addr) (u : SX) (t : State) (H1 : Heap) (locs1 : List Loc), t.heap = H1 → s.vm.Alike t.vm → px u → BX E u t → H.size ≤ H1.size → (∀ q : Nat, q < H.size → ¬ AX q → H1[q]? = H[q]?) → va_S A0 H0 H1 locs1 → H1[q9]? = some ce → ce.vm = .none → s.vm.findClass E = some ce.cls → vx_W p l e R s m args below meth c H1 locs1 (cells + mc) (slots + ms) Q (F0 m pc ls rest) q9)
    (kk : ∀ (r : Int32) (u : S) (t : State) (H1 : Heap) (locs1 : List Loc), t.heap = H1 → s.vm.Alike t.vm → post r u → B u t → H.size ≤ H1.size → (∀ q : Nat, q < H.size → ¬ A1 q → H1[q]? = H[q]?) → va_S A0 H0 H1 locs1 → W p l e R s m args below meth c H1 locs1 (cells + mc) (slots + ms) Q (F0 m (pc + 3) ls (.int r :: rest))) : W p l e R s m args below meth c H locs cells slots Q (F0 m pc ls st0) := by
  intro T hT X
  rcases hr T hT X with ⟨v, st₀, t, T', L, h0, X', hL, e1, e2, ⟨⟨r, u, hv, hp, hb⟩, hF⟩, st⟩ | ⟨q, st₀, t, T', L, E, ce, h0, X', hL, e1, e2, ⟨u, hp, hb, hF⟩, hce, hcv, hcl, st⟩
  · cases hv
    obtain ⟨k1, k2, k3⟩ := vx_keep h0 e1 hS hA hf hL hF
    obtain ⟨t2, a1, b1⟩ := kk r u t T'.heap (locs ++ L) e1.symm (by rw [← e2]; exact X'.warmed.alike) hp hb k1 k2 k3 T' rfl X'
    exact ⟨t2, st t2 a1, b1⟩
  · obtain ⟨k1, k2, k3⟩ := vx_keep h0 e1 hS hAX hf hL hF
    obtain ⟨t2, a1, b1⟩ := kx E ce q u t T'.heap (locs ++ L) e1.symm (by rw [← e2]; exact X'.warmed.alike) hp hb k1 k2 k3 (by rw [e1]; exact hce) hcv hcl T' rfl X'
    exact ⟨t2, st.trans a1, b1⟩
theorem vx_calll {S SX : Type} {post : Int64 → S → Prop} {px : SX → Prop} {B : S → State → Prop} {BX : String → SX → State → Prop} {AX : Nat → Prop} (hr : vx_Run p l e R s m args below meth c H locs cells slots mc ms (F0 m pc ls st0) rest (va_Ql post B A1 a) (vx_X px BX AX) free) (hS : va_S A0 H0 H locs) (hA : ∀ q, q < H.size → A1 q → A0 q) (hf : ∀ q, free q → A0 q) (hAX : ∀ q, q < H.size → AX q → A0 q)
    (kx : ∀ (E : String) (ce : Cell) (q9 : Addr) (u : SX) (t : State) (H1 : Heap) (locs1 : List Loc), t.heap = H1 → s.vm.Alike t.vm → px u → BX E u t → H.size ≤ H1.size → (∀ q : Nat, q < H.size → ¬ AX q → H1[q]? = H[q]?) → va_S A0 H0 H1 locs1 → H1[q9]? = some ce → ce.vm = .none → s.vm.findClass E = some ce.cls → vx_W p l e R s m args below meth c H1 locs1 (cells + mc) (slots + ms) Q (F0 m pc ls rest) q9)
    (kk : ∀ (r : Int64) (u : S) (t : State) (H1 : Heap) (locs1 : List Loc), t.heap = H1 → s.vm.Alike t.vm → post r u → B u t → H.size ≤ H1.size → (∀ q : Nat, q < H.size → ¬ A1 q → H1[q]? = H[q]?) → va_S A0 H0 H1 locs1 → W p l e R s m args below meth c H1 locs1 (cells + mc) (slots + ms) Q (F0 m (pc + 3) ls (.long r :: rest))) : W p l e R s m args below meth c H locs cells slots Q (F0 m pc ls st0) := by
  intro T hT X
  rcases hr T hT X with ⟨v, st₀, t, T', L, h0, X', hL, e1, e2, ⟨⟨r, u, hv, hp, hb⟩, hF⟩, st⟩ | ⟨q, st₀, t, T', L, E, ce, h0, X', hL, e1, e2, ⟨u, hp, hb, hF⟩, hce, hcv, hcl, st⟩
  · cases hv
    obtain ⟨k1, k2, k3⟩ := vx_keep h0 e1 hS hA hf hL hF
    obtain ⟨t2, a1, b1⟩ := kk r u t T'.heap (locs ++ L) e1.symm (by rw [← e2]; exact X'.warmed.alike) hp hb k1 k2 k3 T' rfl X'
    exact ⟨t2, st t2 a1, b1⟩
  · obtain ⟨k1, k2, k3⟩ := vx_keep h0 e1 hS hAX hf hL hF
    obtain ⟨t2, a1, b1⟩ := kx E ce q u t T'.heap (locs ++ L) e1.symm (by rw [← e2]; exact X'.warmed.alike) hp hb k1 k2 k3 (by rw [e1]; exact hce) hcv hcl T' rfl X'
    exact ⟨t2, st.trans a1, b1⟩
theorem vx_callf {S SX : Type} {post : UInt32 → S → Prop} {px : SX → Prop} {B : S → State → Prop} {BX : String → SX → State → Prop} {AX : Nat → Prop} (hr : vx_Run p l e R s m args below meth c H locs cells slots mc ms (F0 m pc ls st0) rest (va_Qf post B A1 a) (vx_X px BX AX) free) (hS : va_S A0 H0 H locs) (hA : ∀ q, q < H.size → A1 q → A0 q) (hf : ∀ q, free q → A0 q) (hAX : ∀ q, q < H.size → AX q → A0 q)
    (kx : ∀ (E : String) (ce : Cell) (q9 : Addr) (u : SX) (t : State) (H1 : Heap) (locs1 : List Loc), t.heap = H1 → s.vm.Alike t.vm → px u → BX E u t → H.size ≤ H1.size → (∀ q : Nat, q < H.size → ¬ AX q → H1[q]? = H[q]?) → va_S A0 H0 H1 locs1 → H1[q9]? = some ce → ce.vm = .none → s.vm.findClass E = some ce.cls → vx_W p l e R s m args below meth c H1 locs1 (cells + mc) (slots + ms) Q (F0 m pc ls rest) q9)
    (kk : ∀ (r : UInt32) (u : S) (t : State) (H1 : Heap) (locs1 : List Loc), t.heap = H1 → s.vm.Alike t.vm → post r u → B u t → H.size ≤ H1.size → (∀ q : Nat, q < H.size → ¬ A1 q → H1[q]? = H[q]?) → va_S A0 H0 H1 locs1 → W p l e R s m args below meth c H1 locs1 (cells + mc) (slots + ms) Q (F0 m (pc + 3) ls (.float r :: rest))) : W p l e R s m args below meth c H locs cells slots Q (F0 m pc ls st0) := by
  intro T hT X
  rcases hr T hT X with ⟨v, st₀, t, T', L, h0, X', hL, e1, e2, ⟨⟨r, u, hv, hp, hb⟩, hF⟩, st⟩ | ⟨q, st₀, t, T', L, E, ce, h0, X', hL, e1, e2, ⟨u, hp, hb, hF⟩, hce, hcv, hcl, st⟩
  · cases hv
    obtain ⟨k1, k2, k3⟩ := vx_keep h0 e1 hS hA hf hL hF
    obtain ⟨t2, a1, b1⟩ := kk r u t T'.heap (locs ++ L) e1.symm (by rw [← e2]; exact X'.warmed.alike) hp hb k1 k2 k3 T' rfl X'
    exact ⟨t2, st t2 a1, b1⟩
  · obtain ⟨k1, k2, k3⟩ := vx_keep h0 e1 hS hAX hf hL hF
    obtain ⟨t2, a1, b1⟩ := kx E ce q u t T'.heap (locs ++ L) e1.symm (by rw [← e2]; exact X'.warmed.alike) hp hb k1 k2 k3 (by rw [e1]; exact hce) hcv hcl T' rfl X'
    exact ⟨t2, st.trans a1, b1⟩
theorem vx_calld {S SX : Type} {post : UInt64 → S → Prop} {px : SX → Prop} {B : S → State → Prop} {BX : String → SX → State → Prop} {AX : Nat → Prop} (hr : vx_Run p l e R s m args below meth c H locs cells slots mc ms (F0 m pc ls st0) rest (va_Qd post B A1 a) (vx_X px BX AX) free) (hS : va_S A0 H0 H locs) (hA : ∀ q, q < H.size → A1 q → A0 q) (hf : ∀ q, free q → A0 q) (hAX : ∀ q, q < H.size → AX q → A0 q)
    (kx : ∀ (E : String) (ce : Cell) (q9 : Addr) (u : SX) (t : State) (H1 : Heap) (locs1 : List Loc), t.heap = H1 → s.vm.Alike t.vm → px u → BX E u t → H.size ≤ H1.size → (∀ q : Nat, q < H.size → ¬ AX q → H1[q]? = H[q]?) → va_S A0 H0 H1 locs1 → H1[q9]? = some ce → ce.vm = .none → s.vm.findClass E = some ce.cls → vx_W p l e R s m args below meth c H1 locs1 (cells + mc) (slots + ms) Q (F0 m pc ls rest) q9)
    (kk : ∀ (r : UInt64) (u : S) (t : State) (H1 : Heap) (locs1 : List Loc), t.heap = H1 → s.vm.Alike t.vm → post r u → B u t → H.size ≤ H1.size → (∀ q : Nat, q < H.size → ¬ A1 q → H1[q]? = H[q]?) → va_S A0 H0 H1 locs1 → W p l e R s m args below meth c H1 locs1 (cells + mc) (slots + ms) Q (F0 m (pc + 3) ls (.double r :: rest))) : W p l e R s m args below meth c H locs cells slots Q (F0 m pc ls st0) := by
  intro T hT X
  rcases hr T hT X with ⟨v, st₀, t, T', L, h0, X', hL, e1, e2, ⟨⟨r, u, hv, hp, hb⟩, hF⟩, st⟩ | ⟨q, st₀, t, T', L, E, ce, h0, X', hL, e1, e2, ⟨u, hp, hb, hF⟩, hce, hcv, hcl, st⟩
  · cases hv
    obtain ⟨k1, k2, k3⟩ := vx_keep h0 e1 hS hA hf hL hF
    obtain ⟨t2, a1, b1⟩ := kk r u t T'.heap (locs ++ L) e1.symm (by rw [← e2]; exact X'.warmed.alike) hp hb k1 k2 k3 T' rfl X'
    exact ⟨t2, st t2 a1, b1⟩
  · obtain ⟨k1, k2, k3⟩ := vx_keep h0 e1 hS hAX hf hL hF
    obtain ⟨t2, a1, b1⟩ := kx E ce q u t T'.heap (locs ++ L) e1.symm (by rw [← e2]; exact X'.warmed.alike) hp hb k1 k2 k3 (by rw [e1]; exact hce) hcv hcl T' rfl X'
    exact ⟨t2, st.trans a1, b1⟩
theorem vx_callv {S SX : Type} {post : S → Prop} {px : SX → Prop} {B : S → State → Prop} {BX : String → SX → State → Prop} {AX : Nat → Prop} (hr : vx_Run p l e R s m args below meth c H locs cells slots mc ms (F0 m pc ls st0) rest (va_Qv post B A1 a) (vx_X px BX AX) free) (hS : va_S A0 H0 H locs) (hA : ∀ q, q < H.size → A1 q → A0 q) (hf : ∀ q, free q → A0 q) (hAX : ∀ q, q < H.size → AX q → A0 q)
    (kx : ∀ (E : String) (ce : Cell) (q9 : Addr) (u : SX) (t : State) (H1 : Heap) (locs1 : List Loc), t.heap = H1 → s.vm.Alike t.vm → px u → BX E u t → H.size ≤ H1.size → (∀ q : Nat, q < H.size → ¬ AX q → H1[q]? = H[q]?) → va_S A0 H0 H1 locs1 → H1[q9]? = some ce → ce.vm = .none → s.vm.findClass E = some ce.cls → vx_W p l e R s m args below meth c H1 locs1 (cells + mc) (slots + ms) Q (F0 m pc ls rest) q9)
    (kk : ∀ (u : S) (t : State) (H1 : Heap) (locs1 : List Loc), t.heap = H1 → s.vm.Alike t.vm → post u → B u t → H.size ≤ H1.size → (∀ q : Nat, q < H.size → ¬ A1 q → H1[q]? = H[q]?) → va_S A0 H0 H1 locs1 → W p l e R s m args below meth c H1 locs1 (cells + mc) (slots + ms) Q (F0 m (pc + 3) ls (rest))) : W p l e R s m args below meth c H locs cells slots Q (F0 m pc ls st0) := by
  intro T hT X
  rcases hr T hT X with ⟨v, st₀, t, T', L, h0, X', hL, e1, e2, ⟨⟨u, hv, hp, hb⟩, hF⟩, st⟩ | ⟨q, st₀, t, T', L, E, ce, h0, X', hL, e1, e2, ⟨u, hp, hb, hF⟩, hce, hcv, hcl, st⟩
  · cases hv
    obtain ⟨k1, k2, k3⟩ := vx_keep h0 e1 hS hA hf hL hF
    obtain ⟨t2, a1, b1⟩ := kk u t T'.heap (locs ++ L) e1.symm (by rw [← e2]; exact X'.warmed.alike) hp hb k1 k2 k3 T' rfl X'
    exact ⟨t2, st t2 a1, b1⟩
  · obtain ⟨k1, k2, k3⟩ := vx_keep h0 e1 hS hAX hf hL hF
    obtain ⟨t2, a1, b1⟩ := kx E ce q u t T'.heap (locs ++ L) e1.symm (by rw [← e2]; exact X'.warmed.alike) hp hb k1 k2 k3 (by rw [e1]; exact hce) hcv hcl T' rfl X'
    exact ⟨t2, st.trans a1, b1⟩
theorem vx_catch {own name : String} {E : String} {ce : Cell} {q : Addr} (hown : s.vm.findClass own = some m.cls) (pre : List ExceptionTableEntry) (x : ExceptionTableEntry) (suf : List ExceptionTableEntry) (hsplit : c.exceptionTable.toList = pre ++ x :: suf)
    (hpass : ∀ z ∈ pre, covers z pc = false ∨ (z.catchType ≠ 0 ∧ ∃ nm : String, (Cond.classLink own z.catchType nm).before args s = true ∧ va_Nc E nm s)) (hx : covers x pc = true) (h0 : x.catchType ≠ 0)
    (hlink : (Cond.classLink own x.catchType name).before args s = true) (hcast : (Cond.castable E name).before args s = true) (hcell : H[q]? = some ce) (hv : ce.vm = .none) (hcl : s.vm.findClass E = some ce.cls)
    (kk : W p l e R s m args below meth c H locs cells slots Q (F0 m x.handlerPc ls [.ref q])) : vx_W p l e R s m args below meth c H locs cells slots Q (F0 m pc ls rest) q := by
  intro T hT X
  have hpl : e.platform.magicAccessors = ({} : Platform).magicAccessors := by rw [X.admits.platform]
  obtain ⟨c3, c4, hc3, hc4, hasg⟩ := Cond.castable_spec hcast
  cases Option.some.inj (hc3.symm.trans hcl)
  obtain ⟨c5, hc5, hcl5⟩ := Cond.classLink_spec hown hlink e.platform hpl
  cases Option.some.inj (hc4.symm.trans hc5)
  obtain ⟨vm', X', st⟩ := X.thenCaughtThrough q (g := F0 m pc ls rest) rfl (Steps.refl _) (by rw [hT]; exact hcell) (by rw [hv]; rfl) (by obtain ⟨k9, h9, -⟩ := Vm.findClass_spec hcl; exact ⟨k9, h9⟩) pre x suf hsplit
    (fun z hz => by
      rcases hpass z hz with h | ⟨hz0, nm, hl1, hn1⟩
      · exact Or.inl h
      · obtain ⟨c6, hc6, hcl6⟩ := Cond.classLink_spec hown hl1 e.platform hpl
        obtain ⟨a8, b8, h1, h2, h3⟩ := hn1
        cases Option.some.inj (h1.symm.trans hcl)
        cases Option.some.inj (h2.symm.trans hc6)
        exact Or.inr ⟨hz0, _, hcl6, h3⟩) hx (Or.inr ⟨h0, c4, hcl5, hasg⟩)
  obtain ⟨t, a1, b1⟩ := kk (T.setVm vm') hT X'
  exact ⟨t, st.trans a1, b1⟩
end Rows
section Ends
variable {p : Program} {l : Launch} {e : Env} {R : Room} {s : State} {m : MethodId} {args : Array Value} {below : List Frame} {meth : Method} {c : Code} {H : Heap} {locs : List Loc} {cells slots : Nat} {Q : State → Prop}
variable {mc ms : Nat} {free : Addr → Prop} {A0 A1 : Nat → Prop} {H0 : Heap} {a : Array Value} {ls : Array Slot} {st0 rest : List Value}
variable {Qc : Array Value → State → Outcome → State → Prop} {XC : String → State → State → Prop}
def vx_MQ (below : List Frame) (Qc : Array Value → State → Outcome → State → Prop) (XC : String → State → State → Prop) (a : Array Value) (s : State) (mc ms : Nat) (free : Addr → Prop) : State → Prop := fun t =>
  ∃ o, t.status = .running ∧ Ended t below o ∧ vx_Q Qc XC mc ms free a s o t
theorem vx_ret {g : JFrame} {mc ms : Nat} (k : W p l e R s m args below meth c H locs cells slots (MQ below Qc args s mc ms free) g) : W p l e R s m args below meth c H locs cells slots (vx_MQ below Qc XC args s mc ms free) g := by
  intro T hT X
  obtain ⟨t, a1, o, b1, b2, b3, b4⟩ := k T hT X
  exact ⟨t, a1, o, b1, b2, Or.inl ⟨b3, b4⟩⟩
theorem vx_widen {g : JFrame} {q : Addr} {k n : Nat} (h1 : cells ≤ k) (h2 : slots ≤ n) (kk : vx_W p l e R s m args below meth c H locs k n Q g q) : vx_W p l e R s m args below meth c H locs cells slots Q g q := fun T hT X => kk T hT (stand_widen X h1 h2)
theorem vx_out {pc : Nat} {E : String} {ce : Cell} {q : Addr} {mc ms : Nat} (hout : ∀ x ∈ c.exceptionTable.toList, covers x pc = false) (hlocks : meth.locks = false) (hcell : H[q]? = some ce) (hv : ce.vm = .none) (hcl : s.vm.findClass E = some ce.cls)
    (hx : ∀ t : State, t.heap = H → s.vm.Alike t.vm → XC E s t) (hf : ∀ z ∈ locs, free z.base) (hc : cells ≤ mc) (hs : slots ≤ ms) :
    vx_W p l e R s m args below meth c H locs cells slots (vx_MQ below Qc XC args s mc ms free) (F0 m pc ls rest) q := by
  intro T hT X
  obtain ⟨st1, hrun, hend, hW, hsm⟩ := X.leaveThrown q (g := F0 m pc ls rest) rfl rfl rfl hout hlocks
  have hcell9 : (T.setFrames (.throwing q :: below)).heap[q]? = some ce := by
    show T.heap[q]? = some ce
    rw [hT]; exact hcell
  exact ⟨_, st1, .threw q, hrun, hend, Or.inr ⟨q, rfl, E, ce, locs, hx _ hT hW.alike, hcell9, hv, hcl, hW, hsm.mono hc hs, hf⟩⟩
theorem vx_frame {U : State} {k n : Nat} (h : s.sameButNew ({ U with vm := s.vm } : State) locs k n) : s.heap.size ≤ U.heap.size ∧ ∀ q : Nat, q < s.heap.size → (∀ z ∈ locs, z.base ≠ q) → U.heap[q]? = s.heap[q]? := by
  obtain ⟨-, h2, -, -, -, h6⟩ := h
  refine ⟨h2, fun q hq hz => ?_⟩
  obtain ⟨c9, e1, e2, e3, e4⟩ := h6 q _ (Array.getElem?_eq_getElem hq)
  have hs : c9.slots = (s.heap[q]).slots := Array.ext_getElem? fun i => e4 i fun hm => hz _ hm rfl
  have h9 : c9 = s.heap[q] := by
    rw [hs] at e2
    exact e2
  have e5 : U.heap[q]? = some c9 := e1
  rw [e5, h9, Array.getElem?_eq_getElem hq]
def vx_no (w : Cond) : Bool := decide (w ≠ .isRef (.static Bundle.tN "UNASSIGNED_STACK" Bundle.steD)) && decide (w ≠ .isRef (.static Bundle.tN "SUPPRESSED_SENTINEL" Bundle.listD)) && decide (w ≠ .laysStatic Bundle.tN "UNASSIGNED_STACK" Bundle.steD) && decide (w ≠ .laysStatic Bundle.tN "SUPPRESSED_SENTINEL" Bundle.listD)
def vx_at0 (own : String) (ic : Nat) (X : String) (names : List String) : List Cond := (Bundle.ownAtoms0 own ic X names).filter vx_no
def vx_atS (own : String) (ic : Nat) (X : String) (names : List String) : List Cond := (Bundle.ownAtoms own ic X names).filter vx_no
def vx_ot (w : Cond) : Bool := w.onTables || goodWord w
theorem vx_ot_at {args a' : Array Value} {s U : State} {w : Cond} (hW : s.WarmedH U.vm) (hvm : s.vm = U.vm) (hg : vx_ot w = true) (h : w.before args s = true) : w.before a' U = true := by
  simp only [vx_ot, Bool.or_eq_true] at hg
  rcases hg with hg | hg
  · exact va_tabs hg hvm h
  · exact word_at hW (good_of_word hg) h
theorem vx_hat {args : Array Value} {s : State} {L B : List Cond} (h1 : ∀ w ∈ L.filter goodWord, w.before args s = true) (h2 : ∀ w ∈ L.filter (fun w => !goodWord w), w ∈ B) (h3 : ∀ w ∈ B, w.before args s = true) : ∀ w ∈ L, w.before args s = true := by
  intro w hw
  by_cases g : goodWord w = true
  · exact h1 w (List.mem_filter.mpr ⟨hw, g⟩)
  · refine h3 w (h2 w (List.mem_filter.mpr ⟨hw, ?_⟩))
    show (!goodWord w) = true
    cases hgw : goodWord w
    · rfl
    · exact absurd hgw g
theorem vx_c {args : Array Value} {s : State} {w : Cond} {B : List Cond} (h : w.before args s = true) (t : ∀ w ∈ B, w.before args s = true) : ∀ w' ∈ w :: B, w'.before args s = true := fun w' h' => (List.mem_cons.mp h').elim (fun e => by rw [e]; exact h) (t w')
theorem vx_n {args : Array Value} {s : State} : ∀ w ∈ ([] : List Cond), w.before args s = true := fun _ h => nomatch h
theorem vx_own {args : Array Value} {s : State} {L : List Cond} (h1 : ∀ w ∈ L.filter vx_no, w.before args s = true)
    (hU : (Cond.isRef (.static Bundle.tN "UNASSIGNED_STACK" Bundle.steD)).before args s = true) (hN : (Cond.isRef (.static Bundle.tN "SUPPRESSED_SENTINEL" Bundle.listD)).before args s = true)
    (lU : (Cond.laysStatic Bundle.tN "UNASSIGNED_STACK" Bundle.steD).before args s = true) (lN : (Cond.laysStatic Bundle.tN "SUPPRESSED_SENTINEL" Bundle.listD).before args s = true) : ∀ w ∈ L, w.before args s = true := by
  intro w hw
  by_cases e1 : w = .isRef (.static Bundle.tN "UNASSIGNED_STACK" Bundle.steD)
  · rw [e1]; exact hU
  · by_cases e2 : w = .isRef (.static Bundle.tN "SUPPRESSED_SENTINEL" Bundle.listD)
    · rw [e2]; exact hN
    · by_cases e3 : w = .laysStatic Bundle.tN "UNASSIGNED_STACK" Bundle.steD
      · rw [e3]; exact lU
      · by_cases e4 : w = .laysStatic Bundle.tN "SUPPRESSED_SENTINEL" Bundle.listD
        · rw [e4]; exact lN
        · exact h1 w (List.mem_filter.mpr ⟨hw, by unfold vx_no; rw [decide_eq_true e1, decide_eq_true e2, decide_eq_true e3, decide_eq_true e4]; rfl⟩)
def vx_L (C n d : String) (A : Nat → Prop) (U : State) (H : Heap) : Prop := ∃ (c : ClassId) (k : Class) (i : Nat) (f : Field) (a : Nat) (cell : Cell), U.vm.findClass C = some c ∧ U.fieldFound? C n d = some (c, k, i, f) ∧ f.isStatic = true ∧ k.statics = some a ∧ H[a]? = some cell ∧ cell.vm.isStatics = true ∧ cell.cls = c ∧ f.slot < cell.slots.size ∧ k.staticTypes[f.slot]? = some f.type ∧ ¬ A a
theorem vx_L.moved {C n d : String} {A : Nat → Prop} {u U : State} {H : Heap} (hvm : u.vm.Alike U.vm) (h : vx_L C n d A u H) : vx_L C n d A U H := by
  obtain ⟨c, k, i, f, a, cell, h1, h2, h3, h4, h5, h6, h7, h8, h9, h10⟩ := h
  obtain ⟨k', hi', he⟩ := State.fieldFound?_setVm hvm h2
  exact ⟨c, k', i, f, a, cell, by rw [hvm.findClass]; exact h1, hi', h3, by rw [he]; exact h4, h5, h6, h7, h8, by rw [he]; exact h9, h10⟩
theorem vx_L.kept {C n d : String} {A : Nat → Prop} {U : State} {H H1 : Heap} (h : vx_L C n d A U H) (hq : ∀ a : Nat, a < H.size → ¬ A a → H1[a]? = H[a]?) : vx_L C n d A U H1 := by
  obtain ⟨c, k, i, f, a, cell, h1, h2, h3, h4, h5, h6, h7, h8, h9, h10⟩ := h
  exact ⟨c, k, i, f, a, cell, h1, h2, h3, h4, by rw [hq a (Array.getElem?_eq_some_iff.mp h5).1 h10]; exact h5, h6, h7, h8, h9, h10⟩
theorem vx_L.narrow {C n d : String} {A B : Nat → Prop} {U : State} {H : Heap} (h : vx_L C n d A U H) (hAB : ∀ q, B q → A q) : vx_L C n d B U H := by
  obtain ⟨c, k, i, f, a, cell, h1, h2, h3, h4, h5, h6, h7, h8, h9, h10⟩ := h
  exact ⟨c, k, i, f, a, cell, h1, h2, h3, h4, h5, h6, h7, h8, h9, fun z => h10 (hAB _ z)⟩
theorem vx_L.word {C n d : String} {A : Nat → Prop} {s : State} {args : Array Value} (h : vx_L C n d A s s.heap) : (Cond.laysStatic C n d).before args s = true := by
  obtain ⟨c, k, i, f, a, cell, h1, h2, h3, h4, h5, h6, h7, h8, h9, -⟩ := h
  show (Cond.laysStatic C n d).holds args s none s [] = true
  exact Cond.laysStatic_of h1 h2 h3 h4 h5 h6 h7 h8 h9
def vx_Zq (C n d : String) (A : Nat → Prop) (U : State) (H : Heap) : Prop := va_Zq C n d A U H ∧ vx_L C n d A U H
theorem vx_Zq.moved {C n d : String} {A : Nat → Prop} {u U : State} {H : Heap} (hvm : u.vm.Alike U.vm) (h : vx_Zq C n d A u H) : vx_Zq C n d A U H := ⟨va_Zq.moved hvm h.1, vx_L.moved hvm h.2⟩
theorem vx_Zq.kept {C n d : String} {A : Nat → Prop} {U : State} {H H1 : Heap} (h : vx_Zq C n d A U H) (hq : ∀ a : Nat, a < H.size → ¬ A a → H1[a]? = H[a]?) : vx_Zq C n d A U H1 := ⟨va_Zq.kept h.1 hq, vx_L.kept h.2 hq⟩
theorem vx_Zq.narrow {C n d : String} {A B : Nat → Prop} {U : State} {H : Heap} (h : vx_Zq C n d A U H) (hAB : ∀ q, B q → A q) : vx_Zq C n d B U H := ⟨va_Zq.narrow h.1 hAB, vx_L.narrow h.2 hAB⟩
theorem vx_Zqof {args : Array Value} {s : State} {C n d : String} {A : Nat → Prop} (hl : (Cond.laysStatic C n d).before args s = true) (hini : (Cond.initialized C).before args s = true) (h : (Cond.isRef (.static C n d)).before args s = true) (hA : ∀ a : Nat, a < s.heap.size → ¬ A a) : vx_Zq C n d A s s.heap := by
  refine ⟨va_Zqof hl hini h hA, ?_⟩
  obtain ⟨c, k, i, f, a, cell, h1, h2, h3, h4, h5, h6, h7, h8, h9⟩ := Cond.laysStatic_spec hl
  exact ⟨c, k, i, f, a, cell, h1, h2, h3, h4, h5, h6, h7, h8, h9, hA a (Array.getElem?_eq_some_iff.mp h5).1⟩
theorem vx_isRef {C n d : String} {v : Value} {A : Nat → Prop} {s : State} {args : Array Value} (h : va_Z C n d v A s s.heap) (hv : v.isRef = true) : (Cond.isRef (.static C n d)).before args s = true := by
  obtain ⟨cf, kf, fi, f, a, cell, h1, h2, h3, h4, h5, h6, h7, -⟩ := h
  have he : (Term.static C n d).eval args s none [] s = some v := by
    simp [Term.eval, State.fieldNamed?, h1, h2, h4, h5, h6, h7]
  simp only [Cond.before, Cond.holds, Cond.value, he]
  cases v <;> simp_all [Value.isRef]
theorem vx_isRefq {C n d : String} {A : Nat → Prop} {s : State} {args : Array Value} (h : va_Zq C n d A s s.heap) : (Cond.isRef (.static C n d)).before args s = true := by
  rcases h with h | ⟨t, h⟩
  · exact vx_isRef h rfl
  · exact vx_isRef h rfl
theorem vx_rebase {T : State} (X : Stand p l e R s m args below meth c T locs cells slots) {R' : Room} (hf : R'.frames ≤ R.frames) (hl : R'.locals ≤ R.locals) (hc : cells + R'.cells ≤ R.cells) (hs : slots + R'.slots ≤ R.slots) :
    Stand p l e R' ((T.setVm s.vm).setFrames (.invoking m args :: below)) m args below meth c T [] 0 0 := by
  have htop : (T.setVm s.vm).topJava?.isSome := X.here.top
  have hF : ((T.setVm s.vm).setFrames (.invoking m args :: below)).frames = .invoking m args :: below := State.frames_setFrames _ (State.cur_lt_of_top htop)
  obtain ⟨g₀, hg0⟩ := Option.isSome_iff_exists.mp htop
  obtain ⟨r, hr⟩ := State.topJava?_eq_some.mp hg0
  have hl9 : e.platform.stackLimits (T.setVm s.vm).me = e.platform.stackLimits s.me := X.limits
  have hb9 : (T.setVm s.vm).me.stackBytes = s.me.stackBytes := X.bytes
  refine ⟨X.admits, X.cas, X.clock, hF, ?_, X.hears, X.method, X.code, X.here, X.tail, X.warmed, ?_, ?_, ?_⟩
  · have h := X.room
    have hU : ((T.setVm s.vm).setFrames (.invoking m args :: below)).localsInUse = s.localsInUse := by
      rw [State.localsInUse_invoking hF (meth := meth) (c := c) X.method X.code, State.localsInUse_invoking X.frames X.method X.code]
    simp only [State.hasRoom, Bool.and_eq_true, decide_eq_true_eq] at h ⊢
    obtain ⟨⟨⟨⟨h1, h2, h3, h4, h5, h6⟩, h7⟩, h8⟩, h9⟩ := h
    rw [X.frames, List.length_cons] at h2 h3
    have q1 := X.heapSize
    have q2 := X.used
    simp only [hF, hU, List.length_cons, State.stackLimits_setFrames, State.stackBytes_setFrames, hl9, hb9]
    refine ⟨⟨⟨⟨by omega, by omega, by omega, by omega, by omega, h6⟩, ?_⟩, ?_⟩, X.book⟩
    · show T.heap.size + R'.cells ≤ e.platform.maxCells
      omega
    · show T.slotsUsed + R'.slots ≤ e.platform.maxSlots
      omega
  · rw [State.stackLimits_setFrames]; rfl
  · rw [State.stackBytes_setFrames]; rfl
  · refine ⟨?_, Nat.le_refl _, Nat.le_refl _, ?_, ?_, fun a c9 h9 => ⟨c9, h9, rfl, rfl, fun _ _ => rfl⟩⟩
    · obtain ⟨t, ht, -⟩ := State.frames_cons hr
      show T.setVm s.vm = { ((T.setVm s.vm).setFrames (.invoking m args :: below)).setFrames (T.setVm s.vm).frames with heap := T.heap, slotsUsed := T.slotsUsed }
      rw [State.setFrames_setFrames, State.setFrames_self ht]
      rfl
    · show T.slotsUsed = T.slotsUsed + ((T.heap.toList.drop T.heap.size).map (·.slots.size)).sum
      rw [List.drop_eq_nil_of_le (Nat.le_of_eq Array.length_toList)]
      rfl
    · show ((T.heap.toList.drop T.heap.size).map (·.slots.size)).sum ≤ 0
      rw [List.drop_eq_nil_of_le (Nat.le_of_eq Array.length_toList)]
      exact Nat.le_refl _
theorem vx_throw0 {cc : ByteArray} {pc : Nat} (hexec : p.tables.exec = Jvm.exec) (hb : c.code = cc) (hl : l.stackTraces = false) {own cls : String} {names : List String} {ik ic mc ms : Nat} {A : Nat → Prop}
    (hown : s.vm.findClass own = some m.cls) (hcls : Bundle.fit cls = true) (hnames : ∀ n ∈ names, Bundle.fit n = true)
    (hk : (Cond.classLink own ik cls).before args s = true) (hini : (Cond.initialized cls).before args s = true) (hat : ∀ w ∈ vx_at0 own ic cls names, w.before args s = true)
    (hgood : ∀ w ∈ Cond.classLink own ik cls :: Cond.initialized cls :: vx_at0 own ic cls names, vx_ot w = true)
    (hU : vx_Zq Bundle.tN "UNASSIGNED_STACK" Bundle.steD A s s.heap) (hN : vx_Zq Bundle.tN "SUPPRESSED_SENTINEL" Bundle.listD A s s.heap) (hS : va_S A s.heap H locs) (hsize : ls.size = c.maxLocals)
    (d0 : decode cc pc = .ok (.new ik, 3)) (d3 : decode cc (pc + 3) = .ok (.dup, 1)) (d4 : decode cc (pc + 4) = .ok (.invokespecial ic, 3)) (d7 : decode cc (pc + 7) = .ok (.athrow, 1))
    (hout : ∀ x ∈ c.exceptionTable.toList, covers x (pc + 7) = false)
    (hRframes : names.length + 3 < R.frames) (hRlocals : (rest.map fun v => v.category).sum + (13 * (names.length + 1) + 42) ≤ R.locals) (hRcells : cells + 1 ≤ R.cells) (hRslots : slots + 6 ≤ R.slots) (hlocks : meth.locks = false)
    (hx : ∀ t : State, s.vm.Alike t.vm → H.size ≤ t.heap.size → (∀ q : Nat, q < H.size → t.heap[q]? = H[q]?) → XC cls s t)
    (hf : ∀ z ∈ locs, free z.base) (hc : cells + 1 ≤ mc) (hs : slots + 6 ≤ ms) :
    W p l e R s m args below meth c H locs cells slots (vx_MQ below Qc XC args s mc ms free) (F0 m pc ls rest) := by
  intro T hT X
  have htr : e.platform.stackTraces = false := (show e.platform.stackTraces = l.stackTraces by rw [X.admits.platform]).trans hl
  have Y := vx_rebase X (R' := { frames := R.frames, locals := R.locals, cells := 1, slots := 6 }) (Nat.le_refl _) (Nat.le_refl _) hRcells hRslots
  obtain ⟨s', hA⟩ : ∃ z, z = (T.setVm s.vm).setFrames (.invoking m args :: below) := ⟨_, rfl⟩
  rw [← hA] at Y
  have hvm : s'.vm = s.vm := by rw [hA]; rfl
  have hhp : s'.heap = H := by rw [hA]; exact hT
  have hW0 : s.WarmedH s'.vm := by rw [hvm]; exact State.WarmedH.refl s
  have hat' : ∀ w ∈ vx_at0 own ic cls names, w.before args s' = true := fun w hw => vx_ot_at hW0 hvm.symm (hgood w (List.mem_cons_of_mem _ (List.mem_cons_of_mem _ hw))) (hat w hw)
  have hk' : (Cond.classLink own ik cls).before args s' = true := vx_ot_at hW0 hvm.symm (hgood _ List.mem_cons_self) hk
  have hini' : (Cond.initialized cls).before args s' = true := vx_ot_at hW0 hvm.symm (hgood _ (List.mem_cons_of_mem _ List.mem_cons_self)) hini
  have hU' : vx_Zq Bundle.tN "UNASSIGNED_STACK" Bundle.steD A s' s'.heap := by rw [hhp]; exact vx_Zq.moved hW0.alike (hU.kept hS.2.1)
  have hN' : vx_Zq Bundle.tN "SUPPRESSED_SENTINEL" Bundle.listD A s' s'.heap := by rw [hhp]; exact vx_Zq.moved hW0.alike (hN.kept hS.2.1)
  have h : ∀ w ∈ Bundle.ownAtoms0 own ic cls names, w.before args s' = true := vx_own hat' (vx_isRefq hU'.1) (vx_isRefq hN'.1) hU'.2.word hN'.2.word
  have hown' : s'.vm.findClass own = some m.cls := by rw [hvm]; exact hown
  have hins : (Cond.instantiable cls 6).before args s' = true := h _ (by simp [Bundle.ownAtoms0])
  obtain ⟨vm₁, cX, kX, hfX, hkX, -, -, X₁, st1⟩ := Y.newCold hexec (own := own) (C := cls) (index := ik) (n := 6) hown' hk' hins hini'
    (g := F0 m pc ls rest) rfl (by rw [hb]; exact d0) (Nat.le_refl _) (Nat.le_refl _)
  generalize hT1 : (T.setVm vm₁).pushCell { cls := cX, slots := kX.instanceTypes.map defaultValue, vm := .none } = T1 at X₁ st1
  have hcat : (Value.ref T.heap.size).category = 1 := rfl
  have hcellA : T1.heap[T.heap.size]? = some (freshCell cX kX) := by rw [← hT1]; exact State.heap_pushCell_size _ _
  have d3' : decode c.code (pc + 3) = .ok (.dup, 1) := by rw [hb]; exact d3
  obtain ⟨U, hsteps, hrun, hend, hW, hsame, ce, hce, hO⟩ := X₁.ctorThrow0 hexec htr (own := own) (cls := cls) (names := names) (ic := ic) hown' hcls hnames h (fun x hx => nomatch hx) hfX hkX hcellA (by rw [hhp, hT]; exact Nat.le_refl _)
    (g := { method := m, pc := pc + 4, locals := ls, stack := .ref T.heap.size :: .ref T.heap.size :: rest, locked := none }) rfl hsize rfl rfl (rest := rest) rfl
    (by rw [hb]; exact d4) (by rw [hb]; exact d7) hout hRframes (by simp only [List.map_cons, List.sum_cons, hcat]; omega) hlocks
  obtain ⟨f1, f2⟩ := vx_frame hsame
  rw [hhp] at f1 f2
  have hWs : s.WarmedH U.vm := State.WarmedH.trans hW0 hW
  have hcl : s.vm.findClass cls = some ce.cls := by
    have h9 := hO.cls
    rw [hvm] at h9
    exact h9
  have hall : s.sameButNew ({ U with vm := s.vm } : State) locs mc ms := by
    subst hA
    obtain ⟨e1, e2⟩ := hsame
    rw [State.setFrames_setFrames] at e1
    have h2 : (T.setVm s.vm).sameButNew ({ U with vm := s.vm } : State) [] (0 + 1) (0 + 6) := ⟨e1, e2⟩
    have h3 := X.same.trans h2
    rw [List.append_nil] at h3
    exact h3.mono hc hs
  refine ⟨U, ?_, .threw T.heap.size, hrun, hend, Or.inr ⟨T.heap.size, rfl, cls, ce, locs, hx U hWs.alike f1 (fun q hq => f2 q hq (fun z hz => nomatch hz)), hce, hO.vm, hcl, hWs, hall, hf⟩⟩
  refine st1 _ ?_
  show Steps p.tables e below (T1.setTop { method := m, pc := pc + 3, locals := ls, stack := .ref T.heap.size :: rest, locked := none }) _
  jvm_step X₁.here [X₁.here.top, hexec, d3', Value.category]
  exact hsteps
theorem vx_throwS {cc : ByteArray} {pc : Nat} (hexec : p.tables.exec = Jvm.exec) (hb : c.code = cc) (hl : l.stackTraces = false) {own cls text : String} {names : List String} {ik is ic mc ms sa : Nat} {A : Nat → Prop}
    (hown : s.vm.findClass own = some m.cls) (hcls : Bundle.fit cls = true) (hnames : ∀ n ∈ names, Bundle.fit n = true)
    (hk : (Cond.classLink own ik cls).before args s = true) (hini : (Cond.initialized cls).before args s = true) (hstr : vk_R own is text sa s) (hat : ∀ w ∈ vx_atS own ic cls names, w.before args s = true)
    (hgood : ∀ w ∈ Cond.classLink own ik cls :: Cond.initialized cls :: vx_atS own ic cls names, vx_ot w = true)
    (hU : vx_Zq Bundle.tN "UNASSIGNED_STACK" Bundle.steD A s s.heap) (hN : vx_Zq Bundle.tN "SUPPRESSED_SENTINEL" Bundle.listD A s s.heap) (hS : va_S A s.heap H locs) (hsize : ls.size = c.maxLocals)
    (d0 : decode cc pc = .ok (.new ik, 3)) (d3 : decode cc (pc + 3) = .ok (.dup, 1)) (d4 : decode cc (pc + 4) = .ok (.ldc is, 2)) (d6 : decode cc (pc + 6) = .ok (.invokespecial ic, 3)) (d9 : decode cc (pc + 9) = .ok (.athrow, 1))
    (hout : ∀ x ∈ c.exceptionTable.toList, covers x (pc + 9) = false)
    (hRframes : names.length + 3 < R.frames) (hRlocals : (rest.map fun v => v.category).sum + (13 * (names.length + 1) + 43) ≤ R.locals) (hRcells : cells + 1 ≤ R.cells) (hRslots : slots + 6 ≤ R.slots) (hlocks : meth.locks = false)
    (hx : ∀ t : State, s.vm.Alike t.vm → H.size ≤ t.heap.size → (∀ q : Nat, q < H.size → t.heap[q]? = H[q]?) → XC cls s t)
    (hf : ∀ z ∈ locs, free z.base) (hc : cells + 1 ≤ mc) (hs : slots + 6 ≤ ms) :
    W p l e R s m args below meth c H locs cells slots (vx_MQ below Qc XC args s mc ms free) (F0 m pc ls rest) := by
  intro T hT X
  have htr : e.platform.stackTraces = false := (show e.platform.stackTraces = l.stackTraces by rw [X.admits.platform]).trans hl
  have Y := vx_rebase X (R' := { frames := R.frames, locals := R.locals, cells := 1, slots := 6 }) (Nat.le_refl _) (Nat.le_refl _) hRcells hRslots
  obtain ⟨s', hA⟩ : ∃ z, z = (T.setVm s.vm).setFrames (.invoking m args :: below) := ⟨_, rfl⟩
  rw [← hA] at Y
  have hvm : s'.vm = s.vm := by rw [hA]; rfl
  have hhp : s'.heap = H := by rw [hA]; exact hT
  have hW0 : s.WarmedH s'.vm := by rw [hvm]; exact State.WarmedH.refl s
  have hat' : ∀ w ∈ vx_atS own ic cls names, w.before args s' = true := fun w hw => vx_ot_at hW0 hvm.symm (hgood w (List.mem_cons_of_mem _ (List.mem_cons_of_mem _ hw))) (hat w hw)
  have hk' : (Cond.classLink own ik cls).before args s' = true := vx_ot_at hW0 hvm.symm (hgood _ List.mem_cons_self) hk
  have hini' : (Cond.initialized cls).before args s' = true := vx_ot_at hW0 hvm.symm (hgood _ (List.mem_cons_of_mem _ List.mem_cons_self)) hini
  have hU' : vx_Zq Bundle.tN "UNASSIGNED_STACK" Bundle.steD A s' s'.heap := by rw [hhp]; exact vx_Zq.moved hW0.alike (hU.kept hS.2.1)
  have hN' : vx_Zq Bundle.tN "SUPPRESSED_SENTINEL" Bundle.listD A s' s'.heap := by rw [hhp]; exact vx_Zq.moved hW0.alike (hN.kept hS.2.1)
  have h : ∀ w ∈ Bundle.ownAtoms own ic cls names, w.before args s' = true := vx_own hat' (vx_isRefq hU'.1) (vx_isRefq hN'.1) hU'.2.word hN'.2.word
  have hown' : s'.vm.findClass own = some m.cls := by rw [hvm]; exact hown
  have hins : (Cond.instantiable cls 6).before args s' = true := h _ (by simp [Bundle.ownAtoms])
  obtain ⟨vm₁, cX, kX, hfX, hkX, -, -, X₁, st1⟩ := Y.newCold hexec (own := own) (C := cls) (index := ik) (n := 6) hown' hk' hins hini'
    (g := F0 m pc ls rest) rfl (by rw [hb]; exact d0) (Nat.le_refl _) (Nat.le_refl _)
  generalize hT1 : (T.setVm vm₁).pushCell { cls := cX, slots := kX.instanceTypes.map defaultValue, vm := .none } = T1 at X₁ st1
  have hcat : (Value.ref T.heap.size).category = 1 := rfl
  have hcellA : T1.heap[T.heap.size]? = some (freshCell cX kX) := by rw [← hT1]; exact State.heap_pushCell_size _ _
  have d3' : decode c.code (pc + 3) = .ok (.dup, 1) := by rw [hb]; exact d3
  have d4' : decode c.code (pc + 4) = .ok (.ldc is, 2) := by rw [hb]; exact d4
  have hstr' : vk_R own is text sa s' := vk_R.warm hW0 hstr
  obtain ⟨U, hsteps, hrun, hend, hW, hsame, ce, hce, hO⟩ := X₁.ctorThrowS hexec htr (own := own) (cls := cls) (names := names) (ic := ic) hown' hcls hnames h (fun x hx => nomatch hx) hfX hkX hcellA (by rw [hhp, hT]; exact Nat.le_refl _) (msg := .ref sa) rfl
    (g := { method := m, pc := pc + 6, locals := ls, stack := .ref sa :: .ref T.heap.size :: .ref T.heap.size :: rest, locked := none }) rfl hsize rfl rfl (rest := rest) rfl
    (by rw [hb]; exact d6) (by rw [hb]; exact d9) hout hRframes (by simp only [List.map_cons, List.sum_cons, hcat]; omega) hlocks
  obtain ⟨f1, f2⟩ := vx_frame hsame
  rw [hhp] at f1 f2
  have hWs : s.WarmedH U.vm := State.WarmedH.trans hW0 hW
  have hcl : s.vm.findClass cls = some ce.cls := by
    have h9 := hO.cls
    rw [hvm] at h9
    exact h9
  have hall : s.sameButNew ({ U with vm := s.vm } : State) locs mc ms := by
    subst hA
    obtain ⟨e1, e2⟩ := hsame
    rw [State.setFrames_setFrames] at e1
    have h2 : (T.setVm s.vm).sameButNew ({ U with vm := s.vm } : State) [] (0 + 1) (0 + 6) := ⟨e1, e2⟩
    have h3 := X.same.trans h2
    rw [List.append_nil] at h3
    exact h3.mono hc hs
  refine ⟨U, ?_, .threw T.heap.size, hrun, hend, Or.inr ⟨T.heap.size, rfl, cls, ce, locs, hx U hWs.alike f1 (fun q hq => f2 q hq (fun z hz => nomatch hz)), hce, hO.vm, hcl, hWs, hall, hf⟩⟩
  refine st1 _ ?_
  show Steps p.tables e below (T1.setTop { method := m, pc := pc + 3, locals := ls, stack := .ref T.heap.size :: rest, locked := none }) _
  jvm_step X₁.here [X₁.here.top, hexec, d3', Value.category]
  exact X₁.ldcString hexec (own := own) (text := text) (index := is) (a := sa) hown' hstr'.1 hstr'.2
    (g := { method := m, pc := pc + 4, locals := ls, stack := .ref T.heap.size :: .ref T.heap.size :: rest, locked := none }) rfl d4' _ hsteps
theorem vx_throwSW {cc : ByteArray} {pc : Nat} (hexec : p.tables.exec = Jvm.exec) (hb : c.code = cc) (hl : l.stackTraces = false) {own cls text : String} {names : List String} {ik is ic mc ms sa : Nat} {A : Nat → Prop}
    (hown : s.vm.findClass own = some m.cls) (hcls : Bundle.fit cls = true) (hnames : ∀ n ∈ names, Bundle.fit n = true)
    (hk : (Cond.classLink own ik cls).before args s = true) (hini : (Cond.initialized cls).before args s = true) (hstr : vk_R own is text sa s) (hat : ∀ w ∈ vx_atS own ic cls names, w.before args s = true)
    (hgood : ∀ w ∈ Cond.classLink own ik cls :: Cond.initialized cls :: vx_atS own ic cls names, vx_ot w = true)
    (hU : vx_Zq Bundle.tN "UNASSIGNED_STACK" Bundle.steD A s s.heap) (hN : vx_Zq Bundle.tN "SUPPRESSED_SENTINEL" Bundle.listD A s s.heap) (hS : va_S A s.heap H locs) (hsize : ls.size = c.maxLocals)
    (d0 : decode cc pc = .ok (.new ik, 3)) (d3 : decode cc (pc + 3) = .ok (.dup, 1)) (d4 : decode cc (pc + 4) = .ok (.ldc_w is, 3)) (d7 : decode cc (pc + 7) = .ok (.invokespecial ic, 3)) (d10 : decode cc (pc + 10) = .ok (.athrow, 1))
    (hout : ∀ x ∈ c.exceptionTable.toList, covers x (pc + 10) = false)
    (hRframes : names.length + 3 < R.frames) (hRlocals : (rest.map fun v => v.category).sum + (13 * (names.length + 1) + 43) ≤ R.locals) (hRcells : cells + 1 ≤ R.cells) (hRslots : slots + 6 ≤ R.slots) (hlocks : meth.locks = false)
    (hx : ∀ t : State, s.vm.Alike t.vm → H.size ≤ t.heap.size → (∀ q : Nat, q < H.size → t.heap[q]? = H[q]?) → XC cls s t)
    (hf : ∀ z ∈ locs, free z.base) (hc : cells + 1 ≤ mc) (hs : slots + 6 ≤ ms) :
    W p l e R s m args below meth c H locs cells slots (vx_MQ below Qc XC args s mc ms free) (F0 m pc ls rest) := by
  intro T hT X
  have htr : e.platform.stackTraces = false := (show e.platform.stackTraces = l.stackTraces by rw [X.admits.platform]).trans hl
  have Y := vx_rebase X (R' := { frames := R.frames, locals := R.locals, cells := 1, slots := 6 }) (Nat.le_refl _) (Nat.le_refl _) hRcells hRslots
  obtain ⟨s', hA⟩ : ∃ z, z = (T.setVm s.vm).setFrames (.invoking m args :: below) := ⟨_, rfl⟩
  rw [← hA] at Y
  have hvm : s'.vm = s.vm := by rw [hA]; rfl
  have hhp : s'.heap = H := by rw [hA]; exact hT
  have hW0 : s.WarmedH s'.vm := by rw [hvm]; exact State.WarmedH.refl s
  have hat' : ∀ w ∈ vx_atS own ic cls names, w.before args s' = true := fun w hw => vx_ot_at hW0 hvm.symm (hgood w (List.mem_cons_of_mem _ (List.mem_cons_of_mem _ hw))) (hat w hw)
  have hk' : (Cond.classLink own ik cls).before args s' = true := vx_ot_at hW0 hvm.symm (hgood _ List.mem_cons_self) hk
  have hini' : (Cond.initialized cls).before args s' = true := vx_ot_at hW0 hvm.symm (hgood _ (List.mem_cons_of_mem _ List.mem_cons_self)) hini
  have hU' : vx_Zq Bundle.tN "UNASSIGNED_STACK" Bundle.steD A s' s'.heap := by rw [hhp]; exact vx_Zq.moved hW0.alike (hU.kept hS.2.1)
  have hN' : vx_Zq Bundle.tN "SUPPRESSED_SENTINEL" Bundle.listD A s' s'.heap := by rw [hhp]; exact vx_Zq.moved hW0.alike (hN.kept hS.2.1)
  have h : ∀ w ∈ Bundle.ownAtoms own ic cls names, w.before args s' = true := vx_own hat' (vx_isRefq hU'.1) (vx_isRefq hN'.1) hU'.2.word hN'.2.word
  have hown' : s'.vm.findClass own = some m.cls := by rw [hvm]; exact hown
  have hins : (Cond.instantiable cls 6).before args s' = true := h _ (by simp [Bundle.ownAtoms])
  obtain ⟨vm₁, cX, kX, hfX, hkX, -, -, X₁, st1⟩ := Y.newCold hexec (own := own) (C := cls) (index := ik) (n := 6) hown' hk' hins hini'
    (g := F0 m pc ls rest) rfl (by rw [hb]; exact d0) (Nat.le_refl _) (Nat.le_refl _)
  generalize hT1 : (T.setVm vm₁).pushCell { cls := cX, slots := kX.instanceTypes.map defaultValue, vm := .none } = T1 at X₁ st1
  have hcat : (Value.ref T.heap.size).category = 1 := rfl
  have hcellA : T1.heap[T.heap.size]? = some (freshCell cX kX) := by rw [← hT1]; exact State.heap_pushCell_size _ _
  have d3' : decode c.code (pc + 3) = .ok (.dup, 1) := by rw [hb]; exact d3
  have d4' : decode c.code (pc + 4) = .ok (.ldc_w is, 3) := by rw [hb]; exact d4
  have hstr' : vk_R own is text sa s' := vk_R.warm hW0 hstr
  obtain ⟨U, hsteps, hrun, hend, hW, hsame, ce, hce, hO⟩ := X₁.ctorThrowS hexec htr (own := own) (cls := cls) (names := names) (ic := ic) hown' hcls hnames h (fun x hx => nomatch hx) hfX hkX hcellA (by rw [hhp, hT]; exact Nat.le_refl _) (msg := .ref sa) rfl
    (g := { method := m, pc := pc + 7, locals := ls, stack := .ref sa :: .ref T.heap.size :: .ref T.heap.size :: rest, locked := none }) rfl hsize rfl rfl (rest := rest) rfl
    (by rw [hb]; exact d7) (by rw [hb]; exact d10) hout hRframes (by simp only [List.map_cons, List.sum_cons, hcat]; omega) hlocks
  obtain ⟨f1, f2⟩ := vx_frame hsame
  rw [hhp] at f1 f2
  have hWs : s.WarmedH U.vm := State.WarmedH.trans hW0 hW
  have hcl : s.vm.findClass cls = some ce.cls := by
    have h9 := hO.cls
    rw [hvm] at h9
    exact h9
  have hall : s.sameButNew ({ U with vm := s.vm } : State) locs mc ms := by
    subst hA
    obtain ⟨e1, e2⟩ := hsame
    rw [State.setFrames_setFrames] at e1
    have h2 : (T.setVm s.vm).sameButNew ({ U with vm := s.vm } : State) [] (0 + 1) (0 + 6) := ⟨e1, e2⟩
    have h3 := X.same.trans h2
    rw [List.append_nil] at h3
    exact h3.mono hc hs
  refine ⟨U, ?_, .threw T.heap.size, hrun, hend, Or.inr ⟨T.heap.size, rfl, cls, ce, locs, hx U hWs.alike f1 (fun q hq => f2 q hq (fun z hz => nomatch hz)), hce, hO.vm, hcl, hWs, hall, hf⟩⟩
  refine st1 _ ?_
  show Steps p.tables e below (T1.setTop { method := m, pc := pc + 3, locals := ls, stack := .ref T.heap.size :: rest, locked := none }) _
  jvm_step X₁.here [X₁.here.top, hexec, d3', Value.category]
  exact X₁.ldcStringW hexec (own := own) (text := text) (index := is) (a := sa) hown' hstr'.1 hstr'.2
    (g := { method := m, pc := pc + 4, locals := ls, stack := .ref T.heap.size :: .ref T.heap.size :: rest, locked := none }) rfl d4' _ hsteps
end Ends
section Bodies
variable {l : Launch}
theorem vx_ofW {y : MethodName} {ws ws' : List Cond} {rm : Room} {Pc : Array Value → State → Prop} {Qc : Array Value → State → Outcome → State → Prop} {XC : String → State → State → Prop} {mc ms : Nat} {free : Addr → Prop} {cc : ByteArray} {maxL : Nat} {ret : Option FieldType}
    (hy : plainName y.cls = true) (hw : ws = Cond.code y cc maxL ret :: ws')
    (body : ∀ p e s m args below meth c s₁, BodyLoose p l y (headSpec ws rm) cc maxL ret e s m args below meth c s₁ → c.maxLocals = maxL → (∀ x ∈ c.exceptionTable.toList, False) → Pc args s →
      W p l e (headSpec ws rm).room s m args below meth c s.heap [] 0 0 (vx_MQ below Qc XC args s mc ms free) (entryFrame m args maxL)) : vx_Met l y ws rm Pc Qc XC mc ms free := by
  refine MetFree.of_bodyS (code := cc) (maxLocals := maxL) (ret := ret) hy ?_ ?_
  · intro args s m h hn
    obtain ⟨meth, c, h1, h2, h3, h4, h5, h6, -, -⟩ := Cond.code_spec hn (atoms_spec (ws := ws) h _ (by rw [hw]; exact List.mem_cons_self))
    exact ⟨meth, c, h1, h2, h3, h4, h5, h6⟩
  · intro p e s m args below meth c s₁ B hml hP _
    have hh0 : s₁.heap = s.heap := by rw [B.state]; rfl
    have ht : ∀ x ∈ c.exceptionTable.toList, False := by
      obtain ⟨meth9, c9, h1, h2, -, -, -, -, h7, -⟩ := Cond.code_spec B.named (atoms_spec (ws := ws) B.pre _ (by rw [hw]; exact List.mem_cons_self))
      cases Option.some.inj (h1.symm.trans B.method)
      cases Option.some.inj (h2.symm.trans (Stand.of_body B).code)
      intro x hx
      rw [Array.isEmpty_iff.mp h7] at hx
      cases hx
    obtain ⟨t, a1, o, b1, b2, b3⟩ := body p e s m args below meth c s₁ B hml ht hP s₁ hh0 (Stand.of_body B)
    exact ⟨t, o, a1, b1, b2, b3⟩
theorem vx_table {p : Program} {x y : MethodName} {S : Spec} {cc bytes : ByteArray} {maxL maxL' : Nat} {ret ret' : Option FieldType} {e : Env} {s s₁ : State} {m : MethodId} {args : Array Value} {below : List Frame} {meth : Method} {c : Code} {hh : List (Nat × Nat × Nat × Nat)}
    (B : BodyLoose p l y S cc maxL ret e s m args below meth c s₁) (h : (Cond.codeWith y bytes maxL' ret' hh).before args s = true) : c.exceptionTable.toList = tableOf hh := by
  obtain ⟨m9, meth9, c9, hn9, h1, h2, -, -, h6, -⟩ := Cond.codeWith_spec h
  cases Option.some.inj (hn9.symm.trans B.named)
  cases Option.some.inj (h1.symm.trans B.method)
  cases Option.some.inj (h2.symm.trans (Stand.of_body B).code)
  rw [← h6, table_eq]
end Bodies
end VXA
section VXS
variable {p : Program} {l : Launch} {e : Env} {R : Room} {s : State} {m : MethodId} {args : Array Value} {below : List Frame} {meth : Method} {c : Code} {T : State} {H : Heap} {locs : List Loc} {cells slots : Nat}
abbrev vx_CSW (R : Room) (s : State) (args : Array Value) (own : String) (index : Nat) (y : MethodName) (bytes : ByteArray) (maxL : Nat) (ret : Option FieldType) (hh : List (Nat × Nat × Nat × Nat)) (ws : List Cond) (rm : Room) (mc ms n : Nat) : Prop :=
  (rm.cells = mc ∧ rm.slots = ms ∧ rm.frames + 1 ≤ R.frames ∧ 8 + (maxL + 11) + rm.locals ≤ R.locals ∧ (∀ w ∈ ws, ∀ (a' : Array Value) (U : State), s.WarmedH U.vm → w.before a' U = true) ∧ Cond.codeWith y bytes maxL ret hh ∈ ws) ∧
  (Cond.codeWith y bytes maxL ret hh).before args s = true ∧ (Cond.initialized y.cls).before args s = true ∧ (y.cls ≠ "java/lang/invoke/MethodHandle" ∧ y.cls ≠ "java/lang/invoke/VarHandle") ∧
  (∀ sig, parseMethodDescriptor y.desc = some sig → n = sig.parameters.length) ∧ (Cond.methodLink own index y).before args s = true ∧ (Cond.static y).before args s = true
theorem vx_cwSW {own : String} {index maxL mc ms : Nat} {y : MethodName} {bytes : ByteArray} {ret : Option FieldType} {hh : List (Nat × Nat × Nat × Nat)} {Ts ws ws' : List Cond} {rm : Room} (n : Nat) (ht : ∀ w ∈ Ts, w.before args s = true) (hT : GoodIn Ts (va_wsS own index y ws)) (hw : ws = Cond.codeWith y bytes maxL ret hh :: ws') (hrc : rm.cells = mc) (hrs : rm.slots = ms)
    (hd : y.cls ≠ "java/lang/invoke/MethodHandle" ∧ y.cls ≠ "java/lang/invoke/VarHandle" ∧ (parseMethodDescriptor y.desc).map (fun d => d.parameters.length) = some n) (hR : rm.frames + 1 ≤ R.frames ∧ 8 + (maxL + 11) + rm.locals ≤ R.locals) :
    vx_CSW R s args own index y bytes maxL ret hh ws rm mc ms n := by
  have ok : ∀ w ∈ va_wsS own index y ws, w.before args s = true := fun w h => ht w (hT w h).1
  have hG : GoodIn Ts ws := fun w h => hT w (by unfold va_wsS; exact List.mem_append_right _ h)
  have hc : Cond.codeWith y bytes maxL ret hh ∈ ws := by rw [hw]; exact List.mem_cons_self
  refine ⟨⟨hrc, hrs, hR.1, hR.2, pay_in ht hG, hc⟩, ht _ (hG _ hc).1, ok _ (by simp [va_wsS]), ⟨hd.1, hd.2.1⟩, fun sig h => ?_, ok _ (by simp [va_wsS]), ok _ (by simp [va_wsS])⟩
  have h2 := hd.2.2
  rw [h] at h2
  exact (Option.some.inj h2).symm
theorem vx_callSW (X : Stand p l e R s m args below meth c T locs cells slots) (hexec : p.tables.exec = Jvm.exec) {own : String} {index : Nat} {y : MethodName} {bytes : ByteArray} {maxL : Nat} {ret : Option FieldType} {hh : List (Nat × Nat × Nat × Nat)}
    (hown : s.vm.findClass own = some m.cls) (hlink : (Cond.methodLink own index y).before args s = true) (hstat : (Cond.static y).before args s = true) (hinit : (Cond.initialized y.cls).before args s = true)
    (hcode : (Cond.codeWith y bytes maxL ret hh).before args s = true) (hy : y.cls ≠ "java/lang/invoke/MethodHandle" ∧ y.cls ≠ "java/lang/invoke/VarHandle")
    {W9 : Nat} {Pre : Pt → Array Value → Prop} {Post : Pt → Array Value → Option Value → Pt → Prop} (hK : Back l R p e below s args y 3 W9 Pre Post)
    {g : JFrame} (hg : g.method = m) (hsize : g.locals.size = c.maxLocals) {argsL rest : List Value} (hlen : ∀ sig, parseMethodDescriptor y.desc = some sig → argsL.length = sig.parameters.length)
    (hstack : g.stack = argsL.reverse ++ rest) (hW : 2 * g.monitorRoom + (rest.map fun v => v.category).sum ≤ W9) (hdg : decode c.code g.pc = .ok (.invokestatic index, 3))
    (hpre : ∀ vm₁, s.WarmedH vm₁ → Pre ⟨T.setVm vm₁, locs, cells, slots⟩ argsL.toArray) :
    ∃ (v : Option Value) (vm₁ : Vm) (B : Pt), s.WarmedH vm₁ ∧ Stand p l e R s m args below meth c B.U B.locs B.cells B.slots ∧ Post ⟨T.setVm vm₁, locs, cells, slots⟩ argsL.toArray v B ∧
      ∀ target, Steps p.tables e below (B.U.setTop { g with pc := g.pc + 3, stack := v.toList ++ rest }) target → Steps p.tables e below (T.setTop g) target := by
  obtain ⟨mk, methM, cM, hnamed, hmethM, -, -, -, -, -, -, hsigM⟩ := Cond.codeWith_spec hcode
  have hstatic : methM.isStatic = true := Cond.static_spec hnamed hmethM hstat
  obtain ⟨kP, hkP, -⟩ := className_of_methodNamed hnamed
  have hinitP : kP.init = .initialized := Cond.initialized_spec (findClass_of_methodNamed hnamed) hkP hinit
  obtain ⟨vm₁, X₁, hstep₁⟩ := X.invokestatic hexec hown hlink hnamed hmethM hstatic hkP hinitP hy (g := g) hg (argsL := argsL) (rest := rest) (hlen _ hsigM) hstack hdg
  obtain ⟨v, B, X', hpost, hsteps⟩ := hK m meth c ⟨T.setVm vm₁, locs, cells, slots⟩ { g with stack := rest } (.invokestatic index) mk argsL.toArray X₁ hg hsize hdg hW (X₁.named hnamed) (hpre vm₁ X₁.warmed)
  exact ⟨v, vm₁, B, X₁.warmed, X', hpost, fun target h => hstep₁ _ fun acts => by rw [doInvoke_state]; exact hsteps.trans h⟩
theorem vx_runSW {y : MethodName} {bytes cc : ByteArray} {maxL nL mc ms n index : Nat} {ret : Option FieldType} {hh : List (Nat × Nat × Nat × Nat)} {ws : List Cond} {rm : Room} {Pc : Array Value → State → Prop} {Qc : Array Value → State → Outcome → State → Prop} {free : Addr → Prop} {Ts : List Cond} {own : String} {As rest : List Value} {g : JFrame}
    (S : CallFix p m c cc nL s args Ts own) (hM : Met l y ws rm Pc Qc mc ms free) (cw : vx_CSW R s args own index y bytes maxL ret hh ws rm mc ms n) (hp : PreS s H Pc As)
    (hg : g.method = m) (hn : As.length = n) (hsize : g.locals.size = nL) (hstack : g.stack = As.reverse ++ rest) (hW : 2 * g.monitorRoom + (rest.map fun v => v.category).sum ≤ 8) (hdg : decode cc g.pc = .ok (.invokestatic index, 3)) (hf : cells + mc ≤ R.cells ∧ slots + ms ≤ R.slots) :
    va_Run p l e R s m args below meth c H locs cells slots mc ms g rest (Qc As.toArray) (free) := by
  obtain ⟨⟨hrc, hrs, hfr, hlo, hws, hcw⟩, hcode, hini, hy, hlen, hl, hstt⟩ := cw
  have hK : Back l R p e below s args y 3 8 (PreOf R mc ms Pc) (PostOf Qc mc ms free) := va_backW (hh := hh) (bytes := bytes) (maxL := maxL) (ret := ret) hM hp.1 hrc hrs hfr hlo hws hcw (fun a' U hW => word_at hW (Or.inl (by first | rfl | simp [Cond.onTables, Cond.keeps, Cond.steady])) hini)
  obtain ⟨hx, hb, hml, ho, -⟩ := S
  intro T hT X
  obtain ⟨v, vm₁, ⟨U', l2, c2, s2⟩, hW₁, X', ⟨g', mk, t, L, e1, e2, hq, h1, hL, h2, h3⟩, st⟩ := vx_callSW X hx (hh := hh) (bytes := bytes) (maxL := maxL) (ret := ret) ho hl hstt hini hcode hy hK hg (hsize.trans hml.symm) (argsL := As) (rest := rest) (fun sig h => hn.trans (hlen sig h)) hstack hW (by rw [hb]; exact hdg)
    (fun vm₁ hW₁ => ⟨hf.1, hf.2, hp.2 (T.setVm vm₁) hT hW₁⟩)
  dsimp only [Pt.U, Pt.locs, Pt.cells, Pt.slots] at X' e1 e2 h1 h2 h3 st
  subst h1; subst h2; subst h3
  exact ⟨v, (T.setVm vm₁).calling g' mk As.toArray, t, U', L, hT, X', hL, e1, e2, hq, st⟩
theorem vx_outP {p : Program} {l : Launch} {e : Env} {R : Room} {s : State} {m : MethodId} {args : Array Value} {below : List Frame} {meth : Method} {c : Code} {H : Heap} {locs : List Loc} {cells slots : Nat} {free : Addr → Prop} {ls : Array Slot} {rest : List Value} {Qc : Array Value → State → Outcome → State → Prop} {XC : String → State → State → Prop}
    {pc : Nat} {own E : String} {ce : Cell} {q : Addr} {mc ms : Nat} (hown : s.vm.findClass own = some m.cls) (hlocks : meth.locks = false)
    (hpass : ∀ z ∈ c.exceptionTable.toList, covers z pc = false ∨ (z.catchType ≠ 0 ∧ ∃ nm : String, (Cond.classLink own z.catchType nm).before args s = true ∧ va_Nc E nm s)) (hcell : H[q]? = some ce) (hv : ce.vm = .none) (hcl : s.vm.findClass E = some ce.cls)
    (hx : ∀ t : State, t.heap = H → s.vm.Alike t.vm → XC E s t) (hf : ∀ z ∈ locs, free z.base) (hc : cells ≤ mc) (hs : slots ≤ ms) :
    vx_W p l e R s m args below meth c H locs cells slots (vx_MQ below Qc XC args s mc ms free) (F0 m pc ls rest) q := by
  intro T hT X
  have hpl : e.platform.magicAccessors = ({} : Platform).magicAccessors := by rw [X.admits.platform]
  obtain ⟨vm', hW', X', st⟩ := X.outThrough hlocks q (g := F0 m pc ls rest) rfl rfl rfl (cell := ce) (by rw [hT]; exact hcell) (by rw [hv]; rfl)
    (by obtain ⟨k9, h9, -⟩ := Vm.findClass_spec hcl; exact ⟨k9, h9⟩) (fun z hz => by
      rcases hpass z hz with h | ⟨hz0, nm, hl1, hn1⟩
      · exact Or.inl h
      · obtain ⟨c6, hc6, hcl6⟩ := Cond.classLink_spec hown hl1 e.platform hpl
        obtain ⟨a8, b8, h1, h2, h3⟩ := hn1
        cases Option.some.inj (h1.symm.trans hcl)
        cases Option.some.inj (h2.symm.trans hc6)
        exact Or.inr ⟨hz0, _, hcl6, h3⟩)
  obtain ⟨g₀, hfr⟩ := X'.frames_eq
  have hcell9 : ((T.setVm vm').setFrames (.throwing q :: below)).heap[q]? = some ce := by
    show T.heap[q]? = some ce
    rw [hT]; exact hcell
  have hend : Ended ((T.setVm vm').setFrames (.throwing q :: below)) below (.threw q) := State.frames_setFrames _ (State.cur_lt_of_frames hfr)
  refine ⟨(T.setVm vm').setFrames (.throwing q :: below), ?_, .threw q, X'.here.running, hend, Or.inr ⟨q, rfl, E, ce, locs, hx _ hT (X'.ends _).1.alike, hcell9, hv, hcl, (X'.ends _).1, (X'.ends _).2.mono hc hs, hf⟩⟩
  rw [X.pushThrowing_eq]
  exact st
theorem vx_lt {D : va_G} {cl : List vw_C} {ws : va_W} {H1 : Heap} (h : va_P D cl ws H1) {k : Nat} {q : Nat × va_E} (hk : ws[k]? = some q) : q.1 < H1.size := (h k q hk).lt
end VXS
section VXH
section
variable {l : Launch} {R : Room} {p : Program} {e : Env} {below : List Frame} {s : State} {sargs : Array Value} {y : MethodName} {len W9 : Nat}
theorem vx_backW {ws : List Cond} {rm : Room} {Pc : Array Value → State → Prop} {Qc : Array Value → State → Outcome → State → Prop} {XC : String → State → State → Prop} {mc ms : Nat} {free : Addr → Prop} {bytes : ByteArray} {maxL : Nat} {ret : Option FieldType} {hh : List (Nat × Nat × Nat × Nat)}
    (hM : vx_Met l y ws rm Pc Qc XC mc ms free) (hblind : FrameBlind Pc) (hrc : rm.cells = mc) (hrs : rm.slots = ms)
    (hframes : rm.frames + 1 ≤ R.frames) (hlocals : W9 + (maxL + 11) + rm.locals ≤ R.locals)
    (hws : ∀ w ∈ ws, ∀ a' U, s.WarmedH U.vm → w.before a' U = true) (hcode : Cond.codeWith y bytes maxL ret hh ∈ ws) (hinit : ∀ a' U, s.WarmedH U.vm → (Cond.initialized y.cls).before a' U = true) :
    vx_Back l R p e below s sargs y len W9 (PreOf R mc ms Pc) (PostOf Qc mc ms free) (vx_Post XC mc ms free) := by
  intro m meth c A g ig mk a X hg hsize hdg hW hn hp
  have h1 : (headSpec ws rm).pre.before a A.U = true := atoms_intro fun w hw => hws w hw _ _ X.warmed
  have h2 : (Cond.codeWith y bytes maxL ret hh).before a A.U = true := hws _ hcode _ _ X.warmed
  have h3 : (Cond.initialized y.cls).before a A.U = true := hinit _ _ X.warmed
  have h4 : A.cells + (headSpec ws rm).room.cells ≤ R.cells := by rw [show (headSpec ws rm).room.cells = mc from hrc]; exact hp.1
  have h5 : A.slots + (headSpec ws rm).room.slots ≤ R.slots := by rw [show (headSpec ws rm).room.slots = ms from hrs]; exact hp.2.1
  have hPc : Pc a (A.U.calling g mk a) := hblind _ _ _ _ hp.2.2
  obtain ⟨U, Ls, c0, s0⟩ := A
  dsimp only [Pt.U, Pt.locs, Pt.cells, Pt.slots] at h1 h2 h3 h4 h5 X hn hPc ⊢
  obtain ⟨m9, methY, cY, hn9, hmY, hcY, -, hlY, -⟩ := Cond.codeWith_spec h2
  cases Option.some.inj (hn9.symm.trans hn)
  obtain ⟨kY, hkY, -⟩ := className_of_methodNamed hn
  have hinitY : kY.init = .initialized := Cond.initialized_spec (findClass_of_methodNamed hn) hkY h3
  have h : At U g.method c below := by rw [hg]; exact X.here
  have hlocals9 : W9 + (maxL + 11) + (headSpec ws rm).room.locals ≤ R.locals := hlocals
  have happ : (headSpec ws rm).appliesLoose y e.platform (U.calling g mk a) = true :=
    Spec.appliesLoose_calling (g := g) h hdg hn hkY hinitY
      (X.room_calling (g := g) (R' := (headSpec ws rm).room) hsize hmY hcY hframes (by rw [hlY]; omega) h4 h5) h1
  obtain ⟨mid, hmid⟩ := h.above
  have hfr : (U.setTop g).frames = (.java g :: mid) ++ below := by rw [State.frames_setTop' g h.top, hmid]; rfl
  obtain ⟨o, s₂, hsteps, -, hend, hq⟩ := Steps.callFree hM p X.admits X.cas X.clock (acts := []) hfr happ hPc trivial
  have hq' : vx_Q Qc XC mc ms free a (U.calling g mk a) o s₂ := hq
  rw [State.frames_setTop' g h.top] at hend
  obtain ⟨g₀, hg0⟩ := Option.isSome_iff_exists.mp h.top
  obtain ⟨r, hr⟩ := State.topJava?_eq_some.mp hg0
  have hr' : (({ U with heap := s₂.heap, slotsUsed := s₂.slotsUsed } : State).setVm s₂.vm).frames = .java g₀ :: r := hr
  rcases hq' with ⟨hqc, L, hfe, hL⟩ | ⟨q, rfl, E, ce, L, hx, hce, hcv, hcl, hW₂, hsm, hL⟩
  · obtain ⟨⟨v, rfl⟩, hW₂, e2, q2, q3, q4, q5, q6⟩ := id hfe
    have e3 : s₂ = ({ (U.calling g mk a).setFrames s₂.frames with heap := s₂.heap, slotsUsed := s₂.slotsUsed } : State).setVm s₂.vm := by
      have : s₂ = ({ s₂ with vm := (U.calling g mk a).vm } : State).setVm s₂.vm := rfl
      rw [e2] at this
      exact this
    obtain ⟨c₂, i₂, len₂, hc₂, hd₂, hf₂⟩ := hend
    have hW' : U.WarmedH s₂.vm := hW₂
    have hcc : c₂ = c := by
      have h1 : s₂.code? g.method = U.code? g.method := by
        rw [State.code?_eq, State.code?_eq, hW'.alike.method?]
      exact Option.some.inj (hc₂.symm.trans (h1.trans h.code))
    subst hcc
    have hlen : len₂ = len := by rw [hdg] at hd₂; cases hd₂; rfl
    subst hlen
    have hs₂ : s₂ = (({ U with heap := s₂.heap, slotsUsed := s₂.slotsUsed } : State).setVm s₂.vm).setTop { g with pc := g.pc + len₂, stack := v.toList ++ g.stack } := by
      refine e3.trans ?_
      rw [hf₂, State.calling_eq h.top, State.setFrames_setFrames, State.setTop_of_frames _ hr', hr]
      rfl
    have hsame : U.sameButNew ({ U with heap := s₂.heap, slotsUsed := s₂.slotsUsed } : State) L mc ms := by
      refine ⟨?_, q2, q3, q4, q5, q6⟩
      obtain ⟨t, ht, -⟩ := State.frames_cons hr
      show ({ U with heap := s₂.heap, slotsUsed := s₂.slotsUsed } : State) = { U.setFrames U.frames with heap := s₂.heap, slotsUsed := s₂.slotsUsed }
      rw [State.setFrames_self ht]
    subst hg
    refine Or.inl ⟨v, ⟨(({ U with heap := s₂.heap, slotsUsed := s₂.slotsUsed } : State).setVm s₂.vm), Ls ++ L, c0 + mc, s0 + ms⟩,
      ⟨X.admits, X.cas, X.clock, X.frames, X.room, X.hears, X.method, X.code, (X.here.setHeapUsed s₂.heap s₂.slotsUsed).setVm hW'.alike, X.tail, State.WarmedH.trans X.warmed hW', X.limits, X.bytes, X.same.trans (hsame.setVm s.vm)⟩,
      ⟨g, mk, s₂, L, rfl, rfl, hqc, rfl, hL, rfl, rfl⟩, ?_⟩
    show Steps p.tables e below _ ((({ U with heap := s₂.heap, slotsUsed := s₂.slotsUsed } : State).setVm s₂.vm).setTop { g with pc := g.pc + len₂, stack := v.toList ++ g.stack })
    rw [← hs₂]
    exact hsteps
  · obtain ⟨e2, q2, q3, q4, q5, q6⟩ := id hsm
    have e3 : s₂ = ({ (U.calling g mk a).setFrames s₂.frames with heap := s₂.heap, slotsUsed := s₂.slotsUsed } : State).setVm s₂.vm := by
      have : s₂ = ({ s₂ with vm := (U.calling g mk a).vm } : State).setVm s₂.vm := rfl
      rw [e2] at this
      exact this
    have hf₂ : s₂.frames = .throwing q :: .java g :: U.frames.tail := hend
    have hW' : U.WarmedH s₂.vm := hW₂
    have hs₂ : s₂ = ((({ U with heap := s₂.heap, slotsUsed := s₂.slotsUsed } : State).setVm s₂.vm).setTop g).pushFrame (.throwing q) := by
      refine e3.trans ?_
      rw [hf₂, State.calling_eq h.top, State.setFrames_setFrames, State.pushFrame, State.frames_setTop _ hr', State.setTop_of_frames _ hr', State.setFrames_setFrames, hr]
      rfl
    have hsame : U.sameButNew ({ U with heap := s₂.heap, slotsUsed := s₂.slotsUsed } : State) L mc ms := by
      refine ⟨?_, q2, q3, q4, q5, q6⟩
      obtain ⟨t, ht, -⟩ := State.frames_cons hr
      show ({ U with heap := s₂.heap, slotsUsed := s₂.slotsUsed } : State) = { U.setFrames U.frames with heap := s₂.heap, slotsUsed := s₂.slotsUsed }
      rw [State.setFrames_self ht]
    subst hg
    refine Or.inr ⟨q, ⟨(({ U with heap := s₂.heap, slotsUsed := s₂.slotsUsed } : State).setVm s₂.vm), Ls ++ L, c0 + mc, s0 + ms⟩,
      ⟨X.admits, X.cas, X.clock, X.frames, X.room, X.hears, X.method, X.code, (X.here.setHeapUsed s₂.heap s₂.slotsUsed).setVm hW'.alike, X.tail, State.WarmedH.trans X.warmed hW', X.limits, X.bytes, X.same.trans (hsame.setVm s.vm)⟩,
      ⟨g, mk, s₂, L, E, ce, rfl, rfl, hx, hce, hcv, hcl, rfl, hL, rfl, rfl⟩, ?_⟩
    show Steps p.tables e below _ (((({ U with heap := s₂.heap, slotsUsed := s₂.slotsUsed } : State).setVm s₂.vm).setTop g).pushFrame (.throwing q))
    rw [← hs₂]
    exact hsteps
end
variable {p : Program} {l : Launch} {e : Env} {R : Room} {s : State} {m : MethodId} {args : Array Value} {below : List Frame} {meth : Method} {c : Code} {T : State} {H : Heap} {locs : List Loc} {cells slots : Nat}
theorem vx_callVX (X : Stand p l e R s m args below meth c T locs cells slots) (hexec : p.tables.exec = Jvm.exec) {own C : String} {index : Nat} {y : MethodName} {bytes : ByteArray} {maxL : Nat} {ret : Option FieldType} {hh : List (Nat × Nat × Nat × Nat)}
    (hown : s.vm.findClass own = some m.cls) (hlink : (Cond.methodLink own index y).before args s = true) (hinst : (Cond.instanceMethod y).before args s = true) (hsel : (Cond.selects C y y).before args s = true)
    (hcode : (Cond.codeWith y bytes maxL ret hh).before args s = true) (hy : y.cls ≠ "java/lang/invoke/MethodHandle" ∧ y.cls ≠ "java/lang/invoke/VarHandle")
    {W9 : Nat} {Pre : Pt → Array Value → Prop} {Post : Pt → Array Value → Option Value → Pt → Prop} {PostX : Pt → Array Value → Addr → Pt → Prop} (hK : vx_Back l R p e below s args y 3 W9 Pre Post PostX)
    {b : Addr} {cellB : Cell} (hcell : T.heap[b]? = some cellB) (hobj : cellB.vm.isStatics = false) (hcls : s.vm.findClass C = some cellB.cls)
    {g : JFrame} (hg : g.method = m) (hsize : g.locals.size = c.maxLocals) {argsL rest : List Value} (hlen : ∀ sig, parseMethodDescriptor y.desc = some sig → argsL.length = sig.parameters.length)
    (hstack : g.stack = argsL.reverse ++ .ref b :: rest) (hW : 2 * g.monitorRoom + (rest.map fun v => v.category).sum ≤ W9) (hdg : decode c.code g.pc = .ok (.invokevirtual index, 3))
    (hpre : ∀ vm₁, s.WarmedH vm₁ → Pre ⟨T.setVm vm₁, locs, cells, slots⟩ (Value.ref b :: argsL).toArray) :
    (∃ (v : Option Value) (vm₁ : Vm) (B : Pt), s.WarmedH vm₁ ∧ Stand p l e R s m args below meth c B.U B.locs B.cells B.slots ∧ Post ⟨T.setVm vm₁, locs, cells, slots⟩ (Value.ref b :: argsL).toArray v B ∧
      ∀ target, Steps p.tables e below (B.U.setTop { g with pc := g.pc + 3, stack := v.toList ++ rest }) target → Steps p.tables e below (T.setTop g) target) ∨
    (∃ (q : Addr) (vm₁ : Vm) (B : Pt), s.WarmedH vm₁ ∧ Stand p l e R s m args below meth c B.U B.locs B.cells B.slots ∧ PostX ⟨T.setVm vm₁, locs, cells, slots⟩ (Value.ref b :: argsL).toArray q B ∧
      Steps p.tables e below (T.setTop g) ((B.U.setTop { g with stack := rest }).pushFrame (.throwing q))) := by
  obtain ⟨mk, methM, hnamed, hmethM, hstM, habM⟩ := Cond.instanceMethod_spec hinst
  obtain ⟨m8, methM', cM, hn8, hmethM', -, -, -, -, -, -, hsigM⟩ := Cond.codeWith_spec hcode
  cases Option.some.inj (hn8.symm.trans hnamed)
  cases hmethM.symm.trans hmethM'
  obtain ⟨c2, r2, m2, q1, q2, q3, q4, kP, hkP, hkPi⟩ := Cond.selects_spec hsel
  cases hcls.symm.trans q1
  cases (State.methodFound?_of_named hnamed hy).symm.trans q2
  cases hnamed.symm.trans q3
  have hselP : selectMethod e.platform s.vm cellB.cls mk = .method mk := by rw [Launch.admits_selectMethod X.admits]; exact q4
  obtain ⟨vm₁, X₁, hstep₁⟩ := X.invokevirtual hexec hown hlink hnamed hmethM hstM hkP hkPi hy (a := b) (cell := cellB) hcell
    (fun z h => by rw [h] at hobj; cases hobj) hselP hmethM habM hkP hkPi (g := g) hg (argsL := argsL) (rest := rest) (hlen _ hsigM) hstack hdg
  rcases hK m meth c ⟨T.setVm vm₁, locs, cells, slots⟩ { g with stack := rest } (.invokevirtual index) mk (Value.ref b :: argsL).toArray X₁ hg hsize hdg hW (X₁.named hnamed) (hpre vm₁ X₁.warmed) with ⟨v, B, X', hpost, hsteps⟩ | ⟨q, B, X', hpost, hsteps⟩
  · exact Or.inl ⟨v, vm₁, B, X₁.warmed, X', hpost, fun target h => hstep₁ _ fun acts => by rw [doInvoke_state]; exact hsteps.trans h⟩
  · exact Or.inr ⟨q, vm₁, B, X₁.warmed, X', hpost, hstep₁ _ fun acts => by rw [doInvoke_state]; exact hsteps⟩
theorem vx_callSX (X : Stand p l e R s m args below meth c T locs cells slots) (hexec : p.tables.exec = Jvm.exec) {own : String} {index : Nat} {y : MethodName} {bytes : ByteArray} {maxL : Nat} {ret : Option FieldType} {hh : List (Nat × Nat × Nat × Nat)}
    (hown : s.vm.findClass own = some m.cls) (hlink : (Cond.methodLink own index y).before args s = true) (hstat : (Cond.static y).before args s = true) (hinit : (Cond.initialized y.cls).before args s = true)
    (hcode : (Cond.codeWith y bytes maxL ret hh).before args s = true) (hy : y.cls ≠ "java/lang/invoke/MethodHandle" ∧ y.cls ≠ "java/lang/invoke/VarHandle")
    {W9 : Nat} {Pre : Pt → Array Value → Prop} {Post : Pt → Array Value → Option Value → Pt → Prop} {PostX : Pt → Array Value → Addr → Pt → Prop} (hK : vx_Back l R p e below s args y 3 W9 Pre Post PostX)
    {g : JFrame} (hg : g.method = m) (hsize : g.locals.size = c.maxLocals) {argsL rest : List Value} (hlen : ∀ sig, parseMethodDescriptor y.desc = some sig → argsL.length = sig.parameters.length)
    (hstack : g.stack = argsL.reverse ++ rest) (hW : 2 * g.monitorRoom + (rest.map fun v => v.category).sum ≤ W9) (hdg : decode c.code g.pc = .ok (.invokestatic index, 3))
    (hpre : ∀ vm₁, s.WarmedH vm₁ → Pre ⟨T.setVm vm₁, locs, cells, slots⟩ argsL.toArray) :
    (∃ (v : Option Value) (vm₁ : Vm) (B : Pt), s.WarmedH vm₁ ∧ Stand p l e R s m args below meth c B.U B.locs B.cells B.slots ∧ Post ⟨T.setVm vm₁, locs, cells, slots⟩ argsL.toArray v B ∧
      ∀ target, Steps p.tables e below (B.U.setTop { g with pc := g.pc + 3, stack := v.toList ++ rest }) target → Steps p.tables e below (T.setTop g) target) ∨
    (∃ (q : Addr) (vm₁ : Vm) (B : Pt), s.WarmedH vm₁ ∧ Stand p l e R s m args below meth c B.U B.locs B.cells B.slots ∧ PostX ⟨T.setVm vm₁, locs, cells, slots⟩ argsL.toArray q B ∧
      Steps p.tables e below (T.setTop g) ((B.U.setTop { g with stack := rest }).pushFrame (.throwing q))) := by
  obtain ⟨mk, methM, cM, hnamed, hmethM, -, -, -, -, -, -, hsigM⟩ := Cond.codeWith_spec hcode
  have hstatic : methM.isStatic = true := Cond.static_spec hnamed hmethM hstat
  obtain ⟨kP, hkP, -⟩ := className_of_methodNamed hnamed
  have hinitP : kP.init = .initialized := Cond.initialized_spec (findClass_of_methodNamed hnamed) hkP hinit
  obtain ⟨vm₁, X₁, hstep₁⟩ := X.invokestatic hexec hown hlink hnamed hmethM hstatic hkP hinitP hy (g := g) hg (argsL := argsL) (rest := rest) (hlen _ hsigM) hstack hdg
  rcases hK m meth c ⟨T.setVm vm₁, locs, cells, slots⟩ { g with stack := rest } (.invokestatic index) mk argsL.toArray X₁ hg hsize hdg hW (X₁.named hnamed) (hpre vm₁ X₁.warmed) with ⟨v, B, X', hpost, hsteps⟩ | ⟨q, B, X', hpost, hsteps⟩
  · exact Or.inl ⟨v, vm₁, B, X₁.warmed, X', hpost, fun target h => hstep₁ _ fun acts => by rw [doInvoke_state]; exact hsteps.trans h⟩
  · exact Or.inr ⟨q, vm₁, B, X₁.warmed, X', hpost, hstep₁ _ fun acts => by rw [doInvoke_state]; exact hsteps⟩
theorem vx_callVW (X : Stand p l e R s m args below meth c T locs cells slots) (hexec : p.tables.exec = Jvm.exec) {own C : String} {index : Nat} {y : MethodName} {bytes : ByteArray} {maxL : Nat} {ret : Option FieldType} {hh : List (Nat × Nat × Nat × Nat)}
    (hown : s.vm.findClass own = some m.cls) (hlink : (Cond.methodLink own index y).before args s = true) (hinst : (Cond.instanceMethod y).before args s = true) (hsel : (Cond.selects C y y).before args s = true)
    (hcode : (Cond.codeWith y bytes maxL ret hh).before args s = true) (hy : y.cls ≠ "java/lang/invoke/MethodHandle" ∧ y.cls ≠ "java/lang/invoke/VarHandle")
    {W9 : Nat} {Pre : Pt → Array Value → Prop} {Post : Pt → Array Value → Option Value → Pt → Prop} (hK : Back l R p e below s args y 3 W9 Pre Post)
    {b : Addr} {cellB : Cell} (hcell : T.heap[b]? = some cellB) (hobj : cellB.vm.isStatics = false) (hcls : s.vm.findClass C = some cellB.cls)
    {g : JFrame} (hg : g.method = m) (hsize : g.locals.size = c.maxLocals) {argsL rest : List Value} (hlen : ∀ sig, parseMethodDescriptor y.desc = some sig → argsL.length = sig.parameters.length)
    (hstack : g.stack = argsL.reverse ++ .ref b :: rest) (hW : 2 * g.monitorRoom + (rest.map fun v => v.category).sum ≤ W9) (hdg : decode c.code g.pc = .ok (.invokevirtual index, 3))
    (hpre : ∀ vm₁, s.WarmedH vm₁ → Pre ⟨T.setVm vm₁, locs, cells, slots⟩ (Value.ref b :: argsL).toArray) :
    ∃ (v : Option Value) (vm₁ : Vm) (B : Pt), s.WarmedH vm₁ ∧ Stand p l e R s m args below meth c B.U B.locs B.cells B.slots ∧ Post ⟨T.setVm vm₁, locs, cells, slots⟩ (Value.ref b :: argsL).toArray v B ∧
      ∀ target, Steps p.tables e below (B.U.setTop { g with pc := g.pc + 3, stack := v.toList ++ rest }) target → Steps p.tables e below (T.setTop g) target := by
  obtain ⟨mk, methM, hnamed, hmethM, hstM, habM⟩ := Cond.instanceMethod_spec hinst
  obtain ⟨m8, methM', cM, hn8, hmethM', -, -, -, -, -, -, hsigM⟩ := Cond.codeWith_spec hcode
  cases Option.some.inj (hn8.symm.trans hnamed)
  cases hmethM.symm.trans hmethM'
  obtain ⟨c2, r2, m2, q1, q2, q3, q4, kP, hkP, hkPi⟩ := Cond.selects_spec hsel
  cases hcls.symm.trans q1
  cases (State.methodFound?_of_named hnamed hy).symm.trans q2
  cases hnamed.symm.trans q3
  have hselP : selectMethod e.platform s.vm cellB.cls mk = .method mk := by rw [Launch.admits_selectMethod X.admits]; exact q4
  obtain ⟨vm₁, X₁, hstep₁⟩ := X.invokevirtual hexec hown hlink hnamed hmethM hstM hkP hkPi hy (a := b) (cell := cellB) hcell
    (fun z h => by rw [h] at hobj; cases hobj) hselP hmethM habM hkP hkPi (g := g) hg (argsL := argsL) (rest := rest) (hlen _ hsigM) hstack hdg
  obtain ⟨v, B, X', hpost, hsteps⟩ := hK m meth c ⟨T.setVm vm₁, locs, cells, slots⟩ { g with stack := rest } (.invokevirtual index) mk (Value.ref b :: argsL).toArray X₁ hg hsize hdg hW (X₁.named hnamed) (hpre vm₁ X₁.warmed)
  exact ⟨v, vm₁, B, X₁.warmed, X', hpost, fun target h => hstep₁ _ fun acts => by rw [doInvoke_state]; exact hsteps.trans h⟩
abbrev vx_CVW (R : Room) (s : State) (args : Array Value) (own C : String) (index : Nat) (y : MethodName) (bytes : ByteArray) (maxL : Nat) (ret : Option FieldType) (hh : List (Nat × Nat × Nat × Nat)) (ws : List Cond) (rm : Room) (mc ms n : Nat) : Prop :=
  (rm.cells = mc ∧ rm.slots = ms ∧ rm.frames + 1 ≤ R.frames ∧ 8 + (maxL + 11) + rm.locals ≤ R.locals ∧ (∀ w ∈ ws, ∀ (a' : Array Value) (U : State), s.WarmedH U.vm → w.before a' U = true) ∧ Cond.codeWith y bytes maxL ret hh ∈ ws) ∧
  (Cond.codeWith y bytes maxL ret hh).before args s = true ∧ (Cond.initialized y.cls).before args s = true ∧ (y.cls ≠ "java/lang/invoke/MethodHandle" ∧ y.cls ≠ "java/lang/invoke/VarHandle") ∧
  (∀ sig, parseMethodDescriptor y.desc = some sig → n = sig.parameters.length) ∧ (Cond.methodLink own index y).before args s = true ∧ (Cond.instanceMethod y).before args s = true ∧ (Cond.selects C y y).before args s = true
theorem vx_cwVW {own C : String} {index maxL mc ms : Nat} {y : MethodName} {bytes : ByteArray} {ret : Option FieldType} {hh : List (Nat × Nat × Nat × Nat)} {Ts ws ws' : List Cond} {rm : Room} (n : Nat) (ht : ∀ w ∈ Ts, w.before args s = true) (hT : GoodIn Ts (wsV own index C y ws)) (hw : ws = Cond.codeWith y bytes maxL ret hh :: ws') (hrc : rm.cells = mc) (hrs : rm.slots = ms)
    (hd : y.cls = C ∧ y.cls ≠ "java/lang/invoke/MethodHandle" ∧ y.cls ≠ "java/lang/invoke/VarHandle" ∧ (parseMethodDescriptor y.desc).map (fun d => d.parameters.length) = some n) (hR : rm.frames + 1 ≤ R.frames ∧ 8 + (maxL + 11) + rm.locals ≤ R.locals) :
    vx_CVW R s args own C index y bytes maxL ret hh ws rm mc ms n := by
  obtain ⟨hC, hd⟩ := hd
  subst hC
  have ok : ∀ w ∈ wsV own index y.cls y ws, w.before args s = true := fun w h => ht w (hT w h).1
  have hG : GoodIn Ts ws := fun w h => hT w (by unfold wsV; exact List.mem_append_right _ h)
  have hc : Cond.codeWith y bytes maxL ret hh ∈ ws := by rw [hw]; exact List.mem_cons_self
  refine ⟨⟨hrc, hrs, hR.1, hR.2, pay_in ht hG, hc⟩, ht _ (hG _ hc).1, ok _ (by simp [wsV]), ⟨hd.1, hd.2.1⟩, fun sig h => ?_, ok _ (by simp [wsV]), ok _ (by simp [wsV]), ok _ (by simp [wsV])⟩
  have h2 := hd.2.2
  rw [h] at h2
  exact (Option.some.inj h2).symm
theorem vx_runVW {y : MethodName} {bytes cc : ByteArray} {maxL nL mc ms n index : Nat} {ret : Option FieldType} {hh : List (Nat × Nat × Nat × Nat)} {ws : List Cond} {rm : Room} {Pc : Array Value → State → Prop} {Qc : Array Value → State → Outcome → State → Prop} {free : Addr → Prop} {Ts : List Cond} {own C : String} {b : Addr} {As rest : List Value} {g : JFrame}
    (S : CallFix p m c cc nL s args Ts own) (hM : Met l y ws rm Pc Qc mc ms free) (cw : vx_CVW R s args own C index y bytes maxL ret hh ws rm mc ms n) (hp : PreV s H C b Pc As)
    (hg : g.method = m) (hn : As.length = n) (hsize : g.locals.size = nL) (hstack : g.stack = As.reverse ++ .ref b :: rest) (hW : 2 * g.monitorRoom + (rest.map fun v => v.category).sum ≤ 8) (hdg : decode cc g.pc = .ok (.invokevirtual index, 3)) (hf : cells + mc ≤ R.cells ∧ slots + ms ≤ R.slots) :
    va_Run p l e R s m args below meth c H locs cells slots mc ms g rest (Qc (Value.ref b :: As).toArray) free := by
  obtain ⟨⟨hrc, hrs, hfr, hlo, hws, hcw⟩, hcode, hini, hy, hlen, hl, hin, hse⟩ := cw
  have hK : Back l R p e below s args y 3 8 (PreOf R mc ms Pc) (PostOf Qc mc ms free) := va_backW (hh := hh) (bytes := bytes) (maxL := maxL) (ret := ret) hM hp.1 hrc hrs hfr hlo hws hcw (fun a' U hW => word_at hW (Or.inl (by first | rfl | simp [Cond.onTables, Cond.keeps, Cond.steady])) hini)
  obtain ⟨hx, hb, hml, ho, -⟩ := S
  obtain ⟨-, ⟨cellB, hcB, hoB, hclB⟩, hPc⟩ := hp
  intro T hT X
  obtain ⟨v, vm₁, ⟨U', l2, c2, s2⟩, hW₁, X', ⟨g', mk, t, L, e1, e2, hq, h1, hL, h2, h3⟩, st⟩ := vx_callVW X hx (C := C) (hh := hh) (bytes := bytes) (maxL := maxL) (ret := ret) ho hl hin hse hcode hy hK (by rw [hT]; exact hcB) hoB hclB hg (hsize.trans hml.symm) (argsL := As) (rest := rest) (fun sig h => hn.trans (hlen sig h)) hstack hW (by rw [hb]; exact hdg)
    (fun vm₁ hW₁ => ⟨hf.1, hf.2, hPc (T.setVm vm₁) hT hW₁⟩)
  dsimp only [Pt.U, Pt.locs, Pt.cells, Pt.slots] at X' e1 e2 h1 h2 h3 st
  subst h1; subst h2; subst h3
  exact ⟨v, (T.setVm vm₁).calling g' mk (Value.ref b :: As).toArray, t, U', L, hT, X', hL, e1, e2, hq, st⟩
section
variable {y : MethodName} {bytes cc : ByteArray} {maxL nL mc ms n index : Nat} {ret : Option FieldType} {ws : List Cond} {rm : Room} {Pc : Array Value → State → Prop} {Qc : Array Value → State → Outcome → State → Prop} {XC : String → State → State → Prop} {free : Addr → Prop} {Ts : List Cond} {own C : String} {b : Addr} {As rest : List Value} {g : JFrame}
theorem vx_runVX {hh : List (Nat × Nat × Nat × Nat)} (S : CallFix p m c cc nL s args Ts own) (hM : vx_Met l y ws rm Pc Qc XC mc ms free) (cw : vx_CVW R s args own C index y bytes maxL ret hh ws rm mc ms n) (hp : PreV s H C b Pc As)
    (hg : g.method = m) (hn : As.length = n) (hsize : g.locals.size = nL) (hstack : g.stack = As.reverse ++ .ref b :: rest) (hW : 2 * g.monitorRoom + (rest.map fun v => v.category).sum ≤ 8) (hdg : decode cc g.pc = .ok (.invokevirtual index, 3)) (hf : cells + mc ≤ R.cells ∧ slots + ms ≤ R.slots) :
    vx_Run p l e R s m args below meth c H locs cells slots mc ms g rest (Qc (Value.ref b :: As).toArray) XC free := by
  obtain ⟨⟨hrc, hrs, hfr, hlo, hws, hcw⟩, hcode, hini, hy, hlen, hl, hin, hse⟩ := cw
  have hK : vx_Back l R p e below s args y 3 8 (PreOf R mc ms Pc) (PostOf Qc mc ms free) (vx_Post XC mc ms free) := vx_backW (hh := hh) (bytes := bytes) (maxL := maxL) (ret := ret) hM hp.1 hrc hrs hfr hlo hws hcw (fun a' U hW => word_at hW (Or.inl (by first | rfl | simp [Cond.onTables, Cond.keeps, Cond.steady])) hini)
  obtain ⟨hx, hb, hml, ho, -⟩ := S
  obtain ⟨-, ⟨cellB, hcB, hoB, hclB⟩, hPc⟩ := hp
  intro T hT X
  rcases vx_callVX X hx (C := C) (hh := hh) (bytes := bytes) (maxL := maxL) (ret := ret) ho hl hin hse hcode hy hK (by rw [hT]; exact hcB) hoB hclB hg (hsize.trans hml.symm) (argsL := As) (rest := rest) (fun sig h => hn.trans (hlen sig h)) hstack hW (by rw [hb]; exact hdg)
    (fun vm₁ hW₁ => ⟨hf.1, hf.2, hPc (T.setVm vm₁) hT hW₁⟩) with ⟨v, vm₁, ⟨U', l2, c2, s2⟩, hW₁, X', ⟨g', mk, t, L, e1, e2, hq, h1, hL, h2, h3⟩, st⟩ | ⟨q, vm₁, ⟨U', l2, c2, s2⟩, hW₁, X', ⟨g', mk, t, L, E, ce, e1, e2, hq, hce, hcv, hcl, h1, hL, h2, h3⟩, st⟩
  · dsimp only [Pt.U, Pt.locs, Pt.cells, Pt.slots] at X' e1 e2 h1 h2 h3 st
    subst h1; subst h2; subst h3
    exact Or.inl ⟨v, (T.setVm vm₁).calling g' mk (Value.ref b :: As).toArray, t, U', L, hT, X', hL, e1, e2, hq, st⟩
  · dsimp only [Pt.U, Pt.locs, Pt.cells, Pt.slots] at X' e1 e2 h1 h2 h3 st hcl
    subst h1; subst h2; subst h3
    exact Or.inr ⟨q, (T.setVm vm₁).calling g' mk (Value.ref b :: As).toArray, t, U', L, E, ce, hT, X', hL, e1, e2, hq, hce, hcv, vx_cls hW₁ hcl, st⟩
theorem vx_runSX {hh : List (Nat × Nat × Nat × Nat)} (S : CallFix p m c cc nL s args Ts own) (hM : vx_Met l y ws rm Pc Qc XC mc ms free) (cw : vx_CSW R s args own index y bytes maxL ret hh ws rm mc ms n) (hp : PreS s H Pc As)
    (hg : g.method = m) (hn : As.length = n) (hsize : g.locals.size = nL) (hstack : g.stack = As.reverse ++ rest) (hW : 2 * g.monitorRoom + (rest.map fun v => v.category).sum ≤ 8) (hdg : decode cc g.pc = .ok (.invokestatic index, 3)) (hf : cells + mc ≤ R.cells ∧ slots + ms ≤ R.slots) :
    vx_Run p l e R s m args below meth c H locs cells slots mc ms g rest (Qc As.toArray) XC free := by
  obtain ⟨⟨hrc, hrs, hfr, hlo, hws, hcw⟩, hcode, hini, hy, hlen, hl, hstt⟩ := cw
  have hK : vx_Back l R p e below s args y 3 8 (PreOf R mc ms Pc) (PostOf Qc mc ms free) (vx_Post XC mc ms free) := vx_backW (hh := hh) (bytes := bytes) (maxL := maxL) (ret := ret) hM hp.1 hrc hrs hfr hlo hws hcw (fun a' U hW => word_at hW (Or.inl (by first | rfl | simp [Cond.onTables, Cond.keeps, Cond.steady])) hini)
  obtain ⟨hx, hb, hml, ho, -⟩ := S
  intro T hT X
  rcases vx_callSX X hx (hh := hh) (bytes := bytes) (maxL := maxL) (ret := ret) ho hl hstt hini hcode hy hK hg (hsize.trans hml.symm) (argsL := As) (rest := rest) (fun sig h => hn.trans (hlen sig h)) hstack hW (by rw [hb]; exact hdg)
    (fun vm₁ hW₁ => ⟨hf.1, hf.2, hp.2 (T.setVm vm₁) hT hW₁⟩) with ⟨v, vm₁, ⟨U', l2, c2, s2⟩, hW₁, X', ⟨g', mk, t, L, e1, e2, hq, h1, hL, h2, h3⟩, st⟩ | ⟨q, vm₁, ⟨U', l2, c2, s2⟩, hW₁, X', ⟨g', mk, t, L, E, ce, e1, e2, hq, hce, hcv, hcl, h1, hL, h2, h3⟩, st⟩
  · dsimp only [Pt.U, Pt.locs, Pt.cells, Pt.slots] at X' e1 e2 h1 h2 h3 st
    subst h1; subst h2; subst h3
    exact Or.inl ⟨v, (T.setVm vm₁).calling g' mk As.toArray, t, U', L, hT, X', hL, e1, e2, hq, st⟩
  · dsimp only [Pt.U, Pt.locs, Pt.cells, Pt.slots] at X' e1 e2 h1 h2 h3 st hcl
    subst h1; subst h2; subst h3
    exact Or.inr ⟨q, (T.setVm vm₁).calling g' mk As.toArray, t, U', L, E, ce, hT, X', hL, e1, e2, hq, hce, hcv, vx_cls hW₁ hcl, st⟩
end
end VXH
theorem vx_ofWH {l : Launch} {y : MethodName} {ws ws' : List Cond} {rm : Room} {Pc : Array Value → State → Prop} {Qc : Array Value → State → Outcome → State → Prop} {XC : String → State → State → Prop} {mc ms : Nat} {free : Addr → Prop} {cc : ByteArray} {maxL : Nat} {ret : Option FieldType} {hh : List (Nat × Nat × Nat × Nat)}
    (hy : plainName y.cls = true) (hw : ws = Cond.codeWith y cc maxL ret hh :: ws')
    (body : ∀ p e s m args below meth c s₁, BodyLoose p l y (headSpec ws rm) cc maxL ret e s m args below meth c s₁ → c.maxLocals = maxL → Pc args s →
      W p l e (headSpec ws rm).room s m args below meth c s.heap [] 0 0 (vx_MQ below Qc XC args s mc ms free) (entryFrame m args maxL)) : vx_Met l y ws rm Pc Qc XC mc ms free := by
  refine MetFree.of_bodyS (code := cc) (maxLocals := maxL) (ret := ret) hy ?_ ?_
  · intro args s m h hn
    obtain ⟨m9, meth, c, hn9, h1, h2, h3, h4, -, h5, h6, -⟩ := Cond.codeWith_spec (atoms_spec (ws := ws) h _ (by rw [hw]; exact List.mem_cons_self))
    cases hn.symm.trans hn9
    exact ⟨meth, c, h1, h2, h3, h4, h5, h6⟩
  · intro p e s m args below meth c s₁ B hml hP _
    have hh0 : s₁.heap = s.heap := by rw [B.state]; rfl
    obtain ⟨t, a1, o, b1, b2, b3⟩ := body p e s m args below meth c s₁ B hml hP s₁ hh0 (Stand.of_body B)
    exact ⟨t, o, a1, b1, b2, b3⟩
def RX0 : String := "PodGuideway$Ring"
def TX0 : u_T := fun k => match k with
  | 0 => ("PodGuideway$Ring", "minute", "I", false)
  | 1 => ("PodGuideway$Ring", "stations", "I", false)
  | 2 => ("PodGuideway$Ring", "pods", "I", false)
  | 3 => ("PodGuideway$Ring", "ridersInAll", "I", false)
  | 4 => ("PodGuideway$Ring", "callsAnswered", "I", false)
  | 5 => ("PodGuideway$Ring", "waitedBeforeBoarding", "I", false)
  | 6 => ("PodGuideway$Ring", "podInSlot", "[I", true)
  | 7 => ("PodGuideway$Ring", "podInBerth", "[I", true)
  | 8 => ("PodGuideway$Ring", "stationPlace", "[I", true)
  | 9 => ("PodGuideway$Ring", "stationArrived", "[I", true)
  | 10 => ("PodGuideway$Ring", "stationWaiting", "[I", true)
  | 11 => ("PodGuideway$Ring", "riderNumber", "[I", true)
  | 12 => ("PodGuideway$Ring", "riderGoal", "[I", true)
  | 13 => ("PodGuideway$Ring", "riderCame", "[I", true)
  | 14 => ("PodGuideway$Ring", "podGoal", "[I", true)
  | 15 => ("PodGuideway$Ring", "podRider", "[I", true)
  | _ => ("PodGuideway$Ring", "podBarred", "[I", true)
def tyX0 : Nat → FieldType := fun k => match k with
  | 0 => .int
  | 1 => .int
  | 2 => .int
  | 3 => .int
  | 4 => .int
  | 5 => .int
  | 6 => .array .int
  | 7 => .array .int
  | 8 => .array .int
  | 9 => .array .int
  | 10 => .array .int
  | 11 => .array .int
  | 12 => .array .int
  | 13 => .array .int
  | 14 => .array .int
  | 15 => .array .int
  | _ => .array .int
abbrev wsX00 : List Cond := u_ws RX0 TX0 17
theorem nmX0 : ∀ a, a < 17 → ∀ b, b < 17 → a ≠ b → (TX0 a).2.1 ≠ (TX0 b).2.1 := by decide +kernel
theorem tyX0_ok : ∀ k, k < 17 → parseFieldDescriptor (TX0 k).2.2.1 = some (tyX0 k) := by decide +kernel
abbrev cX0_init : ByteArray := prog_2_method_1_code
def yX0_init : MethodName := ⟨RX0, "<init>", "()V"⟩
abbrev cX0_copyFrom : ByteArray := prog_2_method_2_code
def yX0_copyFrom : MethodName := ⟨RX0, "copyFrom", "(LPodGuideway$Ring;)V"⟩
abbrev cX0_addStation : ByteArray := prog_2_method_3_code
def yX0_addStation : MethodName := ⟨RX0, "addStation", "(I)I"⟩
abbrev cX0_addPod : ByteArray := prog_2_method_4_code
def yX0_addPod : MethodName := ⟨RX0, "addPod", "(I)I"⟩
abbrev cX0_addRider : ByteArray := prog_2_method_5_code
def yX0_addRider : MethodName := ⟨RX0, "addRider", "(II)I"⟩
abbrev cX0_setGoal : ByteArray := prog_2_method_6_code
def yX0_setGoal : MethodName := ⟨RX0, "setGoal", "(II)V"⟩
abbrev cX0_passMinute : ByteArray := prog_2_method_7_code
def yX0_passMinute : MethodName := ⟨RX0, "passMinute", "()V"⟩
abbrev cX0_moveSlots : ByteArray := prog_2_method_8_code
def yX0_moveSlots : MethodName := ⟨RX0, "moveSlots", "()V"⟩
abbrev cX0_letGoOff : ByteArray := prog_2_method_9_code
def yX0_letGoOff : MethodName := ⟨RX0, "letGoOff", "(I)V"⟩
abbrev cX0_letBoard : ByteArray := prog_2_method_10_code
def yX0_letBoard : MethodName := ⟨RX0, "letBoard", "(I)V"⟩
abbrev cX0_boardFirst : ByteArray := prog_2_method_11_code
def yX0_boardFirst : MethodName := ⟨RX0, "boardFirst", "(II)V"⟩
abbrev cX0_letCall : ByteArray := prog_2_method_12_code
def yX0_letCall : MethodName := ⟨RX0, "letCall", "(I)V"⟩
abbrev cX0_letMerge : ByteArray := prog_2_method_13_code
def yX0_letMerge : MethodName := ⟨RX0, "letMerge", "(I)V"⟩
abbrev cX0_stationAtPlace : ByteArray := prog_2_method_14_code
def yX0_stationAtPlace : MethodName := ⟨RX0, "stationAtPlace", "(I)I"⟩
abbrev cX0_stationThatAnswers : ByteArray := prog_2_method_15_code
def yX0_stationThatAnswers : MethodName := ⟨RX0, "stationThatAnswers", "(I)I"⟩
abbrev cX0_placesOn : ByteArray := prog_2_method_16_code
def yX0_placesOn : MethodName := ⟨RX0, "placesOn", "(II)I"⟩
abbrev cX0_placeOf : ByteArray := prog_2_method_17_code
def yX0_placeOf : MethodName := ⟨RX0, "placeOf", "(I)I"⟩
abbrev cX0_waitingAt : ByteArray := prog_2_method_18_code
def yX0_waitingAt : MethodName := ⟨RX0, "waitingAt", "(I)I"⟩
abbrev cX0_podAtPlace : ByteArray := prog_2_method_19_code
def yX0_podAtPlace : MethodName := ⟨RX0, "podAtPlace", "(I)I"⟩
abbrev cX0_goalOf : ByteArray := prog_2_method_20_code
def yX0_goalOf : MethodName := ⟨RX0, "goalOf", "(I)I"⟩
abbrev cX0_berthHolds : ByteArray := prog_2_method_21_code
def yX0_berthHolds : MethodName := ⟨RX0, "berthHolds", "(I)I"⟩
abbrev cX0_firstBerth : ByteArray := prog_2_method_22_code
def yX0_firstBerth : MethodName := ⟨RX0, "firstBerth", "(II)I"⟩
abbrev cX0_berthsThatHold : ByteArray := prog_2_method_23_code
def yX0_berthsThatHold : MethodName := ⟨RX0, "berthsThatHold", "(II)I"⟩
abbrev cX0_berthOf : ByteArray := prog_2_method_24_code
def yX0_berthOf : MethodName := ⟨RX0, "berthOf", "(I)I"⟩
abbrev cX0_emptyPodsTo : ByteArray := prog_2_method_25_code
def yX0_emptyPodsTo : MethodName := ⟨RX0, "emptyPodsTo", "(I)I"⟩
abbrev cX0_waitedBy : ByteArray := prog_2_method_26_code
def yX0_waitedBy : MethodName := ⟨RX0, "waitedBy", "(II)I"⟩
abbrev cX0_waitedAt : ByteArray := prog_2_method_27_code
def yX0_waitedAt : MethodName := ⟨RX0, "waitedAt", "(I)I"⟩
abbrev cX0_waitedInAll : ByteArray := prog_2_method_28_code
def yX0_waitedInAll : MethodName := ⟨RX0, "waitedInAll", "()I"⟩
abbrev cX0_waitingInAll : ByteArray := prog_2_method_29_code
def yX0_waitingInAll : MethodName := ⟨RX0, "waitingInAll", "()I"⟩
abbrev cX0_arrivedInAll : ByteArray := prog_2_method_30_code
def yX0_arrivedInAll : MethodName := ⟨RX0, "arrivedInAll", "()I"⟩
abbrev cX0_ridersInPods : ByteArray := prog_2_method_31_code
def yX0_ridersInPods : MethodName := ⟨RX0, "ridersInPods", "()I"⟩
abbrev cX0_freeSlots : ByteArray := prog_2_method_32_code
def yX0_freeSlots : MethodName := ⟨RX0, "freeSlots", "()I"⟩
abbrev cX0_tellPod : ByteArray := prog_2_method_34_code
def yX0_tellPod : MethodName := ⟨RX0, "tellPod", "(II)I"⟩
abbrev cX0_tellStation : ByteArray := prog_2_method_35_code
def yX0_tellStation : MethodName := ⟨RX0, "tellStation", "(II)I"⟩
abbrev cX0_tellRider : ByteArray := prog_2_method_36_code
def yX0_tellRider : MethodName := ⟨RX0, "tellRider", "(II)I"⟩
abbrev cX0_tellCount : ByteArray := prog_2_method_37_code
def yX0_tellCount : MethodName := ⟨RX0, "tellCount", "(I)I"⟩
abbrev cX0_emptyRow : ByteArray := prog_2_method_38_code
def yX0_emptyRow : MethodName := ⟨RX0, "emptyRow", "(I)[I"⟩
abbrev cX0_read : ByteArray := prog_2_method_39_code
def yX0_read : MethodName := ⟨RX0, "read", "([II)I"⟩
abbrev cX0_write : ByteArray := prog_2_method_40_code
def yX0_write : MethodName := ⟨RX0, "write", "([III)V"⟩
abbrev cX0_find : ByteArray := prog_2_method_41_code
def yX0_find : MethodName := ⟨RX0, "find", "([II)I"⟩
abbrev cX0_copyRow : ByteArray := prog_2_method_42_code
def yX0_copyRow : MethodName := ⟨RX0, "copyRow", "([I[I)V"⟩
def RX1 : String := "PodGuideway"
def TX1 : u_T := fun k => match k with
  | 0 => ("PodGuideway", "now", "LPodGuideway$Ring;", true)
  | _ => ("PodGuideway", "ahead", "LPodGuideway$Ring;", true)
def tyX1 : Nat → FieldType := fun k => match k with
  | 0 => .object "PodGuideway$Ring"
  | _ => .object "PodGuideway$Ring"
abbrev wsX10 : List Cond := u_ws RX1 TX1 2
theorem nmX1 : ∀ a, a < 2 → ∀ b, b < 2 → a ≠ b → (TX1 a).2.1 ≠ (TX1 b).2.1 := by decide +kernel
theorem tyX1_ok : ∀ k, k < 2 → parseFieldDescriptor (TX1 k).2.2.1 = some (tyX1 k) := by decide +kernel
abbrev cX1_init : ByteArray := prog_1_method_1_code
def yX1_init : MethodName := ⟨RX1, "<init>", "()V"⟩
abbrev cX1_build : ByteArray := prog_1_method_2_code
def yX1_build : MethodName := ⟨RX1, "build", "(I)I"⟩
abbrev cX1_pod : ByteArray := prog_1_method_3_code
def yX1_pod : MethodName := ⟨RX1, "pod", "(I)I"⟩
abbrev cX1_ride : ByteArray := prog_1_method_4_code
def yX1_ride : MethodName := ⟨RX1, "ride", "(II)I"⟩
abbrev cX1_send : ByteArray := prog_1_method_5_code
def yX1_send : MethodName := ⟨RX1, "send", "(II)I"⟩
abbrev cX1_told : ByteArray := prog_1_method_6_code
def yX1_told : MethodName := ⟨RX1, "told", "(II)I"⟩
abbrev cX1_station : ByteArray := prog_1_method_7_code
def yX1_station : MethodName := ⟨RX1, "station", "(II)I"⟩
abbrev cX1_waits : ByteArray := prog_1_method_8_code
def yX1_waits : MethodName := ⟨RX1, "waits", "(II)I"⟩
abbrev cX1_slot : ByteArray := prog_1_method_9_code
def yX1_slot : MethodName := ⟨RX1, "slot", "(I)I"⟩
abbrev cX1_count : ByteArray := prog_1_method_10_code
def yX1_count : MethodName := ⟨RX1, "count", "(I)I"⟩
abbrev cX1_pass : ByteArray := prog_1_method_11_code
def yX1_pass : MethodName := ⟨RX1, "pass", "(I)I"⟩
abbrev cX1_when : ByteArray := prog_1_method_12_code
def yX1_when : MethodName := ⟨RX1, "when", "(I)I"⟩
abbrev cX1_answers : ByteArray := prog_1_method_14_code
def yX1_answers : MethodName := ⟨RX1, "answers", "(I)I"⟩
abbrev cX1_foresee : ByteArray := prog_1_method_15_code
def yX1_foresee : MethodName := ⟨RX1, "foresee", "(II)I"⟩
abbrev cX1_mean : ByteArray := prog_1_method_16_code
def yX1_mean : MethodName := ⟨RX1, "mean", "()D"⟩
abbrev cX1_needPlace : ByteArray := prog_1_method_19_code
def yX1_needPlace : MethodName := ⟨RX1, "needPlace", "(I)V"⟩
abbrev cX1_needStation : ByteArray := prog_1_method_20_code
def yX1_needStation : MethodName := ⟨RX1, "needStation", "(I)V"⟩
abbrev cX1_needTwoStations : ByteArray := prog_1_method_21_code
def yX1_needTwoStations : MethodName := ⟨RX1, "needTwoStations", "(II)V"⟩
abbrev cX1_needPod : ByteArray := prog_1_method_22_code
def yX1_needPod : MethodName := ⟨RX1, "needPod", "(I)V"⟩
abbrev cX1_needWhat : ByteArray := prog_1_method_23_code
def yX1_needWhat : MethodName := ⟨RX1, "needWhat", "(III)V"⟩
abbrev cX1_needMinutes : ByteArray := prog_1_method_24_code
def yX1_needMinutes : MethodName := ⟨RX1, "needMinutes", "(I)V"⟩
def RX2 : String := "PodGuidewayLaw$Pod"
def TX2 : u_T := fun k => match k with
  | 0 => ("PodGuidewayLaw$Pod", "slot", "I", false)
  | 1 => ("PodGuidewayLaw$Pod", "at", "I", false)
  | 2 => ("PodGuidewayLaw$Pod", "berth", "I", false)
  | 3 => ("PodGuidewayLaw$Pod", "goal", "I", false)
  | 4 => ("PodGuidewayLaw$Pod", "rider", "I", false)
  | 5 => ("PodGuidewayLaw$Pod", "missed", "I", false)
  | _ => ("PodGuidewayLaw$Pod", "offs", "I", false)
def tyX2 : Nat → FieldType := fun k => match k with
  | 0 => .int
  | 1 => .int
  | 2 => .int
  | 3 => .int
  | 4 => .int
  | 5 => .int
  | _ => .int
abbrev wsX20 : List Cond := u_ws RX2 TX2 7
theorem nmX2 : ∀ a, a < 7 → ∀ b, b < 7 → a ≠ b → (TX2 a).2.1 ≠ (TX2 b).2.1 := by decide +kernel
theorem tyX2_ok : ∀ k, k < 7 → parseFieldDescriptor (TX2 k).2.2.1 = some (tyX2 k) := by decide +kernel
abbrev cX2_init : ByteArray := prog_4_method_1_code
def yX2_init : MethodName := ⟨RX2, "<init>", "()V"⟩
def RX3 : String := "PodGuidewayLaw$Sim"
def TX3 : u_T := fun k => match k with
  | 0 => ("PodGuidewayLaw$Sim", "place", "[I", false)
  | 1 => ("PodGuidewayLaw$Sim", "waits", "[[[I", false)
  | 2 => ("PodGuidewayLaw$Sim", "arrived", "[I", false)
  | 3 => ("PodGuidewayLaw$Sim", "pods", "[LPodGuidewayLaw$Pod;", false)
  | 4 => ("PodGuidewayLaw$Sim", "minute", "I", false)
  | 5 => ("PodGuidewayLaw$Sim", "answered", "I", false)
  | 6 => ("PodGuidewayLaw$Sim", "boarded", "I", false)
  | _ => ("PodGuidewayLaw$Sim", "followed", "I", false)
def tyX3 : Nat → FieldType := fun k => match k with
  | 0 => .array .int
  | 1 => .array (.array (.array .int))
  | 2 => .array .int
  | 3 => .array (.object "PodGuidewayLaw$Pod")
  | 4 => .int
  | 5 => .int
  | 6 => .int
  | _ => .int
abbrev wsX30 : List Cond := u_ws RX3 TX3 8
theorem nmX3 : ∀ a, a < 8 → ∀ b, b < 8 → a ≠ b → (TX3 a).2.1 ≠ (TX3 b).2.1 := by decide +kernel
theorem tyX3_ok : ∀ k, k < 8 → parseFieldDescriptor (TX3 k).2.2.1 = some (tyX3 k) := by decide +kernel
abbrev cX3_init : ByteArray := prog_5_method_1_code
def yX3_init : MethodName := ⟨RX3, "<init>", "()V"⟩
abbrev cX3_more : ByteArray := prog_5_method_3_code
def yX3_more : MethodName := ⟨RX3, "more", "([[I[I)[[I"⟩
abbrev cX3_build : ByteArray := prog_5_method_4_code
def yX3_build : MethodName := ⟨RX3, "build", "(I)V"⟩
abbrev cX3_in : ByteArray := prog_5_method_5_code
def yX3_in : MethodName := ⟨RX3, "in", "(II)LPodGuidewayLaw$Pod;"⟩
abbrev cX3_free : ByteArray := prog_5_method_6_code
def yX3_free : MethodName := ⟨RX3, "free", "(I)I"⟩
abbrev cX3_slot : ByteArray := prog_5_method_7_code
def yX3_slot : MethodName := ⟨RX3, "slot", "(I)LPodGuidewayLaw$Pod;"⟩
abbrev cX3_idle : ByteArray := prog_5_method_8_code
def yX3_idle : MethodName := ⟨RX3, "idle", "(I)LPodGuidewayLaw$Pod;"⟩
abbrev cX3_coming : ByteArray := prog_5_method_9_code
def yX3_coming : MethodName := ⟨RX3, "coming", "(I)I"⟩
abbrev cX3_answer : ByteArray := prog_5_method_10_code
def yX3_answer : MethodName := ⟨RX3, "answer", "(I)I"⟩
abbrev cX3_pass : ByteArray := prog_5_method_11_code
def yX3_pass : MethodName := ⟨RX3, "pass", "()I"⟩
abbrev cX3_told : ByteArray := prog_5_method_12_code
def yX3_told : MethodName := ⟨RX3, "told", "(I)I"⟩
abbrev cX3_isSame : ByteArray := prog_5_method_13_code
def yX3_isSame : MethodName := ⟨RX3, "isSame", "(LPodGuideway;)Z"⟩
def RX4 : String := "PodGuidewayModel"
def TX4 : u_T := fun k => match k with
  | _ => ("", "", "", false)
def tyX4 : Nat → FieldType := fun k => match k with
  | _ => .int
abbrev wsX40 : List Cond := u_ws RX4 TX4 0
theorem nmX4 : ∀ a, a < 0 → ∀ b, b < 0 → a ≠ b → (TX4 a).2.1 ≠ (TX4 b).2.1 := by decide +kernel
theorem tyX4_ok : ∀ k, k < 0 → parseFieldDescriptor (TX4 k).2.2.1 = some (tyX4 k) := by decide +kernel
def RJx145de : String := "java/io/Serializable"
def TJx145de : u_T := fun k => match k with
  | _ => ("", "", "", false)
def tyJx145de : Nat → FieldType := fun k => match k with
  | _ => .int
abbrev wsJx145de0 : List Cond := u_ws RJx145de TJx145de 0
theorem nmJx145de : ∀ a, a < 0 → ∀ b, b < 0 → a ≠ b → (TJx145de a).2.1 ≠ (TJx145de b).2.1 := by decide +kernel
theorem tyJx145de_ok : ∀ k, k < 0 → parseFieldDescriptor (TJx145de k).2.2.1 = some (tyJx145de k) := by decide +kernel
def RJ9 : String := "java/lang/Math"
def TJ9 : u_T := fun k => match k with
  | _ => ("", "", "", false)
def tyJ9 : Nat → FieldType := fun k => match k with
  | _ => .int
abbrev wsJ90 : List Cond := u_ws RJ9 TJ9 0
theorem nmJ9 : ∀ a, a < 0 → ∀ b, b < 0 → a ≠ b → (TJ9 a).2.1 ≠ (TJ9 b).2.1 := by decide +kernel
theorem tyJ9_ok : ∀ k, k < 0 → parseFieldDescriptor (TJ9 k).2.2.1 = some (tyJ9 k) := by decide +kernel
abbrev cJ9_floorMod_7cf53 : ByteArray := prog_11_method_50_code
def yJ9_floorMod_7cf53 : MethodName := ⟨RJ9, "floorMod", "(II)I"⟩
abbrev cJ9_max_7cf53 : ByteArray := prog_11_method_65_code
def yJ9_max_7cf53 : MethodName := ⟨RJ9, "max", "(II)I"⟩
abbrev cJ9_min_7cf53 : ByteArray := prog_11_method_69_code
def yJ9_min_7cf53 : MethodName := ⟨RJ9, "min", "(II)I"⟩
def RJ0 : String := "java/lang/String"
def TJ0 : u_T := fun k => match k with
  | _ => ("", "", "", false)
def tyJ0 : Nat → FieldType := fun k => match k with
  | _ => .int
abbrev wsJ00 : List Cond := u_ws RJ0 TJ0 0
theorem nmJ0 : ∀ a, a < 0 → ∀ b, b < 0 → a ≠ b → (TJ0 a).2.1 ≠ (TJ0 b).2.1 := by decide +kernel
theorem tyJ0_ok : ∀ k, k < 0 → parseFieldDescriptor (TJ0 k).2.2.1 = some (tyJ0 k) := by decide +kernel
def RJ10 : String := "java/lang/System"
def TJ10 : u_T := fun k => match k with
  | _ => ("", "", "", false)
def tyJ10 : Nat → FieldType := fun k => match k with
  | _ => .int
abbrev wsJ100 : List Cond := u_ws RJ10 TJ10 0
theorem nmJ10 : ∀ a, a < 0 → ∀ b, b < 0 → a ≠ b → (TJ10 a).2.1 ≠ (TJ10 b).2.1 := by decide +kernel
theorem tyJ10_ok : ∀ k, k < 0 → parseFieldDescriptor (TJ10 k).2.2.1 = some (tyJ10 k) := by decide +kernel
def RJ7 : String := "java/util/Arrays"
def TJ7 : u_T := fun k => match k with
  | _ => ("", "", "", false)
def tyJ7 : Nat → FieldType := fun k => match k with
  | _ => .int
abbrev wsJ70 : List Cond := u_ws RJ7 TJ7 0
theorem nmJ7 : ∀ a, a < 0 → ∀ b, b < 0 → a ≠ b → (TJ7 a).2.1 ≠ (TJ7 b).2.1 := by decide +kernel
theorem tyJ7_ok : ∀ k, k < 0 → parseFieldDescriptor (TJ7 k).2.2.1 = some (tyJ7 k) := by decide +kernel
abbrev cJ7_fill_53178 : ByteArray := prog_16_method_103_code
def yJ7_fill_53178 : MethodName := ⟨RJ7, "fill", "([II)V"⟩
def RL : String := "PodGuidewayLaw"
abbrev cL_below : ByteArray := method_2_code
def yL_below : MethodName := ⟨RL, "below", "(II)I"⟩
abbrev cL_cell : ByteArray := method_3_code
def yL_cell : MethodName := ⟨RL, "cell", "([II)I"⟩
abbrev cL_act : ByteArray := method_4_code
def yL_act : MethodName := ⟨RL, "act", "(LPodGuideway;LPodGuidewayLaw$Sim;I)Z"⟩
abbrev cL_build : ByteArray := method_5_code
def yL_build : MethodName := ⟨RL, "build", "(LPodGuideway;[I)LPodGuidewayLaw$Sim;"⟩
abbrev cL_law : ByteArray := code
def yL_law : MethodName := ⟨RL, "law", "([I)Z"⟩
def wsJ7_fill_53178 : List Cond := .code yJ7_fill_53178 cJ7_fill_53178 4 none :: ([])
def wsX0_emptyRow : List Cond := .code yX0_emptyRow cX0_emptyRow 2 (some (.array .int)) :: ([.methodLink RX0 146 Lib.Math.max.name, .static Lib.Math.max.name, .initialized "java/lang/Math", .code Lib.Math.max.name Lib.Math.max.code 2 (some .int), .arrayClass .int, .methodLink RX0 174 yJ7_fill_53178, .static yJ7_fill_53178, .initialized RJ7, .code yJ7_fill_53178 cJ7_fill_53178 4 none])
def wsX0_init_r1 : List Cond := [Cond.methodLink RX0 3 objectInit, Cond.instanceMethod objectInit, Cond.code objectInit ⟨#[0xb1]⟩ 1 none, Cond.fieldLink RX0 15 "PodGuideway$Ring" "podInSlot" "[I", Cond.fieldLink RX0 19 "PodGuideway$Ring" "podInBerth" "[I", Cond.arrayClass .int, Cond.fieldLink RX0 22 "PodGuideway$Ring" "stationPlace" "[I", Cond.fieldLink RX0 25 "PodGuideway$Ring" "stationArrived" "[I", Cond.fieldLink RX0 28 "PodGuideway$Ring" "stationWaiting" "[I", Cond.fieldLink RX0 31 "PodGuideway$Ring" "riderNumber" "[I", Cond.fieldLink RX0 34 "PodGuideway$Ring" "riderGoal" "[I", Cond.fieldLink RX0 37 "PodGuideway$Ring" "riderCame" "[I", Cond.fieldLink RX0 40 "PodGuideway$Ring" "podGoal" "[I", Cond.fieldLink RX0 43 "PodGuideway$Ring" "podRider" "[I", Cond.fieldLink RX0 46 "PodGuideway$Ring" "podBarred" "[I", Cond.methodLink RX0 9 yX0_emptyRow, Cond.static yX0_emptyRow, Cond.initialized RX0, Cond.code yX0_emptyRow cX0_emptyRow 2 (some (.array .int)), Cond.methodLink RX0 146 Lib.Math.max.name, Cond.static Lib.Math.max.name, Cond.initialized "java/lang/Math", Cond.code Lib.Math.max.name Lib.Math.max.code 2 (some .int), Cond.methodLink RX0 174 yJ7_fill_53178]
def wsX0_init_r2 : List Cond := [Cond.static yJ7_fill_53178, Cond.initialized RJ7, Cond.code yJ7_fill_53178 cJ7_fill_53178 4 none]
def wsX0_init : List Cond := .code yX0_init cX0_init 1 none :: ((wsX0_init_r1 ++ wsX0_init_r2) ++ wsX00)
def wsX0_copyRow : List Cond := .code yX0_copyRow cX0_copyRow 2 none :: ([.methodLink RX0 180 Lib.Math.min.name, .static Lib.Math.min.name, .initialized "java/lang/Math", .code Lib.Math.min.name Lib.Math.min.code 2 (some .int), .methodLink RX0 104 arraycopyName, .native arraycopyName, .static arraycopyName, .initialized "java/lang/System"])
def wsX0_copyFrom_r1 : List Cond := [Cond.fieldLink RX0 49 "PodGuideway$Ring" "minute" "I", Cond.fieldLink RX0 53 "PodGuideway$Ring" "stations" "I", Cond.fieldLink RX0 56 "PodGuideway$Ring" "pods" "I", Cond.fieldLink RX0 59 "PodGuideway$Ring" "ridersInAll" "I", Cond.fieldLink RX0 62 "PodGuideway$Ring" "callsAnswered" "I", Cond.fieldLink RX0 65 "PodGuideway$Ring" "waitedBeforeBoarding" "I", Cond.fieldLink RX0 15 "PodGuideway$Ring" "podInSlot" "[I", Cond.fieldLink RX0 19 "PodGuideway$Ring" "podInBerth" "[I", Cond.fieldLink RX0 22 "PodGuideway$Ring" "stationPlace" "[I", Cond.fieldLink RX0 25 "PodGuideway$Ring" "stationArrived" "[I", Cond.fieldLink RX0 28 "PodGuideway$Ring" "stationWaiting" "[I", Cond.fieldLink RX0 31 "PodGuideway$Ring" "riderNumber" "[I", Cond.fieldLink RX0 34 "PodGuideway$Ring" "riderGoal" "[I", Cond.fieldLink RX0 37 "PodGuideway$Ring" "riderCame" "[I", Cond.fieldLink RX0 40 "PodGuideway$Ring" "podGoal" "[I", Cond.fieldLink RX0 43 "PodGuideway$Ring" "podRider" "[I", Cond.fieldLink RX0 46 "PodGuideway$Ring" "podBarred" "[I", Cond.methodLink RX0 68 yX0_copyRow, Cond.static yX0_copyRow, Cond.initialized RX0, Cond.code yX0_copyRow cX0_copyRow 2 none, Cond.methodLink RX0 180 Lib.Math.min.name, Cond.static Lib.Math.min.name, Cond.initialized "java/lang/Math"]
def wsX0_copyFrom_r2 : List Cond := [Cond.code Lib.Math.min.name Lib.Math.min.code 2 (some .int), Cond.methodLink RX0 104 arraycopyName, Cond.native arraycopyName, Cond.static arraycopyName, Cond.initialized "java/lang/System"]
def wsX0_copyFrom : List Cond := .code yX0_copyFrom cX0_copyFrom 2 none :: ((wsX0_copyFrom_r1 ++ wsX0_copyFrom_r2) ++ wsX00)
def wsX0_write : List Cond := .code yX0_write cX0_write 3 none :: ([])
def wsX0_addStation : List Cond := .code yX0_addStation cX0_addStation 3 (some .int) :: ([.fieldLink RX0 53 "PodGuideway$Ring" "stations" "I", .fieldLink RX0 22 "PodGuideway$Ring" "stationPlace" "[I", .methodLink RX0 72 yX0_write, .static yX0_write, .initialized RX0, .code yX0_write cX0_write 3 none] ++ wsX00)
def wsX0_read : List Cond := .code yX0_read cX0_read 2 (some .int) :: ([])
def wsX0_berthHolds : List Cond := .code yX0_berthHolds cX0_berthHolds 3 (some .int) :: ([.fieldLink RX0 19 "PodGuideway$Ring" "podInBerth" "[I", .fieldLink RX0 40 "PodGuideway$Ring" "podGoal" "[I", .methodLink RX0 100 yX0_read, .static yX0_read, .initialized RX0, .code yX0_read cX0_read 2 (some .int)] ++ wsX00)
def wsX0_firstBerth : List Cond := .code yX0_firstBerth cX0_firstBerth 4 (some .int) :: ([.methodLink RX0 123 yX0_berthHolds, .instanceMethod yX0_berthHolds, .selects RX0 yX0_berthHolds yX0_berthHolds, .initialized RX0, .code yX0_berthHolds cX0_berthHolds 3 (some .int), .fieldLink RX0 19 "PodGuideway$Ring" "podInBerth" "[I", .fieldLink RX0 40 "PodGuideway$Ring" "podGoal" "[I", .methodLink RX0 100 yX0_read, .static yX0_read, .code yX0_read cX0_read 2 (some .int)] ++ wsX00)
def wsX0_addPod : List Cond := .code yX0_addPod cX0_addPod 3 (some .int) :: ([.fieldLink RX0 56 "PodGuideway$Ring" "pods" "I", .fieldLink RX0 19 "PodGuideway$Ring" "podInBerth" "[I", .methodLink RX0 76 yX0_firstBerth, .instanceMethod yX0_firstBerth, .selects RX0 yX0_firstBerth yX0_firstBerth, .initialized RX0, .code yX0_firstBerth cX0_firstBerth 4 (some .int), .methodLink RX0 123 yX0_berthHolds, .instanceMethod yX0_berthHolds, .selects RX0 yX0_berthHolds yX0_berthHolds, .code yX0_berthHolds cX0_berthHolds 3 (some .int), .fieldLink RX0 40 "PodGuideway$Ring" "podGoal" "[I", .methodLink RX0 100 yX0_read, .static yX0_read, .code yX0_read cX0_read 2 (some .int), .methodLink RX0 72 yX0_write, .static yX0_write, .code yX0_write cX0_write 3 none] ++ wsX00)
def wsX0_waitingAt : List Cond := .code yX0_waitingAt cX0_waitingAt 2 (some .int) :: ([.fieldLink RX0 28 "PodGuideway$Ring" "stationWaiting" "[I", .methodLink RX0 146 Lib.Math.max.name, .static Lib.Math.max.name, .initialized "java/lang/Math", .code Lib.Math.max.name Lib.Math.max.code 2 (some .int), .methodLink RX0 100 yX0_read, .static yX0_read, .initialized RX0, .code yX0_read cX0_read 2 (some .int)] ++ wsX00)
def wsX0_addRider : List Cond := .code yX0_addRider cX0_addRider 5 (some .int) :: ([.fieldLink RX0 59 "PodGuideway$Ring" "ridersInAll" "I", .fieldLink RX0 31 "PodGuideway$Ring" "riderNumber" "[I", .fieldLink RX0 34 "PodGuideway$Ring" "riderGoal" "[I", .fieldLink RX0 37 "PodGuideway$Ring" "riderCame" "[I", .fieldLink RX0 49 "PodGuideway$Ring" "minute" "I", .fieldLink RX0 28 "PodGuideway$Ring" "stationWaiting" "[I", .methodLink RX0 80 yX0_waitingAt, .instanceMethod yX0_waitingAt, .selects RX0 yX0_waitingAt yX0_waitingAt, .initialized RX0, .code yX0_waitingAt cX0_waitingAt 2 (some .int), .methodLink RX0 146 Lib.Math.max.name, .static Lib.Math.max.name, .initialized "java/lang/Math", .code Lib.Math.max.name Lib.Math.max.code 2 (some .int), .methodLink RX0 100 yX0_read, .static yX0_read, .code yX0_read cX0_read 2 (some .int), .methodLink RX0 72 yX0_write, .static yX0_write, .code yX0_write cX0_write 3 none] ++ wsX00)
def wsX0_setGoal : List Cond := .code yX0_setGoal cX0_setGoal 3 none :: ([.fieldLink RX0 40 "PodGuideway$Ring" "podGoal" "[I", .methodLink RX0 72 yX0_write, .static yX0_write, .initialized RX0, .code yX0_write cX0_write 3 none] ++ wsX00)
def wsX0_moveSlots : List Cond := .code yX0_moveSlots cX0_moveSlots 3 none :: ([.fieldLink RX0 15 "PodGuideway$Ring" "podInSlot" "[I", .methodLink RX0 104 arraycopyName, .native arraycopyName, .static arraycopyName, .initialized "java/lang/System", .methodLink RX0 100 yX0_read, .static yX0_read, .initialized RX0, .code yX0_read cX0_read 2 (some .int), .methodLink RX0 72 yX0_write, .static yX0_write, .code yX0_write cX0_write 3 none] ++ wsX00)
def wsX0_placeOf : List Cond := .code yX0_placeOf cX0_placeOf 2 (some .int) :: ([.fieldLink RX0 22 "PodGuideway$Ring" "stationPlace" "[I", .methodLink RX0 100 yX0_read, .static yX0_read, .initialized RX0, .code yX0_read cX0_read 2 (some .int)] ++ wsX00)
def wsX0_podAtPlace : List Cond := .code yX0_podAtPlace cX0_podAtPlace 2 (some .int) :: ([.fieldLink RX0 15 "PodGuideway$Ring" "podInSlot" "[I", .methodLink RX0 100 yX0_read, .static yX0_read, .initialized RX0, .code yX0_read cX0_read 2 (some .int)] ++ wsX00)
def wsX0_goalOf : List Cond := .code yX0_goalOf cX0_goalOf 2 (some .int) :: ([.fieldLink RX0 40 "PodGuideway$Ring" "podGoal" "[I", .methodLink RX0 100 yX0_read, .static yX0_read, .initialized RX0, .code yX0_read cX0_read 2 (some .int)] ++ wsX00)
def wsX0_letGoOff_r1 : List Cond := [Cond.fieldLink RX0 46 "PodGuideway$Ring" "podBarred" "[I", Cond.fieldLink RX0 15 "PodGuideway$Ring" "podInSlot" "[I", Cond.fieldLink RX0 19 "PodGuideway$Ring" "podInBerth" "[I", Cond.fieldLink RX0 43 "PodGuideway$Ring" "podRider" "[I", Cond.fieldLink RX0 25 "PodGuideway$Ring" "stationArrived" "[I", Cond.methodLink RX0 110 yX0_placeOf, Cond.instanceMethod yX0_placeOf, Cond.selects RX0 yX0_placeOf yX0_placeOf, Cond.initialized RX0, Cond.code yX0_placeOf cX0_placeOf 2 (some .int), Cond.fieldLink RX0 22 "PodGuideway$Ring" "stationPlace" "[I", Cond.methodLink RX0 100 yX0_read, Cond.static yX0_read, Cond.code yX0_read cX0_read 2 (some .int), Cond.methodLink RX0 113 yX0_podAtPlace, Cond.instanceMethod yX0_podAtPlace, Cond.selects RX0 yX0_podAtPlace yX0_podAtPlace, Cond.code yX0_podAtPlace cX0_podAtPlace 2 (some .int), Cond.methodLink RX0 116 yX0_goalOf, Cond.instanceMethod yX0_goalOf, Cond.selects RX0 yX0_goalOf yX0_goalOf, Cond.code yX0_goalOf cX0_goalOf 2 (some .int), Cond.fieldLink RX0 40 "PodGuideway$Ring" "podGoal" "[I", Cond.methodLink RX0 76 yX0_firstBerth]
def wsX0_letGoOff_r2 : List Cond := [Cond.instanceMethod yX0_firstBerth, Cond.selects RX0 yX0_firstBerth yX0_firstBerth, Cond.code yX0_firstBerth cX0_firstBerth 4 (some .int), Cond.methodLink RX0 123 yX0_berthHolds, Cond.instanceMethod yX0_berthHolds, Cond.selects RX0 yX0_berthHolds yX0_berthHolds, Cond.code yX0_berthHolds cX0_berthHolds 3 (some .int), Cond.methodLink RX0 72 yX0_write, Cond.static yX0_write, Cond.code yX0_write cX0_write 3 none, Cond.methodLink RX0 119 yX0_setGoal, Cond.instanceMethod yX0_setGoal, Cond.selects RX0 yX0_setGoal yX0_setGoal, Cond.code yX0_setGoal cX0_setGoal 3 none]
def wsX0_letGoOff : List Cond := .code yX0_letGoOff cX0_letGoOff 5 none :: ((wsX0_letGoOff_r1 ++ wsX0_letGoOff_r2) ++ wsX00)
def wsX0_waitedBy : List Cond := .code yX0_waitedBy cX0_waitedBy 3 (some .int) :: ([.fieldLink RX0 49 "PodGuideway$Ring" "minute" "I", .fieldLink RX0 37 "PodGuideway$Ring" "riderCame" "[I", .methodLink RX0 100 yX0_read, .static yX0_read, .initialized RX0, .code yX0_read cX0_read 2 (some .int)] ++ wsX00)
def wsX0_boardFirst_r1 : List Cond := [Cond.fieldLink RX0 43 "PodGuideway$Ring" "podRider" "[I", Cond.fieldLink RX0 31 "PodGuideway$Ring" "riderNumber" "[I", Cond.fieldLink RX0 34 "PodGuideway$Ring" "riderGoal" "[I", Cond.fieldLink RX0 65 "PodGuideway$Ring" "waitedBeforeBoarding" "I", Cond.fieldLink RX0 37 "PodGuideway$Ring" "riderCame" "[I", Cond.fieldLink RX0 28 "PodGuideway$Ring" "stationWaiting" "[I", Cond.methodLink RX0 100 yX0_read, Cond.static yX0_read, Cond.initialized RX0, Cond.code yX0_read cX0_read 2 (some .int), Cond.methodLink RX0 72 yX0_write, Cond.static yX0_write, Cond.code yX0_write cX0_write 3 none, Cond.methodLink RX0 119 yX0_setGoal, Cond.instanceMethod yX0_setGoal, Cond.selects RX0 yX0_setGoal yX0_setGoal, Cond.code yX0_setGoal cX0_setGoal 3 none, Cond.fieldLink RX0 40 "PodGuideway$Ring" "podGoal" "[I", Cond.methodLink RX0 129 yX0_waitedBy, Cond.instanceMethod yX0_waitedBy, Cond.selects RX0 yX0_waitedBy yX0_waitedBy, Cond.code yX0_waitedBy cX0_waitedBy 3 (some .int), Cond.fieldLink RX0 49 "PodGuideway$Ring" "minute" "I", Cond.methodLink RX0 80 yX0_waitingAt]
def wsX0_boardFirst_r2 : List Cond := [Cond.instanceMethod yX0_waitingAt, Cond.selects RX0 yX0_waitingAt yX0_waitingAt, Cond.code yX0_waitingAt cX0_waitingAt 2 (some .int), Cond.methodLink RX0 146 Lib.Math.max.name, Cond.static Lib.Math.max.name, Cond.initialized "java/lang/Math", Cond.code Lib.Math.max.name Lib.Math.max.code 2 (some .int)]
def wsX0_boardFirst : List Cond := .code yX0_boardFirst cX0_boardFirst 6 none :: ((wsX0_boardFirst_r1 ++ wsX0_boardFirst_r2) ++ wsX00)
def wsX0_letBoard_r1 : List Cond := [Cond.fieldLink RX0 19 "PodGuideway$Ring" "podInBerth" "[I", Cond.methodLink RX0 80 yX0_waitingAt, Cond.instanceMethod yX0_waitingAt, Cond.selects RX0 yX0_waitingAt yX0_waitingAt, Cond.initialized RX0, Cond.code yX0_waitingAt cX0_waitingAt 2 (some .int), Cond.fieldLink RX0 28 "PodGuideway$Ring" "stationWaiting" "[I", Cond.methodLink RX0 146 Lib.Math.max.name, Cond.static Lib.Math.max.name, Cond.initialized "java/lang/Math", Cond.code Lib.Math.max.name Lib.Math.max.code 2 (some .int), Cond.methodLink RX0 100 yX0_read, Cond.static yX0_read, Cond.code yX0_read cX0_read 2 (some .int), Cond.methodLink RX0 123 yX0_berthHolds, Cond.instanceMethod yX0_berthHolds, Cond.selects RX0 yX0_berthHolds yX0_berthHolds, Cond.code yX0_berthHolds cX0_berthHolds 3 (some .int), Cond.fieldLink RX0 40 "PodGuideway$Ring" "podGoal" "[I", Cond.methodLink RX0 126 yX0_boardFirst, Cond.instanceMethod yX0_boardFirst, Cond.selects RX0 yX0_boardFirst yX0_boardFirst, Cond.code yX0_boardFirst cX0_boardFirst 6 none, Cond.fieldLink RX0 43 "PodGuideway$Ring" "podRider" "[I"]
def wsX0_letBoard_r2 : List Cond := [Cond.fieldLink RX0 31 "PodGuideway$Ring" "riderNumber" "[I", Cond.fieldLink RX0 34 "PodGuideway$Ring" "riderGoal" "[I", Cond.fieldLink RX0 65 "PodGuideway$Ring" "waitedBeforeBoarding" "I", Cond.fieldLink RX0 37 "PodGuideway$Ring" "riderCame" "[I", Cond.methodLink RX0 72 yX0_write, Cond.static yX0_write, Cond.code yX0_write cX0_write 3 none, Cond.methodLink RX0 119 yX0_setGoal, Cond.instanceMethod yX0_setGoal, Cond.selects RX0 yX0_setGoal yX0_setGoal, Cond.code yX0_setGoal cX0_setGoal 3 none, Cond.methodLink RX0 129 yX0_waitedBy, Cond.instanceMethod yX0_waitedBy, Cond.selects RX0 yX0_waitedBy yX0_waitedBy, Cond.code yX0_waitedBy cX0_waitedBy 3 (some .int), Cond.fieldLink RX0 49 "PodGuideway$Ring" "minute" "I"]
def wsX0_letBoard : List Cond := .code yX0_letBoard cX0_letBoard 3 none :: ((wsX0_letBoard_r1 ++ wsX0_letBoard_r2) ++ wsX00)
def wsX0_emptyPodsTo : List Cond := .code yX0_emptyPodsTo cX0_emptyPodsTo 4 (some .int) :: ([.fieldLink RX0 56 "PodGuideway$Ring" "pods" "I", .fieldLink RX0 43 "PodGuideway$Ring" "podRider" "[I", .methodLink RX0 116 yX0_goalOf, .instanceMethod yX0_goalOf, .selects RX0 yX0_goalOf yX0_goalOf, .initialized RX0, .code yX0_goalOf cX0_goalOf 2 (some .int), .fieldLink RX0 40 "PodGuideway$Ring" "podGoal" "[I", .methodLink RX0 100 yX0_read, .static yX0_read, .code yX0_read cX0_read 2 (some .int)] ++ wsX00)
def wsJ9_floorMod_7cf53 : List Cond := .code yJ9_floorMod_7cf53 cJ9_floorMod_7cf53 3 (some .int) :: ([])
def wsX0_placesOn : List Cond := .code yX0_placesOn cX0_placesOn 3 (some .int) :: ([.methodLink RX0 110 yX0_placeOf, .instanceMethod yX0_placeOf, .selects RX0 yX0_placeOf yX0_placeOf, .initialized RX0, .code yX0_placeOf cX0_placeOf 2 (some .int), .fieldLink RX0 22 "PodGuideway$Ring" "stationPlace" "[I", .methodLink RX0 100 yX0_read, .static yX0_read, .code yX0_read cX0_read 2 (some .int), .methodLink RX0 141 yJ9_floorMod_7cf53, .static yJ9_floorMod_7cf53, .initialized RJ9, .code yJ9_floorMod_7cf53 cJ9_floorMod_7cf53 3 (some .int)] ++ wsX00)
def wsX0_stationThatAnswers_r1 : List Cond := [Cond.fieldLink RX0 53 "PodGuideway$Ring" "stations" "I", Cond.methodLink RX0 138 yX0_placesOn, Cond.instanceMethod yX0_placesOn, Cond.selects RX0 yX0_placesOn yX0_placesOn, Cond.initialized RX0, Cond.code yX0_placesOn cX0_placesOn 3 (some .int), Cond.methodLink RX0 110 yX0_placeOf, Cond.instanceMethod yX0_placeOf, Cond.selects RX0 yX0_placeOf yX0_placeOf, Cond.code yX0_placeOf cX0_placeOf 2 (some .int), Cond.fieldLink RX0 22 "PodGuideway$Ring" "stationPlace" "[I", Cond.methodLink RX0 100 yX0_read, Cond.static yX0_read, Cond.code yX0_read cX0_read 2 (some .int), Cond.methodLink RX0 141 yJ9_floorMod_7cf53, Cond.static yJ9_floorMod_7cf53, Cond.initialized RJ9, Cond.code yJ9_floorMod_7cf53 cJ9_floorMod_7cf53 3 (some .int), Cond.methodLink RX0 80 yX0_waitingAt, Cond.instanceMethod yX0_waitingAt, Cond.selects RX0 yX0_waitingAt yX0_waitingAt, Cond.code yX0_waitingAt cX0_waitingAt 2 (some .int), Cond.fieldLink RX0 28 "PodGuideway$Ring" "stationWaiting" "[I", Cond.methodLink RX0 146 Lib.Math.max.name]
def wsX0_stationThatAnswers_r2 : List Cond := [Cond.static Lib.Math.max.name, Cond.initialized "java/lang/Math", Cond.code Lib.Math.max.name Lib.Math.max.code 2 (some .int), Cond.methodLink RX0 76 yX0_firstBerth, Cond.instanceMethod yX0_firstBerth, Cond.selects RX0 yX0_firstBerth yX0_firstBerth, Cond.code yX0_firstBerth cX0_firstBerth 4 (some .int), Cond.methodLink RX0 123 yX0_berthHolds, Cond.instanceMethod yX0_berthHolds, Cond.selects RX0 yX0_berthHolds yX0_berthHolds, Cond.code yX0_berthHolds cX0_berthHolds 3 (some .int), Cond.fieldLink RX0 19 "PodGuideway$Ring" "podInBerth" "[I", Cond.fieldLink RX0 40 "PodGuideway$Ring" "podGoal" "[I"]
def wsX0_stationThatAnswers : List Cond := .code yX0_stationThatAnswers cX0_stationThatAnswers 6 (some .int) :: ((wsX0_stationThatAnswers_r1 ++ wsX0_stationThatAnswers_r2) ++ wsX00)
def wsX0_letCall_r1 : List Cond := [Cond.fieldLink RX0 19 "PodGuideway$Ring" "podInBerth" "[I", Cond.fieldLink RX0 62 "PodGuideway$Ring" "callsAnswered" "I", Cond.methodLink RX0 80 yX0_waitingAt, Cond.instanceMethod yX0_waitingAt, Cond.selects RX0 yX0_waitingAt yX0_waitingAt, Cond.initialized RX0, Cond.code yX0_waitingAt cX0_waitingAt 2 (some .int), Cond.fieldLink RX0 28 "PodGuideway$Ring" "stationWaiting" "[I", Cond.methodLink RX0 146 Lib.Math.max.name, Cond.static Lib.Math.max.name, Cond.initialized "java/lang/Math", Cond.code Lib.Math.max.name Lib.Math.max.code 2 (some .int), Cond.methodLink RX0 100 yX0_read, Cond.static yX0_read, Cond.code yX0_read cX0_read 2 (some .int), Cond.methodLink RX0 132 yX0_emptyPodsTo, Cond.instanceMethod yX0_emptyPodsTo, Cond.selects RX0 yX0_emptyPodsTo yX0_emptyPodsTo, Cond.code yX0_emptyPodsTo cX0_emptyPodsTo 4 (some .int), Cond.fieldLink RX0 56 "PodGuideway$Ring" "pods" "I", Cond.fieldLink RX0 43 "PodGuideway$Ring" "podRider" "[I", Cond.methodLink RX0 116 yX0_goalOf, Cond.instanceMethod yX0_goalOf, Cond.selects RX0 yX0_goalOf yX0_goalOf]
def wsX0_letCall_r2 : List Cond := [Cond.code yX0_goalOf cX0_goalOf 2 (some .int), Cond.fieldLink RX0 40 "PodGuideway$Ring" "podGoal" "[I", Cond.methodLink RX0 135 yX0_stationThatAnswers, Cond.instanceMethod yX0_stationThatAnswers, Cond.selects RX0 yX0_stationThatAnswers yX0_stationThatAnswers, Cond.code yX0_stationThatAnswers cX0_stationThatAnswers 6 (some .int), Cond.fieldLink RX0 53 "PodGuideway$Ring" "stations" "I", Cond.methodLink RX0 138 yX0_placesOn, Cond.instanceMethod yX0_placesOn, Cond.selects RX0 yX0_placesOn yX0_placesOn, Cond.code yX0_placesOn cX0_placesOn 3 (some .int), Cond.methodLink RX0 110 yX0_placeOf, Cond.instanceMethod yX0_placeOf, Cond.selects RX0 yX0_placeOf yX0_placeOf, Cond.code yX0_placeOf cX0_placeOf 2 (some .int), Cond.fieldLink RX0 22 "PodGuideway$Ring" "stationPlace" "[I", Cond.methodLink RX0 141 yJ9_floorMod_7cf53, Cond.static yJ9_floorMod_7cf53, Cond.initialized RJ9, Cond.code yJ9_floorMod_7cf53 cJ9_floorMod_7cf53 3 (some .int), Cond.methodLink RX0 76 yX0_firstBerth, Cond.instanceMethod yX0_firstBerth, Cond.selects RX0 yX0_firstBerth yX0_firstBerth, Cond.code yX0_firstBerth cX0_firstBerth 4 (some .int)]
def wsX0_letCall_r3 : List Cond := [Cond.methodLink RX0 123 yX0_berthHolds, Cond.instanceMethod yX0_berthHolds, Cond.selects RX0 yX0_berthHolds yX0_berthHolds, Cond.code yX0_berthHolds cX0_berthHolds 3 (some .int), Cond.methodLink RX0 119 yX0_setGoal, Cond.instanceMethod yX0_setGoal, Cond.selects RX0 yX0_setGoal yX0_setGoal, Cond.code yX0_setGoal cX0_setGoal 3 none, Cond.methodLink RX0 72 yX0_write, Cond.static yX0_write, Cond.code yX0_write cX0_write 3 none]
def wsX0_letCall : List Cond := .code yX0_letCall cX0_letCall 4 none :: ((wsX0_letCall_r1 ++ (wsX0_letCall_r2 ++ wsX0_letCall_r3)) ++ wsX00)
def wsX0_letMerge_r1 : List Cond := [Cond.fieldLink RX0 15 "PodGuideway$Ring" "podInSlot" "[I", Cond.fieldLink RX0 19 "PodGuideway$Ring" "podInBerth" "[I", Cond.methodLink RX0 110 yX0_placeOf, Cond.instanceMethod yX0_placeOf, Cond.selects RX0 yX0_placeOf yX0_placeOf, Cond.initialized RX0, Cond.code yX0_placeOf cX0_placeOf 2 (some .int), Cond.fieldLink RX0 22 "PodGuideway$Ring" "stationPlace" "[I", Cond.methodLink RX0 100 yX0_read, Cond.static yX0_read, Cond.code yX0_read cX0_read 2 (some .int), Cond.methodLink RX0 76 yX0_firstBerth, Cond.instanceMethod yX0_firstBerth, Cond.selects RX0 yX0_firstBerth yX0_firstBerth, Cond.code yX0_firstBerth cX0_firstBerth 4 (some .int), Cond.methodLink RX0 123 yX0_berthHolds, Cond.instanceMethod yX0_berthHolds, Cond.selects RX0 yX0_berthHolds yX0_berthHolds, Cond.code yX0_berthHolds cX0_berthHolds 3 (some .int), Cond.fieldLink RX0 40 "PodGuideway$Ring" "podGoal" "[I", Cond.methodLink RX0 113 yX0_podAtPlace, Cond.instanceMethod yX0_podAtPlace, Cond.selects RX0 yX0_podAtPlace yX0_podAtPlace, Cond.code yX0_podAtPlace cX0_podAtPlace 2 (some .int)]
def wsX0_letMerge_r2 : List Cond := [Cond.methodLink RX0 72 yX0_write, Cond.static yX0_write, Cond.code yX0_write cX0_write 3 none]
def wsX0_letMerge : List Cond := .code yX0_letMerge cX0_letMerge 4 none :: ((wsX0_letMerge_r1 ++ wsX0_letMerge_r2) ++ wsX00)
def wsX0_passMinute_r1 : List Cond := [Cond.fieldLink RX0 53 "PodGuideway$Ring" "stations" "I", Cond.fieldLink RX0 49 "PodGuideway$Ring" "minute" "I", Cond.methodLink RX0 84 yX0_moveSlots, Cond.instanceMethod yX0_moveSlots, Cond.selects RX0 yX0_moveSlots yX0_moveSlots, Cond.initialized RX0, Cond.code yX0_moveSlots cX0_moveSlots 3 none, Cond.fieldLink RX0 15 "PodGuideway$Ring" "podInSlot" "[I", Cond.methodLink RX0 104 arraycopyName, Cond.native arraycopyName, Cond.static arraycopyName, Cond.initialized "java/lang/System", Cond.methodLink RX0 100 yX0_read, Cond.static yX0_read, Cond.code yX0_read cX0_read 2 (some .int), Cond.methodLink RX0 72 yX0_write, Cond.static yX0_write, Cond.code yX0_write cX0_write 3 none, Cond.methodLink RX0 87 yX0_letGoOff, Cond.instanceMethod yX0_letGoOff, Cond.selects RX0 yX0_letGoOff yX0_letGoOff, Cond.code yX0_letGoOff cX0_letGoOff 5 none, Cond.fieldLink RX0 46 "PodGuideway$Ring" "podBarred" "[I", Cond.fieldLink RX0 19 "PodGuideway$Ring" "podInBerth" "[I"]
def wsX0_passMinute_r2 : List Cond := [Cond.fieldLink RX0 43 "PodGuideway$Ring" "podRider" "[I", Cond.fieldLink RX0 25 "PodGuideway$Ring" "stationArrived" "[I", Cond.methodLink RX0 110 yX0_placeOf, Cond.instanceMethod yX0_placeOf, Cond.selects RX0 yX0_placeOf yX0_placeOf, Cond.code yX0_placeOf cX0_placeOf 2 (some .int), Cond.fieldLink RX0 22 "PodGuideway$Ring" "stationPlace" "[I", Cond.methodLink RX0 113 yX0_podAtPlace, Cond.instanceMethod yX0_podAtPlace, Cond.selects RX0 yX0_podAtPlace yX0_podAtPlace, Cond.code yX0_podAtPlace cX0_podAtPlace 2 (some .int), Cond.methodLink RX0 116 yX0_goalOf, Cond.instanceMethod yX0_goalOf, Cond.selects RX0 yX0_goalOf yX0_goalOf, Cond.code yX0_goalOf cX0_goalOf 2 (some .int), Cond.fieldLink RX0 40 "PodGuideway$Ring" "podGoal" "[I", Cond.methodLink RX0 76 yX0_firstBerth, Cond.instanceMethod yX0_firstBerth, Cond.selects RX0 yX0_firstBerth yX0_firstBerth, Cond.code yX0_firstBerth cX0_firstBerth 4 (some .int), Cond.methodLink RX0 123 yX0_berthHolds, Cond.instanceMethod yX0_berthHolds, Cond.selects RX0 yX0_berthHolds yX0_berthHolds, Cond.code yX0_berthHolds cX0_berthHolds 3 (some .int)]
def wsX0_passMinute_r3 : List Cond := [Cond.methodLink RX0 119 yX0_setGoal, Cond.instanceMethod yX0_setGoal, Cond.selects RX0 yX0_setGoal yX0_setGoal, Cond.code yX0_setGoal cX0_setGoal 3 none, Cond.methodLink RX0 91 yX0_letBoard, Cond.instanceMethod yX0_letBoard, Cond.selects RX0 yX0_letBoard yX0_letBoard, Cond.code yX0_letBoard cX0_letBoard 3 none, Cond.methodLink RX0 80 yX0_waitingAt, Cond.instanceMethod yX0_waitingAt, Cond.selects RX0 yX0_waitingAt yX0_waitingAt, Cond.code yX0_waitingAt cX0_waitingAt 2 (some .int), Cond.fieldLink RX0 28 "PodGuideway$Ring" "stationWaiting" "[I", Cond.methodLink RX0 146 Lib.Math.max.name, Cond.static Lib.Math.max.name, Cond.initialized "java/lang/Math", Cond.code Lib.Math.max.name Lib.Math.max.code 2 (some .int), Cond.methodLink RX0 126 yX0_boardFirst, Cond.instanceMethod yX0_boardFirst, Cond.selects RX0 yX0_boardFirst yX0_boardFirst, Cond.code yX0_boardFirst cX0_boardFirst 6 none, Cond.fieldLink RX0 31 "PodGuideway$Ring" "riderNumber" "[I", Cond.fieldLink RX0 34 "PodGuideway$Ring" "riderGoal" "[I", Cond.fieldLink RX0 65 "PodGuideway$Ring" "waitedBeforeBoarding" "I"]
def wsX0_passMinute_r4 : List Cond := [Cond.fieldLink RX0 37 "PodGuideway$Ring" "riderCame" "[I", Cond.methodLink RX0 129 yX0_waitedBy, Cond.instanceMethod yX0_waitedBy, Cond.selects RX0 yX0_waitedBy yX0_waitedBy, Cond.code yX0_waitedBy cX0_waitedBy 3 (some .int), Cond.methodLink RX0 94 yX0_letCall, Cond.instanceMethod yX0_letCall, Cond.selects RX0 yX0_letCall yX0_letCall, Cond.code yX0_letCall cX0_letCall 4 none, Cond.fieldLink RX0 62 "PodGuideway$Ring" "callsAnswered" "I", Cond.methodLink RX0 132 yX0_emptyPodsTo, Cond.instanceMethod yX0_emptyPodsTo, Cond.selects RX0 yX0_emptyPodsTo yX0_emptyPodsTo, Cond.code yX0_emptyPodsTo cX0_emptyPodsTo 4 (some .int), Cond.fieldLink RX0 56 "PodGuideway$Ring" "pods" "I", Cond.methodLink RX0 135 yX0_stationThatAnswers, Cond.instanceMethod yX0_stationThatAnswers, Cond.selects RX0 yX0_stationThatAnswers yX0_stationThatAnswers, Cond.code yX0_stationThatAnswers cX0_stationThatAnswers 6 (some .int), Cond.methodLink RX0 138 yX0_placesOn, Cond.instanceMethod yX0_placesOn, Cond.selects RX0 yX0_placesOn yX0_placesOn, Cond.code yX0_placesOn cX0_placesOn 3 (some .int), Cond.methodLink RX0 141 yJ9_floorMod_7cf53]
def wsX0_passMinute_r5 : List Cond := [Cond.static yJ9_floorMod_7cf53, Cond.initialized RJ9, Cond.code yJ9_floorMod_7cf53 cJ9_floorMod_7cf53 3 (some .int), Cond.methodLink RX0 97 yX0_letMerge, Cond.instanceMethod yX0_letMerge, Cond.selects RX0 yX0_letMerge yX0_letMerge, Cond.code yX0_letMerge cX0_letMerge 4 none]
def wsX0_passMinute : List Cond := .code yX0_passMinute cX0_passMinute 2 none :: ((wsX0_passMinute_r1 ++ (wsX0_passMinute_r2 ++ (wsX0_passMinute_r3 ++ (wsX0_passMinute_r4 ++ wsX0_passMinute_r5)))) ++ wsX00)
def wsX0_stationAtPlace : List Cond := .code yX0_stationAtPlace cX0_stationAtPlace 3 (some .int) :: ([.fieldLink RX0 53 "PodGuideway$Ring" "stations" "I", .methodLink RX0 110 yX0_placeOf, .instanceMethod yX0_placeOf, .selects RX0 yX0_placeOf yX0_placeOf, .initialized RX0, .code yX0_placeOf cX0_placeOf 2 (some .int), .fieldLink RX0 22 "PodGuideway$Ring" "stationPlace" "[I", .methodLink RX0 100 yX0_read, .static yX0_read, .code yX0_read cX0_read 2 (some .int)] ++ wsX00)
def wsX0_berthsThatHold : List Cond := .code yX0_berthsThatHold cX0_berthsThatHold 5 (some .int) :: ([.methodLink RX0 123 yX0_berthHolds, .instanceMethod yX0_berthHolds, .selects RX0 yX0_berthHolds yX0_berthHolds, .initialized RX0, .code yX0_berthHolds cX0_berthHolds 3 (some .int), .fieldLink RX0 19 "PodGuideway$Ring" "podInBerth" "[I", .fieldLink RX0 40 "PodGuideway$Ring" "podGoal" "[I", .methodLink RX0 100 yX0_read, .static yX0_read, .code yX0_read cX0_read 2 (some .int)] ++ wsX00)
def wsX0_find : List Cond := .code yX0_find cX0_find 3 (some .int) :: ([])
def wsX0_berthOf : List Cond := .code yX0_berthOf cX0_berthOf 2 (some .int) :: ([.fieldLink RX0 19 "PodGuideway$Ring" "podInBerth" "[I", .methodLink RX0 149 yX0_find, .static yX0_find, .initialized RX0, .code yX0_find cX0_find 3 (some .int)] ++ wsX00)
def wsX0_waitedAt : List Cond := .code yX0_waitedAt cX0_waitedAt 5 (some .int) :: ([.methodLink RX0 80 yX0_waitingAt, .instanceMethod yX0_waitingAt, .selects RX0 yX0_waitingAt yX0_waitingAt, .initialized RX0, .code yX0_waitingAt cX0_waitingAt 2 (some .int), .fieldLink RX0 28 "PodGuideway$Ring" "stationWaiting" "[I", .methodLink RX0 146 Lib.Math.max.name, .static Lib.Math.max.name, .initialized "java/lang/Math", .code Lib.Math.max.name Lib.Math.max.code 2 (some .int), .methodLink RX0 100 yX0_read, .static yX0_read, .code yX0_read cX0_read 2 (some .int), .methodLink RX0 129 yX0_waitedBy, .instanceMethod yX0_waitedBy, .selects RX0 yX0_waitedBy yX0_waitedBy, .code yX0_waitedBy cX0_waitedBy 3 (some .int), .fieldLink RX0 49 "PodGuideway$Ring" "minute" "I", .fieldLink RX0 37 "PodGuideway$Ring" "riderCame" "[I"] ++ wsX00)
def wsX0_waitedInAll : List Cond := .code yX0_waitedInAll cX0_waitedInAll 3 (some .int) :: ([.fieldLink RX0 53 "PodGuideway$Ring" "stations" "I", .methodLink RX0 152 yX0_waitedAt, .instanceMethod yX0_waitedAt, .selects RX0 yX0_waitedAt yX0_waitedAt, .initialized RX0, .code yX0_waitedAt cX0_waitedAt 5 (some .int), .methodLink RX0 80 yX0_waitingAt, .instanceMethod yX0_waitingAt, .selects RX0 yX0_waitingAt yX0_waitingAt, .code yX0_waitingAt cX0_waitingAt 2 (some .int), .fieldLink RX0 28 "PodGuideway$Ring" "stationWaiting" "[I", .methodLink RX0 146 Lib.Math.max.name, .static Lib.Math.max.name, .initialized "java/lang/Math", .code Lib.Math.max.name Lib.Math.max.code 2 (some .int), .methodLink RX0 100 yX0_read, .static yX0_read, .code yX0_read cX0_read 2 (some .int), .methodLink RX0 129 yX0_waitedBy, .instanceMethod yX0_waitedBy, .selects RX0 yX0_waitedBy yX0_waitedBy, .code yX0_waitedBy cX0_waitedBy 3 (some .int), .fieldLink RX0 49 "PodGuideway$Ring" "minute" "I", .fieldLink RX0 37 "PodGuideway$Ring" "riderCame" "[I"] ++ wsX00)
def wsX0_waitingInAll : List Cond := .code yX0_waitingInAll cX0_waitingInAll 3 (some .int) :: ([.fieldLink RX0 53 "PodGuideway$Ring" "stations" "I", .methodLink RX0 80 yX0_waitingAt, .instanceMethod yX0_waitingAt, .selects RX0 yX0_waitingAt yX0_waitingAt, .initialized RX0, .code yX0_waitingAt cX0_waitingAt 2 (some .int), .fieldLink RX0 28 "PodGuideway$Ring" "stationWaiting" "[I", .methodLink RX0 146 Lib.Math.max.name, .static Lib.Math.max.name, .initialized "java/lang/Math", .code Lib.Math.max.name Lib.Math.max.code 2 (some .int), .methodLink RX0 100 yX0_read, .static yX0_read, .code yX0_read cX0_read 2 (some .int)] ++ wsX00)
def wsX0_arrivedInAll : List Cond := .code yX0_arrivedInAll cX0_arrivedInAll 3 (some .int) :: ([.fieldLink RX0 53 "PodGuideway$Ring" "stations" "I", .fieldLink RX0 25 "PodGuideway$Ring" "stationArrived" "[I", .methodLink RX0 100 yX0_read, .static yX0_read, .initialized RX0, .code yX0_read cX0_read 2 (some .int)] ++ wsX00)
def wsX0_ridersInPods : List Cond := .code yX0_ridersInPods cX0_ridersInPods 3 (some .int) :: ([.fieldLink RX0 56 "PodGuideway$Ring" "pods" "I", .fieldLink RX0 43 "PodGuideway$Ring" "podRider" "[I", .methodLink RX0 100 yX0_read, .static yX0_read, .initialized RX0, .code yX0_read cX0_read 2 (some .int)] ++ wsX00)
def wsX0_freeSlots : List Cond := .code yX0_freeSlots cX0_freeSlots 3 (some .int) :: ([.methodLink RX0 113 yX0_podAtPlace, .instanceMethod yX0_podAtPlace, .selects RX0 yX0_podAtPlace yX0_podAtPlace, .initialized RX0, .code yX0_podAtPlace cX0_podAtPlace 2 (some .int), .fieldLink RX0 15 "PodGuideway$Ring" "podInSlot" "[I", .methodLink RX0 100 yX0_read, .static yX0_read, .code yX0_read cX0_read 2 (some .int)] ++ wsX00)
def wsX0_tellPod : List Cond := .code yX0_tellPod cX0_tellPod 4 (some .int) :: ([.fieldLink RX0 15 "PodGuideway$Ring" "podInSlot" "[I", .fieldLink RX0 43 "PodGuideway$Ring" "podRider" "[I", .fieldLink RX0 46 "PodGuideway$Ring" "podBarred" "[I", .methodLink RX0 155 yX0_berthOf, .instanceMethod yX0_berthOf, .selects RX0 yX0_berthOf yX0_berthOf, .initialized RX0, .code yX0_berthOf cX0_berthOf 2 (some .int), .fieldLink RX0 19 "PodGuideway$Ring" "podInBerth" "[I", .methodLink RX0 149 yX0_find, .static yX0_find, .code yX0_find cX0_find 3 (some .int), .methodLink RX0 116 yX0_goalOf, .instanceMethod yX0_goalOf, .selects RX0 yX0_goalOf yX0_goalOf, .code yX0_goalOf cX0_goalOf 2 (some .int), .fieldLink RX0 40 "PodGuideway$Ring" "podGoal" "[I", .methodLink RX0 100 yX0_read, .static yX0_read, .code yX0_read cX0_read 2 (some .int)] ++ wsX00)
def wsX0_tellStation_r1 : List Cond := [Cond.fieldLink RX0 25 "PodGuideway$Ring" "stationArrived" "[I", Cond.methodLink RX0 110 yX0_placeOf, Cond.instanceMethod yX0_placeOf, Cond.selects RX0 yX0_placeOf yX0_placeOf, Cond.initialized RX0, Cond.code yX0_placeOf cX0_placeOf 2 (some .int), Cond.fieldLink RX0 22 "PodGuideway$Ring" "stationPlace" "[I", Cond.methodLink RX0 100 yX0_read, Cond.static yX0_read, Cond.code yX0_read cX0_read 2 (some .int), Cond.methodLink RX0 158 yX0_berthsThatHold, Cond.instanceMethod yX0_berthsThatHold, Cond.selects RX0 yX0_berthsThatHold yX0_berthsThatHold, Cond.code yX0_berthsThatHold cX0_berthsThatHold 5 (some .int), Cond.methodLink RX0 123 yX0_berthHolds, Cond.instanceMethod yX0_berthHolds, Cond.selects RX0 yX0_berthHolds yX0_berthHolds, Cond.code yX0_berthHolds cX0_berthHolds 3 (some .int), Cond.fieldLink RX0 19 "PodGuideway$Ring" "podInBerth" "[I", Cond.fieldLink RX0 40 "PodGuideway$Ring" "podGoal" "[I", Cond.methodLink RX0 80 yX0_waitingAt, Cond.instanceMethod yX0_waitingAt, Cond.selects RX0 yX0_waitingAt yX0_waitingAt, Cond.code yX0_waitingAt cX0_waitingAt 2 (some .int)]
def wsX0_tellStation_r2 : List Cond := [Cond.fieldLink RX0 28 "PodGuideway$Ring" "stationWaiting" "[I", Cond.methodLink RX0 146 Lib.Math.max.name, Cond.static Lib.Math.max.name, Cond.initialized "java/lang/Math", Cond.code Lib.Math.max.name Lib.Math.max.code 2 (some .int), Cond.methodLink RX0 132 yX0_emptyPodsTo, Cond.instanceMethod yX0_emptyPodsTo, Cond.selects RX0 yX0_emptyPodsTo yX0_emptyPodsTo, Cond.code yX0_emptyPodsTo cX0_emptyPodsTo 4 (some .int), Cond.fieldLink RX0 56 "PodGuideway$Ring" "pods" "I", Cond.fieldLink RX0 43 "PodGuideway$Ring" "podRider" "[I", Cond.methodLink RX0 116 yX0_goalOf, Cond.instanceMethod yX0_goalOf, Cond.selects RX0 yX0_goalOf yX0_goalOf, Cond.code yX0_goalOf cX0_goalOf 2 (some .int), Cond.methodLink RX0 152 yX0_waitedAt, Cond.instanceMethod yX0_waitedAt, Cond.selects RX0 yX0_waitedAt yX0_waitedAt, Cond.code yX0_waitedAt cX0_waitedAt 5 (some .int), Cond.methodLink RX0 129 yX0_waitedBy, Cond.instanceMethod yX0_waitedBy, Cond.selects RX0 yX0_waitedBy yX0_waitedBy, Cond.code yX0_waitedBy cX0_waitedBy 3 (some .int), Cond.fieldLink RX0 49 "PodGuideway$Ring" "minute" "I"]
def wsX0_tellStation_r3 : List Cond := [Cond.fieldLink RX0 37 "PodGuideway$Ring" "riderCame" "[I"]
def wsX0_tellStation : List Cond := .code yX0_tellStation cX0_tellStation 3 (some .int) :: ((wsX0_tellStation_r1 ++ (wsX0_tellStation_r2 ++ wsX0_tellStation_r3)) ++ wsX00)
def wsX0_tellRider : List Cond := .code yX0_tellRider cX0_tellRider 3 (some .int) :: ([.fieldLink RX0 34 "PodGuideway$Ring" "riderGoal" "[I", .methodLink RX0 129 yX0_waitedBy, .instanceMethod yX0_waitedBy, .selects RX0 yX0_waitedBy yX0_waitedBy, .initialized RX0, .code yX0_waitedBy cX0_waitedBy 3 (some .int), .fieldLink RX0 49 "PodGuideway$Ring" "minute" "I", .fieldLink RX0 37 "PodGuideway$Ring" "riderCame" "[I", .methodLink RX0 100 yX0_read, .static yX0_read, .code yX0_read cX0_read 2 (some .int)] ++ wsX00)
def wsX0_tellCount_r1 : List Cond := [Cond.fieldLink RX0 49 "PodGuideway$Ring" "minute" "I", Cond.fieldLink RX0 53 "PodGuideway$Ring" "stations" "I", Cond.fieldLink RX0 56 "PodGuideway$Ring" "pods" "I", Cond.fieldLink RX0 62 "PodGuideway$Ring" "callsAnswered" "I", Cond.fieldLink RX0 65 "PodGuideway$Ring" "waitedBeforeBoarding" "I", Cond.methodLink RX0 161 yX0_waitingInAll, Cond.instanceMethod yX0_waitingInAll, Cond.selects RX0 yX0_waitingInAll yX0_waitingInAll, Cond.initialized RX0, Cond.code yX0_waitingInAll cX0_waitingInAll 3 (some .int), Cond.methodLink RX0 80 yX0_waitingAt, Cond.instanceMethod yX0_waitingAt, Cond.selects RX0 yX0_waitingAt yX0_waitingAt, Cond.code yX0_waitingAt cX0_waitingAt 2 (some .int), Cond.fieldLink RX0 28 "PodGuideway$Ring" "stationWaiting" "[I", Cond.methodLink RX0 146 Lib.Math.max.name, Cond.static Lib.Math.max.name, Cond.initialized "java/lang/Math", Cond.code Lib.Math.max.name Lib.Math.max.code 2 (some .int), Cond.methodLink RX0 100 yX0_read, Cond.static yX0_read, Cond.code yX0_read cX0_read 2 (some .int), Cond.methodLink RX0 165 yX0_ridersInPods, Cond.instanceMethod yX0_ridersInPods]
def wsX0_tellCount_r2 : List Cond := [Cond.selects RX0 yX0_ridersInPods yX0_ridersInPods, Cond.code yX0_ridersInPods cX0_ridersInPods 3 (some .int), Cond.fieldLink RX0 43 "PodGuideway$Ring" "podRider" "[I", Cond.methodLink RX0 168 yX0_arrivedInAll, Cond.instanceMethod yX0_arrivedInAll, Cond.selects RX0 yX0_arrivedInAll yX0_arrivedInAll, Cond.code yX0_arrivedInAll cX0_arrivedInAll 3 (some .int), Cond.fieldLink RX0 25 "PodGuideway$Ring" "stationArrived" "[I", Cond.methodLink RX0 171 yX0_freeSlots, Cond.instanceMethod yX0_freeSlots, Cond.selects RX0 yX0_freeSlots yX0_freeSlots, Cond.code yX0_freeSlots cX0_freeSlots 3 (some .int), Cond.methodLink RX0 113 yX0_podAtPlace, Cond.instanceMethod yX0_podAtPlace, Cond.selects RX0 yX0_podAtPlace yX0_podAtPlace, Cond.code yX0_podAtPlace cX0_podAtPlace 2 (some .int), Cond.fieldLink RX0 15 "PodGuideway$Ring" "podInSlot" "[I"]
def wsX0_tellCount : List Cond := .code yX0_tellCount cX0_tellCount 2 (some .int) :: ((wsX0_tellCount_r1 ++ wsX0_tellCount_r2) ++ wsX00)
def wsX1_init_r1 : List Cond := [Cond.methodLink RX1 1 objectInit, Cond.instanceMethod objectInit, Cond.code objectInit ⟨#[0xb1]⟩ 1 none, Cond.classLink RX1 7 RX0, Cond.instantiable RX0 17, Cond.initialized RX0, Cond.fieldLink RX1 10 "PodGuideway" "now" "LPodGuideway$Ring;", Cond.fieldLink RX1 16 "PodGuideway" "ahead" "LPodGuideway$Ring;", Cond.instanceMethod yX0_init, Cond.code yX0_init cX0_init 1 none, Cond.methodLink RX0 3 objectInit, Cond.fieldLink RX0 15 "PodGuideway$Ring" "podInSlot" "[I", Cond.fieldLink RX0 19 "PodGuideway$Ring" "podInBerth" "[I", Cond.arrayClass .int, Cond.fieldLink RX0 22 "PodGuideway$Ring" "stationPlace" "[I", Cond.fieldLink RX0 25 "PodGuideway$Ring" "stationArrived" "[I", Cond.fieldLink RX0 28 "PodGuideway$Ring" "stationWaiting" "[I", Cond.fieldLink RX0 31 "PodGuideway$Ring" "riderNumber" "[I", Cond.fieldLink RX0 34 "PodGuideway$Ring" "riderGoal" "[I", Cond.fieldLink RX0 37 "PodGuideway$Ring" "riderCame" "[I", Cond.fieldLink RX0 40 "PodGuideway$Ring" "podGoal" "[I", Cond.fieldLink RX0 43 "PodGuideway$Ring" "podRider" "[I", Cond.fieldLink RX0 46 "PodGuideway$Ring" "podBarred" "[I", Cond.methodLink RX0 9 yX0_emptyRow]
def wsX1_init_r2 : List Cond := [Cond.static yX0_emptyRow, Cond.code yX0_emptyRow cX0_emptyRow 2 (some (.array .int)), Cond.methodLink RX0 146 Lib.Math.max.name, Cond.static Lib.Math.max.name, Cond.initialized "java/lang/Math", Cond.code Lib.Math.max.name Lib.Math.max.code 2 (some .int), Cond.methodLink RX0 174 yJ7_fill_53178, Cond.static yJ7_fill_53178, Cond.initialized RJ7, Cond.code yJ7_fill_53178 cJ7_fill_53178 4 none]
def wsX1_init : List Cond := .code yX1_init cX1_init 1 none :: ((wsX1_init_r1 ++ wsX1_init_r2) ++ wsX00 ++ wsX10)
def wsX1_needPlace : List Cond := .code yX1_needPlace cX1_needPlace 2 none :: ([.classLink RX1 101 "java/lang/IndexOutOfBoundsException", .initialized "java/lang/IndexOutOfBoundsException"] ++ (vx_atS RX1 105 "java/lang/IndexOutOfBoundsException" ["java/lang/RuntimeException", "java/lang/Exception"]).filter goodWord)
def wsX1_build_r1 : List Cond := [Cond.classLink RX1 27 "java/lang/IllegalStateException", Cond.initialized "java/lang/IllegalStateException", Cond.fieldLink RX1 10 "PodGuideway" "now" "LPodGuideway$Ring;", Cond.methodLink RX1 19 yX1_needPlace, Cond.instanceMethod yX1_needPlace, Cond.selects RX1 yX1_needPlace yX1_needPlace, Cond.initialized RX1, Cond.code yX1_needPlace cX1_needPlace 2 none, Cond.classLink RX1 101 "java/lang/IndexOutOfBoundsException", Cond.initialized "java/lang/IndexOutOfBoundsException", Cond.instanceMethod yX0_stationAtPlace, Cond.initialized RX0, Cond.selects RX0 yX0_stationAtPlace yX0_stationAtPlace, Cond.code yX0_stationAtPlace cX0_stationAtPlace 3 (some .int), Cond.fieldLink RX0 53 "PodGuideway$Ring" "stations" "I", Cond.methodLink RX0 110 yX0_placeOf, Cond.instanceMethod yX0_placeOf, Cond.selects RX0 yX0_placeOf yX0_placeOf, Cond.code yX0_placeOf cX0_placeOf 2 (some .int), Cond.fieldLink RX0 22 "PodGuideway$Ring" "stationPlace" "[I", Cond.methodLink RX0 100 yX0_read, Cond.static yX0_read, Cond.code yX0_read cX0_read 2 (some .int), Cond.instanceMethod yX0_addStation]
def wsX1_build_r2 : List Cond := [Cond.selects RX0 yX0_addStation yX0_addStation, Cond.code yX0_addStation cX0_addStation 3 (some .int), Cond.methodLink RX0 72 yX0_write, Cond.static yX0_write, Cond.code yX0_write cX0_write 3 none]
def wsX1_build : List Cond := .code yX1_build cX1_build 2 (some .int) :: ((wsX1_build_r1 ++ wsX1_build_r2) ++ wsX10 ++ wsX00 ++ (vx_atS RX1 31 "java/lang/IllegalStateException" ["java/lang/RuntimeException", "java/lang/Exception"]).filter goodWord ++ (vx_atS RX1 105 "java/lang/IndexOutOfBoundsException" ["java/lang/RuntimeException", "java/lang/Exception"]).filter goodWord)
def wsX1_needStation : List Cond := .code yX1_needStation cX1_needStation 2 none :: ([.classLink RX1 101 "java/lang/IndexOutOfBoundsException", .initialized "java/lang/IndexOutOfBoundsException", .fieldLink RX1 10 "PodGuideway" "now" "LPodGuideway$Ring;"] ++ wsX10 ++ wsX00 ++ (vx_atS RX1 105 "java/lang/IndexOutOfBoundsException" ["java/lang/RuntimeException", "java/lang/Exception"]).filter goodWord)
def wsX1_pod_r1 : List Cond := [Cond.classLink RX1 27 "java/lang/IllegalStateException", Cond.initialized "java/lang/IllegalStateException", Cond.fieldLink RX1 10 "PodGuideway" "now" "LPodGuideway$Ring;", Cond.methodLink RX1 43 yX1_needStation, Cond.instanceMethod yX1_needStation, Cond.selects RX1 yX1_needStation yX1_needStation, Cond.initialized RX1, Cond.code yX1_needStation cX1_needStation 2 none, Cond.classLink RX1 101 "java/lang/IndexOutOfBoundsException", Cond.initialized "java/lang/IndexOutOfBoundsException", Cond.instanceMethod yX0_firstBerth, Cond.initialized RX0, Cond.selects RX0 yX0_firstBerth yX0_firstBerth, Cond.code yX0_firstBerth cX0_firstBerth 4 (some .int), Cond.methodLink RX0 123 yX0_berthHolds, Cond.instanceMethod yX0_berthHolds, Cond.selects RX0 yX0_berthHolds yX0_berthHolds, Cond.code yX0_berthHolds cX0_berthHolds 3 (some .int), Cond.fieldLink RX0 19 "PodGuideway$Ring" "podInBerth" "[I", Cond.fieldLink RX0 40 "PodGuideway$Ring" "podGoal" "[I", Cond.methodLink RX0 100 yX0_read, Cond.static yX0_read, Cond.code yX0_read cX0_read 2 (some .int), Cond.instanceMethod yX0_addPod]
def wsX1_pod_r2 : List Cond := [Cond.selects RX0 yX0_addPod yX0_addPod, Cond.code yX0_addPod cX0_addPod 3 (some .int), Cond.fieldLink RX0 56 "PodGuideway$Ring" "pods" "I", Cond.methodLink RX0 76 yX0_firstBerth, Cond.methodLink RX0 72 yX0_write, Cond.static yX0_write, Cond.code yX0_write cX0_write 3 none]
def wsX1_pod : List Cond := .code yX1_pod cX1_pod 2 (some .int) :: ((wsX1_pod_r1 ++ wsX1_pod_r2) ++ wsX10 ++ wsX00 ++ (vx_atS RX1 31 "java/lang/IllegalStateException" ["java/lang/RuntimeException", "java/lang/Exception"]).filter goodWord ++ (vx_atS RX1 105 "java/lang/IndexOutOfBoundsException" ["java/lang/RuntimeException", "java/lang/Exception"]).filter goodWord)
def wsX1_needTwoStations : List Cond := .code yX1_needTwoStations cX1_needTwoStations 3 none :: ([.classLink RX1 154 "java/lang/IllegalArgumentException", .initialized "java/lang/IllegalArgumentException", .methodLink RX1 43 yX1_needStation, .instanceMethod yX1_needStation, .selects RX1 yX1_needStation yX1_needStation, .initialized RX1, .code yX1_needStation cX1_needStation 2 none, .classLink RX1 101 "java/lang/IndexOutOfBoundsException", .initialized "java/lang/IndexOutOfBoundsException", .fieldLink RX1 10 "PodGuideway" "now" "LPodGuideway$Ring;"] ++ wsX10 ++ wsX00 ++ (vx_atS RX1 158 "java/lang/IllegalArgumentException" ["java/lang/RuntimeException", "java/lang/Exception"]).filter goodWord ++ (vx_atS RX1 105 "java/lang/IndexOutOfBoundsException" ["java/lang/RuntimeException", "java/lang/Exception"]).filter goodWord)
def wsX1_ride_r1 : List Cond := [Cond.classLink RX1 27 "java/lang/IllegalStateException", Cond.initialized "java/lang/IllegalStateException", Cond.fieldLink RX1 10 "PodGuideway" "now" "LPodGuideway$Ring;", Cond.methodLink RX1 60 yX1_needTwoStations, Cond.instanceMethod yX1_needTwoStations, Cond.selects RX1 yX1_needTwoStations yX1_needTwoStations, Cond.initialized RX1, Cond.code yX1_needTwoStations cX1_needTwoStations 3 none, Cond.classLink RX1 154 "java/lang/IllegalArgumentException", Cond.initialized "java/lang/IllegalArgumentException", Cond.methodLink RX1 43 yX1_needStation, Cond.instanceMethod yX1_needStation, Cond.selects RX1 yX1_needStation yX1_needStation, Cond.code yX1_needStation cX1_needStation 2 none, Cond.classLink RX1 101 "java/lang/IndexOutOfBoundsException", Cond.initialized "java/lang/IndexOutOfBoundsException", Cond.instanceMethod yX0_waitingAt, Cond.initialized RX0, Cond.selects RX0 yX0_waitingAt yX0_waitingAt, Cond.code yX0_waitingAt cX0_waitingAt 2 (some .int), Cond.fieldLink RX0 28 "PodGuideway$Ring" "stationWaiting" "[I", Cond.methodLink RX0 146 Lib.Math.max.name, Cond.static Lib.Math.max.name, Cond.initialized "java/lang/Math"]
def wsX1_ride_r2 : List Cond := [Cond.code Lib.Math.max.name Lib.Math.max.code 2 (some .int), Cond.methodLink RX0 100 yX0_read, Cond.static yX0_read, Cond.code yX0_read cX0_read 2 (some .int), Cond.instanceMethod yX0_addRider, Cond.selects RX0 yX0_addRider yX0_addRider, Cond.code yX0_addRider cX0_addRider 5 (some .int), Cond.fieldLink RX0 59 "PodGuideway$Ring" "ridersInAll" "I", Cond.fieldLink RX0 31 "PodGuideway$Ring" "riderNumber" "[I", Cond.fieldLink RX0 34 "PodGuideway$Ring" "riderGoal" "[I", Cond.fieldLink RX0 37 "PodGuideway$Ring" "riderCame" "[I", Cond.fieldLink RX0 49 "PodGuideway$Ring" "minute" "I", Cond.methodLink RX0 80 yX0_waitingAt, Cond.methodLink RX0 72 yX0_write, Cond.static yX0_write, Cond.code yX0_write cX0_write 3 none]
def wsX1_ride : List Cond := .code yX1_ride cX1_ride 3 (some .int) :: ((wsX1_ride_r1 ++ wsX1_ride_r2) ++ wsX10 ++ wsX00 ++ (vx_atS RX1 31 "java/lang/IllegalStateException" ["java/lang/RuntimeException", "java/lang/Exception"]).filter goodWord ++ (vx_atS RX1 158 "java/lang/IllegalArgumentException" ["java/lang/RuntimeException", "java/lang/Exception"]).filter goodWord ++ (vx_atS RX1 105 "java/lang/IndexOutOfBoundsException" ["java/lang/RuntimeException", "java/lang/Exception"]).filter goodWord)
def wsX1_needPod : List Cond := .code yX1_needPod cX1_needPod 2 none :: ([.classLink RX1 101 "java/lang/IndexOutOfBoundsException", .initialized "java/lang/IndexOutOfBoundsException", .fieldLink RX1 10 "PodGuideway" "now" "LPodGuideway$Ring;"] ++ wsX10 ++ wsX00 ++ (vx_atS RX1 105 "java/lang/IndexOutOfBoundsException" ["java/lang/RuntimeException", "java/lang/Exception"]).filter goodWord)
def wsX1_send_r1 : List Cond := [Cond.classLink RX1 27 "java/lang/IllegalStateException", Cond.initialized "java/lang/IllegalStateException", Cond.fieldLink RX1 10 "PodGuideway" "now" "LPodGuideway$Ring;", Cond.methodLink RX1 72 yX1_needPod, Cond.instanceMethod yX1_needPod, Cond.selects RX1 yX1_needPod yX1_needPod, Cond.initialized RX1, Cond.code yX1_needPod cX1_needPod 2 none, Cond.classLink RX1 101 "java/lang/IndexOutOfBoundsException", Cond.initialized "java/lang/IndexOutOfBoundsException", Cond.methodLink RX1 43 yX1_needStation, Cond.instanceMethod yX1_needStation, Cond.selects RX1 yX1_needStation yX1_needStation, Cond.code yX1_needStation cX1_needStation 2 none, Cond.instanceMethod yX0_berthOf, Cond.initialized RX0, Cond.selects RX0 yX0_berthOf yX0_berthOf, Cond.code yX0_berthOf cX0_berthOf 2 (some .int), Cond.fieldLink RX0 19 "PodGuideway$Ring" "podInBerth" "[I", Cond.methodLink RX0 149 yX0_find, Cond.static yX0_find, Cond.code yX0_find cX0_find 3 (some .int), Cond.instanceMethod yX0_goalOf, Cond.selects RX0 yX0_goalOf yX0_goalOf]
def wsX1_send_r2 : List Cond := [Cond.code yX0_goalOf cX0_goalOf 2 (some .int), Cond.fieldLink RX0 40 "PodGuideway$Ring" "podGoal" "[I", Cond.methodLink RX0 100 yX0_read, Cond.static yX0_read, Cond.code yX0_read cX0_read 2 (some .int), Cond.instanceMethod yX0_setGoal, Cond.selects RX0 yX0_setGoal yX0_setGoal, Cond.code yX0_setGoal cX0_setGoal 3 none, Cond.methodLink RX0 72 yX0_write, Cond.static yX0_write, Cond.code yX0_write cX0_write 3 none, Cond.instanceMethod yX0_placesOn, Cond.selects RX0 yX0_placesOn yX0_placesOn, Cond.code yX0_placesOn cX0_placesOn 3 (some .int), Cond.methodLink RX0 110 yX0_placeOf, Cond.instanceMethod yX0_placeOf, Cond.selects RX0 yX0_placeOf yX0_placeOf, Cond.code yX0_placeOf cX0_placeOf 2 (some .int), Cond.fieldLink RX0 22 "PodGuideway$Ring" "stationPlace" "[I", Cond.methodLink RX0 141 yJ9_floorMod_7cf53, Cond.static yJ9_floorMod_7cf53, Cond.initialized RJ9, Cond.code yJ9_floorMod_7cf53 cJ9_floorMod_7cf53 3 (some .int)]
def wsX1_send : List Cond := .code yX1_send cX1_send 5 (some .int) :: ((wsX1_send_r1 ++ wsX1_send_r2) ++ wsX10 ++ wsX00 ++ (vx_atS RX1 31 "java/lang/IllegalStateException" ["java/lang/RuntimeException", "java/lang/Exception"]).filter goodWord ++ (vx_atS RX1 105 "java/lang/IndexOutOfBoundsException" ["java/lang/RuntimeException", "java/lang/Exception"]).filter goodWord)
def wsX1_needWhat : List Cond := .code yX1_needWhat cX1_needWhat 4 none :: ([.classLink RX1 101 "java/lang/IndexOutOfBoundsException", .initialized "java/lang/IndexOutOfBoundsException"] ++ (vx_atS RX1 105 "java/lang/IndexOutOfBoundsException" ["java/lang/RuntimeException", "java/lang/Exception"]).filter goodWord)
def wsX1_told_r1 : List Cond := [Cond.fieldLink RX1 10 "PodGuideway" "now" "LPodGuideway$Ring;", Cond.methodLink RX1 72 yX1_needPod, Cond.instanceMethod yX1_needPod, Cond.selects RX1 yX1_needPod yX1_needPod, Cond.initialized RX1, Cond.code yX1_needPod cX1_needPod 2 none, Cond.classLink RX1 101 "java/lang/IndexOutOfBoundsException", Cond.initialized "java/lang/IndexOutOfBoundsException", Cond.methodLink RX1 91 yX1_needWhat, Cond.instanceMethod yX1_needWhat, Cond.selects RX1 yX1_needWhat yX1_needWhat, Cond.code yX1_needWhat cX1_needWhat 4 none, Cond.instanceMethod yX0_tellPod, Cond.initialized RX0, Cond.selects RX0 yX0_tellPod yX0_tellPod, Cond.code yX0_tellPod cX0_tellPod 4 (some .int), Cond.fieldLink RX0 15 "PodGuideway$Ring" "podInSlot" "[I", Cond.fieldLink RX0 43 "PodGuideway$Ring" "podRider" "[I", Cond.fieldLink RX0 46 "PodGuideway$Ring" "podBarred" "[I", Cond.methodLink RX0 155 yX0_berthOf, Cond.instanceMethod yX0_berthOf, Cond.selects RX0 yX0_berthOf yX0_berthOf, Cond.code yX0_berthOf cX0_berthOf 2 (some .int), Cond.fieldLink RX0 19 "PodGuideway$Ring" "podInBerth" "[I"]
def wsX1_told_r2 : List Cond := [Cond.methodLink RX0 149 yX0_find, Cond.static yX0_find, Cond.code yX0_find cX0_find 3 (some .int), Cond.methodLink RX0 116 yX0_goalOf, Cond.instanceMethod yX0_goalOf, Cond.selects RX0 yX0_goalOf yX0_goalOf, Cond.code yX0_goalOf cX0_goalOf 2 (some .int), Cond.fieldLink RX0 40 "PodGuideway$Ring" "podGoal" "[I", Cond.methodLink RX0 100 yX0_read, Cond.static yX0_read, Cond.code yX0_read cX0_read 2 (some .int)]
def wsX1_told : List Cond := .code yX1_told cX1_told 3 (some .int) :: ((wsX1_told_r1 ++ wsX1_told_r2) ++ wsX10 ++ wsX00 ++ (vx_atS RX1 105 "java/lang/IndexOutOfBoundsException" ["java/lang/RuntimeException", "java/lang/Exception"]).filter goodWord)
def wsX1_station_r1 : List Cond := [Cond.fieldLink RX1 10 "PodGuideway" "now" "LPodGuideway$Ring;", Cond.methodLink RX1 43 yX1_needStation, Cond.instanceMethod yX1_needStation, Cond.selects RX1 yX1_needStation yX1_needStation, Cond.initialized RX1, Cond.code yX1_needStation cX1_needStation 2 none, Cond.classLink RX1 101 "java/lang/IndexOutOfBoundsException", Cond.initialized "java/lang/IndexOutOfBoundsException", Cond.methodLink RX1 91 yX1_needWhat, Cond.instanceMethod yX1_needWhat, Cond.selects RX1 yX1_needWhat yX1_needWhat, Cond.code yX1_needWhat cX1_needWhat 4 none, Cond.instanceMethod yX0_tellStation, Cond.initialized RX0, Cond.selects RX0 yX0_tellStation yX0_tellStation, Cond.code yX0_tellStation cX0_tellStation 3 (some .int), Cond.fieldLink RX0 25 "PodGuideway$Ring" "stationArrived" "[I", Cond.methodLink RX0 110 yX0_placeOf, Cond.instanceMethod yX0_placeOf, Cond.selects RX0 yX0_placeOf yX0_placeOf, Cond.code yX0_placeOf cX0_placeOf 2 (some .int), Cond.fieldLink RX0 22 "PodGuideway$Ring" "stationPlace" "[I", Cond.methodLink RX0 100 yX0_read, Cond.static yX0_read]
def wsX1_station_r2 : List Cond := [Cond.code yX0_read cX0_read 2 (some .int), Cond.methodLink RX0 158 yX0_berthsThatHold, Cond.instanceMethod yX0_berthsThatHold, Cond.selects RX0 yX0_berthsThatHold yX0_berthsThatHold, Cond.code yX0_berthsThatHold cX0_berthsThatHold 5 (some .int), Cond.methodLink RX0 123 yX0_berthHolds, Cond.instanceMethod yX0_berthHolds, Cond.selects RX0 yX0_berthHolds yX0_berthHolds, Cond.code yX0_berthHolds cX0_berthHolds 3 (some .int), Cond.fieldLink RX0 19 "PodGuideway$Ring" "podInBerth" "[I", Cond.fieldLink RX0 40 "PodGuideway$Ring" "podGoal" "[I", Cond.methodLink RX0 80 yX0_waitingAt, Cond.instanceMethod yX0_waitingAt, Cond.selects RX0 yX0_waitingAt yX0_waitingAt, Cond.code yX0_waitingAt cX0_waitingAt 2 (some .int), Cond.fieldLink RX0 28 "PodGuideway$Ring" "stationWaiting" "[I", Cond.methodLink RX0 146 Lib.Math.max.name, Cond.static Lib.Math.max.name, Cond.initialized "java/lang/Math", Cond.code Lib.Math.max.name Lib.Math.max.code 2 (some .int), Cond.methodLink RX0 132 yX0_emptyPodsTo, Cond.instanceMethod yX0_emptyPodsTo, Cond.selects RX0 yX0_emptyPodsTo yX0_emptyPodsTo, Cond.code yX0_emptyPodsTo cX0_emptyPodsTo 4 (some .int)]
def wsX1_station_r3 : List Cond := [Cond.fieldLink RX0 56 "PodGuideway$Ring" "pods" "I", Cond.fieldLink RX0 43 "PodGuideway$Ring" "podRider" "[I", Cond.methodLink RX0 116 yX0_goalOf, Cond.instanceMethod yX0_goalOf, Cond.selects RX0 yX0_goalOf yX0_goalOf, Cond.code yX0_goalOf cX0_goalOf 2 (some .int), Cond.methodLink RX0 152 yX0_waitedAt, Cond.instanceMethod yX0_waitedAt, Cond.selects RX0 yX0_waitedAt yX0_waitedAt, Cond.code yX0_waitedAt cX0_waitedAt 5 (some .int), Cond.methodLink RX0 129 yX0_waitedBy, Cond.instanceMethod yX0_waitedBy, Cond.selects RX0 yX0_waitedBy yX0_waitedBy, Cond.code yX0_waitedBy cX0_waitedBy 3 (some .int), Cond.fieldLink RX0 49 "PodGuideway$Ring" "minute" "I", Cond.fieldLink RX0 37 "PodGuideway$Ring" "riderCame" "[I"]
def wsX1_station : List Cond := .code yX1_station cX1_station 3 (some .int) :: ((wsX1_station_r1 ++ (wsX1_station_r2 ++ wsX1_station_r3)) ++ wsX10 ++ wsX00 ++ (vx_atS RX1 105 "java/lang/IndexOutOfBoundsException" ["java/lang/RuntimeException", "java/lang/Exception"]).filter goodWord)
def wsX1_waits_r1 : List Cond := [Cond.classLink RX1 101 "java/lang/IndexOutOfBoundsException", Cond.initialized "java/lang/IndexOutOfBoundsException", Cond.fieldLink RX1 10 "PodGuideway" "now" "LPodGuideway$Ring;", Cond.methodLink RX1 43 yX1_needStation, Cond.instanceMethod yX1_needStation, Cond.selects RX1 yX1_needStation yX1_needStation, Cond.initialized RX1, Cond.code yX1_needStation cX1_needStation 2 none, Cond.instanceMethod yX0_waitingAt, Cond.initialized RX0, Cond.selects RX0 yX0_waitingAt yX0_waitingAt, Cond.code yX0_waitingAt cX0_waitingAt 2 (some .int), Cond.fieldLink RX0 28 "PodGuideway$Ring" "stationWaiting" "[I", Cond.methodLink RX0 146 Lib.Math.max.name, Cond.static Lib.Math.max.name, Cond.initialized "java/lang/Math", Cond.code Lib.Math.max.name Lib.Math.max.code 2 (some .int), Cond.methodLink RX0 100 yX0_read, Cond.static yX0_read, Cond.code yX0_read cX0_read 2 (some .int), Cond.instanceMethod yX0_tellRider, Cond.selects RX0 yX0_tellRider yX0_tellRider, Cond.code yX0_tellRider cX0_tellRider 3 (some .int), Cond.fieldLink RX0 34 "PodGuideway$Ring" "riderGoal" "[I"]
def wsX1_waits_r2 : List Cond := [Cond.methodLink RX0 129 yX0_waitedBy, Cond.instanceMethod yX0_waitedBy, Cond.selects RX0 yX0_waitedBy yX0_waitedBy, Cond.code yX0_waitedBy cX0_waitedBy 3 (some .int), Cond.fieldLink RX0 49 "PodGuideway$Ring" "minute" "I", Cond.fieldLink RX0 37 "PodGuideway$Ring" "riderCame" "[I"]
def wsX1_waits : List Cond := .code yX1_waits cX1_waits 3 (some .int) :: ((wsX1_waits_r1 ++ wsX1_waits_r2) ++ wsX10 ++ wsX00 ++ (vx_atS RX1 105 "java/lang/IndexOutOfBoundsException" ["java/lang/RuntimeException", "java/lang/Exception"]).filter goodWord)
def wsX1_slot : List Cond := .code yX1_slot cX1_slot 2 (some .int) :: ([.fieldLink RX1 10 "PodGuideway" "now" "LPodGuideway$Ring;", .methodLink RX1 19 yX1_needPlace, .instanceMethod yX1_needPlace, .selects RX1 yX1_needPlace yX1_needPlace, .initialized RX1, .code yX1_needPlace cX1_needPlace 2 none, .classLink RX1 101 "java/lang/IndexOutOfBoundsException", .initialized "java/lang/IndexOutOfBoundsException", .instanceMethod yX0_podAtPlace, .initialized RX0, .selects RX0 yX0_podAtPlace yX0_podAtPlace, .code yX0_podAtPlace cX0_podAtPlace 2 (some .int), .fieldLink RX0 15 "PodGuideway$Ring" "podInSlot" "[I", .methodLink RX0 100 yX0_read, .static yX0_read, .code yX0_read cX0_read 2 (some .int)] ++ wsX10 ++ wsX00 ++ (vx_atS RX1 105 "java/lang/IndexOutOfBoundsException" ["java/lang/RuntimeException", "java/lang/Exception"]).filter goodWord)
def wsX1_count_r1 : List Cond := [Cond.fieldLink RX1 10 "PodGuideway" "now" "LPodGuideway$Ring;", Cond.methodLink RX1 91 yX1_needWhat, Cond.instanceMethod yX1_needWhat, Cond.selects RX1 yX1_needWhat yX1_needWhat, Cond.initialized RX1, Cond.code yX1_needWhat cX1_needWhat 4 none, Cond.classLink RX1 101 "java/lang/IndexOutOfBoundsException", Cond.initialized "java/lang/IndexOutOfBoundsException", Cond.instanceMethod yX0_tellCount, Cond.initialized RX0, Cond.selects RX0 yX0_tellCount yX0_tellCount, Cond.code yX0_tellCount cX0_tellCount 2 (some .int), Cond.fieldLink RX0 49 "PodGuideway$Ring" "minute" "I", Cond.fieldLink RX0 53 "PodGuideway$Ring" "stations" "I", Cond.fieldLink RX0 56 "PodGuideway$Ring" "pods" "I", Cond.fieldLink RX0 62 "PodGuideway$Ring" "callsAnswered" "I", Cond.fieldLink RX0 65 "PodGuideway$Ring" "waitedBeforeBoarding" "I", Cond.methodLink RX0 161 yX0_waitingInAll, Cond.instanceMethod yX0_waitingInAll, Cond.selects RX0 yX0_waitingInAll yX0_waitingInAll, Cond.code yX0_waitingInAll cX0_waitingInAll 3 (some .int), Cond.methodLink RX0 80 yX0_waitingAt, Cond.instanceMethod yX0_waitingAt, Cond.selects RX0 yX0_waitingAt yX0_waitingAt]
def wsX1_count_r2 : List Cond := [Cond.code yX0_waitingAt cX0_waitingAt 2 (some .int), Cond.fieldLink RX0 28 "PodGuideway$Ring" "stationWaiting" "[I", Cond.methodLink RX0 146 Lib.Math.max.name, Cond.static Lib.Math.max.name, Cond.initialized "java/lang/Math", Cond.code Lib.Math.max.name Lib.Math.max.code 2 (some .int), Cond.methodLink RX0 100 yX0_read, Cond.static yX0_read, Cond.code yX0_read cX0_read 2 (some .int), Cond.methodLink RX0 165 yX0_ridersInPods, Cond.instanceMethod yX0_ridersInPods, Cond.selects RX0 yX0_ridersInPods yX0_ridersInPods, Cond.code yX0_ridersInPods cX0_ridersInPods 3 (some .int), Cond.fieldLink RX0 43 "PodGuideway$Ring" "podRider" "[I", Cond.methodLink RX0 168 yX0_arrivedInAll, Cond.instanceMethod yX0_arrivedInAll, Cond.selects RX0 yX0_arrivedInAll yX0_arrivedInAll, Cond.code yX0_arrivedInAll cX0_arrivedInAll 3 (some .int), Cond.fieldLink RX0 25 "PodGuideway$Ring" "stationArrived" "[I", Cond.methodLink RX0 171 yX0_freeSlots, Cond.instanceMethod yX0_freeSlots, Cond.selects RX0 yX0_freeSlots yX0_freeSlots, Cond.code yX0_freeSlots cX0_freeSlots 3 (some .int), Cond.methodLink RX0 113 yX0_podAtPlace]
def wsX1_count_r3 : List Cond := [Cond.instanceMethod yX0_podAtPlace, Cond.selects RX0 yX0_podAtPlace yX0_podAtPlace, Cond.code yX0_podAtPlace cX0_podAtPlace 2 (some .int), Cond.fieldLink RX0 15 "PodGuideway$Ring" "podInSlot" "[I"]
def wsX1_count : List Cond := .code yX1_count cX1_count 2 (some .int) :: ((wsX1_count_r1 ++ (wsX1_count_r2 ++ wsX1_count_r3)) ++ wsX10 ++ wsX00 ++ (vx_atS RX1 105 "java/lang/IndexOutOfBoundsException" ["java/lang/RuntimeException", "java/lang/Exception"]).filter goodWord)
def wsX1_needMinutes : List Cond := .code yX1_needMinutes cX1_needMinutes 2 none :: ([.classLink RX1 154 "java/lang/IllegalArgumentException", .initialized "java/lang/IllegalArgumentException"] ++ (vx_atS RX1 158 "java/lang/IllegalArgumentException" ["java/lang/RuntimeException", "java/lang/Exception"]).filter goodWord)
def wsX1_pass_r1 : List Cond := [Cond.fieldLink RX1 10 "PodGuideway" "now" "LPodGuideway$Ring;", Cond.methodLink RX1 115 yX1_needMinutes, Cond.instanceMethod yX1_needMinutes, Cond.selects RX1 yX1_needMinutes yX1_needMinutes, Cond.initialized RX1, Cond.code yX1_needMinutes cX1_needMinutes 2 none, Cond.classLink RX1 154 "java/lang/IllegalArgumentException", Cond.initialized "java/lang/IllegalArgumentException", Cond.instanceMethod yX0_arrivedInAll, Cond.initialized RX0, Cond.selects RX0 yX0_arrivedInAll yX0_arrivedInAll, Cond.code yX0_arrivedInAll cX0_arrivedInAll 3 (some .int), Cond.fieldLink RX0 53 "PodGuideway$Ring" "stations" "I", Cond.fieldLink RX0 25 "PodGuideway$Ring" "stationArrived" "[I", Cond.methodLink RX0 100 yX0_read, Cond.static yX0_read, Cond.code yX0_read cX0_read 2 (some .int), Cond.instanceMethod yX0_passMinute, Cond.selects RX0 yX0_passMinute yX0_passMinute, Cond.code yX0_passMinute cX0_passMinute 2 none, Cond.fieldLink RX0 49 "PodGuideway$Ring" "minute" "I", Cond.methodLink RX0 84 yX0_moveSlots, Cond.instanceMethod yX0_moveSlots, Cond.selects RX0 yX0_moveSlots yX0_moveSlots]
def wsX1_pass_r2 : List Cond := [Cond.code yX0_moveSlots cX0_moveSlots 3 none, Cond.fieldLink RX0 15 "PodGuideway$Ring" "podInSlot" "[I", Cond.methodLink RX0 104 arraycopyName, Cond.native arraycopyName, Cond.static arraycopyName, Cond.initialized "java/lang/System", Cond.methodLink RX0 72 yX0_write, Cond.static yX0_write, Cond.code yX0_write cX0_write 3 none, Cond.methodLink RX0 87 yX0_letGoOff, Cond.instanceMethod yX0_letGoOff, Cond.selects RX0 yX0_letGoOff yX0_letGoOff, Cond.code yX0_letGoOff cX0_letGoOff 5 none, Cond.fieldLink RX0 46 "PodGuideway$Ring" "podBarred" "[I", Cond.fieldLink RX0 19 "PodGuideway$Ring" "podInBerth" "[I", Cond.fieldLink RX0 43 "PodGuideway$Ring" "podRider" "[I", Cond.methodLink RX0 110 yX0_placeOf, Cond.instanceMethod yX0_placeOf, Cond.selects RX0 yX0_placeOf yX0_placeOf, Cond.code yX0_placeOf cX0_placeOf 2 (some .int), Cond.fieldLink RX0 22 "PodGuideway$Ring" "stationPlace" "[I", Cond.methodLink RX0 113 yX0_podAtPlace, Cond.instanceMethod yX0_podAtPlace, Cond.selects RX0 yX0_podAtPlace yX0_podAtPlace]
def wsX1_pass_r3 : List Cond := [Cond.code yX0_podAtPlace cX0_podAtPlace 2 (some .int), Cond.methodLink RX0 116 yX0_goalOf, Cond.instanceMethod yX0_goalOf, Cond.selects RX0 yX0_goalOf yX0_goalOf, Cond.code yX0_goalOf cX0_goalOf 2 (some .int), Cond.fieldLink RX0 40 "PodGuideway$Ring" "podGoal" "[I", Cond.methodLink RX0 76 yX0_firstBerth, Cond.instanceMethod yX0_firstBerth, Cond.selects RX0 yX0_firstBerth yX0_firstBerth, Cond.code yX0_firstBerth cX0_firstBerth 4 (some .int), Cond.methodLink RX0 123 yX0_berthHolds, Cond.instanceMethod yX0_berthHolds, Cond.selects RX0 yX0_berthHolds yX0_berthHolds, Cond.code yX0_berthHolds cX0_berthHolds 3 (some .int), Cond.methodLink RX0 119 yX0_setGoal, Cond.instanceMethod yX0_setGoal, Cond.selects RX0 yX0_setGoal yX0_setGoal, Cond.code yX0_setGoal cX0_setGoal 3 none, Cond.methodLink RX0 91 yX0_letBoard, Cond.instanceMethod yX0_letBoard, Cond.selects RX0 yX0_letBoard yX0_letBoard, Cond.code yX0_letBoard cX0_letBoard 3 none, Cond.methodLink RX0 80 yX0_waitingAt, Cond.instanceMethod yX0_waitingAt]
def wsX1_pass_r4 : List Cond := [Cond.selects RX0 yX0_waitingAt yX0_waitingAt, Cond.code yX0_waitingAt cX0_waitingAt 2 (some .int), Cond.fieldLink RX0 28 "PodGuideway$Ring" "stationWaiting" "[I", Cond.methodLink RX0 146 Lib.Math.max.name, Cond.static Lib.Math.max.name, Cond.initialized "java/lang/Math", Cond.code Lib.Math.max.name Lib.Math.max.code 2 (some .int), Cond.methodLink RX0 126 yX0_boardFirst, Cond.instanceMethod yX0_boardFirst, Cond.selects RX0 yX0_boardFirst yX0_boardFirst, Cond.code yX0_boardFirst cX0_boardFirst 6 none, Cond.fieldLink RX0 31 "PodGuideway$Ring" "riderNumber" "[I", Cond.fieldLink RX0 34 "PodGuideway$Ring" "riderGoal" "[I", Cond.fieldLink RX0 65 "PodGuideway$Ring" "waitedBeforeBoarding" "I", Cond.fieldLink RX0 37 "PodGuideway$Ring" "riderCame" "[I", Cond.methodLink RX0 129 yX0_waitedBy, Cond.instanceMethod yX0_waitedBy, Cond.selects RX0 yX0_waitedBy yX0_waitedBy, Cond.code yX0_waitedBy cX0_waitedBy 3 (some .int), Cond.methodLink RX0 94 yX0_letCall, Cond.instanceMethod yX0_letCall, Cond.selects RX0 yX0_letCall yX0_letCall, Cond.code yX0_letCall cX0_letCall 4 none, Cond.fieldLink RX0 62 "PodGuideway$Ring" "callsAnswered" "I"]
def wsX1_pass_r5 : List Cond := [Cond.methodLink RX0 132 yX0_emptyPodsTo, Cond.instanceMethod yX0_emptyPodsTo, Cond.selects RX0 yX0_emptyPodsTo yX0_emptyPodsTo, Cond.code yX0_emptyPodsTo cX0_emptyPodsTo 4 (some .int), Cond.fieldLink RX0 56 "PodGuideway$Ring" "pods" "I", Cond.methodLink RX0 135 yX0_stationThatAnswers, Cond.instanceMethod yX0_stationThatAnswers, Cond.selects RX0 yX0_stationThatAnswers yX0_stationThatAnswers, Cond.code yX0_stationThatAnswers cX0_stationThatAnswers 6 (some .int), Cond.methodLink RX0 138 yX0_placesOn, Cond.instanceMethod yX0_placesOn, Cond.selects RX0 yX0_placesOn yX0_placesOn, Cond.code yX0_placesOn cX0_placesOn 3 (some .int), Cond.methodLink RX0 141 yJ9_floorMod_7cf53, Cond.static yJ9_floorMod_7cf53, Cond.initialized RJ9, Cond.code yJ9_floorMod_7cf53 cJ9_floorMod_7cf53 3 (some .int), Cond.methodLink RX0 97 yX0_letMerge, Cond.instanceMethod yX0_letMerge, Cond.selects RX0 yX0_letMerge yX0_letMerge, Cond.code yX0_letMerge cX0_letMerge 4 none]
def wsX1_pass : List Cond := .code yX1_pass cX1_pass 4 (some .int) :: ((wsX1_pass_r1 ++ (wsX1_pass_r2 ++ (wsX1_pass_r3 ++ (wsX1_pass_r4 ++ wsX1_pass_r5)))) ++ wsX10 ++ wsX00 ++ (vx_atS RX1 158 "java/lang/IllegalArgumentException" ["java/lang/RuntimeException", "java/lang/Exception"]).filter goodWord)
def wsX1_when_r1 : List Cond := [Cond.fieldLink RX1 10 "PodGuideway" "now" "LPodGuideway$Ring;", Cond.fieldLink RX1 16 "PodGuideway" "ahead" "LPodGuideway$Ring;", Cond.methodLink RX1 72 yX1_needPod, Cond.instanceMethod yX1_needPod, Cond.selects RX1 yX1_needPod yX1_needPod, Cond.initialized RX1, Cond.code yX1_needPod cX1_needPod 2 none, Cond.classLink RX1 101 "java/lang/IndexOutOfBoundsException", Cond.initialized "java/lang/IndexOutOfBoundsException", Cond.instanceMethod yX0_goalOf, Cond.initialized RX0, Cond.selects RX0 yX0_goalOf yX0_goalOf, Cond.code yX0_goalOf cX0_goalOf 2 (some .int), Cond.fieldLink RX0 40 "PodGuideway$Ring" "podGoal" "[I", Cond.methodLink RX0 100 yX0_read, Cond.static yX0_read, Cond.code yX0_read cX0_read 2 (some .int), Cond.instanceMethod yX0_copyFrom, Cond.selects RX0 yX0_copyFrom yX0_copyFrom, Cond.code yX0_copyFrom cX0_copyFrom 2 none, Cond.fieldLink RX0 49 "PodGuideway$Ring" "minute" "I", Cond.fieldLink RX0 53 "PodGuideway$Ring" "stations" "I", Cond.fieldLink RX0 56 "PodGuideway$Ring" "pods" "I", Cond.fieldLink RX0 59 "PodGuideway$Ring" "ridersInAll" "I"]
def wsX1_when_r2 : List Cond := [Cond.fieldLink RX0 62 "PodGuideway$Ring" "callsAnswered" "I", Cond.fieldLink RX0 65 "PodGuideway$Ring" "waitedBeforeBoarding" "I", Cond.fieldLink RX0 15 "PodGuideway$Ring" "podInSlot" "[I", Cond.fieldLink RX0 19 "PodGuideway$Ring" "podInBerth" "[I", Cond.fieldLink RX0 22 "PodGuideway$Ring" "stationPlace" "[I", Cond.fieldLink RX0 25 "PodGuideway$Ring" "stationArrived" "[I", Cond.fieldLink RX0 28 "PodGuideway$Ring" "stationWaiting" "[I", Cond.fieldLink RX0 31 "PodGuideway$Ring" "riderNumber" "[I", Cond.fieldLink RX0 34 "PodGuideway$Ring" "riderGoal" "[I", Cond.fieldLink RX0 37 "PodGuideway$Ring" "riderCame" "[I", Cond.fieldLink RX0 43 "PodGuideway$Ring" "podRider" "[I", Cond.fieldLink RX0 46 "PodGuideway$Ring" "podBarred" "[I", Cond.methodLink RX0 68 yX0_copyRow, Cond.static yX0_copyRow, Cond.code yX0_copyRow cX0_copyRow 2 none, Cond.methodLink RX0 180 Lib.Math.min.name, Cond.static Lib.Math.min.name, Cond.initialized "java/lang/Math", Cond.code Lib.Math.min.name Lib.Math.min.code 2 (some .int), Cond.methodLink RX0 104 arraycopyName, Cond.native arraycopyName, Cond.static arraycopyName, Cond.initialized "java/lang/System", Cond.instanceMethod yX0_passMinute]
def wsX1_when_r3 : List Cond := [Cond.selects RX0 yX0_passMinute yX0_passMinute, Cond.code yX0_passMinute cX0_passMinute 2 none, Cond.methodLink RX0 84 yX0_moveSlots, Cond.instanceMethod yX0_moveSlots, Cond.selects RX0 yX0_moveSlots yX0_moveSlots, Cond.code yX0_moveSlots cX0_moveSlots 3 none, Cond.methodLink RX0 72 yX0_write, Cond.static yX0_write, Cond.code yX0_write cX0_write 3 none, Cond.methodLink RX0 87 yX0_letGoOff, Cond.instanceMethod yX0_letGoOff, Cond.selects RX0 yX0_letGoOff yX0_letGoOff, Cond.code yX0_letGoOff cX0_letGoOff 5 none, Cond.methodLink RX0 110 yX0_placeOf, Cond.instanceMethod yX0_placeOf, Cond.selects RX0 yX0_placeOf yX0_placeOf, Cond.code yX0_placeOf cX0_placeOf 2 (some .int), Cond.methodLink RX0 113 yX0_podAtPlace, Cond.instanceMethod yX0_podAtPlace, Cond.selects RX0 yX0_podAtPlace yX0_podAtPlace, Cond.code yX0_podAtPlace cX0_podAtPlace 2 (some .int), Cond.methodLink RX0 116 yX0_goalOf, Cond.methodLink RX0 76 yX0_firstBerth, Cond.instanceMethod yX0_firstBerth]
def wsX1_when_r4 : List Cond := [Cond.selects RX0 yX0_firstBerth yX0_firstBerth, Cond.code yX0_firstBerth cX0_firstBerth 4 (some .int), Cond.methodLink RX0 123 yX0_berthHolds, Cond.instanceMethod yX0_berthHolds, Cond.selects RX0 yX0_berthHolds yX0_berthHolds, Cond.code yX0_berthHolds cX0_berthHolds 3 (some .int), Cond.methodLink RX0 119 yX0_setGoal, Cond.instanceMethod yX0_setGoal, Cond.selects RX0 yX0_setGoal yX0_setGoal, Cond.code yX0_setGoal cX0_setGoal 3 none, Cond.methodLink RX0 91 yX0_letBoard, Cond.instanceMethod yX0_letBoard, Cond.selects RX0 yX0_letBoard yX0_letBoard, Cond.code yX0_letBoard cX0_letBoard 3 none, Cond.methodLink RX0 80 yX0_waitingAt, Cond.instanceMethod yX0_waitingAt, Cond.selects RX0 yX0_waitingAt yX0_waitingAt, Cond.code yX0_waitingAt cX0_waitingAt 2 (some .int), Cond.methodLink RX0 146 Lib.Math.max.name, Cond.static Lib.Math.max.name, Cond.code Lib.Math.max.name Lib.Math.max.code 2 (some .int), Cond.methodLink RX0 126 yX0_boardFirst, Cond.instanceMethod yX0_boardFirst, Cond.selects RX0 yX0_boardFirst yX0_boardFirst]
def wsX1_when_r5 : List Cond := [Cond.code yX0_boardFirst cX0_boardFirst 6 none, Cond.methodLink RX0 129 yX0_waitedBy, Cond.instanceMethod yX0_waitedBy, Cond.selects RX0 yX0_waitedBy yX0_waitedBy, Cond.code yX0_waitedBy cX0_waitedBy 3 (some .int), Cond.methodLink RX0 94 yX0_letCall, Cond.instanceMethod yX0_letCall, Cond.selects RX0 yX0_letCall yX0_letCall, Cond.code yX0_letCall cX0_letCall 4 none, Cond.methodLink RX0 132 yX0_emptyPodsTo, Cond.instanceMethod yX0_emptyPodsTo, Cond.selects RX0 yX0_emptyPodsTo yX0_emptyPodsTo, Cond.code yX0_emptyPodsTo cX0_emptyPodsTo 4 (some .int), Cond.methodLink RX0 135 yX0_stationThatAnswers, Cond.instanceMethod yX0_stationThatAnswers, Cond.selects RX0 yX0_stationThatAnswers yX0_stationThatAnswers, Cond.code yX0_stationThatAnswers cX0_stationThatAnswers 6 (some .int), Cond.methodLink RX0 138 yX0_placesOn, Cond.instanceMethod yX0_placesOn, Cond.selects RX0 yX0_placesOn yX0_placesOn, Cond.code yX0_placesOn cX0_placesOn 3 (some .int), Cond.methodLink RX0 141 yJ9_floorMod_7cf53, Cond.static yJ9_floorMod_7cf53, Cond.initialized RJ9]
def wsX1_when_r6 : List Cond := [Cond.code yJ9_floorMod_7cf53 cJ9_floorMod_7cf53 3 (some .int), Cond.methodLink RX0 97 yX0_letMerge, Cond.instanceMethod yX0_letMerge, Cond.selects RX0 yX0_letMerge yX0_letMerge, Cond.code yX0_letMerge cX0_letMerge 4 none]
def wsX1_when : List Cond := .code yX1_when cX1_when 4 (some .int) :: ((wsX1_when_r1 ++ (wsX1_when_r2 ++ (wsX1_when_r3 ++ (wsX1_when_r4 ++ (wsX1_when_r5 ++ wsX1_when_r6))))) ++ wsX10 ++ wsX00 ++ (vx_atS RX1 105 "java/lang/IndexOutOfBoundsException" ["java/lang/RuntimeException", "java/lang/Exception"]).filter goodWord)
def wsX1_answers_r1 : List Cond := [Cond.fieldLink RX1 10 "PodGuideway" "now" "LPodGuideway$Ring;", Cond.methodLink RX1 43 yX1_needStation, Cond.instanceMethod yX1_needStation, Cond.selects RX1 yX1_needStation yX1_needStation, Cond.initialized RX1, Cond.code yX1_needStation cX1_needStation 2 none, Cond.classLink RX1 101 "java/lang/IndexOutOfBoundsException", Cond.initialized "java/lang/IndexOutOfBoundsException", Cond.instanceMethod yX0_stationThatAnswers, Cond.initialized RX0, Cond.selects RX0 yX0_stationThatAnswers yX0_stationThatAnswers, Cond.code yX0_stationThatAnswers cX0_stationThatAnswers 6 (some .int), Cond.fieldLink RX0 53 "PodGuideway$Ring" "stations" "I", Cond.methodLink RX0 138 yX0_placesOn, Cond.instanceMethod yX0_placesOn, Cond.selects RX0 yX0_placesOn yX0_placesOn, Cond.code yX0_placesOn cX0_placesOn 3 (some .int), Cond.methodLink RX0 110 yX0_placeOf, Cond.instanceMethod yX0_placeOf, Cond.selects RX0 yX0_placeOf yX0_placeOf, Cond.code yX0_placeOf cX0_placeOf 2 (some .int), Cond.fieldLink RX0 22 "PodGuideway$Ring" "stationPlace" "[I", Cond.methodLink RX0 100 yX0_read, Cond.static yX0_read]
def wsX1_answers_r2 : List Cond := [Cond.code yX0_read cX0_read 2 (some .int), Cond.methodLink RX0 141 yJ9_floorMod_7cf53, Cond.static yJ9_floorMod_7cf53, Cond.initialized RJ9, Cond.code yJ9_floorMod_7cf53 cJ9_floorMod_7cf53 3 (some .int), Cond.methodLink RX0 80 yX0_waitingAt, Cond.instanceMethod yX0_waitingAt, Cond.selects RX0 yX0_waitingAt yX0_waitingAt, Cond.code yX0_waitingAt cX0_waitingAt 2 (some .int), Cond.fieldLink RX0 28 "PodGuideway$Ring" "stationWaiting" "[I", Cond.methodLink RX0 146 Lib.Math.max.name, Cond.static Lib.Math.max.name, Cond.initialized "java/lang/Math", Cond.code Lib.Math.max.name Lib.Math.max.code 2 (some .int), Cond.methodLink RX0 76 yX0_firstBerth, Cond.instanceMethod yX0_firstBerth, Cond.selects RX0 yX0_firstBerth yX0_firstBerth, Cond.code yX0_firstBerth cX0_firstBerth 4 (some .int), Cond.methodLink RX0 123 yX0_berthHolds, Cond.instanceMethod yX0_berthHolds, Cond.selects RX0 yX0_berthHolds yX0_berthHolds, Cond.code yX0_berthHolds cX0_berthHolds 3 (some .int), Cond.fieldLink RX0 19 "PodGuideway$Ring" "podInBerth" "[I", Cond.fieldLink RX0 40 "PodGuideway$Ring" "podGoal" "[I"]
def wsX1_answers : List Cond := .code yX1_answers cX1_answers 2 (some .int) :: ((wsX1_answers_r1 ++ wsX1_answers_r2) ++ wsX10 ++ wsX00 ++ (vx_atS RX1 105 "java/lang/IndexOutOfBoundsException" ["java/lang/RuntimeException", "java/lang/Exception"]).filter goodWord)
def wsX1_foresee_r1 : List Cond := [Cond.fieldLink RX1 16 "PodGuideway" "ahead" "LPodGuideway$Ring;", Cond.fieldLink RX1 10 "PodGuideway" "now" "LPodGuideway$Ring;", Cond.methodLink RX1 115 yX1_needMinutes, Cond.instanceMethod yX1_needMinutes, Cond.selects RX1 yX1_needMinutes yX1_needMinutes, Cond.initialized RX1, Cond.code yX1_needMinutes cX1_needMinutes 2 none, Cond.classLink RX1 154 "java/lang/IllegalArgumentException", Cond.initialized "java/lang/IllegalArgumentException", Cond.methodLink RX1 91 yX1_needWhat, Cond.instanceMethod yX1_needWhat, Cond.selects RX1 yX1_needWhat yX1_needWhat, Cond.code yX1_needWhat cX1_needWhat 4 none, Cond.classLink RX1 101 "java/lang/IndexOutOfBoundsException", Cond.initialized "java/lang/IndexOutOfBoundsException", Cond.instanceMethod yX0_copyFrom, Cond.initialized RX0, Cond.selects RX0 yX0_copyFrom yX0_copyFrom, Cond.code yX0_copyFrom cX0_copyFrom 2 none, Cond.fieldLink RX0 49 "PodGuideway$Ring" "minute" "I", Cond.fieldLink RX0 53 "PodGuideway$Ring" "stations" "I", Cond.fieldLink RX0 56 "PodGuideway$Ring" "pods" "I", Cond.fieldLink RX0 59 "PodGuideway$Ring" "ridersInAll" "I", Cond.fieldLink RX0 62 "PodGuideway$Ring" "callsAnswered" "I"]
def wsX1_foresee_r2 : List Cond := [Cond.fieldLink RX0 65 "PodGuideway$Ring" "waitedBeforeBoarding" "I", Cond.fieldLink RX0 15 "PodGuideway$Ring" "podInSlot" "[I", Cond.fieldLink RX0 19 "PodGuideway$Ring" "podInBerth" "[I", Cond.fieldLink RX0 22 "PodGuideway$Ring" "stationPlace" "[I", Cond.fieldLink RX0 25 "PodGuideway$Ring" "stationArrived" "[I", Cond.fieldLink RX0 28 "PodGuideway$Ring" "stationWaiting" "[I", Cond.fieldLink RX0 31 "PodGuideway$Ring" "riderNumber" "[I", Cond.fieldLink RX0 34 "PodGuideway$Ring" "riderGoal" "[I", Cond.fieldLink RX0 37 "PodGuideway$Ring" "riderCame" "[I", Cond.fieldLink RX0 40 "PodGuideway$Ring" "podGoal" "[I", Cond.fieldLink RX0 43 "PodGuideway$Ring" "podRider" "[I", Cond.fieldLink RX0 46 "PodGuideway$Ring" "podBarred" "[I", Cond.methodLink RX0 68 yX0_copyRow, Cond.static yX0_copyRow, Cond.code yX0_copyRow cX0_copyRow 2 none, Cond.methodLink RX0 180 Lib.Math.min.name, Cond.static Lib.Math.min.name, Cond.initialized "java/lang/Math", Cond.code Lib.Math.min.name Lib.Math.min.code 2 (some .int), Cond.methodLink RX0 104 arraycopyName, Cond.native arraycopyName, Cond.static arraycopyName, Cond.initialized "java/lang/System", Cond.instanceMethod yX0_passMinute]
def wsX1_foresee_r3 : List Cond := [Cond.selects RX0 yX0_passMinute yX0_passMinute, Cond.code yX0_passMinute cX0_passMinute 2 none, Cond.methodLink RX0 84 yX0_moveSlots, Cond.instanceMethod yX0_moveSlots, Cond.selects RX0 yX0_moveSlots yX0_moveSlots, Cond.code yX0_moveSlots cX0_moveSlots 3 none, Cond.methodLink RX0 100 yX0_read, Cond.static yX0_read, Cond.code yX0_read cX0_read 2 (some .int), Cond.methodLink RX0 72 yX0_write, Cond.static yX0_write, Cond.code yX0_write cX0_write 3 none, Cond.methodLink RX0 87 yX0_letGoOff, Cond.instanceMethod yX0_letGoOff, Cond.selects RX0 yX0_letGoOff yX0_letGoOff, Cond.code yX0_letGoOff cX0_letGoOff 5 none, Cond.methodLink RX0 110 yX0_placeOf, Cond.instanceMethod yX0_placeOf, Cond.selects RX0 yX0_placeOf yX0_placeOf, Cond.code yX0_placeOf cX0_placeOf 2 (some .int), Cond.methodLink RX0 113 yX0_podAtPlace, Cond.instanceMethod yX0_podAtPlace, Cond.selects RX0 yX0_podAtPlace yX0_podAtPlace, Cond.code yX0_podAtPlace cX0_podAtPlace 2 (some .int)]
def wsX1_foresee_r4 : List Cond := [Cond.methodLink RX0 116 yX0_goalOf, Cond.instanceMethod yX0_goalOf, Cond.selects RX0 yX0_goalOf yX0_goalOf, Cond.code yX0_goalOf cX0_goalOf 2 (some .int), Cond.methodLink RX0 76 yX0_firstBerth, Cond.instanceMethod yX0_firstBerth, Cond.selects RX0 yX0_firstBerth yX0_firstBerth, Cond.code yX0_firstBerth cX0_firstBerth 4 (some .int), Cond.methodLink RX0 123 yX0_berthHolds, Cond.instanceMethod yX0_berthHolds, Cond.selects RX0 yX0_berthHolds yX0_berthHolds, Cond.code yX0_berthHolds cX0_berthHolds 3 (some .int), Cond.methodLink RX0 119 yX0_setGoal, Cond.instanceMethod yX0_setGoal, Cond.selects RX0 yX0_setGoal yX0_setGoal, Cond.code yX0_setGoal cX0_setGoal 3 none, Cond.methodLink RX0 91 yX0_letBoard, Cond.instanceMethod yX0_letBoard, Cond.selects RX0 yX0_letBoard yX0_letBoard, Cond.code yX0_letBoard cX0_letBoard 3 none, Cond.methodLink RX0 80 yX0_waitingAt, Cond.instanceMethod yX0_waitingAt, Cond.selects RX0 yX0_waitingAt yX0_waitingAt, Cond.code yX0_waitingAt cX0_waitingAt 2 (some .int)]
def wsX1_foresee_r5 : List Cond := [Cond.methodLink RX0 146 Lib.Math.max.name, Cond.static Lib.Math.max.name, Cond.code Lib.Math.max.name Lib.Math.max.code 2 (some .int), Cond.methodLink RX0 126 yX0_boardFirst, Cond.instanceMethod yX0_boardFirst, Cond.selects RX0 yX0_boardFirst yX0_boardFirst, Cond.code yX0_boardFirst cX0_boardFirst 6 none, Cond.methodLink RX0 129 yX0_waitedBy, Cond.instanceMethod yX0_waitedBy, Cond.selects RX0 yX0_waitedBy yX0_waitedBy, Cond.code yX0_waitedBy cX0_waitedBy 3 (some .int), Cond.methodLink RX0 94 yX0_letCall, Cond.instanceMethod yX0_letCall, Cond.selects RX0 yX0_letCall yX0_letCall, Cond.code yX0_letCall cX0_letCall 4 none, Cond.methodLink RX0 132 yX0_emptyPodsTo, Cond.instanceMethod yX0_emptyPodsTo, Cond.selects RX0 yX0_emptyPodsTo yX0_emptyPodsTo, Cond.code yX0_emptyPodsTo cX0_emptyPodsTo 4 (some .int), Cond.methodLink RX0 135 yX0_stationThatAnswers, Cond.instanceMethod yX0_stationThatAnswers, Cond.selects RX0 yX0_stationThatAnswers yX0_stationThatAnswers, Cond.code yX0_stationThatAnswers cX0_stationThatAnswers 6 (some .int), Cond.methodLink RX0 138 yX0_placesOn]
def wsX1_foresee_r6 : List Cond := [Cond.instanceMethod yX0_placesOn, Cond.selects RX0 yX0_placesOn yX0_placesOn, Cond.code yX0_placesOn cX0_placesOn 3 (some .int), Cond.methodLink RX0 141 yJ9_floorMod_7cf53, Cond.static yJ9_floorMod_7cf53, Cond.initialized RJ9, Cond.code yJ9_floorMod_7cf53 cJ9_floorMod_7cf53 3 (some .int), Cond.methodLink RX0 97 yX0_letMerge, Cond.instanceMethod yX0_letMerge, Cond.selects RX0 yX0_letMerge yX0_letMerge, Cond.code yX0_letMerge cX0_letMerge 4 none, Cond.instanceMethod yX0_tellCount, Cond.selects RX0 yX0_tellCount yX0_tellCount, Cond.code yX0_tellCount cX0_tellCount 2 (some .int), Cond.methodLink RX0 161 yX0_waitingInAll, Cond.instanceMethod yX0_waitingInAll, Cond.selects RX0 yX0_waitingInAll yX0_waitingInAll, Cond.code yX0_waitingInAll cX0_waitingInAll 3 (some .int), Cond.methodLink RX0 165 yX0_ridersInPods, Cond.instanceMethod yX0_ridersInPods, Cond.selects RX0 yX0_ridersInPods yX0_ridersInPods, Cond.code yX0_ridersInPods cX0_ridersInPods 3 (some .int), Cond.methodLink RX0 168 yX0_arrivedInAll, Cond.instanceMethod yX0_arrivedInAll]
def wsX1_foresee_r7 : List Cond := [Cond.selects RX0 yX0_arrivedInAll yX0_arrivedInAll, Cond.code yX0_arrivedInAll cX0_arrivedInAll 3 (some .int), Cond.methodLink RX0 171 yX0_freeSlots, Cond.instanceMethod yX0_freeSlots, Cond.selects RX0 yX0_freeSlots yX0_freeSlots, Cond.code yX0_freeSlots cX0_freeSlots 3 (some .int)]
def wsX1_foresee : List Cond := .code yX1_foresee cX1_foresee 4 (some .int) :: ((wsX1_foresee_r1 ++ (wsX1_foresee_r2 ++ (wsX1_foresee_r3 ++ (wsX1_foresee_r4 ++ (wsX1_foresee_r5 ++ (wsX1_foresee_r6 ++ wsX1_foresee_r7)))))) ++ wsX10 ++ wsX00 ++ (vx_atS RX1 158 "java/lang/IllegalArgumentException" ["java/lang/RuntimeException", "java/lang/Exception"]).filter goodWord ++ (vx_atS RX1 105 "java/lang/IndexOutOfBoundsException" ["java/lang/RuntimeException", "java/lang/Exception"]).filter goodWord)
def wsX1_mean_r1 : List Cond := [Cond.fieldLink RX1 10 "PodGuideway" "now" "LPodGuideway$Ring;", Cond.instanceMethod yX0_waitingInAll, Cond.initialized RX0, Cond.selects RX0 yX0_waitingInAll yX0_waitingInAll, Cond.code yX0_waitingInAll cX0_waitingInAll 3 (some .int), Cond.fieldLink RX0 53 "PodGuideway$Ring" "stations" "I", Cond.methodLink RX0 80 yX0_waitingAt, Cond.instanceMethod yX0_waitingAt, Cond.selects RX0 yX0_waitingAt yX0_waitingAt, Cond.code yX0_waitingAt cX0_waitingAt 2 (some .int), Cond.fieldLink RX0 28 "PodGuideway$Ring" "stationWaiting" "[I", Cond.methodLink RX0 146 Lib.Math.max.name, Cond.static Lib.Math.max.name, Cond.initialized "java/lang/Math", Cond.code Lib.Math.max.name Lib.Math.max.code 2 (some .int), Cond.methodLink RX0 100 yX0_read, Cond.static yX0_read, Cond.code yX0_read cX0_read 2 (some .int), Cond.instanceMethod yX0_waitedInAll, Cond.selects RX0 yX0_waitedInAll yX0_waitedInAll, Cond.code yX0_waitedInAll cX0_waitedInAll 3 (some .int), Cond.methodLink RX0 152 yX0_waitedAt, Cond.instanceMethod yX0_waitedAt, Cond.selects RX0 yX0_waitedAt yX0_waitedAt]
def wsX1_mean_r2 : List Cond := [Cond.code yX0_waitedAt cX0_waitedAt 5 (some .int), Cond.methodLink RX0 129 yX0_waitedBy, Cond.instanceMethod yX0_waitedBy, Cond.selects RX0 yX0_waitedBy yX0_waitedBy, Cond.code yX0_waitedBy cX0_waitedBy 3 (some .int), Cond.fieldLink RX0 49 "PodGuideway$Ring" "minute" "I", Cond.fieldLink RX0 37 "PodGuideway$Ring" "riderCame" "[I"]
def wsX1_mean : List Cond := .code yX1_mean cX1_mean 2 (some .double) :: ((wsX1_mean_r1 ++ wsX1_mean_r2) ++ wsX10 ++ wsX00)
def wsX2_init : List Cond := .code yX2_init cX2_init 1 none :: ([.methodLink RX2 1 objectInit, .instanceMethod objectInit, .code objectInit ⟨#[0xb1]⟩ 1 none, .fieldLink RX2 7 "PodGuidewayLaw$Pod" "slot" "I", .fieldLink RX2 13 "PodGuidewayLaw$Pod" "goal" "I"] ++ wsX20)
def wsX3_init : List Cond := .code yX3_init cX3_init 1 none :: ([.methodLink RX3 1 objectInit, .instanceMethod objectInit, .code objectInit ⟨#[0xb1]⟩ 1 none, .arrayClass .int, .fieldLink RX3 7 "PodGuidewayLaw$Sim" "place" "[I", .classLink RX3 13 "[[I", .fieldLink RX3 15 "PodGuidewayLaw$Sim" "waits" "[[[I", .fieldLink RX3 19 "PodGuidewayLaw$Sim" "arrived" "[I", .classLink RX3 22 RX2, .fieldLink RX3 24 "PodGuidewayLaw$Sim" "pods" "[LPodGuidewayLaw$Pod;", .fieldLink RX3 28 "PodGuidewayLaw$Sim" "followed" "I"] ++ wsX30)
def wsX3_more : List Cond := .code yX3_more cX3_more 4 (some (.array (.array .int))) :: ([.classLink RX3 33 "[I"])
def wsX3_build : List Cond := .code yX3_build cX3_build 7 none :: ([.fieldLink RX3 7 "PodGuidewayLaw$Sim" "place" "[I", .arrayClass .int, .classLink RX3 13 "[[I", .fieldLink RX3 19 "PodGuidewayLaw$Sim" "arrived" "[I", .fieldLink RX3 15 "PodGuidewayLaw$Sim" "waits" "[[[I", .classLink RX3 33 "[I"] ++ wsX30)
def wsX3_in : List Cond := .code yX3_in cX3_in 7 (some (.object "PodGuidewayLaw$Pod")) :: ([.fieldLink RX3 24 "PodGuidewayLaw$Sim" "pods" "[LPodGuidewayLaw$Pod;", .fieldLink RX3 51 "PodGuidewayLaw$Pod" "slot" "I", .fieldLink RX3 54 "PodGuidewayLaw$Pod" "at" "I", .fieldLink RX3 57 "PodGuidewayLaw$Pod" "berth" "I"] ++ wsX30 ++ wsX20)
def wsX3_free : List Cond := .code yX3_free cX3_free 3 (some .int) :: ([.methodLink RX3 60 yX3_in, .instanceMethod yX3_in, .selects RX3 yX3_in yX3_in, .initialized RX3, .code yX3_in cX3_in 7 (some (.object "PodGuidewayLaw$Pod")), .fieldLink RX3 24 "PodGuidewayLaw$Sim" "pods" "[LPodGuidewayLaw$Pod;", .fieldLink RX3 51 "PodGuidewayLaw$Pod" "slot" "I", .fieldLink RX3 54 "PodGuidewayLaw$Pod" "at" "I", .fieldLink RX3 57 "PodGuidewayLaw$Pod" "berth" "I"] ++ wsX30 ++ wsX20)
def wsX3_slot : List Cond := .code yX3_slot cX3_slot 6 (some (.object "PodGuidewayLaw$Pod")) :: ([.fieldLink RX3 24 "PodGuidewayLaw$Sim" "pods" "[LPodGuidewayLaw$Pod;", .fieldLink RX3 51 "PodGuidewayLaw$Pod" "slot" "I"] ++ wsX30 ++ wsX20)
def wsX3_idle : List Cond := .code yX3_idle cX3_idle 4 (some (.object "PodGuidewayLaw$Pod")) :: ([.fieldLink RX3 64 "PodGuidewayLaw$Pod" "goal" "I", .methodLink RX3 60 yX3_in, .instanceMethod yX3_in, .selects RX3 yX3_in yX3_in, .initialized RX3, .code yX3_in cX3_in 7 (some (.object "PodGuidewayLaw$Pod")), .fieldLink RX3 24 "PodGuidewayLaw$Sim" "pods" "[LPodGuidewayLaw$Pod;", .fieldLink RX3 51 "PodGuidewayLaw$Pod" "slot" "I", .fieldLink RX3 54 "PodGuidewayLaw$Pod" "at" "I", .fieldLink RX3 57 "PodGuidewayLaw$Pod" "berth" "I"] ++ wsX20 ++ wsX30)
def wsX3_coming : List Cond := .code yX3_coming cX3_coming 7 (some .int) :: ([.fieldLink RX3 24 "PodGuidewayLaw$Sim" "pods" "[LPodGuidewayLaw$Pod;", .fieldLink RX3 64 "PodGuidewayLaw$Pod" "goal" "I", .fieldLink RX3 67 "PodGuidewayLaw$Pod" "rider" "I"] ++ wsX30 ++ wsX20)
def wsX3_answer : List Cond := .code yX3_answer cX3_answer 4 (some .int) :: ([.fieldLink RX3 7 "PodGuidewayLaw$Sim" "place" "[I", .fieldLink RX3 15 "PodGuidewayLaw$Sim" "waits" "[[[I", .methodLink RX3 70 yX3_idle, .instanceMethod yX3_idle, .selects RX3 yX3_idle yX3_idle, .initialized RX3, .code yX3_idle cX3_idle 4 (some (.object "PodGuidewayLaw$Pod")), .fieldLink RX3 64 "PodGuidewayLaw$Pod" "goal" "I", .methodLink RX3 60 yX3_in, .instanceMethod yX3_in, .selects RX3 yX3_in yX3_in, .code yX3_in cX3_in 7 (some (.object "PodGuidewayLaw$Pod")), .fieldLink RX3 24 "PodGuidewayLaw$Sim" "pods" "[LPodGuidewayLaw$Pod;", .fieldLink RX3 51 "PodGuidewayLaw$Pod" "slot" "I", .fieldLink RX3 54 "PodGuidewayLaw$Pod" "at" "I", .fieldLink RX3 57 "PodGuidewayLaw$Pod" "berth" "I"] ++ wsX30 ++ wsX20)
def wsX3_pass_r1 : List Cond := [Cond.fieldLink RX3 7 "PodGuidewayLaw$Sim" "place" "[I", Cond.fieldLink RX3 24 "PodGuidewayLaw$Sim" "pods" "[LPodGuidewayLaw$Pod;", Cond.fieldLink RX3 51 "PodGuidewayLaw$Pod" "slot" "I", Cond.fieldLink RX3 64 "PodGuidewayLaw$Pod" "goal" "I", Cond.fieldLink RX3 80 "PodGuidewayLaw$Pod" "missed" "I", Cond.fieldLink RX3 67 "PodGuidewayLaw$Pod" "rider" "I", Cond.fieldLink RX3 19 "PodGuidewayLaw$Sim" "arrived" "[I", Cond.fieldLink RX3 42 "PodGuidewayLaw$Sim" "minute" "I", Cond.fieldLink RX3 28 "PodGuidewayLaw$Sim" "followed" "I", Cond.fieldLink RX3 54 "PodGuidewayLaw$Pod" "at" "I", Cond.fieldLink RX3 57 "PodGuidewayLaw$Pod" "berth" "I", Cond.fieldLink RX3 83 "PodGuidewayLaw$Pod" "offs" "I", Cond.fieldLink RX3 15 "PodGuidewayLaw$Sim" "waits" "[[[I", Cond.fieldLink RX3 48 "PodGuidewayLaw$Sim" "boarded" "I", Cond.classLink RX3 33 "[I", Cond.fieldLink RX3 45 "PodGuidewayLaw$Sim" "answered" "I", Cond.methodLink RX3 74 yX3_slot, Cond.instanceMethod yX3_slot, Cond.selects RX3 yX3_slot yX3_slot, Cond.initialized RX3, Cond.code yX3_slot cX3_slot 6 (some (.object "PodGuidewayLaw$Pod")), Cond.methodLink RX3 76 yX3_free, Cond.instanceMethod yX3_free, Cond.selects RX3 yX3_free yX3_free]
def wsX3_pass_r2 : List Cond := [Cond.code yX3_free cX3_free 3 (some .int), Cond.methodLink RX3 60 yX3_in, Cond.instanceMethod yX3_in, Cond.selects RX3 yX3_in yX3_in, Cond.code yX3_in cX3_in 7 (some (.object "PodGuidewayLaw$Pod")), Cond.methodLink RX3 70 yX3_idle, Cond.instanceMethod yX3_idle, Cond.selects RX3 yX3_idle yX3_idle, Cond.code yX3_idle cX3_idle 4 (some (.object "PodGuidewayLaw$Pod")), Cond.methodLink RX3 86 yX3_coming, Cond.instanceMethod yX3_coming, Cond.selects RX3 yX3_coming yX3_coming, Cond.code yX3_coming cX3_coming 7 (some .int), Cond.methodLink RX3 89 yX3_answer, Cond.instanceMethod yX3_answer, Cond.selects RX3 yX3_answer yX3_answer, Cond.code yX3_answer cX3_answer 4 (some .int)]
def wsX3_pass : List Cond := .code yX3_pass cX3_pass 11 (some .int) :: ((wsX3_pass_r1 ++ wsX3_pass_r2) ++ wsX30 ++ wsX20)
def wsX3_told : List Cond := .code yX3_told cX3_told 7 (some .int) :: ([.fieldLink RX3 45 "PodGuidewayLaw$Sim" "answered" "I", .fieldLink RX3 15 "PodGuidewayLaw$Sim" "waits" "[[[I", .fieldLink RX3 19 "PodGuidewayLaw$Sim" "arrived" "[I", .fieldLink RX3 24 "PodGuidewayLaw$Sim" "pods" "[LPodGuidewayLaw$Pod;", .fieldLink RX3 67 "PodGuidewayLaw$Pod" "rider" "I", .fieldLink RX3 51 "PodGuidewayLaw$Pod" "slot" "I"] ++ wsX30 ++ wsX20)
def wsX3_isSame_r1 : List Cond := [Cond.fieldLink RX3 7 "PodGuidewayLaw$Sim" "place" "[I", Cond.fieldLink RX3 24 "PodGuidewayLaw$Sim" "pods" "[LPodGuidewayLaw$Pod;", Cond.fieldLink RX3 51 "PodGuidewayLaw$Pod" "slot" "I", Cond.fieldLink RX3 54 "PodGuidewayLaw$Pod" "at" "I", Cond.fieldLink RX3 64 "PodGuidewayLaw$Pod" "goal" "I", Cond.fieldLink RX3 15 "PodGuidewayLaw$Sim" "waits" "[[[I", Cond.arrayClass .int, Cond.fieldLink RX3 19 "PodGuidewayLaw$Sim" "arrived" "[I", Cond.fieldLink RX3 57 "PodGuidewayLaw$Pod" "berth" "I", Cond.fieldLink RX3 67 "PodGuidewayLaw$Pod" "rider" "I", Cond.fieldLink RX3 80 "PodGuidewayLaw$Pod" "missed" "I", Cond.fieldLink RX3 42 "PodGuidewayLaw$Sim" "minute" "I", Cond.fieldLink RX3 45 "PodGuidewayLaw$Sim" "answered" "I", Cond.fieldLink RX3 48 "PodGuidewayLaw$Sim" "boarded" "I", Cond.methodLink RX3 92 yX1_waits, Cond.instanceMethod yX1_waits, Cond.selects RX1 yX1_waits yX1_waits, Cond.initialized RX1, Cond.code yX1_waits cX1_waits 3 (some .int), Cond.classLink RX1 101 "java/lang/IndexOutOfBoundsException", Cond.initialized "java/lang/IndexOutOfBoundsException", Cond.fieldLink RX1 10 "PodGuideway" "now" "LPodGuideway$Ring;", Cond.methodLink RX1 43 yX1_needStation, Cond.instanceMethod yX1_needStation]
def wsX3_isSame_r2 : List Cond := [Cond.selects RX1 yX1_needStation yX1_needStation, Cond.code yX1_needStation cX1_needStation 2 none, Cond.instanceMethod yX0_waitingAt, Cond.initialized RX0, Cond.selects RX0 yX0_waitingAt yX0_waitingAt, Cond.code yX0_waitingAt cX0_waitingAt 2 (some .int), Cond.fieldLink RX0 28 "PodGuideway$Ring" "stationWaiting" "[I", Cond.methodLink RX0 146 Lib.Math.max.name, Cond.static Lib.Math.max.name, Cond.initialized "java/lang/Math", Cond.code Lib.Math.max.name Lib.Math.max.code 2 (some .int), Cond.methodLink RX0 100 yX0_read, Cond.static yX0_read, Cond.code yX0_read cX0_read 2 (some .int), Cond.instanceMethod yX0_tellRider, Cond.selects RX0 yX0_tellRider yX0_tellRider, Cond.code yX0_tellRider cX0_tellRider 3 (some .int), Cond.fieldLink RX0 34 "PodGuideway$Ring" "riderGoal" "[I", Cond.methodLink RX0 129 yX0_waitedBy, Cond.instanceMethod yX0_waitedBy, Cond.selects RX0 yX0_waitedBy yX0_waitedBy, Cond.code yX0_waitedBy cX0_waitedBy 3 (some .int), Cond.fieldLink RX0 49 "PodGuideway$Ring" "minute" "I", Cond.fieldLink RX0 37 "PodGuideway$Ring" "riderCame" "[I"]
def wsX3_isSame_r3 : List Cond := [Cond.methodLink RX3 86 yX3_coming, Cond.instanceMethod yX3_coming, Cond.selects RX3 yX3_coming yX3_coming, Cond.initialized RX3, Cond.code yX3_coming cX3_coming 7 (some .int), Cond.methodLink RX3 97 yX1_station, Cond.instanceMethod yX1_station, Cond.selects RX1 yX1_station yX1_station, Cond.code yX1_station cX1_station 3 (some .int), Cond.methodLink RX1 91 yX1_needWhat, Cond.instanceMethod yX1_needWhat, Cond.selects RX1 yX1_needWhat yX1_needWhat, Cond.code yX1_needWhat cX1_needWhat 4 none, Cond.instanceMethod yX0_tellStation, Cond.selects RX0 yX0_tellStation yX0_tellStation, Cond.code yX0_tellStation cX0_tellStation 3 (some .int), Cond.fieldLink RX0 25 "PodGuideway$Ring" "stationArrived" "[I", Cond.methodLink RX0 110 yX0_placeOf, Cond.instanceMethod yX0_placeOf, Cond.selects RX0 yX0_placeOf yX0_placeOf, Cond.code yX0_placeOf cX0_placeOf 2 (some .int), Cond.fieldLink RX0 22 "PodGuideway$Ring" "stationPlace" "[I", Cond.methodLink RX0 158 yX0_berthsThatHold, Cond.instanceMethod yX0_berthsThatHold]
def wsX3_isSame_r4 : List Cond := [Cond.selects RX0 yX0_berthsThatHold yX0_berthsThatHold, Cond.code yX0_berthsThatHold cX0_berthsThatHold 5 (some .int), Cond.methodLink RX0 123 yX0_berthHolds, Cond.instanceMethod yX0_berthHolds, Cond.selects RX0 yX0_berthHolds yX0_berthHolds, Cond.code yX0_berthHolds cX0_berthHolds 3 (some .int), Cond.fieldLink RX0 19 "PodGuideway$Ring" "podInBerth" "[I", Cond.fieldLink RX0 40 "PodGuideway$Ring" "podGoal" "[I", Cond.methodLink RX0 80 yX0_waitingAt, Cond.methodLink RX0 132 yX0_emptyPodsTo, Cond.instanceMethod yX0_emptyPodsTo, Cond.selects RX0 yX0_emptyPodsTo yX0_emptyPodsTo, Cond.code yX0_emptyPodsTo cX0_emptyPodsTo 4 (some .int), Cond.fieldLink RX0 56 "PodGuideway$Ring" "pods" "I", Cond.fieldLink RX0 43 "PodGuideway$Ring" "podRider" "[I", Cond.methodLink RX0 116 yX0_goalOf, Cond.instanceMethod yX0_goalOf, Cond.selects RX0 yX0_goalOf yX0_goalOf, Cond.code yX0_goalOf cX0_goalOf 2 (some .int), Cond.methodLink RX0 152 yX0_waitedAt, Cond.instanceMethod yX0_waitedAt, Cond.selects RX0 yX0_waitedAt yX0_waitedAt, Cond.code yX0_waitedAt cX0_waitedAt 5 (some .int), Cond.methodLink RX3 100 yX1_answers]
def wsX3_isSame_r5 : List Cond := [Cond.instanceMethod yX1_answers, Cond.selects RX1 yX1_answers yX1_answers, Cond.code yX1_answers cX1_answers 2 (some .int), Cond.instanceMethod yX0_stationThatAnswers, Cond.selects RX0 yX0_stationThatAnswers yX0_stationThatAnswers, Cond.code yX0_stationThatAnswers cX0_stationThatAnswers 6 (some .int), Cond.fieldLink RX0 53 "PodGuideway$Ring" "stations" "I", Cond.methodLink RX0 138 yX0_placesOn, Cond.instanceMethod yX0_placesOn, Cond.selects RX0 yX0_placesOn yX0_placesOn, Cond.code yX0_placesOn cX0_placesOn 3 (some .int), Cond.methodLink RX0 141 yJ9_floorMod_7cf53, Cond.static yJ9_floorMod_7cf53, Cond.initialized RJ9, Cond.code yJ9_floorMod_7cf53 cJ9_floorMod_7cf53 3 (some .int), Cond.methodLink RX0 76 yX0_firstBerth, Cond.instanceMethod yX0_firstBerth, Cond.selects RX0 yX0_firstBerth yX0_firstBerth, Cond.code yX0_firstBerth cX0_firstBerth 4 (some .int), Cond.methodLink RX3 89 yX3_answer, Cond.instanceMethod yX3_answer, Cond.selects RX3 yX3_answer yX3_answer, Cond.code yX3_answer cX3_answer 4 (some .int), Cond.methodLink RX3 70 yX3_idle]
def wsX3_isSame_r6 : List Cond := [Cond.instanceMethod yX3_idle, Cond.selects RX3 yX3_idle yX3_idle, Cond.code yX3_idle cX3_idle 4 (some (.object "PodGuidewayLaw$Pod")), Cond.methodLink RX3 60 yX3_in, Cond.instanceMethod yX3_in, Cond.selects RX3 yX3_in yX3_in, Cond.code yX3_in cX3_in 7 (some (.object "PodGuidewayLaw$Pod")), Cond.methodLink RX3 103 yX1_told, Cond.instanceMethod yX1_told, Cond.selects RX1 yX1_told yX1_told, Cond.code yX1_told cX1_told 3 (some .int), Cond.methodLink RX1 72 yX1_needPod, Cond.instanceMethod yX1_needPod, Cond.selects RX1 yX1_needPod yX1_needPod, Cond.code yX1_needPod cX1_needPod 2 none, Cond.instanceMethod yX0_tellPod, Cond.selects RX0 yX0_tellPod yX0_tellPod, Cond.code yX0_tellPod cX0_tellPod 4 (some .int), Cond.fieldLink RX0 15 "PodGuideway$Ring" "podInSlot" "[I", Cond.fieldLink RX0 46 "PodGuideway$Ring" "podBarred" "[I", Cond.methodLink RX0 155 yX0_berthOf, Cond.instanceMethod yX0_berthOf, Cond.selects RX0 yX0_berthOf yX0_berthOf, Cond.code yX0_berthOf cX0_berthOf 2 (some .int)]
def wsX3_isSame_r7 : List Cond := [Cond.methodLink RX0 149 yX0_find, Cond.static yX0_find, Cond.code yX0_find cX0_find 3 (some .int), Cond.methodLink RX3 106 yX1_slot, Cond.instanceMethod yX1_slot, Cond.selects RX1 yX1_slot yX1_slot, Cond.code yX1_slot cX1_slot 2 (some .int), Cond.methodLink RX1 19 yX1_needPlace, Cond.instanceMethod yX1_needPlace, Cond.selects RX1 yX1_needPlace yX1_needPlace, Cond.code yX1_needPlace cX1_needPlace 2 none, Cond.instanceMethod yX0_podAtPlace, Cond.selects RX0 yX0_podAtPlace yX0_podAtPlace, Cond.code yX0_podAtPlace cX0_podAtPlace 2 (some .int), Cond.methodLink RX3 108 yX3_told, Cond.instanceMethod yX3_told, Cond.selects RX3 yX3_told yX3_told, Cond.code yX3_told cX3_told 7 (some .int), Cond.methodLink RX3 110 yX1_count, Cond.instanceMethod yX1_count, Cond.selects RX1 yX1_count yX1_count, Cond.code yX1_count cX1_count 2 (some .int), Cond.instanceMethod yX0_tellCount, Cond.selects RX0 yX0_tellCount yX0_tellCount]
def wsX3_isSame_r8 : List Cond := [Cond.code yX0_tellCount cX0_tellCount 2 (some .int), Cond.fieldLink RX0 62 "PodGuideway$Ring" "callsAnswered" "I", Cond.fieldLink RX0 65 "PodGuideway$Ring" "waitedBeforeBoarding" "I", Cond.methodLink RX0 161 yX0_waitingInAll, Cond.instanceMethod yX0_waitingInAll, Cond.selects RX0 yX0_waitingInAll yX0_waitingInAll, Cond.code yX0_waitingInAll cX0_waitingInAll 3 (some .int), Cond.methodLink RX0 165 yX0_ridersInPods, Cond.instanceMethod yX0_ridersInPods, Cond.selects RX0 yX0_ridersInPods yX0_ridersInPods, Cond.code yX0_ridersInPods cX0_ridersInPods 3 (some .int), Cond.methodLink RX0 168 yX0_arrivedInAll, Cond.instanceMethod yX0_arrivedInAll, Cond.selects RX0 yX0_arrivedInAll yX0_arrivedInAll, Cond.code yX0_arrivedInAll cX0_arrivedInAll 3 (some .int), Cond.methodLink RX0 171 yX0_freeSlots, Cond.instanceMethod yX0_freeSlots, Cond.selects RX0 yX0_freeSlots yX0_freeSlots, Cond.code yX0_freeSlots cX0_freeSlots 3 (some .int), Cond.methodLink RX0 113 yX0_podAtPlace, Cond.methodLink RX3 113 yX1_mean, Cond.instanceMethod yX1_mean, Cond.selects RX1 yX1_mean yX1_mean, Cond.code yX1_mean cX1_mean 2 (some .double)]
def wsX3_isSame_r9 : List Cond := [Cond.instanceMethod yX0_waitedInAll, Cond.selects RX0 yX0_waitedInAll yX0_waitedInAll, Cond.code yX0_waitedInAll cX0_waitedInAll 3 (some .int)]
def wsX3_isSame : List Cond := .code yX3_isSame cX3_isSame 11 (some .boolean) :: ((wsX3_isSame_r1 ++ (wsX3_isSame_r2 ++ (wsX3_isSame_r3 ++ (wsX3_isSame_r4 ++ (wsX3_isSame_r5 ++ (wsX3_isSame_r6 ++ (wsX3_isSame_r7 ++ (wsX3_isSame_r8 ++ wsX3_isSame_r9)))))))) ++ wsX30 ++ wsX20 ++ wsX10 ++ wsX00 ++ (vx_atS RX1 105 "java/lang/IndexOutOfBoundsException" ["java/lang/RuntimeException", "java/lang/Exception"]).filter goodWord)
def wsJ9_max_7cf53 : List Cond := .code yJ9_max_7cf53 cJ9_max_7cf53 2 (some .int) :: ([])
def wsJ9_min_7cf53 : List Cond := .code yJ9_min_7cf53 cJ9_min_7cf53 2 (some .int) :: ([])
def wsL_below : List Cond := .code yL_below cL_below 2 (some .int) :: ([.constant RL 7 (2147483647)])
def wsL_cell : List Cond := .code yL_cell cL_cell 2 (some .int) :: ([.constant RL 8 (790386105)])
def wsL_act_r1 : List Cond := [Cond.fieldLink RL 9 "PodGuidewayLaw$Sim" "place" "[I", Cond.fieldLink RL 15 "PodGuidewayLaw$Sim" "pods" "[LPodGuidewayLaw$Pod;", Cond.classLink RL 37 RX2, Cond.instantiable RX2 7, Cond.initialized RX2, Cond.fieldLink RL 40 "PodGuidewayLaw$Pod" "at" "I", Cond.fieldLink RL 44 "PodGuidewayLaw$Pod" "berth" "I", Cond.fieldLink RL 50 "PodGuidewayLaw$Pod" "slot" "I", Cond.fieldLink RL 53 "PodGuidewayLaw$Pod" "goal" "I", Cond.fieldLink RL 59 "PodGuidewayLaw$Sim" "waits" "[[[I", Cond.arrayClass .int, Cond.methodLink RL 19 yL_below, Cond.static yL_below, Cond.initialized RL, Cond.code yL_below cL_below 2 (some .int), Cond.constant RL 7 (2147483647), Cond.methodLink RL 25 yX3_build, Cond.instanceMethod yX3_build, Cond.selects RX3 yX3_build yX3_build, Cond.initialized RX3, Cond.code yX3_build cX3_build 7 none, Cond.fieldLink RX3 7 "PodGuidewayLaw$Sim" "place" "[I", Cond.classLink RX3 13 "[[I", Cond.fieldLink RX3 19 "PodGuidewayLaw$Sim" "arrived" "[I"]
def wsL_act_r2 : List Cond := [Cond.fieldLink RX3 15 "PodGuidewayLaw$Sim" "waits" "[[[I", Cond.classLink RX3 33 "[I", Cond.methodLink RL 29 yX1_build, Cond.instanceMethod yX1_build, Cond.selects RX1 yX1_build yX1_build, Cond.initialized RX1, Cond.code yX1_build cX1_build 2 (some .int), Cond.classLink RX1 27 "java/lang/IllegalStateException", Cond.initialized "java/lang/IllegalStateException", Cond.fieldLink RX1 10 "PodGuideway" "now" "LPodGuideway$Ring;", Cond.methodLink RX1 19 yX1_needPlace, Cond.instanceMethod yX1_needPlace, Cond.selects RX1 yX1_needPlace yX1_needPlace, Cond.code yX1_needPlace cX1_needPlace 2 none, Cond.classLink RX1 101 "java/lang/IndexOutOfBoundsException", Cond.initialized "java/lang/IndexOutOfBoundsException", Cond.instanceMethod yX0_stationAtPlace, Cond.initialized RX0, Cond.selects RX0 yX0_stationAtPlace yX0_stationAtPlace, Cond.code yX0_stationAtPlace cX0_stationAtPlace 3 (some .int), Cond.fieldLink RX0 53 "PodGuideway$Ring" "stations" "I", Cond.methodLink RX0 110 yX0_placeOf, Cond.instanceMethod yX0_placeOf, Cond.selects RX0 yX0_placeOf yX0_placeOf]
def wsL_act_r3 : List Cond := [Cond.code yX0_placeOf cX0_placeOf 2 (some .int), Cond.fieldLink RX0 22 "PodGuideway$Ring" "stationPlace" "[I", Cond.methodLink RX0 100 yX0_read, Cond.static yX0_read, Cond.code yX0_read cX0_read 2 (some .int), Cond.instanceMethod yX0_addStation, Cond.selects RX0 yX0_addStation yX0_addStation, Cond.code yX0_addStation cX0_addStation 3 (some .int), Cond.methodLink RX0 72 yX0_write, Cond.static yX0_write, Cond.code yX0_write cX0_write 3 none, Cond.methodLink RL 34 yX3_free, Cond.instanceMethod yX3_free, Cond.selects RX3 yX3_free yX3_free, Cond.code yX3_free cX3_free 3 (some .int), Cond.methodLink RX3 60 yX3_in, Cond.instanceMethod yX3_in, Cond.selects RX3 yX3_in yX3_in, Cond.code yX3_in cX3_in 7 (some (.object "PodGuidewayLaw$Pod")), Cond.fieldLink RX3 24 "PodGuidewayLaw$Sim" "pods" "[LPodGuidewayLaw$Pod;", Cond.fieldLink RX3 51 "PodGuidewayLaw$Pod" "slot" "I", Cond.fieldLink RX3 54 "PodGuidewayLaw$Pod" "at" "I", Cond.fieldLink RX3 57 "PodGuidewayLaw$Pod" "berth" "I", Cond.instanceMethod yX2_init]
def wsL_act_r4 : List Cond := [Cond.code yX2_init cX2_init 1 none, Cond.methodLink RX2 1 objectInit, Cond.instanceMethod objectInit, Cond.code objectInit ⟨#[0xb1]⟩ 1 none, Cond.fieldLink RX2 7 "PodGuidewayLaw$Pod" "slot" "I", Cond.fieldLink RX2 13 "PodGuidewayLaw$Pod" "goal" "I", Cond.methodLink RL 47 yX1_pod, Cond.instanceMethod yX1_pod, Cond.selects RX1 yX1_pod yX1_pod, Cond.code yX1_pod cX1_pod 2 (some .int), Cond.methodLink RX1 43 yX1_needStation, Cond.instanceMethod yX1_needStation, Cond.selects RX1 yX1_needStation yX1_needStation, Cond.code yX1_needStation cX1_needStation 2 none, Cond.instanceMethod yX0_firstBerth, Cond.selects RX0 yX0_firstBerth yX0_firstBerth, Cond.code yX0_firstBerth cX0_firstBerth 4 (some .int), Cond.methodLink RX0 123 yX0_berthHolds, Cond.instanceMethod yX0_berthHolds, Cond.selects RX0 yX0_berthHolds yX0_berthHolds, Cond.code yX0_berthHolds cX0_berthHolds 3 (some .int), Cond.fieldLink RX0 19 "PodGuideway$Ring" "podInBerth" "[I", Cond.fieldLink RX0 40 "PodGuideway$Ring" "podGoal" "[I", Cond.instanceMethod yX0_addPod]
def wsL_act_r5 : List Cond := [Cond.selects RX0 yX0_addPod yX0_addPod, Cond.code yX0_addPod cX0_addPod 3 (some .int), Cond.fieldLink RX0 56 "PodGuideway$Ring" "pods" "I", Cond.methodLink RX0 76 yX0_firstBerth, Cond.methodLink RL 56 yX1_send, Cond.instanceMethod yX1_send, Cond.selects RX1 yX1_send yX1_send, Cond.code yX1_send cX1_send 5 (some .int), Cond.methodLink RX1 72 yX1_needPod, Cond.instanceMethod yX1_needPod, Cond.selects RX1 yX1_needPod yX1_needPod, Cond.code yX1_needPod cX1_needPod 2 none, Cond.instanceMethod yX0_berthOf, Cond.selects RX0 yX0_berthOf yX0_berthOf, Cond.code yX0_berthOf cX0_berthOf 2 (some .int), Cond.methodLink RX0 149 yX0_find, Cond.static yX0_find, Cond.code yX0_find cX0_find 3 (some .int), Cond.instanceMethod yX0_goalOf, Cond.selects RX0 yX0_goalOf yX0_goalOf, Cond.code yX0_goalOf cX0_goalOf 2 (some .int), Cond.instanceMethod yX0_setGoal, Cond.selects RX0 yX0_setGoal yX0_setGoal, Cond.code yX0_setGoal cX0_setGoal 3 none]
def wsL_act_r6 : List Cond := [Cond.instanceMethod yX0_placesOn, Cond.selects RX0 yX0_placesOn yX0_placesOn, Cond.code yX0_placesOn cX0_placesOn 3 (some .int), Cond.methodLink RX0 141 yJ9_floorMod_7cf53, Cond.static yJ9_floorMod_7cf53, Cond.initialized RJ9, Cond.code yJ9_floorMod_7cf53 cJ9_floorMod_7cf53 3 (some .int), Cond.methodLink RL 63 yX3_more, Cond.static yX3_more, Cond.code yX3_more cX3_more 4 (some (.array (.array .int))), Cond.methodLink RL 67 yX1_ride, Cond.instanceMethod yX1_ride, Cond.selects RX1 yX1_ride yX1_ride, Cond.code yX1_ride cX1_ride 3 (some .int), Cond.methodLink RX1 60 yX1_needTwoStations, Cond.instanceMethod yX1_needTwoStations, Cond.selects RX1 yX1_needTwoStations yX1_needTwoStations, Cond.code yX1_needTwoStations cX1_needTwoStations 3 none, Cond.classLink RX1 154 "java/lang/IllegalArgumentException", Cond.initialized "java/lang/IllegalArgumentException", Cond.instanceMethod yX0_waitingAt, Cond.selects RX0 yX0_waitingAt yX0_waitingAt, Cond.code yX0_waitingAt cX0_waitingAt 2 (some .int), Cond.fieldLink RX0 28 "PodGuideway$Ring" "stationWaiting" "[I"]
def wsL_act_r7 : List Cond := [Cond.methodLink RX0 146 Lib.Math.max.name, Cond.static Lib.Math.max.name, Cond.initialized "java/lang/Math", Cond.code Lib.Math.max.name Lib.Math.max.code 2 (some .int), Cond.instanceMethod yX0_addRider, Cond.selects RX0 yX0_addRider yX0_addRider, Cond.code yX0_addRider cX0_addRider 5 (some .int), Cond.fieldLink RX0 59 "PodGuideway$Ring" "ridersInAll" "I", Cond.fieldLink RX0 31 "PodGuideway$Ring" "riderNumber" "[I", Cond.fieldLink RX0 34 "PodGuideway$Ring" "riderGoal" "[I", Cond.fieldLink RX0 37 "PodGuideway$Ring" "riderCame" "[I", Cond.fieldLink RX0 49 "PodGuideway$Ring" "minute" "I", Cond.methodLink RX0 80 yX0_waitingAt]
def wsL_act : List Cond := .code yL_act cL_act 12 (some .boolean) :: ((wsL_act_r1 ++ (wsL_act_r2 ++ (wsL_act_r3 ++ (wsL_act_r4 ++ (wsL_act_r5 ++ (wsL_act_r6 ++ wsL_act_r7)))))) ++ wsX30 ++ wsX20 ++ wsX10 ++ wsX00 ++ (vx_atS RX1 31 "java/lang/IllegalStateException" ["java/lang/RuntimeException", "java/lang/Exception"]).filter goodWord ++ (vx_atS RX1 105 "java/lang/IndexOutOfBoundsException" ["java/lang/RuntimeException", "java/lang/Exception"]).filter goodWord ++ (vx_atS RX1 158 "java/lang/IllegalArgumentException" ["java/lang/RuntimeException", "java/lang/Exception"]).filter goodWord)
def wsL_build_r1 : List Cond := [Cond.classLink RL 10 RX3, Cond.instantiable RX3 8, Cond.initialized RX3, Cond.instanceMethod yX3_init, Cond.code yX3_init cX3_init 1 none, Cond.methodLink RX3 1 objectInit, Cond.instanceMethod objectInit, Cond.code objectInit ⟨#[0xb1]⟩ 1 none, Cond.arrayClass .int, Cond.fieldLink RX3 7 "PodGuidewayLaw$Sim" "place" "[I", Cond.classLink RX3 13 "[[I", Cond.fieldLink RX3 15 "PodGuidewayLaw$Sim" "waits" "[[[I", Cond.fieldLink RX3 19 "PodGuidewayLaw$Sim" "arrived" "[I", Cond.classLink RX3 22 RX2, Cond.fieldLink RX3 24 "PodGuidewayLaw$Sim" "pods" "[LPodGuidewayLaw$Pod;", Cond.fieldLink RX3 28 "PodGuidewayLaw$Sim" "followed" "I", Cond.methodLink RL 71 yL_cell, Cond.static yL_cell, Cond.initialized RL, Cond.code yL_cell cL_cell 2 (some .int), Cond.constant RL 8 (790386105), Cond.methodLink RL 75 yL_act, Cond.static yL_act, Cond.code yL_act cL_act 12 (some .boolean)]
def wsL_build_r2 : List Cond := [Cond.fieldLink RL 9 "PodGuidewayLaw$Sim" "place" "[I", Cond.fieldLink RL 15 "PodGuidewayLaw$Sim" "pods" "[LPodGuidewayLaw$Pod;", Cond.classLink RL 37 RX2, Cond.instantiable RX2 7, Cond.initialized RX2, Cond.fieldLink RL 40 "PodGuidewayLaw$Pod" "at" "I", Cond.fieldLink RL 44 "PodGuidewayLaw$Pod" "berth" "I", Cond.fieldLink RL 50 "PodGuidewayLaw$Pod" "slot" "I", Cond.fieldLink RL 53 "PodGuidewayLaw$Pod" "goal" "I", Cond.fieldLink RL 59 "PodGuidewayLaw$Sim" "waits" "[[[I", Cond.methodLink RL 19 yL_below, Cond.static yL_below, Cond.code yL_below cL_below 2 (some .int), Cond.constant RL 7 (2147483647), Cond.methodLink RL 25 yX3_build, Cond.instanceMethod yX3_build, Cond.selects RX3 yX3_build yX3_build, Cond.code yX3_build cX3_build 7 none, Cond.classLink RX3 33 "[I", Cond.methodLink RL 29 yX1_build, Cond.instanceMethod yX1_build, Cond.selects RX1 yX1_build yX1_build, Cond.initialized RX1, Cond.code yX1_build cX1_build 2 (some .int)]
def wsL_build_r3 : List Cond := [Cond.classLink RX1 27 "java/lang/IllegalStateException", Cond.initialized "java/lang/IllegalStateException", Cond.fieldLink RX1 10 "PodGuideway" "now" "LPodGuideway$Ring;", Cond.methodLink RX1 19 yX1_needPlace, Cond.instanceMethod yX1_needPlace, Cond.selects RX1 yX1_needPlace yX1_needPlace, Cond.code yX1_needPlace cX1_needPlace 2 none, Cond.classLink RX1 101 "java/lang/IndexOutOfBoundsException", Cond.initialized "java/lang/IndexOutOfBoundsException", Cond.instanceMethod yX0_stationAtPlace, Cond.initialized RX0, Cond.selects RX0 yX0_stationAtPlace yX0_stationAtPlace, Cond.code yX0_stationAtPlace cX0_stationAtPlace 3 (some .int), Cond.fieldLink RX0 53 "PodGuideway$Ring" "stations" "I", Cond.methodLink RX0 110 yX0_placeOf, Cond.instanceMethod yX0_placeOf, Cond.selects RX0 yX0_placeOf yX0_placeOf, Cond.code yX0_placeOf cX0_placeOf 2 (some .int), Cond.fieldLink RX0 22 "PodGuideway$Ring" "stationPlace" "[I", Cond.methodLink RX0 100 yX0_read, Cond.static yX0_read, Cond.code yX0_read cX0_read 2 (some .int), Cond.instanceMethod yX0_addStation, Cond.selects RX0 yX0_addStation yX0_addStation]
def wsL_build_r4 : List Cond := [Cond.code yX0_addStation cX0_addStation 3 (some .int), Cond.methodLink RX0 72 yX0_write, Cond.static yX0_write, Cond.code yX0_write cX0_write 3 none, Cond.methodLink RL 34 yX3_free, Cond.instanceMethod yX3_free, Cond.selects RX3 yX3_free yX3_free, Cond.code yX3_free cX3_free 3 (some .int), Cond.methodLink RX3 60 yX3_in, Cond.instanceMethod yX3_in, Cond.selects RX3 yX3_in yX3_in, Cond.code yX3_in cX3_in 7 (some (.object "PodGuidewayLaw$Pod")), Cond.fieldLink RX3 51 "PodGuidewayLaw$Pod" "slot" "I", Cond.fieldLink RX3 54 "PodGuidewayLaw$Pod" "at" "I", Cond.fieldLink RX3 57 "PodGuidewayLaw$Pod" "berth" "I", Cond.instanceMethod yX2_init, Cond.code yX2_init cX2_init 1 none, Cond.methodLink RX2 1 objectInit, Cond.fieldLink RX2 7 "PodGuidewayLaw$Pod" "slot" "I", Cond.fieldLink RX2 13 "PodGuidewayLaw$Pod" "goal" "I", Cond.methodLink RL 47 yX1_pod, Cond.instanceMethod yX1_pod, Cond.selects RX1 yX1_pod yX1_pod, Cond.code yX1_pod cX1_pod 2 (some .int)]
def wsL_build_r5 : List Cond := [Cond.methodLink RX1 43 yX1_needStation, Cond.instanceMethod yX1_needStation, Cond.selects RX1 yX1_needStation yX1_needStation, Cond.code yX1_needStation cX1_needStation 2 none, Cond.instanceMethod yX0_firstBerth, Cond.selects RX0 yX0_firstBerth yX0_firstBerth, Cond.code yX0_firstBerth cX0_firstBerth 4 (some .int), Cond.methodLink RX0 123 yX0_berthHolds, Cond.instanceMethod yX0_berthHolds, Cond.selects RX0 yX0_berthHolds yX0_berthHolds, Cond.code yX0_berthHolds cX0_berthHolds 3 (some .int), Cond.fieldLink RX0 19 "PodGuideway$Ring" "podInBerth" "[I", Cond.fieldLink RX0 40 "PodGuideway$Ring" "podGoal" "[I", Cond.instanceMethod yX0_addPod, Cond.selects RX0 yX0_addPod yX0_addPod, Cond.code yX0_addPod cX0_addPod 3 (some .int), Cond.fieldLink RX0 56 "PodGuideway$Ring" "pods" "I", Cond.methodLink RX0 76 yX0_firstBerth, Cond.methodLink RL 56 yX1_send, Cond.instanceMethod yX1_send, Cond.selects RX1 yX1_send yX1_send, Cond.code yX1_send cX1_send 5 (some .int), Cond.methodLink RX1 72 yX1_needPod, Cond.instanceMethod yX1_needPod]
def wsL_build_r6 : List Cond := [Cond.selects RX1 yX1_needPod yX1_needPod, Cond.code yX1_needPod cX1_needPod 2 none, Cond.instanceMethod yX0_berthOf, Cond.selects RX0 yX0_berthOf yX0_berthOf, Cond.code yX0_berthOf cX0_berthOf 2 (some .int), Cond.methodLink RX0 149 yX0_find, Cond.static yX0_find, Cond.code yX0_find cX0_find 3 (some .int), Cond.instanceMethod yX0_goalOf, Cond.selects RX0 yX0_goalOf yX0_goalOf, Cond.code yX0_goalOf cX0_goalOf 2 (some .int), Cond.instanceMethod yX0_setGoal, Cond.selects RX0 yX0_setGoal yX0_setGoal, Cond.code yX0_setGoal cX0_setGoal 3 none, Cond.instanceMethod yX0_placesOn, Cond.selects RX0 yX0_placesOn yX0_placesOn, Cond.code yX0_placesOn cX0_placesOn 3 (some .int), Cond.methodLink RX0 141 yJ9_floorMod_7cf53, Cond.static yJ9_floorMod_7cf53, Cond.initialized RJ9, Cond.code yJ9_floorMod_7cf53 cJ9_floorMod_7cf53 3 (some .int), Cond.methodLink RL 63 yX3_more, Cond.static yX3_more, Cond.code yX3_more cX3_more 4 (some (.array (.array .int)))]
def wsL_build_r7 : List Cond := [Cond.methodLink RL 67 yX1_ride, Cond.instanceMethod yX1_ride, Cond.selects RX1 yX1_ride yX1_ride, Cond.code yX1_ride cX1_ride 3 (some .int), Cond.methodLink RX1 60 yX1_needTwoStations, Cond.instanceMethod yX1_needTwoStations, Cond.selects RX1 yX1_needTwoStations yX1_needTwoStations, Cond.code yX1_needTwoStations cX1_needTwoStations 3 none, Cond.classLink RX1 154 "java/lang/IllegalArgumentException", Cond.initialized "java/lang/IllegalArgumentException", Cond.instanceMethod yX0_waitingAt, Cond.selects RX0 yX0_waitingAt yX0_waitingAt, Cond.code yX0_waitingAt cX0_waitingAt 2 (some .int), Cond.fieldLink RX0 28 "PodGuideway$Ring" "stationWaiting" "[I", Cond.methodLink RX0 146 Lib.Math.max.name, Cond.static Lib.Math.max.name, Cond.initialized "java/lang/Math", Cond.code Lib.Math.max.name Lib.Math.max.code 2 (some .int), Cond.instanceMethod yX0_addRider, Cond.selects RX0 yX0_addRider yX0_addRider, Cond.code yX0_addRider cX0_addRider 5 (some .int), Cond.fieldLink RX0 59 "PodGuideway$Ring" "ridersInAll" "I", Cond.fieldLink RX0 31 "PodGuideway$Ring" "riderNumber" "[I", Cond.fieldLink RX0 34 "PodGuideway$Ring" "riderGoal" "[I"]
def wsL_build_r8 : List Cond := [Cond.fieldLink RX0 37 "PodGuideway$Ring" "riderCame" "[I", Cond.fieldLink RX0 49 "PodGuideway$Ring" "minute" "I", Cond.methodLink RX0 80 yX0_waitingAt, Cond.methodLink RL 79 yX1_pass, Cond.instanceMethod yX1_pass, Cond.selects RX1 yX1_pass yX1_pass, Cond.code yX1_pass cX1_pass 4 (some .int), Cond.methodLink RX1 115 yX1_needMinutes, Cond.instanceMethod yX1_needMinutes, Cond.selects RX1 yX1_needMinutes yX1_needMinutes, Cond.code yX1_needMinutes cX1_needMinutes 2 none, Cond.instanceMethod yX0_arrivedInAll, Cond.selects RX0 yX0_arrivedInAll yX0_arrivedInAll, Cond.code yX0_arrivedInAll cX0_arrivedInAll 3 (some .int), Cond.fieldLink RX0 25 "PodGuideway$Ring" "stationArrived" "[I", Cond.instanceMethod yX0_passMinute, Cond.selects RX0 yX0_passMinute yX0_passMinute, Cond.code yX0_passMinute cX0_passMinute 2 none, Cond.methodLink RX0 84 yX0_moveSlots, Cond.instanceMethod yX0_moveSlots, Cond.selects RX0 yX0_moveSlots yX0_moveSlots, Cond.code yX0_moveSlots cX0_moveSlots 3 none, Cond.fieldLink RX0 15 "PodGuideway$Ring" "podInSlot" "[I", Cond.methodLink RX0 104 arraycopyName]
def wsL_build_r9 : List Cond := [Cond.native arraycopyName, Cond.static arraycopyName, Cond.initialized "java/lang/System", Cond.methodLink RX0 87 yX0_letGoOff, Cond.instanceMethod yX0_letGoOff, Cond.selects RX0 yX0_letGoOff yX0_letGoOff, Cond.code yX0_letGoOff cX0_letGoOff 5 none, Cond.fieldLink RX0 46 "PodGuideway$Ring" "podBarred" "[I", Cond.fieldLink RX0 43 "PodGuideway$Ring" "podRider" "[I", Cond.methodLink RX0 113 yX0_podAtPlace, Cond.instanceMethod yX0_podAtPlace, Cond.selects RX0 yX0_podAtPlace yX0_podAtPlace, Cond.code yX0_podAtPlace cX0_podAtPlace 2 (some .int), Cond.methodLink RX0 116 yX0_goalOf, Cond.methodLink RX0 119 yX0_setGoal, Cond.methodLink RX0 91 yX0_letBoard, Cond.instanceMethod yX0_letBoard, Cond.selects RX0 yX0_letBoard yX0_letBoard, Cond.code yX0_letBoard cX0_letBoard 3 none, Cond.methodLink RX0 126 yX0_boardFirst, Cond.instanceMethod yX0_boardFirst, Cond.selects RX0 yX0_boardFirst yX0_boardFirst, Cond.code yX0_boardFirst cX0_boardFirst 6 none, Cond.fieldLink RX0 65 "PodGuideway$Ring" "waitedBeforeBoarding" "I"]
def wsL_build_r10 : List Cond := [Cond.methodLink RX0 129 yX0_waitedBy, Cond.instanceMethod yX0_waitedBy, Cond.selects RX0 yX0_waitedBy yX0_waitedBy, Cond.code yX0_waitedBy cX0_waitedBy 3 (some .int), Cond.methodLink RX0 94 yX0_letCall, Cond.instanceMethod yX0_letCall, Cond.selects RX0 yX0_letCall yX0_letCall, Cond.code yX0_letCall cX0_letCall 4 none, Cond.fieldLink RX0 62 "PodGuideway$Ring" "callsAnswered" "I", Cond.methodLink RX0 132 yX0_emptyPodsTo, Cond.instanceMethod yX0_emptyPodsTo, Cond.selects RX0 yX0_emptyPodsTo yX0_emptyPodsTo, Cond.code yX0_emptyPodsTo cX0_emptyPodsTo 4 (some .int), Cond.methodLink RX0 135 yX0_stationThatAnswers, Cond.instanceMethod yX0_stationThatAnswers, Cond.selects RX0 yX0_stationThatAnswers yX0_stationThatAnswers, Cond.code yX0_stationThatAnswers cX0_stationThatAnswers 6 (some .int), Cond.methodLink RX0 138 yX0_placesOn, Cond.methodLink RX0 97 yX0_letMerge, Cond.instanceMethod yX0_letMerge, Cond.selects RX0 yX0_letMerge yX0_letMerge, Cond.code yX0_letMerge cX0_letMerge 4 none, Cond.methodLink RL 82 yX3_pass, Cond.instanceMethod yX3_pass]
def wsL_build_r11 : List Cond := [Cond.selects RX3 yX3_pass yX3_pass, Cond.code yX3_pass cX3_pass 11 (some .int), Cond.fieldLink RX3 64 "PodGuidewayLaw$Pod" "goal" "I", Cond.fieldLink RX3 80 "PodGuidewayLaw$Pod" "missed" "I", Cond.fieldLink RX3 67 "PodGuidewayLaw$Pod" "rider" "I", Cond.fieldLink RX3 42 "PodGuidewayLaw$Sim" "minute" "I", Cond.fieldLink RX3 83 "PodGuidewayLaw$Pod" "offs" "I", Cond.fieldLink RX3 48 "PodGuidewayLaw$Sim" "boarded" "I", Cond.fieldLink RX3 45 "PodGuidewayLaw$Sim" "answered" "I", Cond.methodLink RX3 74 yX3_slot, Cond.instanceMethod yX3_slot, Cond.selects RX3 yX3_slot yX3_slot, Cond.code yX3_slot cX3_slot 6 (some (.object "PodGuidewayLaw$Pod")), Cond.methodLink RX3 76 yX3_free, Cond.methodLink RX3 70 yX3_idle, Cond.instanceMethod yX3_idle, Cond.selects RX3 yX3_idle yX3_idle, Cond.code yX3_idle cX3_idle 4 (some (.object "PodGuidewayLaw$Pod")), Cond.methodLink RX3 86 yX3_coming, Cond.instanceMethod yX3_coming, Cond.selects RX3 yX3_coming yX3_coming, Cond.code yX3_coming cX3_coming 7 (some .int), Cond.methodLink RX3 89 yX3_answer, Cond.instanceMethod yX3_answer]
def wsL_build_r12 : List Cond := [Cond.selects RX3 yX3_answer yX3_answer, Cond.code yX3_answer cX3_answer 4 (some .int)]
def wsL_build : List Cond := .code yL_build cL_build 4 (some (.object "PodGuidewayLaw$Sim")) :: ((wsL_build_r1 ++ (wsL_build_r2 ++ (wsL_build_r3 ++ (wsL_build_r4 ++ (wsL_build_r5 ++ (wsL_build_r6 ++ (wsL_build_r7 ++ (wsL_build_r8 ++ (wsL_build_r9 ++ (wsL_build_r10 ++ (wsL_build_r11 ++ wsL_build_r12))))))))))) ++ wsX30 ++ wsX20 ++ wsX10 ++ wsX00 ++ (vx_atS RX1 31 "java/lang/IllegalStateException" ["java/lang/RuntimeException", "java/lang/Exception"]).filter goodWord ++ (vx_atS RX1 105 "java/lang/IndexOutOfBoundsException" ["java/lang/RuntimeException", "java/lang/Exception"]).filter goodWord ++ (vx_atS RX1 158 "java/lang/IllegalArgumentException" ["java/lang/RuntimeException", "java/lang/Exception"]).filter goodWord)
def wsL_law0_r1 : List Cond := [Cond.classLink RL 30 RX1, Cond.instantiable RX1 2, Cond.initialized RX1, Cond.arrayClass .int, Cond.methodLink RL 85 yX1_init, Cond.instanceMethod yX1_init, Cond.code yX1_init cX1_init 1 none, Cond.methodLink RX1 1 objectInit, Cond.instanceMethod objectInit, Cond.code objectInit ⟨#[0xb1]⟩ 1 none, Cond.classLink RX1 7 RX0, Cond.instantiable RX0 17, Cond.initialized RX0, Cond.fieldLink RX1 10 "PodGuideway" "now" "LPodGuideway$Ring;", Cond.fieldLink RX1 16 "PodGuideway" "ahead" "LPodGuideway$Ring;", Cond.instanceMethod yX0_init, Cond.code yX0_init cX0_init 1 none, Cond.methodLink RX0 3 objectInit, Cond.fieldLink RX0 15 "PodGuideway$Ring" "podInSlot" "[I", Cond.fieldLink RX0 19 "PodGuideway$Ring" "podInBerth" "[I", Cond.fieldLink RX0 22 "PodGuideway$Ring" "stationPlace" "[I", Cond.fieldLink RX0 25 "PodGuideway$Ring" "stationArrived" "[I", Cond.fieldLink RX0 28 "PodGuideway$Ring" "stationWaiting" "[I", Cond.fieldLink RX0 31 "PodGuideway$Ring" "riderNumber" "[I"]
def wsL_law0_r2 : List Cond := [Cond.fieldLink RX0 34 "PodGuideway$Ring" "riderGoal" "[I", Cond.fieldLink RX0 37 "PodGuideway$Ring" "riderCame" "[I", Cond.fieldLink RX0 40 "PodGuideway$Ring" "podGoal" "[I", Cond.fieldLink RX0 43 "PodGuideway$Ring" "podRider" "[I", Cond.fieldLink RX0 46 "PodGuideway$Ring" "podBarred" "[I", Cond.methodLink RX0 9 yX0_emptyRow, Cond.static yX0_emptyRow, Cond.code yX0_emptyRow cX0_emptyRow 2 (some (.array .int)), Cond.methodLink RX0 146 Lib.Math.max.name, Cond.static Lib.Math.max.name, Cond.initialized "java/lang/Math", Cond.code Lib.Math.max.name Lib.Math.max.code 2 (some .int), Cond.methodLink RX0 174 yJ7_fill_53178, Cond.static yJ7_fill_53178, Cond.initialized RJ7, Cond.code yJ7_fill_53178 cJ7_fill_53178 4 none, Cond.methodLink RL 86 yL_build, Cond.static yL_build, Cond.initialized RL, Cond.code yL_build cL_build 4 (some (.object "PodGuidewayLaw$Sim")), Cond.classLink RL 10 RX3, Cond.instantiable RX3 8, Cond.initialized RX3, Cond.instanceMethod yX3_init]
def wsL_law0_r3 : List Cond := [Cond.code yX3_init cX3_init 1 none, Cond.methodLink RX3 1 objectInit, Cond.fieldLink RX3 7 "PodGuidewayLaw$Sim" "place" "[I", Cond.classLink RX3 13 "[[I", Cond.fieldLink RX3 15 "PodGuidewayLaw$Sim" "waits" "[[[I", Cond.fieldLink RX3 19 "PodGuidewayLaw$Sim" "arrived" "[I", Cond.classLink RX3 22 RX2, Cond.fieldLink RX3 24 "PodGuidewayLaw$Sim" "pods" "[LPodGuidewayLaw$Pod;", Cond.fieldLink RX3 28 "PodGuidewayLaw$Sim" "followed" "I", Cond.methodLink RL 71 yL_cell, Cond.static yL_cell, Cond.code yL_cell cL_cell 2 (some .int), Cond.constant RL 8 (790386105), Cond.methodLink RL 75 yL_act, Cond.static yL_act, Cond.code yL_act cL_act 12 (some .boolean), Cond.fieldLink RL 9 "PodGuidewayLaw$Sim" "place" "[I", Cond.fieldLink RL 15 "PodGuidewayLaw$Sim" "pods" "[LPodGuidewayLaw$Pod;", Cond.classLink RL 37 RX2, Cond.instantiable RX2 7, Cond.initialized RX2, Cond.fieldLink RL 40 "PodGuidewayLaw$Pod" "at" "I", Cond.fieldLink RL 44 "PodGuidewayLaw$Pod" "berth" "I", Cond.fieldLink RL 50 "PodGuidewayLaw$Pod" "slot" "I"]
def wsL_law0_r4 : List Cond := [Cond.fieldLink RL 53 "PodGuidewayLaw$Pod" "goal" "I", Cond.fieldLink RL 59 "PodGuidewayLaw$Sim" "waits" "[[[I", Cond.methodLink RL 19 yL_below, Cond.static yL_below, Cond.code yL_below cL_below 2 (some .int), Cond.constant RL 7 (2147483647), Cond.methodLink RL 25 yX3_build, Cond.instanceMethod yX3_build, Cond.selects RX3 yX3_build yX3_build, Cond.code yX3_build cX3_build 7 none, Cond.classLink RX3 33 "[I", Cond.methodLink RL 29 yX1_build, Cond.instanceMethod yX1_build, Cond.selects RX1 yX1_build yX1_build, Cond.code yX1_build cX1_build 2 (some .int), Cond.classLink RX1 27 "java/lang/IllegalStateException", Cond.initialized "java/lang/IllegalStateException", Cond.methodLink RX1 19 yX1_needPlace, Cond.instanceMethod yX1_needPlace, Cond.selects RX1 yX1_needPlace yX1_needPlace, Cond.code yX1_needPlace cX1_needPlace 2 none, Cond.classLink RX1 101 "java/lang/IndexOutOfBoundsException", Cond.initialized "java/lang/IndexOutOfBoundsException", Cond.instanceMethod yX0_stationAtPlace]
def wsL_law0_r5 : List Cond := [Cond.selects RX0 yX0_stationAtPlace yX0_stationAtPlace, Cond.code yX0_stationAtPlace cX0_stationAtPlace 3 (some .int), Cond.fieldLink RX0 53 "PodGuideway$Ring" "stations" "I", Cond.methodLink RX0 110 yX0_placeOf, Cond.instanceMethod yX0_placeOf, Cond.selects RX0 yX0_placeOf yX0_placeOf, Cond.code yX0_placeOf cX0_placeOf 2 (some .int), Cond.methodLink RX0 100 yX0_read, Cond.static yX0_read, Cond.code yX0_read cX0_read 2 (some .int), Cond.instanceMethod yX0_addStation, Cond.selects RX0 yX0_addStation yX0_addStation, Cond.code yX0_addStation cX0_addStation 3 (some .int), Cond.methodLink RX0 72 yX0_write, Cond.static yX0_write, Cond.code yX0_write cX0_write 3 none, Cond.methodLink RL 34 yX3_free, Cond.instanceMethod yX3_free, Cond.selects RX3 yX3_free yX3_free, Cond.code yX3_free cX3_free 3 (some .int), Cond.methodLink RX3 60 yX3_in, Cond.instanceMethod yX3_in, Cond.selects RX3 yX3_in yX3_in, Cond.code yX3_in cX3_in 7 (some (.object "PodGuidewayLaw$Pod"))]
def wsL_law0_r6 : List Cond := [Cond.fieldLink RX3 51 "PodGuidewayLaw$Pod" "slot" "I", Cond.fieldLink RX3 54 "PodGuidewayLaw$Pod" "at" "I", Cond.fieldLink RX3 57 "PodGuidewayLaw$Pod" "berth" "I", Cond.instanceMethod yX2_init, Cond.code yX2_init cX2_init 1 none, Cond.methodLink RX2 1 objectInit, Cond.fieldLink RX2 7 "PodGuidewayLaw$Pod" "slot" "I", Cond.fieldLink RX2 13 "PodGuidewayLaw$Pod" "goal" "I", Cond.methodLink RL 47 yX1_pod, Cond.instanceMethod yX1_pod, Cond.selects RX1 yX1_pod yX1_pod, Cond.code yX1_pod cX1_pod 2 (some .int), Cond.methodLink RX1 43 yX1_needStation, Cond.instanceMethod yX1_needStation, Cond.selects RX1 yX1_needStation yX1_needStation, Cond.code yX1_needStation cX1_needStation 2 none, Cond.instanceMethod yX0_firstBerth, Cond.selects RX0 yX0_firstBerth yX0_firstBerth, Cond.code yX0_firstBerth cX0_firstBerth 4 (some .int), Cond.methodLink RX0 123 yX0_berthHolds, Cond.instanceMethod yX0_berthHolds, Cond.selects RX0 yX0_berthHolds yX0_berthHolds, Cond.code yX0_berthHolds cX0_berthHolds 3 (some .int), Cond.instanceMethod yX0_addPod]
def wsL_law0_r7 : List Cond := [Cond.selects RX0 yX0_addPod yX0_addPod, Cond.code yX0_addPod cX0_addPod 3 (some .int), Cond.fieldLink RX0 56 "PodGuideway$Ring" "pods" "I", Cond.methodLink RX0 76 yX0_firstBerth, Cond.methodLink RL 56 yX1_send, Cond.instanceMethod yX1_send, Cond.selects RX1 yX1_send yX1_send, Cond.code yX1_send cX1_send 5 (some .int), Cond.methodLink RX1 72 yX1_needPod, Cond.instanceMethod yX1_needPod, Cond.selects RX1 yX1_needPod yX1_needPod, Cond.code yX1_needPod cX1_needPod 2 none, Cond.instanceMethod yX0_berthOf, Cond.selects RX0 yX0_berthOf yX0_berthOf, Cond.code yX0_berthOf cX0_berthOf 2 (some .int), Cond.methodLink RX0 149 yX0_find, Cond.static yX0_find, Cond.code yX0_find cX0_find 3 (some .int), Cond.instanceMethod yX0_goalOf, Cond.selects RX0 yX0_goalOf yX0_goalOf, Cond.code yX0_goalOf cX0_goalOf 2 (some .int), Cond.instanceMethod yX0_setGoal, Cond.selects RX0 yX0_setGoal yX0_setGoal, Cond.code yX0_setGoal cX0_setGoal 3 none]
def wsL_law0_r8 : List Cond := [Cond.instanceMethod yX0_placesOn, Cond.selects RX0 yX0_placesOn yX0_placesOn, Cond.code yX0_placesOn cX0_placesOn 3 (some .int), Cond.methodLink RX0 141 yJ9_floorMod_7cf53, Cond.static yJ9_floorMod_7cf53, Cond.initialized RJ9, Cond.code yJ9_floorMod_7cf53 cJ9_floorMod_7cf53 3 (some .int), Cond.methodLink RL 63 yX3_more, Cond.static yX3_more, Cond.code yX3_more cX3_more 4 (some (.array (.array .int))), Cond.methodLink RL 67 yX1_ride, Cond.instanceMethod yX1_ride, Cond.selects RX1 yX1_ride yX1_ride, Cond.code yX1_ride cX1_ride 3 (some .int), Cond.methodLink RX1 60 yX1_needTwoStations, Cond.instanceMethod yX1_needTwoStations, Cond.selects RX1 yX1_needTwoStations yX1_needTwoStations, Cond.code yX1_needTwoStations cX1_needTwoStations 3 none, Cond.classLink RX1 154 "java/lang/IllegalArgumentException", Cond.initialized "java/lang/IllegalArgumentException", Cond.instanceMethod yX0_waitingAt, Cond.selects RX0 yX0_waitingAt yX0_waitingAt, Cond.code yX0_waitingAt cX0_waitingAt 2 (some .int), Cond.instanceMethod yX0_addRider]
def wsL_law0_r9 : List Cond := [Cond.selects RX0 yX0_addRider yX0_addRider, Cond.code yX0_addRider cX0_addRider 5 (some .int), Cond.fieldLink RX0 59 "PodGuideway$Ring" "ridersInAll" "I", Cond.fieldLink RX0 49 "PodGuideway$Ring" "minute" "I", Cond.methodLink RX0 80 yX0_waitingAt, Cond.methodLink RL 79 yX1_pass, Cond.instanceMethod yX1_pass, Cond.selects RX1 yX1_pass yX1_pass, Cond.code yX1_pass cX1_pass 4 (some .int), Cond.methodLink RX1 115 yX1_needMinutes, Cond.instanceMethod yX1_needMinutes, Cond.selects RX1 yX1_needMinutes yX1_needMinutes, Cond.code yX1_needMinutes cX1_needMinutes 2 none, Cond.instanceMethod yX0_arrivedInAll, Cond.selects RX0 yX0_arrivedInAll yX0_arrivedInAll, Cond.code yX0_arrivedInAll cX0_arrivedInAll 3 (some .int), Cond.instanceMethod yX0_passMinute, Cond.selects RX0 yX0_passMinute yX0_passMinute, Cond.code yX0_passMinute cX0_passMinute 2 none, Cond.methodLink RX0 84 yX0_moveSlots, Cond.instanceMethod yX0_moveSlots, Cond.selects RX0 yX0_moveSlots yX0_moveSlots, Cond.code yX0_moveSlots cX0_moveSlots 3 none, Cond.methodLink RX0 104 arraycopyName]
def wsL_law0_r10 : List Cond := [Cond.native arraycopyName, Cond.static arraycopyName, Cond.initialized "java/lang/System", Cond.methodLink RX0 87 yX0_letGoOff, Cond.instanceMethod yX0_letGoOff, Cond.selects RX0 yX0_letGoOff yX0_letGoOff, Cond.code yX0_letGoOff cX0_letGoOff 5 none, Cond.methodLink RX0 113 yX0_podAtPlace, Cond.instanceMethod yX0_podAtPlace, Cond.selects RX0 yX0_podAtPlace yX0_podAtPlace, Cond.code yX0_podAtPlace cX0_podAtPlace 2 (some .int), Cond.methodLink RX0 116 yX0_goalOf, Cond.methodLink RX0 119 yX0_setGoal, Cond.methodLink RX0 91 yX0_letBoard, Cond.instanceMethod yX0_letBoard, Cond.selects RX0 yX0_letBoard yX0_letBoard, Cond.code yX0_letBoard cX0_letBoard 3 none, Cond.methodLink RX0 126 yX0_boardFirst, Cond.instanceMethod yX0_boardFirst, Cond.selects RX0 yX0_boardFirst yX0_boardFirst, Cond.code yX0_boardFirst cX0_boardFirst 6 none, Cond.fieldLink RX0 65 "PodGuideway$Ring" "waitedBeforeBoarding" "I", Cond.methodLink RX0 129 yX0_waitedBy, Cond.instanceMethod yX0_waitedBy]
def wsL_law0_r11 : List Cond := [Cond.selects RX0 yX0_waitedBy yX0_waitedBy, Cond.code yX0_waitedBy cX0_waitedBy 3 (some .int), Cond.methodLink RX0 94 yX0_letCall, Cond.instanceMethod yX0_letCall, Cond.selects RX0 yX0_letCall yX0_letCall, Cond.code yX0_letCall cX0_letCall 4 none, Cond.fieldLink RX0 62 "PodGuideway$Ring" "callsAnswered" "I", Cond.methodLink RX0 132 yX0_emptyPodsTo, Cond.instanceMethod yX0_emptyPodsTo, Cond.selects RX0 yX0_emptyPodsTo yX0_emptyPodsTo, Cond.code yX0_emptyPodsTo cX0_emptyPodsTo 4 (some .int), Cond.methodLink RX0 135 yX0_stationThatAnswers, Cond.instanceMethod yX0_stationThatAnswers, Cond.selects RX0 yX0_stationThatAnswers yX0_stationThatAnswers, Cond.code yX0_stationThatAnswers cX0_stationThatAnswers 6 (some .int), Cond.methodLink RX0 138 yX0_placesOn, Cond.methodLink RX0 97 yX0_letMerge, Cond.instanceMethod yX0_letMerge, Cond.selects RX0 yX0_letMerge yX0_letMerge, Cond.code yX0_letMerge cX0_letMerge 4 none, Cond.methodLink RL 82 yX3_pass, Cond.instanceMethod yX3_pass, Cond.selects RX3 yX3_pass yX3_pass, Cond.code yX3_pass cX3_pass 11 (some .int)]
def wsL_law0_r12 : List Cond := [Cond.fieldLink RX3 64 "PodGuidewayLaw$Pod" "goal" "I", Cond.fieldLink RX3 80 "PodGuidewayLaw$Pod" "missed" "I", Cond.fieldLink RX3 67 "PodGuidewayLaw$Pod" "rider" "I", Cond.fieldLink RX3 42 "PodGuidewayLaw$Sim" "minute" "I", Cond.fieldLink RX3 83 "PodGuidewayLaw$Pod" "offs" "I", Cond.fieldLink RX3 48 "PodGuidewayLaw$Sim" "boarded" "I", Cond.fieldLink RX3 45 "PodGuidewayLaw$Sim" "answered" "I", Cond.methodLink RX3 74 yX3_slot, Cond.instanceMethod yX3_slot, Cond.selects RX3 yX3_slot yX3_slot, Cond.code yX3_slot cX3_slot 6 (some (.object "PodGuidewayLaw$Pod")), Cond.methodLink RX3 76 yX3_free, Cond.methodLink RX3 70 yX3_idle, Cond.instanceMethod yX3_idle, Cond.selects RX3 yX3_idle yX3_idle, Cond.code yX3_idle cX3_idle 4 (some (.object "PodGuidewayLaw$Pod")), Cond.methodLink RX3 86 yX3_coming, Cond.instanceMethod yX3_coming, Cond.selects RX3 yX3_coming yX3_coming, Cond.code yX3_coming cX3_coming 7 (some .int), Cond.methodLink RX3 89 yX3_answer, Cond.instanceMethod yX3_answer, Cond.selects RX3 yX3_answer yX3_answer, Cond.code yX3_answer cX3_answer 4 (some .int)]
def wsL_law0_r13 : List Cond := [Cond.methodLink RL 89 yX1_count, Cond.instanceMethod yX1_count, Cond.selects RX1 yX1_count yX1_count, Cond.code yX1_count cX1_count 2 (some .int), Cond.methodLink RX1 91 yX1_needWhat, Cond.instanceMethod yX1_needWhat, Cond.selects RX1 yX1_needWhat yX1_needWhat, Cond.code yX1_needWhat cX1_needWhat 4 none, Cond.instanceMethod yX0_tellCount, Cond.selects RX0 yX0_tellCount yX0_tellCount, Cond.code yX0_tellCount cX0_tellCount 2 (some .int), Cond.methodLink RX0 161 yX0_waitingInAll, Cond.instanceMethod yX0_waitingInAll, Cond.selects RX0 yX0_waitingInAll yX0_waitingInAll, Cond.code yX0_waitingInAll cX0_waitingInAll 3 (some .int), Cond.methodLink RX0 165 yX0_ridersInPods, Cond.instanceMethod yX0_ridersInPods, Cond.selects RX0 yX0_ridersInPods yX0_ridersInPods, Cond.code yX0_ridersInPods cX0_ridersInPods 3 (some .int), Cond.methodLink RX0 168 yX0_arrivedInAll, Cond.methodLink RX0 171 yX0_freeSlots, Cond.instanceMethod yX0_freeSlots, Cond.selects RX0 yX0_freeSlots yX0_freeSlots, Cond.code yX0_freeSlots cX0_freeSlots 3 (some .int)]
def wsL_law0_r14 : List Cond := [Cond.methodLink RL 92 yX1_when, Cond.instanceMethod yX1_when, Cond.selects RX1 yX1_when yX1_when, Cond.code yX1_when cX1_when 4 (some .int), Cond.instanceMethod yX0_copyFrom, Cond.selects RX0 yX0_copyFrom yX0_copyFrom, Cond.code yX0_copyFrom cX0_copyFrom 2 none, Cond.methodLink RX0 68 yX0_copyRow, Cond.static yX0_copyRow, Cond.code yX0_copyRow cX0_copyRow 2 none, Cond.methodLink RX0 180 Lib.Math.min.name, Cond.static Lib.Math.min.name, Cond.code Lib.Math.min.name Lib.Math.min.code 2 (some .int), Cond.methodLink RL 95 yX1_told, Cond.instanceMethod yX1_told, Cond.selects RX1 yX1_told yX1_told, Cond.code yX1_told cX1_told 3 (some .int), Cond.instanceMethod yX0_tellPod, Cond.selects RX0 yX0_tellPod yX0_tellPod, Cond.code yX0_tellPod cX0_tellPod 4 (some .int), Cond.methodLink RX0 155 yX0_berthOf, Cond.methodLink RL 98 yX1_foresee, Cond.instanceMethod yX1_foresee, Cond.selects RX1 yX1_foresee yX1_foresee]
def wsL_law0_r15 : List Cond := [Cond.code yX1_foresee cX1_foresee 4 (some .int), Cond.methodLink RL 101 yX1_station, Cond.instanceMethod yX1_station, Cond.selects RX1 yX1_station yX1_station, Cond.code yX1_station cX1_station 3 (some .int), Cond.instanceMethod yX0_tellStation, Cond.selects RX0 yX0_tellStation yX0_tellStation, Cond.code yX0_tellStation cX0_tellStation 3 (some .int), Cond.methodLink RX0 158 yX0_berthsThatHold, Cond.instanceMethod yX0_berthsThatHold, Cond.selects RX0 yX0_berthsThatHold yX0_berthsThatHold, Cond.code yX0_berthsThatHold cX0_berthsThatHold 5 (some .int), Cond.methodLink RX0 152 yX0_waitedAt, Cond.instanceMethod yX0_waitedAt, Cond.selects RX0 yX0_waitedAt yX0_waitedAt, Cond.code yX0_waitedAt cX0_waitedAt 5 (some .int), Cond.methodLink RL 104 yX1_answers, Cond.instanceMethod yX1_answers, Cond.selects RX1 yX1_answers yX1_answers, Cond.code yX1_answers cX1_answers 2 (some .int), Cond.methodLink RL 107 yX3_isSame, Cond.instanceMethod yX3_isSame, Cond.selects RX3 yX3_isSame yX3_isSame, Cond.code yX3_isSame cX3_isSame 11 (some .boolean)]
def wsL_law0_r16 : List Cond := [Cond.methodLink RX3 92 yX1_waits, Cond.instanceMethod yX1_waits, Cond.selects RX1 yX1_waits yX1_waits, Cond.code yX1_waits cX1_waits 3 (some .int), Cond.instanceMethod yX0_tellRider, Cond.selects RX0 yX0_tellRider yX0_tellRider, Cond.code yX0_tellRider cX0_tellRider 3 (some .int), Cond.methodLink RX3 97 yX1_station, Cond.methodLink RX3 100 yX1_answers, Cond.methodLink RX3 103 yX1_told, Cond.methodLink RX3 106 yX1_slot, Cond.instanceMethod yX1_slot, Cond.selects RX1 yX1_slot yX1_slot, Cond.code yX1_slot cX1_slot 2 (some .int), Cond.methodLink RX3 108 yX3_told, Cond.instanceMethod yX3_told, Cond.selects RX3 yX3_told yX3_told, Cond.code yX3_told cX3_told 7 (some .int), Cond.methodLink RX3 110 yX1_count, Cond.methodLink RX3 113 yX1_mean, Cond.instanceMethod yX1_mean, Cond.selects RX1 yX1_mean yX1_mean, Cond.code yX1_mean cX1_mean 2 (some .double), Cond.instanceMethod yX0_waitedInAll]
def wsL_law0_r17 : List Cond := [Cond.selects RX0 yX0_waitedInAll yX0_waitedInAll, Cond.code yX0_waitedInAll cX0_waitedInAll 3 (some .int)]
def wsL_law0 : List Cond := (wsL_law0_r1 ++ (wsL_law0_r2 ++ (wsL_law0_r3 ++ (wsL_law0_r4 ++ (wsL_law0_r5 ++ (wsL_law0_r6 ++ (wsL_law0_r7 ++ (wsL_law0_r8 ++ (wsL_law0_r9 ++ (wsL_law0_r10 ++ (wsL_law0_r11 ++ (wsL_law0_r12 ++ (wsL_law0_r13 ++ (wsL_law0_r14 ++ (wsL_law0_r15 ++ (wsL_law0_r16 ++ wsL_law0_r17)))))))))))))))) ++ wsX10 ++ wsX00 ++ wsX30 ++ wsX20 ++ ([] : List Cond)
def wsL_law : List Cond := wsL_law0 ++ (vx_atS RX1 31 "java/lang/IllegalStateException" ["java/lang/RuntimeException", "java/lang/Exception"]).filter goodWord ++ (vx_atS RX1 105 "java/lang/IndexOutOfBoundsException" ["java/lang/RuntimeException", "java/lang/Exception"]).filter goodWord ++ (vx_atS RX1 158 "java/lang/IllegalArgumentException" ["java/lang/RuntimeException", "java/lang/Exception"]).filter goodWord
set_option maxRecDepth 20000 in
abbrev vwCl : List vw_C := [(RX0, TX0, 17), (RX1, TX1, 2), (RX2, TX2, 7), (RX3, TX3, 8)]
