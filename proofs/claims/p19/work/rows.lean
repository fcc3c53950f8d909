section
def lw_okq (q : MethodName × Nat) : Prop := (q.1.cls ≠ "java/lang/invoke/MethodHandle" ∧ q.1.cls ≠ "java/lang/invoke/VarHandle") ∧ Cond.instantiable q.1.cls q.2 ∈ tables_1 ∧ Cond.privateMethod q.1 ∈ tables_1 ∧ Cond.instanceMethod q.1 ∈ tables_1
theorem lw_p0 : lw_okq (⟨"PodGuideway", "needPod", "(I)V"⟩, 2) := ⟨⟨by decide +kernel, by decide +kernel⟩, List.mem_of_getElem? (i := 15) (by decide +kernel), List.mem_of_getElem? (i := 104) (by decide +kernel), List.mem_of_getElem? (i := 105) (by decide +kernel)⟩
theorem lw_p1 : lw_okq (⟨"java/lang/Throwable", "fillInStackTrace", "(I)Ljava/lang/Throwable;"⟩, 6) := ⟨⟨by decide +kernel, by decide +kernel⟩, List.mem_of_getElem? (i := 146) (by decide +kernel), List.mem_of_getElem? (i := 144) (by decide +kernel), List.mem_of_getElem? (i := 145) (by decide +kernel)⟩
theorem lw_p2 : lw_okq (⟨"PodGuideway", "needWhat", "(III)V"⟩, 2) := ⟨⟨by decide +kernel, by decide +kernel⟩, List.mem_of_getElem? (i := 15) (by decide +kernel), List.mem_of_getElem? (i := 176) (by decide +kernel), List.mem_of_getElem? (i := 177) (by decide +kernel)⟩
theorem lw_p3 : lw_okq (⟨"PodGuideway$Ring", "tellPod", "(II)I"⟩, 17) := ⟨⟨by decide +kernel, by decide +kernel⟩, List.mem_of_getElem? (i := 23) (by decide +kernel), List.mem_of_getElem? (i := 181) (by decide +kernel), List.mem_of_getElem? (i := 182) (by decide +kernel)⟩
theorem lw_p4 : lw_okq (⟨"PodGuideway$Ring", "berthOf", "(I)I"⟩, 17) := ⟨⟨by decide +kernel, by decide +kernel⟩, List.mem_of_getElem? (i := 23) (by decide +kernel), List.mem_of_getElem? (i := 185) (by decide +kernel), List.mem_of_getElem? (i := 186) (by decide +kernel)⟩
theorem lw_p5 : lw_okq (⟨"PodGuideway$Ring", "goalOf", "(I)I"⟩, 17) := ⟨⟨by decide +kernel, by decide +kernel⟩, List.mem_of_getElem? (i := 23) (by decide +kernel), List.mem_of_getElem? (i := 192) (by decide +kernel), List.mem_of_getElem? (i := 193) (by decide +kernel)⟩
theorem lw_p6 : lw_okq (⟨"PodGuideway", "needStation", "(I)V"⟩, 2) := ⟨⟨by decide +kernel, by decide +kernel⟩, List.mem_of_getElem? (i := 15) (by decide +kernel), List.mem_of_getElem? (i := 203) (by decide +kernel), List.mem_of_getElem? (i := 204) (by decide +kernel)⟩
theorem lw_p7 : lw_okq (⟨"PodGuideway$Ring", "tellStation", "(II)I"⟩, 17) := ⟨⟨by decide +kernel, by decide +kernel⟩, List.mem_of_getElem? (i := 23) (by decide +kernel), List.mem_of_getElem? (i := 208) (by decide +kernel), List.mem_of_getElem? (i := 209) (by decide +kernel)⟩
theorem lw_p8 : lw_okq (⟨"PodGuideway$Ring", "placeOf", "(I)I"⟩, 17) := ⟨⟨by decide +kernel, by decide +kernel⟩, List.mem_of_getElem? (i := 23) (by decide +kernel), List.mem_of_getElem? (i := 212) (by decide +kernel), List.mem_of_getElem? (i := 213) (by decide +kernel)⟩
theorem lw_p9 : lw_okq (⟨"PodGuideway$Ring", "berthsThatHold", "(II)I"⟩, 17) := ⟨⟨by decide +kernel, by decide +kernel⟩, List.mem_of_getElem? (i := 23) (by decide +kernel), List.mem_of_getElem? (i := 216) (by decide +kernel), List.mem_of_getElem? (i := 217) (by decide +kernel)⟩
theorem lw_p10 : lw_okq (⟨"PodGuideway$Ring", "berthHolds", "(I)I"⟩, 17) := ⟨⟨by decide +kernel, by decide +kernel⟩, List.mem_of_getElem? (i := 23) (by decide +kernel), List.mem_of_getElem? (i := 220) (by decide +kernel), List.mem_of_getElem? (i := 221) (by decide +kernel)⟩
theorem lw_p11 : lw_okq (⟨"PodGuideway$Ring", "waitingAt", "(I)I"⟩, 17) := ⟨⟨by decide +kernel, by decide +kernel⟩, List.mem_of_getElem? (i := 23) (by decide +kernel), List.mem_of_getElem? (i := 224) (by decide +kernel), List.mem_of_getElem? (i := 225) (by decide +kernel)⟩
theorem lw_p12 : lw_okq (⟨"PodGuideway$Ring", "emptyPodsTo", "(I)I"⟩, 17) := ⟨⟨by decide +kernel, by decide +kernel⟩, List.mem_of_getElem? (i := 23) (by decide +kernel), List.mem_of_getElem? (i := 228) (by decide +kernel), List.mem_of_getElem? (i := 229) (by decide +kernel)⟩
theorem lw_p13 : lw_okq (⟨"PodGuideway$Ring", "waitedAt", "(I)I"⟩, 17) := ⟨⟨by decide +kernel, by decide +kernel⟩, List.mem_of_getElem? (i := 23) (by decide +kernel), List.mem_of_getElem? (i := 232) (by decide +kernel), List.mem_of_getElem? (i := 233) (by decide +kernel)⟩
theorem lw_p14 : lw_okq (⟨"PodGuideway$Ring", "waitedBy", "(II)I"⟩, 17) := ⟨⟨by decide +kernel, by decide +kernel⟩, List.mem_of_getElem? (i := 23) (by decide +kernel), List.mem_of_getElem? (i := 236) (by decide +kernel), List.mem_of_getElem? (i := 237) (by decide +kernel)⟩
theorem lw_p15 : lw_okq (⟨"PodGuideway$Ring", "tellCount", "(I)I"⟩, 17) := ⟨⟨by decide +kernel, by decide +kernel⟩, List.mem_of_getElem? (i := 23) (by decide +kernel), List.mem_of_getElem? (i := 244) (by decide +kernel), List.mem_of_getElem? (i := 245) (by decide +kernel)⟩
def lw_privs_1 : List (MethodName × Nat) := [(⟨"PodGuideway", "needPod", "(I)V"⟩, 2), (⟨"java/lang/Throwable", "fillInStackTrace", "(I)Ljava/lang/Throwable;"⟩, 6), (⟨"PodGuideway", "needWhat", "(III)V"⟩, 2), (⟨"PodGuideway$Ring", "tellPod", "(II)I"⟩, 17), (⟨"PodGuideway$Ring", "berthOf", "(I)I"⟩, 17), (⟨"PodGuideway$Ring", "goalOf", "(I)I"⟩, 17), (⟨"PodGuideway", "needStation", "(I)V"⟩, 2), (⟨"PodGuideway$Ring", "tellStation", "(II)I"⟩, 17), (⟨"PodGuideway$Ring", "placeOf", "(I)I"⟩, 17), (⟨"PodGuideway$Ring", "berthsThatHold", "(II)I"⟩, 17), (⟨"PodGuideway$Ring", "berthHolds", "(I)I"⟩, 17), (⟨"PodGuideway$Ring", "waitingAt", "(I)I"⟩, 17), (⟨"PodGuideway$Ring", "emptyPodsTo", "(I)I"⟩, 17), (⟨"PodGuideway$Ring", "waitedAt", "(I)I"⟩, 17), (⟨"PodGuideway$Ring", "waitedBy", "(II)I"⟩, 17), (⟨"PodGuideway$Ring", "tellCount", "(I)I"⟩, 17)]
theorem lw_r1 : ∀ q ∈ lw_privs_1, lw_okq q := List.forall_mem_cons.mpr ⟨lw_p0, List.forall_mem_cons.mpr ⟨lw_p1, List.forall_mem_cons.mpr ⟨lw_p2, List.forall_mem_cons.mpr ⟨lw_p3, List.forall_mem_cons.mpr ⟨lw_p4, List.forall_mem_cons.mpr ⟨lw_p5, List.forall_mem_cons.mpr ⟨lw_p6, List.forall_mem_cons.mpr ⟨lw_p7, List.forall_mem_cons.mpr ⟨lw_p8, List.forall_mem_cons.mpr ⟨lw_p9, List.forall_mem_cons.mpr ⟨lw_p10, List.forall_mem_cons.mpr ⟨lw_p11, List.forall_mem_cons.mpr ⟨lw_p12, List.forall_mem_cons.mpr ⟨lw_p13, List.forall_mem_cons.mpr ⟨lw_p14, List.forall_mem_cons.mpr ⟨lw_p15, fun _ h => absurd h List.not_mem_nil⟩⟩⟩⟩⟩⟩⟩⟩⟩⟩⟩⟩⟩⟩⟩⟩
theorem lw_p16 : lw_okq (⟨"PodGuideway$Ring", "waitingInAll", "()I"⟩, 17) := ⟨⟨by decide +kernel, by decide +kernel⟩, List.mem_of_getElem? (i := 23) (by decide +kernel), List.mem_of_getElem? (i := 248) (by decide +kernel), List.mem_of_getElem? (i := 249) (by decide +kernel)⟩
theorem lw_p17 : lw_okq (⟨"PodGuideway$Ring", "ridersInPods", "()I"⟩, 17) := ⟨⟨by decide +kernel, by decide +kernel⟩, List.mem_of_getElem? (i := 23) (by decide +kernel), List.mem_of_getElem? (i := 252) (by decide +kernel), List.mem_of_getElem? (i := 253) (by decide +kernel)⟩
theorem lw_p18 : lw_okq (⟨"PodGuideway$Ring", "arrivedInAll", "()I"⟩, 17) := ⟨⟨by decide +kernel, by decide +kernel⟩, List.mem_of_getElem? (i := 23) (by decide +kernel), List.mem_of_getElem? (i := 256) (by decide +kernel), List.mem_of_getElem? (i := 257) (by decide +kernel)⟩
theorem lw_p19 : lw_okq (⟨"PodGuideway$Ring", "freeSlots", "()I"⟩, 17) := ⟨⟨by decide +kernel, by decide +kernel⟩, List.mem_of_getElem? (i := 23) (by decide +kernel), List.mem_of_getElem? (i := 260) (by decide +kernel), List.mem_of_getElem? (i := 261) (by decide +kernel)⟩
theorem lw_p20 : lw_okq (⟨"PodGuideway$Ring", "podAtPlace", "(I)I"⟩, 17) := ⟨⟨by decide +kernel, by decide +kernel⟩, List.mem_of_getElem? (i := 23) (by decide +kernel), List.mem_of_getElem? (i := 264) (by decide +kernel), List.mem_of_getElem? (i := 265) (by decide +kernel)⟩
theorem lw_p21 : lw_okq (⟨"PodGuideway", "needMinutes", "(I)V"⟩, 2) := ⟨⟨by decide +kernel, by decide +kernel⟩, List.mem_of_getElem? (i := 15) (by decide +kernel), List.mem_of_getElem? (i := 272) (by decide +kernel), List.mem_of_getElem? (i := 273) (by decide +kernel)⟩
theorem lw_p22 : lw_okq (⟨"PodGuideway$Ring", "passMinute", "()V"⟩, 17) := ⟨⟨by decide +kernel, by decide +kernel⟩, List.mem_of_getElem? (i := 23) (by decide +kernel), List.mem_of_getElem? (i := 293) (by decide +kernel), List.mem_of_getElem? (i := 294) (by decide +kernel)⟩
theorem lw_p23 : lw_okq (⟨"PodGuideway$Ring", "moveSlots", "()V"⟩, 17) := ⟨⟨by decide +kernel, by decide +kernel⟩, List.mem_of_getElem? (i := 23) (by decide +kernel), List.mem_of_getElem? (i := 297) (by decide +kernel), List.mem_of_getElem? (i := 298) (by decide +kernel)⟩
theorem lw_p24 : lw_okq (⟨"PodGuideway$Ring", "letGoOff", "(I)V"⟩, 17) := ⟨⟨by decide +kernel, by decide +kernel⟩, List.mem_of_getElem? (i := 23) (by decide +kernel), List.mem_of_getElem? (i := 307) (by decide +kernel), List.mem_of_getElem? (i := 308) (by decide +kernel)⟩
theorem lw_p25 : lw_okq (⟨"PodGuideway$Ring", "firstBerth", "(II)I"⟩, 17) := ⟨⟨by decide +kernel, by decide +kernel⟩, List.mem_of_getElem? (i := 23) (by decide +kernel), List.mem_of_getElem? (i := 311) (by decide +kernel), List.mem_of_getElem? (i := 312) (by decide +kernel)⟩
theorem lw_p26 : lw_okq (⟨"PodGuideway$Ring", "setGoal", "(II)V"⟩, 17) := ⟨⟨by decide +kernel, by decide +kernel⟩, List.mem_of_getElem? (i := 23) (by decide +kernel), List.mem_of_getElem? (i := 315) (by decide +kernel), List.mem_of_getElem? (i := 316) (by decide +kernel)⟩
theorem lw_p27 : lw_okq (⟨"PodGuideway$Ring", "letBoard", "(I)V"⟩, 17) := ⟨⟨by decide +kernel, by decide +kernel⟩, List.mem_of_getElem? (i := 23) (by decide +kernel), List.mem_of_getElem? (i := 319) (by decide +kernel), List.mem_of_getElem? (i := 320) (by decide +kernel)⟩
theorem lw_p28 : lw_okq (⟨"PodGuideway$Ring", "boardFirst", "(II)V"⟩, 17) := ⟨⟨by decide +kernel, by decide +kernel⟩, List.mem_of_getElem? (i := 23) (by decide +kernel), List.mem_of_getElem? (i := 323) (by decide +kernel), List.mem_of_getElem? (i := 324) (by decide +kernel)⟩
theorem lw_p29 : lw_okq (⟨"PodGuideway$Ring", "letCall", "(I)V"⟩, 17) := ⟨⟨by decide +kernel, by decide +kernel⟩, List.mem_of_getElem? (i := 23) (by decide +kernel), List.mem_of_getElem? (i := 327) (by decide +kernel), List.mem_of_getElem? (i := 328) (by decide +kernel)⟩
theorem lw_p30 : lw_okq (⟨"PodGuideway$Ring", "stationThatAnswers", "(I)I"⟩, 17) := ⟨⟨by decide +kernel, by decide +kernel⟩, List.mem_of_getElem? (i := 23) (by decide +kernel), List.mem_of_getElem? (i := 331) (by decide +kernel), List.mem_of_getElem? (i := 332) (by decide +kernel)⟩
theorem lw_p31 : lw_okq (⟨"PodGuideway$Ring", "placesOn", "(II)I"⟩, 17) := ⟨⟨by decide +kernel, by decide +kernel⟩, List.mem_of_getElem? (i := 23) (by decide +kernel), List.mem_of_getElem? (i := 335) (by decide +kernel), List.mem_of_getElem? (i := 336) (by decide +kernel)⟩
def lw_privs_2 : List (MethodName × Nat) := [(⟨"PodGuideway$Ring", "waitingInAll", "()I"⟩, 17), (⟨"PodGuideway$Ring", "ridersInPods", "()I"⟩, 17), (⟨"PodGuideway$Ring", "arrivedInAll", "()I"⟩, 17), (⟨"PodGuideway$Ring", "freeSlots", "()I"⟩, 17), (⟨"PodGuideway$Ring", "podAtPlace", "(I)I"⟩, 17), (⟨"PodGuideway", "needMinutes", "(I)V"⟩, 2), (⟨"PodGuideway$Ring", "passMinute", "()V"⟩, 17), (⟨"PodGuideway$Ring", "moveSlots", "()V"⟩, 17), (⟨"PodGuideway$Ring", "letGoOff", "(I)V"⟩, 17), (⟨"PodGuideway$Ring", "firstBerth", "(II)I"⟩, 17), (⟨"PodGuideway$Ring", "setGoal", "(II)V"⟩, 17), (⟨"PodGuideway$Ring", "letBoard", "(I)V"⟩, 17), (⟨"PodGuideway$Ring", "boardFirst", "(II)V"⟩, 17), (⟨"PodGuideway$Ring", "letCall", "(I)V"⟩, 17), (⟨"PodGuideway$Ring", "stationThatAnswers", "(I)I"⟩, 17), (⟨"PodGuideway$Ring", "placesOn", "(II)I"⟩, 17)]
theorem lw_r2 : ∀ q ∈ lw_privs_2, lw_okq q := List.forall_mem_cons.mpr ⟨lw_p16, List.forall_mem_cons.mpr ⟨lw_p17, List.forall_mem_cons.mpr ⟨lw_p18, List.forall_mem_cons.mpr ⟨lw_p19, List.forall_mem_cons.mpr ⟨lw_p20, List.forall_mem_cons.mpr ⟨lw_p21, List.forall_mem_cons.mpr ⟨lw_p22, List.forall_mem_cons.mpr ⟨lw_p23, List.forall_mem_cons.mpr ⟨lw_p24, List.forall_mem_cons.mpr ⟨lw_p25, List.forall_mem_cons.mpr ⟨lw_p26, List.forall_mem_cons.mpr ⟨lw_p27, List.forall_mem_cons.mpr ⟨lw_p28, List.forall_mem_cons.mpr ⟨lw_p29, List.forall_mem_cons.mpr ⟨lw_p30, List.forall_mem_cons.mpr ⟨lw_p31, fun _ h => absurd h List.not_mem_nil⟩⟩⟩⟩⟩⟩⟩⟩⟩⟩⟩⟩⟩⟩⟩⟩
theorem lw_p32 : lw_okq (⟨"PodGuideway$Ring", "letMerge", "(I)V"⟩, 17) := ⟨⟨by decide +kernel, by decide +kernel⟩, List.mem_of_getElem? (i := 23) (by decide +kernel), List.mem_of_getElem? (i := 342) (by decide +kernel), List.mem_of_getElem? (i := 343) (by decide +kernel)⟩
theorem lw_p33 : lw_okq (⟨"PodGuideway$Ring", "copyFrom", "(LPodGuideway$Ring;)V"⟩, 17) := ⟨⟨by decide +kernel, by decide +kernel⟩, List.mem_of_getElem? (i := 23) (by decide +kernel), List.mem_of_getElem? (i := 351) (by decide +kernel), List.mem_of_getElem? (i := 352) (by decide +kernel)⟩
theorem lw_p34 : lw_okq (⟨"PodGuideway$Ring", "tellRider", "(II)I"⟩, 17) := ⟨⟨by decide +kernel, by decide +kernel⟩, List.mem_of_getElem? (i := 23) (by decide +kernel), List.mem_of_getElem? (i := 410) (by decide +kernel), List.mem_of_getElem? (i := 411) (by decide +kernel)⟩
theorem lw_p35 : lw_okq (⟨"PodGuideway", "needPlace", "(I)V"⟩, 2) := ⟨⟨by decide +kernel, by decide +kernel⟩, List.mem_of_getElem? (i := 15) (by decide +kernel), List.mem_of_getElem? (i := 421) (by decide +kernel), List.mem_of_getElem? (i := 422) (by decide +kernel)⟩
theorem lw_p36 : lw_okq (⟨"PodGuideway$Ring", "waitedInAll", "()I"⟩, 17) := ⟨⟨by decide +kernel, by decide +kernel⟩, List.mem_of_getElem? (i := 23) (by decide +kernel), List.mem_of_getElem? (i := 437) (by decide +kernel), List.mem_of_getElem? (i := 438) (by decide +kernel)⟩
theorem lw_p37 : lw_okq (⟨"PodGuideway$Ring", "stationAtPlace", "(I)I"⟩, 17) := ⟨⟨by decide +kernel, by decide +kernel⟩, List.mem_of_getElem? (i := 23) (by decide +kernel), List.mem_of_getElem? (i := 478) (by decide +kernel), List.mem_of_getElem? (i := 479) (by decide +kernel)⟩
theorem lw_p38 : lw_okq (⟨"PodGuideway$Ring", "addStation", "(I)I"⟩, 17) := ⟨⟨by decide +kernel, by decide +kernel⟩, List.mem_of_getElem? (i := 23) (by decide +kernel), List.mem_of_getElem? (i := 483) (by decide +kernel), List.mem_of_getElem? (i := 484) (by decide +kernel)⟩
theorem lw_p39 : lw_okq (⟨"PodGuideway$Ring", "addPod", "(I)I"⟩, 17) := ⟨⟨by decide +kernel, by decide +kernel⟩, List.mem_of_getElem? (i := 23) (by decide +kernel), List.mem_of_getElem? (i := 530) (by decide +kernel), List.mem_of_getElem? (i := 531) (by decide +kernel)⟩
theorem lw_p40 : lw_okq (⟨"PodGuideway", "needTwoStations", "(II)V"⟩, 2) := ⟨⟨by decide +kernel, by decide +kernel⟩, List.mem_of_getElem? (i := 15) (by decide +kernel), List.mem_of_getElem? (i := 550) (by decide +kernel), List.mem_of_getElem? (i := 551) (by decide +kernel)⟩
theorem lw_p41 : lw_okq (⟨"PodGuideway$Ring", "addRider", "(II)I"⟩, 17) := ⟨⟨by decide +kernel, by decide +kernel⟩, List.mem_of_getElem? (i := 23) (by decide +kernel), List.mem_of_getElem? (i := 556) (by decide +kernel), List.mem_of_getElem? (i := 557) (by decide +kernel)⟩
def lw_privs_3 : List (MethodName × Nat) := [(⟨"PodGuideway$Ring", "letMerge", "(I)V"⟩, 17), (⟨"PodGuideway$Ring", "copyFrom", "(LPodGuideway$Ring;)V"⟩, 17), (⟨"PodGuideway$Ring", "tellRider", "(II)I"⟩, 17), (⟨"PodGuideway", "needPlace", "(I)V"⟩, 2), (⟨"PodGuideway$Ring", "waitedInAll", "()I"⟩, 17), (⟨"PodGuideway$Ring", "stationAtPlace", "(I)I"⟩, 17), (⟨"PodGuideway$Ring", "addStation", "(I)I"⟩, 17), (⟨"PodGuideway$Ring", "addPod", "(I)I"⟩, 17), (⟨"PodGuideway", "needTwoStations", "(II)V"⟩, 2), (⟨"PodGuideway$Ring", "addRider", "(II)I"⟩, 17)]
theorem lw_r3 : ∀ q ∈ lw_privs_3, lw_okq q := List.forall_mem_cons.mpr ⟨lw_p32, List.forall_mem_cons.mpr ⟨lw_p33, List.forall_mem_cons.mpr ⟨lw_p34, List.forall_mem_cons.mpr ⟨lw_p35, List.forall_mem_cons.mpr ⟨lw_p36, List.forall_mem_cons.mpr ⟨lw_p37, List.forall_mem_cons.mpr ⟨lw_p38, List.forall_mem_cons.mpr ⟨lw_p39, List.forall_mem_cons.mpr ⟨lw_p40, List.forall_mem_cons.mpr ⟨lw_p41, fun _ h => absurd h List.not_mem_nil⟩⟩⟩⟩⟩⟩⟩⟩⟩⟩
def lw_privs : List (MethodName × Nat) := lw_privs_1 ++ (lw_privs_2 ++ (lw_privs_3))
def lw_tbl : List Cond := k2_sels lw_privs ++ tables_1
theorem lw_privs_ok : ∀ q ∈ lw_privs, lw_okq q := by
  show ∀ q ∈ lw_privs_1 ++ (lw_privs_2 ++ (lw_privs_3)), lw_okq q
  exact List.forall_mem_append.mpr ⟨lw_r1, List.forall_mem_append.mpr ⟨lw_r2, lw_r3⟩⟩
abbrev lw_cs : List Choice := [Jvm.Choice.named "NaN.bits"]
theorem lw_bits : nanBits ∈ lw_cs := by first | decide | exact List.mem_cons_self | simp [lw_cs, nanBits]

theorem goodIn_r {big : List Cond} (ws : List Cond) (ps : List Nat) (hp : ws = ps.filterMap (fun i => big[i]?)) (h : ws.all goodWord = true) : GoodIn big ws := by
  intro w hw
  have h1 := List.all_eq_true.mp h w hw
  rw [hp] at hw
  obtain ⟨i, -, hi⟩ := List.mem_filterMap.mp hw
  have hm : w ∈ big := by first | exact List.mem_of_getElem? hi | exact List.getElem?_mem hi
  exact ⟨hm, good_of_word h1⟩
theorem goodIn_app {big a b : List Cond} (ha : GoodIn big a) (hb : GoodIn big b) : GoodIn big (a ++ b) := fun w h => (List.mem_append.mp h).elim (ha w) (hb w)
theorem goodIn_ca {big a b : List Cond} {c : Cond} (ha : GoodIn big (c :: a)) (hb : GoodIn big b) : GoodIn big (c :: (a ++ b)) := fun w h => (List.mem_cons.mp h).elim (fun e => ha w (List.mem_cons.mpr (Or.inl e))) (fun h => (List.mem_append.mp h).elim (fun h => ha w (List.mem_cons.mpr (Or.inr h))) (hb w))
theorem goodIn_sub {big ws : List Cond} (hm : ∀ w ∈ ws, w ∈ big) (h : ws.all goodWord = true) : GoodIn big ws := fun w hw => ⟨hm w hw, good_of_word (List.all_eq_true.mp h w hw)⟩
section VXA
def vx_T (XC : String → State → State → Prop) (st : State) (q : Addr) (t : State) (mc ms : Nat) (free : Addr → Prop) : Prop :=
  ∃ (E : String) (ce : Cell) (L : List Loc), XC E st t ∧ t.heap[q]? = some ce ∧ ce.vm = .none ∧ st.vm.findClass E = some ce.cls ∧ st.WarmedH t.vm ∧ st.sameButNew ({ t with vm := st.vm } : State) L mc ms ∧ ∀ z ∈ L, free z.base
def vx_Q (Qc : Array Value → State → Outcome → State → Prop) (XC : String → State → State → Prop) (mc ms : Nat) (free : Addr → Prop) : Array Value → State → Outcome → State → Prop := fun a st o t =>
  (Qc a st o t ∧ ∃ L, FrameEnd st o t L mc ms ∧ ∀ q ∈ L, free q.base) ∨ ∃ q, o = .threw q ∧ vx_T XC st q t mc ms free
def vx_Met (l : Launch) (y : MethodName) (ws : List Cond) (rm : Room) (Pc : Array Value → State → Prop) (Qc : Array Value → State → Outcome → State → Prop) (XC : String → State → State → Prop) (mc ms : Nat) (free : Addr → Prop) : Prop :=
  MetFree l y (headSpec ws rm) Pc (fun _ _ _ _ _ => True) (vx_Q Qc XC mc ms free)
def vx_Post (XC : String → State → State → Prop) (mc ms : Nat) (free : Addr → Prop) : Pt → Array Value → Addr → Pt → Prop := fun A a q B =>
  ∃ (g : JFrame) (mk : MethodId) (t : State) (L : List Loc) (E : String) (ce : Cell), B.U.heap = t.heap ∧ B.U.vm = t.vm ∧ XC E (A.U.calling g mk a) t ∧ t.heap[q]? = some ce ∧ ce.vm = .none ∧ A.U.vm.findClass E = some ce.cls ∧ B.locs = A.locs ++ L ∧ (∀ z ∈ L, free z.base) ∧ B.cells = A.cells + mc ∧ B.slots = A.slots + ms
def vx_Back (l : Launch) (R : Room) (p : Program) (e : Env) (below : List Frame) (s : State) (sargs : Array Value) (y : MethodName) (len W9 : Nat)
    (Pre : Pt → Array Value → Prop) (Post : Pt → Array Value → Option Value → Pt → Prop) (PostX : Pt → Array Value → Addr → Pt → Prop) : Prop :=
  ∀ (m : MethodId) (meth : Method) (c : Code) (A : Pt) (g : JFrame) (ig : Instr) (mk : MethodId) (a : Array Value),
    Stand p l e R s m sargs below meth c A.U A.locs A.cells A.slots → g.method = m → g.locals.size = c.maxLocals → decode c.code g.pc = .ok (ig, len) →
    2 * g.monitorRoom + (g.stack.map fun v => v.category).sum ≤ W9 → A.U.methodNamed? y = some mk → Pre A a →
    (∃ (v : Option Value) (B : Pt), Stand p l e R s m sargs below meth c B.U B.locs B.cells B.slots ∧ Post A a v B ∧
      Steps p.tables e below (doInvoke e (A.U.setTop g) [] mk a).1 (B.U.setTop { g with pc := g.pc + len, stack := v.toList ++ g.stack })) ∨
    (∃ (q : Addr) (B : Pt), Stand p l e R s m sargs below meth c B.U B.locs B.cells B.slots ∧ PostX A a q B ∧
      Steps p.tables e below (doInvoke e (A.U.setTop g) [] mk a).1 ((B.U.setTop g).pushFrame (.throwing q)))
section Payer
variable {l : Launch} {R : Room} {p : Program} {e : Env} {below : List Frame} {s : State} {sargs : Array Value} {y : MethodName} {len W9 : Nat}
theorem vx_back {ws : List Cond} {rm : Room} {Pc : Array Value → State → Prop} {Qc : Array Value → State → Outcome → State → Prop} {XC : String → State → State → Prop} {mc ms : Nat} {free : Addr → Prop} {bytes : ByteArray} {maxL : Nat} {ret : Option FieldType}
    (hM : vx_Met l y ws rm Pc Qc XC mc ms free) (hblind : FrameBlind Pc) (hrc : rm.cells = mc) (hrs : rm.slots = ms)
    (hframes : rm.frames + 1 ≤ R.frames) (hlocals : W9 + (maxL + 11) + rm.locals ≤ R.locals)
    (hws : ∀ w ∈ ws, ∀ a' U, s.WarmedH U.vm → w.before a' U = true) (hcode : Cond.code y bytes maxL ret ∈ ws) (hinit : ∀ a' U, s.WarmedH U.vm → (Cond.initialized y.cls).before a' U = true) :
    vx_Back l R p e below s sargs y len W9 (PreOf R mc ms Pc) (PostOf Qc mc ms free) (vx_Post XC mc ms free) := by
  intro m meth c A g ig mk a X hg hsize hdg hW hn hp
  have h1 : (headSpec ws rm).pre.before a A.U = true := atoms_intro fun w hw => hws w hw _ _ X.warmed
  have h2 : (Cond.code y bytes maxL ret).before a A.U = true := hws _ hcode _ _ X.warmed
  have h3 : (Cond.initialized y.cls).before a A.U = true := hinit _ _ X.warmed
  have h4 : A.cells + (headSpec ws rm).room.cells ≤ R.cells := by rw [show (headSpec ws rm).room.cells = mc from hrc]; exact hp.1
  have h5 : A.slots + (headSpec ws rm).room.slots ≤ R.slots := by rw [show (headSpec ws rm).room.slots = ms from hrs]; exact hp.2.1
  have hPc : Pc a (A.U.calling g mk a) := hblind _ _ _ _ hp.2.2
  obtain ⟨U, Ls, c0, s0⟩ := A
  dsimp only [Pt.U, Pt.locs, Pt.cells, Pt.slots] at h1 h2 h3 h4 h5 X hn hPc ⊢
  obtain ⟨methY, cY, hmY, hcY, -, hlY, -, -, -, -⟩ := Cond.code_spec hn h2
  obtain ⟨kY, hkY, -⟩ := className_of_methodNamed hn
  have hinitY : kY.init = .initialized := Cond.initialized_spec (findClass_of_methodNamed hn) hkY h3
  have h : At U g.method c below := by rw [hg]; exact X.here
  have hlocals9 : W9 + (maxL + 11) + (headSpec ws rm).room.locals ≤ R.locals := hlocals
  have happ : (headSpec ws rm).appliesLoose y e.platform (U.calling g mk a) = true :=
    Spec.appliesLoose_calling (g := g) h hdg hn hkY hinitY
      (X.room_calling (g := g) (R' := (headSpec ws rm).room) hsize hmY hcY hframes (by rw [hlY]; omega) h4 h5) h1
  obtain ⟨mid, hmid⟩ := h.above
  have hfr : (U.setTop g).frames = (.java g :: mid) ++ below := by rw [State.frames_setTop' g h.top, hmid]; rfl
  obtain ⟨o, s₂, hsteps, -, hend, hq⟩ := Steps.callFree hM p X.admits X.cas X.clock (acts := []) hfr happ hPc trivial
  have hq' : vx_Q Qc XC mc ms free a (U.calling g mk a) o s₂ := hq
  rw [State.frames_setTop' g h.top] at hend
  obtain ⟨g₀, hg0⟩ := Option.isSome_iff_exists.mp h.top
  obtain ⟨r, hr⟩ := State.topJava?_eq_some.mp hg0
  have hr' : (({ U with heap := s₂.heap, slotsUsed := s₂.slotsUsed } : State).setVm s₂.vm).frames = .java g₀ :: r := hr
  rcases hq' with ⟨hqc, L, hfe, hL⟩ | ⟨q, rfl, E, ce, L, hx, hce, hcv, hcl, hW₂, hsm, hL⟩
  · obtain ⟨⟨v, rfl⟩, hW₂, e2, q2, q3, q4, q5, q6⟩ := id hfe
    have e3 : s₂ = ({ (U.calling g mk a).setFrames s₂.frames with heap := s₂.heap, slotsUsed := s₂.slotsUsed } : State).setVm s₂.vm := by
      have : s₂ = ({ s₂ with vm := (U.calling g mk a).vm } : State).setVm s₂.vm := rfl
      rw [e2] at this
      exact this
    obtain ⟨c₂, i₂, len₂, hc₂, hd₂, hf₂⟩ := hend
    have hW' : U.WarmedH s₂.vm := hW₂
    have hcc : c₂ = c := by
      have h1 : s₂.code? g.method = U.code? g.method := by
        rw [State.code?_eq, State.code?_eq, hW'.alike.method?]
      exact Option.some.inj (hc₂.symm.trans (h1.trans h.code))
    subst hcc
    have hlen : len₂ = len := by rw [hdg] at hd₂; cases hd₂; rfl
    subst hlen
    have hs₂ : s₂ = (({ U with heap := s₂.heap, slotsUsed := s₂.slotsUsed } : State).setVm s₂.vm).setTop { g with pc := g.pc + len₂, stack := v.toList ++ g.stack } := by
      refine e3.trans ?_
      rw [hf₂, State.calling_eq h.top, State.setFrames_setFrames, State.setTop_of_frames _ hr', hr]
      rfl
    have hsame : U.sameButNew ({ U with heap := s₂.heap, slotsUsed := s₂.slotsUsed } : State) L mc ms := by
      refine ⟨?_, q2, q3, q4, q5, q6⟩
      obtain ⟨t, ht, -⟩ := State.frames_cons hr
      show ({ U with heap := s₂.heap, slotsUsed := s₂.slotsUsed } : State) = { U.setFrames U.frames with heap := s₂.heap, slotsUsed := s₂.slotsUsed }
      rw [State.setFrames_self ht]
    subst hg
    refine Or.inl ⟨v, ⟨(({ U with heap := s₂.heap, slotsUsed := s₂.slotsUsed } : State).setVm s₂.vm), Ls ++ L, c0 + mc, s0 + ms⟩,
      ⟨X.admits, X.cas, X.clock, X.frames, X.room, X.hears, X.method, X.code, (X.here.setHeapUsed s₂.heap s₂.slotsUsed).setVm hW'.alike, X.tail, State.WarmedH.trans X.warmed hW', X.limits, X.bytes, X.same.trans (hsame.setVm s.vm)⟩,
      ⟨g, mk, s₂, L, rfl, rfl, hqc, rfl, hL, rfl, rfl⟩, ?_⟩
    show Steps p.tables e below _ ((({ U with heap := s₂.heap, slotsUsed := s₂.slotsUsed } : State).setVm s₂.vm).setTop { g with pc := g.pc + len₂, stack := v.toList ++ g.stack })
    rw [← hs₂]
    exact hsteps
  · obtain ⟨e2, q2, q3, q4, q5, q6⟩ := id hsm
    have e3 : s₂ = ({ (U.calling g mk a).setFrames s₂.frames with heap := s₂.heap, slotsUsed := s₂.slotsUsed } : State).setVm s₂.vm := by
      have : s₂ = ({ s₂ with vm := (U.calling g mk a).vm } : State).setVm s₂.vm := rfl
      rw [e2] at this
      exact this
    have hf₂ : s₂.frames = .throwing q :: .java g :: U.frames.tail := hend
    have hW' : U.WarmedH s₂.vm := hW₂
    have hs₂ : s₂ = ((({ U with heap := s₂.heap, slotsUsed := s₂.slotsUsed } : State).setVm s₂.vm).setTop g).pushFrame (.throwing q) := by
      refine e3.trans ?_
      rw [hf₂, State.calling_eq h.top, State.setFrames_setFrames, State.pushFrame, State.frames_setTop _ hr', State.setTop_of_frames _ hr', State.setFrames_setFrames, hr]
      rfl
    have hsame : U.sameButNew ({ U with heap := s₂.heap, slotsUsed := s₂.slotsUsed } : State) L mc ms := by
      refine ⟨?_, q2, q3, q4, q5, q6⟩
      obtain ⟨t, ht, -⟩ := State.frames_cons hr
      show ({ U with heap := s₂.heap, slotsUsed := s₂.slotsUsed } : State) = { U.setFrames U.frames with heap := s₂.heap, slotsUsed := s₂.slotsUsed }
      rw [State.setFrames_self ht]
    subst hg
    refine Or.inr ⟨q, ⟨(({ U with heap := s₂.heap, slotsUsed := s₂.slotsUsed } : State).setVm s₂.vm), Ls ++ L, c0 + mc, s0 + ms⟩,
      ⟨X.admits, X.cas, X.clock, X.frames, X.room, X.hears, X.method, X.code, (X.here.setHeapUsed s₂.heap s₂.slotsUsed).setVm hW'.alike, X.tail, State.WarmedH.trans X.warmed hW', X.limits, X.bytes, X.same.trans (hsame.setVm s.vm)⟩,
      ⟨g, mk, s₂, L, E, ce, rfl, rfl, hx, hce, hcv, hcl, rfl, hL, rfl, rfl⟩, ?_⟩
    show Steps p.tables e below _ (((({ U with heap := s₂.heap, slotsUsed := s₂.slotsUsed } : State).setVm s₂.vm).setTop g).pushFrame (.throwing q))
    rw [← hs₂]
    exact hsteps
end Payer
section Calls
variable {p : Program} {l : Launch} {e : Env} {R : Room} {s : State} {m : MethodId} {args : Array Value} {below : List Frame} {meth : Method} {c : Code} {T : State} {locs : List Loc} {cells slots : Nat}
theorem vx_callV (X : Stand p l e R s m args below meth c T locs cells slots) (hexec : p.tables.exec = Jvm.exec) {own C : String} {index : Nat} {y : MethodName} {bytes : ByteArray} {maxL : Nat} {ret : Option FieldType}
    (hown : s.vm.findClass own = some m.cls) (hlink : (Cond.methodLink own index y).before args s = true) (hinst : (Cond.instanceMethod y).before args s = true) (hsel : (Cond.selects C y y).before args s = true)
    (hcode : (Cond.code y bytes maxL ret).before args s = true) (hy : y.cls ≠ "java/lang/invoke/MethodHandle" ∧ y.cls ≠ "java/lang/invoke/VarHandle")
    {W9 : Nat} {Pre : Pt → Array Value → Prop} {Post : Pt → Array Value → Option Value → Pt → Prop} {PostX : Pt → Array Value → Addr → Pt → Prop} (hK : vx_Back l R p e below s args y 3 W9 Pre Post PostX)
    {b : Addr} {cellB : Cell} (hcell : T.heap[b]? = some cellB) (hobj : cellB.vm.isStatics = false) (hcls : s.vm.findClass C = some cellB.cls)
    {g : JFrame} (hg : g.method = m) (hsize : g.locals.size = c.maxLocals) {argsL rest : List Value} (hlen : ∀ sig, parseMethodDescriptor y.desc = some sig → argsL.length = sig.parameters.length)
    (hstack : g.stack = argsL.reverse ++ .ref b :: rest) (hW : 2 * g.monitorRoom + (rest.map fun v => v.category).sum ≤ W9) (hdg : decode c.code g.pc = .ok (.invokevirtual index, 3))
    (hpre : ∀ vm₁, s.WarmedH vm₁ → Pre ⟨T.setVm vm₁, locs, cells, slots⟩ (Value.ref b :: argsL).toArray) :
    (∃ (v : Option Value) (vm₁ : Vm) (B : Pt), s.WarmedH vm₁ ∧ Stand p l e R s m args below meth c B.U B.locs B.cells B.slots ∧ Post ⟨T.setVm vm₁, locs, cells, slots⟩ (Value.ref b :: argsL).toArray v B ∧
      ∀ target, Steps p.tables e below (B.U.setTop { g with pc := g.pc + 3, stack := v.toList ++ rest }) target → Steps p.tables e below (T.setTop g) target) ∨
    (∃ (q : Addr) (vm₁ : Vm) (B : Pt), s.WarmedH vm₁ ∧ Stand p l e R s m args below meth c B.U B.locs B.cells B.slots ∧ PostX ⟨T.setVm vm₁, locs, cells, slots⟩ (Value.ref b :: argsL).toArray q B ∧
      Steps p.tables e below (T.setTop g) ((B.U.setTop { g with stack := rest }).pushFrame (.throwing q))) := by
  obtain ⟨mk, methM, hnamed, hmethM, hstM, habM⟩ := Cond.instanceMethod_spec hinst
  obtain ⟨methM', cM, hmethM', -, -, -, -, -, -, hsigM⟩ := Cond.code_spec hnamed hcode
  cases hmethM.symm.trans hmethM'
  obtain ⟨c2, r2, m2, q1, q2, q3, q4, kP, hkP, hkPi⟩ := Cond.selects_spec hsel
  cases hcls.symm.trans q1
  cases (State.methodFound?_of_named hnamed hy).symm.trans q2
  cases hnamed.symm.trans q3
  have hselP : selectMethod e.platform s.vm cellB.cls mk = .method mk := by rw [Launch.admits_selectMethod X.admits]; exact q4
  obtain ⟨vm₁, X₁, hstep₁⟩ := X.invokevirtual hexec hown hlink hnamed hmethM hstM hkP hkPi hy (a := b) (cell := cellB) hcell
    (fun z h => by rw [h] at hobj; cases hobj) hselP hmethM habM hkP hkPi (g := g) hg (argsL := argsL) (rest := rest) (hlen _ hsigM) hstack hdg
  rcases hK m meth c ⟨T.setVm vm₁, locs, cells, slots⟩ { g with stack := rest } (.invokevirtual index) mk (Value.ref b :: argsL).toArray X₁ hg hsize hdg hW (X₁.named hnamed) (hpre vm₁ X₁.warmed) with ⟨v, B, X', hpost, hsteps⟩ | ⟨q, B, X', hpost, hsteps⟩
  · exact Or.inl ⟨v, vm₁, B, X₁.warmed, X', hpost, fun target h => hstep₁ _ fun acts => by rw [doInvoke_state]; exact hsteps.trans h⟩
  · exact Or.inr ⟨q, vm₁, B, X₁.warmed, X', hpost, hstep₁ _ fun acts => by rw [doInvoke_state]; exact hsteps⟩
theorem vx_callS (X : Stand p l e R s m args below meth c T locs cells slots) (hexec : p.tables.exec = Jvm.exec) {own : String} {index : Nat} {y : MethodName} {bytes : ByteArray} {maxL : Nat} {ret : Option FieldType}
    (hown : s.vm.findClass own = some m.cls) (hlink : (Cond.methodLink own index y).before args s = true) (hstat : (Cond.static y).before args s = true) (hinit : (Cond.initialized y.cls).before args s = true)
    (hcode : (Cond.code y bytes maxL ret).before args s = true) (hy : y.cls ≠ "java/lang/invoke/MethodHandle" ∧ y.cls ≠ "java/lang/invoke/VarHandle")
    {W9 : Nat} {Pre : Pt → Array Value → Prop} {Post : Pt → Array Value → Option Value → Pt → Prop} {PostX : Pt → Array Value → Addr → Pt → Prop} (hK : vx_Back l R p e below s args y 3 W9 Pre Post PostX)
    {g : JFrame} (hg : g.method = m) (hsize : g.locals.size = c.maxLocals) {argsL rest : List Value} (hlen : ∀ sig, parseMethodDescriptor y.desc = some sig → argsL.length = sig.parameters.length)
    (hstack : g.stack = argsL.reverse ++ rest) (hW : 2 * g.monitorRoom + (rest.map fun v => v.category).sum ≤ W9) (hdg : decode c.code g.pc = .ok (.invokestatic index, 3))
    (hpre : ∀ vm₁, s.WarmedH vm₁ → Pre ⟨T.setVm vm₁, locs, cells, slots⟩ argsL.toArray) :
    (∃ (v : Option Value) (vm₁ : Vm) (B : Pt), s.WarmedH vm₁ ∧ Stand p l e R s m args below meth c B.U B.locs B.cells B.slots ∧ Post ⟨T.setVm vm₁, locs, cells, slots⟩ argsL.toArray v B ∧
      ∀ target, Steps p.tables e below (B.U.setTop { g with pc := g.pc + 3, stack := v.toList ++ rest }) target → Steps p.tables e below (T.setTop g) target) ∨
    (∃ (q : Addr) (vm₁ : Vm) (B : Pt), s.WarmedH vm₁ ∧ Stand p l e R s m args below meth c B.U B.locs B.cells B.slots ∧ PostX ⟨T.setVm vm₁, locs, cells, slots⟩ argsL.toArray q B ∧
      Steps p.tables e below (T.setTop g) ((B.U.setTop { g with stack := rest }).pushFrame (.throwing q))) := by
  obtain ⟨mk, hnamed⟩ := Cond.code_named hcode
  obtain ⟨methM, cM, hmethM, -, -, -, -, -, -, hsigM⟩ := Cond.code_spec hnamed hcode
  have hstatic : methM.isStatic = true := Cond.static_spec hnamed hmethM hstat
  obtain ⟨kP, hkP, -⟩ := className_of_methodNamed hnamed
  have hinitP : kP.init = .initialized := Cond.initialized_spec (findClass_of_methodNamed hnamed) hkP hinit
  obtain ⟨vm₁, X₁, hstep₁⟩ := X.invokestatic hexec hown hlink hnamed hmethM hstatic hkP hinitP hy (g := g) hg (argsL := argsL) (rest := rest) (hlen _ hsigM) hstack hdg
  rcases hK m meth c ⟨T.setVm vm₁, locs, cells, slots⟩ { g with stack := rest } (.invokestatic index) mk argsL.toArray X₁ hg hsize hdg hW (X₁.named hnamed) (hpre vm₁ X₁.warmed) with ⟨v, B, X', hpost, hsteps⟩ | ⟨q, B, X', hpost, hsteps⟩
  · exact Or.inl ⟨v, vm₁, B, X₁.warmed, X', hpost, fun target h => hstep₁ _ fun acts => by rw [doInvoke_state]; exact hsteps.trans h⟩
  · exact Or.inr ⟨q, vm₁, B, X₁.warmed, X', hpost, hstep₁ _ fun acts => by rw [doInvoke_state]; exact hsteps⟩
end Calls
theorem vx_cls {s : State} {T : State} {vm₁ : Vm} {E : String} {k : ClassId} (hW : s.WarmedH vm₁) (h : (T.setVm vm₁).vm.findClass E = some k) : s.vm.findClass E = some k := by
  have h1 : vm₁.findClass E = some k := h
  rw [hW.alike.findClass] at h1
  exact h1
def vx_W (p : Program) (l : Launch) (e : Env) (R : Room) (s : State) (m : MethodId) (args : Array Value) (below : List Frame) (meth : Method) (c : Code) (H : Heap) (locs : List Loc) (cells slots : Nat) (Q : State → Prop) (g : JFrame) (q : Addr) : Prop :=
  ∀ T : State, T.heap = H → Stand p l e R s m args below meth c T locs cells slots → ∃ t, Steps p.tables e below ((T.setTop g).pushFrame (.throwing q)) t ∧ Q t
def vx_Run (p : Program) (l : Launch) (e : Env) (R : Room) (s : State) (m : MethodId) (args : Array Value) (below : List Frame) (meth : Method) (c : Code) (H : Heap) (locs : List Loc) (cells slots mc ms : Nat) (g : JFrame) (rest : List Value) (Qa : State → Outcome → State → Prop) (XC : String → State → State → Prop) (free : Addr → Prop) : Prop :=
  ∀ T : State, T.heap = H → Stand p l e R s m args below meth c T locs cells slots →
    (∃ (v : Option Value) (st₀ t T' : State) (L : List Loc), st₀.heap = H ∧ Stand p l e R s m args below meth c T' (locs ++ L) (cells + mc) (slots + ms) ∧ (∀ q ∈ L, free q.base) ∧ T'.heap = t.heap ∧ T'.vm = t.vm ∧ Qa st₀ (.returned v) t ∧
      Goes p e below T g T' { g with pc := g.pc + 3, stack := v.toList ++ rest }) ∨
    (∃ (q : Addr) (st₀ t T' : State) (L : List Loc) (E : String) (ce : Cell), st₀.heap = H ∧ Stand p l e R s m args below meth c T' (locs ++ L) (cells + mc) (slots + ms) ∧ (∀ z ∈ L, free z.base) ∧ T'.heap = t.heap ∧ T'.vm = t.vm ∧ XC E st₀ t ∧ t.heap[q]? = some ce ∧ ce.vm = .none ∧ s.vm.findClass E = some ce.cls ∧
      Steps p.tables e below (T.setTop g) ((T'.setTop { g with stack := rest }).pushFrame (.throwing q)))
def vx_X {S : Type} (px : S → Prop) (B : String → S → State → Prop) (A : Nat → Prop) : String → State → State → Prop := fun E st t => ∃ u : S, px u ∧ B E u t ∧ va_F A st t
section Runs
variable {p : Program} {l : Launch} {e : Env} {R : Room} {s : State} {m : MethodId} {args : Array Value} {below : List Frame} {meth : Method} {c : Code} {H : Heap} {locs : List Loc} {cells slots : Nat}
variable {y : MethodName} {bytes cc : ByteArray} {maxL nL mc ms n index : Nat} {ret : Option FieldType} {ws : List Cond} {rm : Room} {Pc : Array Value → State → Prop} {Qc : Array Value → State → Outcome → State → Prop} {XC : String → State → State → Prop} {free : Addr → Prop} {Ts : List Cond} {own C : String} {b : Addr} {As rest : List Value} {g : JFrame}
theorem vx_callBack (cb : CallB R s args own index y bytes maxL ret ws rm mc ms n) (hM : vx_Met l y ws rm Pc Qc XC mc ms free) (hbl : FrameBlind Pc) : vx_Back l R p e below s args y 3 8 (PreOf R mc ms Pc) (PostOf Qc mc ms free) (vx_Post XC mc ms free) := by
  obtain ⟨hrc, hrs, hfr, hlo, hws, hcw, -, hini, -⟩ := cb
  exact vx_back (bytes := bytes) (maxL := maxL) (ret := ret) hM hbl hrc hrs hfr hlo hws hcw (fun a' U hW => word_at hW (Or.inl (by first | rfl | simp [Cond.onTables, Cond.keeps, Cond.steady])) hini)
theorem vx_runV (S : CallFix p m c cc nL s args Ts own) (hM : vx_Met l y ws rm Pc Qc XC mc ms free) (cw : CallW R s args own C index y bytes maxL ret ws rm mc ms n) (hp : PreV s H C b Pc As)
    (hg : g.method = m) (hn : As.length = n) (hsize : g.locals.size = nL) (hstack : g.stack = As.reverse ++ .ref b :: rest) (hW : 2 * g.monitorRoom + (rest.map fun v => v.category).sum ≤ 8) (hdg : decode cc g.pc = .ok (.invokevirtual index, 3)) (hf : cells + mc ≤ R.cells ∧ slots + ms ≤ R.slots) :
    vx_Run p l e R s m args below meth c H locs cells slots mc ms g rest (Qc (Value.ref b :: As).toArray) XC free := by
  have hK : vx_Back l R p e below s args y 3 8 (PreOf R mc ms Pc) (PostOf Qc mc ms free) (vx_Post XC mc ms free) := vx_callBack cw.1 hM hp.1
  obtain ⟨⟨-, -, -, -, -, -, hcode, -, hy, hlen, hl⟩, hin, hse⟩ := cw
  obtain ⟨hx, hb, hml, ho, -⟩ := S
  obtain ⟨-, ⟨cellB, hcB, hoB, hclB⟩, hPc⟩ := hp
  intro T hT X
  rcases vx_callV X hx (C := C) (bytes := bytes) (maxL := maxL) (ret := ret) ho hl hin hse hcode hy hK (by rw [hT]; exact hcB) hoB hclB hg (hsize.trans hml.symm) (argsL := As) (rest := rest) (fun sig h => hn.trans (hlen sig h)) hstack hW (by rw [hb]; exact hdg)
    (fun vm₁ hW₁ => ⟨hf.1, hf.2, hPc (T.setVm vm₁) hT hW₁⟩) with ⟨v, vm₁, ⟨U', l2, c2, s2⟩, hW₁, X', ⟨g', mk, t, L, e1, e2, hq, h1, hL, h2, h3⟩, st⟩ | ⟨q, vm₁, ⟨U', l2, c2, s2⟩, hW₁, X', ⟨g', mk, t, L, E, ce, e1, e2, hq, hce, hcv, hcl, h1, hL, h2, h3⟩, st⟩
  · dsimp only [Pt.U, Pt.locs, Pt.cells, Pt.slots] at X' e1 e2 h1 h2 h3 st
    subst h1; subst h2; subst h3
    exact Or.inl ⟨v, (T.setVm vm₁).calling g' mk (Value.ref b :: As).toArray, t, U', L, hT, X', hL, e1, e2, hq, st⟩
  · dsimp only [Pt.U, Pt.locs, Pt.cells, Pt.slots] at X' e1 e2 h1 h2 h3 st hcl
    subst h1; subst h2; subst h3
    exact Or.inr ⟨q, (T.setVm vm₁).calling g' mk (Value.ref b :: As).toArray, t, U', L, E, ce, hT, X', hL, e1, e2, hq, hce, hcv, vx_cls hW₁ hcl, st⟩
theorem vx_runS (S : CallFix p m c cc nL s args Ts own) (hM : vx_Met l y ws rm Pc Qc XC mc ms free) (cw : CallB R s args own index y bytes maxL ret ws rm mc ms n ∧ (Cond.static y).before args s = true) (hp : PreS s H Pc As)
    (hg : g.method = m) (hn : As.length = n) (hsize : g.locals.size = nL) (hstack : g.stack = As.reverse ++ rest) (hW : 2 * g.monitorRoom + (rest.map fun v => v.category).sum ≤ 8) (hdg : decode cc g.pc = .ok (.invokestatic index, 3)) (hf : cells + mc ≤ R.cells ∧ slots + ms ≤ R.slots) :
    vx_Run p l e R s m args below meth c H locs cells slots mc ms g rest (Qc As.toArray) XC free := by
  have hK : vx_Back l R p e below s args y 3 8 (PreOf R mc ms Pc) (PostOf Qc mc ms free) (vx_Post XC mc ms free) := vx_callBack cw.1 hM hp.1
  obtain ⟨⟨-, -, -, -, -, -, hcode, hini, hy, hlen, hl⟩, hstt⟩ := cw
  obtain ⟨hx, hb, hml, ho, -⟩ := S
  intro T hT X
  rcases vx_callS X hx (bytes := bytes) (maxL := maxL) (ret := ret) ho hl hstt hini hcode hy hK hg (hsize.trans hml.symm) (argsL := As) (rest := rest) (fun sig h => hn.trans (hlen sig h)) hstack hW (by rw [hb]; exact hdg)
    (fun vm₁ hW₁ => ⟨hf.1, hf.2, hp.2 (T.setVm vm₁) hT hW₁⟩) with ⟨v, vm₁, ⟨U', l2, c2, s2⟩, hW₁, X', ⟨g', mk, t, L, e1, e2, hq, h1, hL, h2, h3⟩, st⟩ | ⟨q, vm₁, ⟨U', l2, c2, s2⟩, hW₁, X', ⟨g', mk, t, L, E, ce, e1, e2, hq, hce, hcv, hcl, h1, hL, h2, h3⟩, st⟩
  · dsimp only [Pt.U, Pt.locs, Pt.cells, Pt.slots] at X' e1 e2 h1 h2 h3 st
    subst h1; subst h2; subst h3
    exact Or.inl ⟨v, (T.setVm vm₁).calling g' mk As.toArray, t, U', L, hT, X', hL, e1, e2, hq, st⟩
  · dsimp only [Pt.U, Pt.locs, Pt.cells, Pt.slots] at X' e1 e2 h1 h2 h3 st hcl
    subst h1; subst h2; subst h3
    exact Or.inr ⟨q, (T.setVm vm₁).calling g' mk As.toArray, t, U', L, E, ce, hT, X', hL, e1, e2, hq, hce, hcv, vx_cls hW₁ hcl, st⟩
end Runs
section Rows
variable {p : Program} {l : Launch} {e : Env} {R : Room} {s : State} {m : MethodId} {args : Array Value} {below : List Frame} {meth : Method} {c : Code} {H : Heap} {locs : List Loc} {cells slots : Nat} {Q : State → Prop}
variable {mc ms : Nat} {free : Addr → Prop} {A0 A1 : Nat → Prop} {H0 : Heap} {a : Array Value} {pc : Nat} {ls : Array Slot} {st0 rest : List Value}
theorem vx_keep {st₀ t T' : State} {L : List Loc} (h0 : st₀.heap = H) (e1 : T'.heap = t.heap) (hS : va_S A0 H0 H locs) (hA : ∀ q, q < H.size → A1 q → A0 q) (hf : ∀ q, free q → A0 q) (hL : ∀ q ∈ L, free q.base) (hF : va_F A1 st₀ t) :
    H.size ≤ T'.heap.size ∧ (∀ q : Nat, q < H.size → ¬ A1 q → T'.heap[q]? = H[q]?) ∧ va_S A0 H0 T'.heap (locs ++ L) := by
  obtain ⟨hz, hk⟩ := hF
  rw [h0] at hz hk
  exact ⟨by rw [e1]; exact hz, fun q h1 h2 => by rw [e1]; exact hk q h1 h2,
    ⟨Nat.le_trans hS.1 (by rw [e1]; exact hz), fun q h1 h2 => by rw [e1, hk q (Nat.lt_of_lt_of_le h1 hS.1) (fun z => h2 (hA q (Nat.lt_of_lt_of_le h1 hS.1) z))]; exact hS.2.1 q h1 h2, fun q hq => by
      rcases List.mem_append.mp hq with h | h
      · exact hS.2.2 q h
      · exact hf _ (hL q h)⟩⟩
theorem vx_calli {S SX : Type} {post : Int32 → S → Prop} {px : SX → Prop} {B : S → State → Prop} {BX : String → SX → State → Prop} {AX : Nat → Prop} (hr : vx_Run p l e R s m args below meth c H locs cells slots mc ms (F0 m pc ls st0) rest (va_Qi post B A1 a) (vx_X px BX AX) free) (hS : va_S A0 H0 H locs) (hA : ∀ q, q < H.size → A1 q → A0 q) (hf : ∀ q, free q → A0 q) (hAX : ∀ q, q < H.size → AX q → A0 q)
    (kx : ∀ (E : String) (ce : Cell) (q9 : Addr) (u : SX) (t : State) (H1 : Heap) (locs1 : List Loc), t.heap = H1 → s.vm.Alike t.vm → px u → BX E u t → H.size ≤ H1.size → (∀ q : Nat, q < H.size → ¬ AX q → H1[q]? = H[q]?) → va_S A0 H0 H1 locs1 → H1[q9]? = some ce → ce.vm = .none → s.vm.findClass E = some ce.cls → vx_W p l e R s m args below meth c H1 locs1 (cells + mc) (slots + ms) Q (F0 m pc ls rest) q9)
    (kk : ∀ (r : Int32) (u : S) (t : State) (H1 : Heap) (locs1 : List Loc), t.heap = H1 → s.vm.Alike t.vm → post r u → B u t → H.size ≤ H1.size → (∀ q : Nat, q < H.size → ¬ A1 q → H1[q]? = H[q]?) → va_S A0 H0 H1 locs1 → W p l e R s m args below meth c H1 locs1 (cells + mc) (slots + ms) Q (F0 m (pc + 3) ls (.int r :: rest))) : W p l e R s m args below meth c H locs cells slots Q (F0 m pc ls st0) := by
  intro T hT X
  rcases hr T hT X with ⟨v, st₀, t, T', L, h0, X', hL, e1, e2, ⟨⟨r, u, hv, hp, hb⟩, hF⟩, st⟩ | ⟨q, st₀, t, T', L, E, ce, h0, X', hL, e1, e2, ⟨u, hp, hb, hF⟩, hce, hcv, hcl, st⟩
  · cases hv
    obtain ⟨k1, k2, k3⟩ := vx_keep h0 e1 hS hA hf hL hF
    obtain ⟨t2, a1, b1⟩ := kk r u t T'.heap (locs ++ L) e1.symm (by rw [← e2]; exact X'.warmed.alike) hp hb k1 k2 k3 T' rfl X'
    exact ⟨t2, st t2 a1, b1⟩
  · obtain ⟨k1, k2, k3⟩ := vx_keep h0 e1 hS hAX hf hL hF
    obtain ⟨t2, a1, b1⟩ := kx E ce q u t T'.heap (locs ++ L) e1.symm (by rw [← e2]; exact X'.warmed.alike) hp hb k1 k2 k3 (by rw [e1]; exact hce) hcv hcl T' rfl X'
    exact ⟨t2, st.trans a1, b1⟩
theorem vx_calll {S SX : Type} {post : Int64 → S → Prop} {px : SX → Prop} {B : S → State → Prop} {BX : String → SX → State → Prop} {AX : Nat → Prop} (hr : vx_Run p l e R s m args below meth c H locs cells slots mc ms (F0 m pc ls st0) rest (va_Ql post B A1 a) (vx_X px BX AX) free) (hS : va_S A0 H0 H locs) (hA : ∀ q, q < H.size → A1 q → A0 q) (hf : ∀ q, free q → A0 q) (hAX : ∀ q, q < H.size → AX q → A0 q)
    (kx : ∀ (E : String) (ce : Cell) (q9 : Addr) (u : SX) (t : State) (H1 : Heap) (locs1 : List Loc), t.heap = H1 → s.vm.Alike t.vm → px u → BX E u t → H.size ≤ H1.size → (∀ q : Nat, q < H.size → ¬ AX q → H1[q]? = H[q]?) → va_S A0 H0 H1 locs1 → H1[q9]? = some ce → ce.vm = .none → s.vm.findClass E = some ce.cls → vx_W p l e R s m args below meth c H1 locs1 (cells + mc) (slots + ms) Q (F0 m pc ls rest) q9)
    (kk : ∀ (r : Int64) (u : S) (t : State) (H1 : Heap) (locs1 : List Loc), t.heap = H1 → s.vm.Alike t.vm → post r u → B u t → H.size ≤ H1.size → (∀ q : Nat, q < H.size → ¬ A1 q → H1[q]? = H[q]?) → va_S A0 H0 H1 locs1 → W p l e R s m args below meth c H1 locs1 (cells + mc) (slots + ms) Q (F0 m (pc + 3) ls (.long r :: rest))) : W p l e R s m args below meth c H locs cells slots Q (F0 m pc ls st0) := by
  intro T hT X
  rcases hr T hT X with ⟨v, st₀, t, T', L, h0, X', hL, e1, e2, ⟨⟨r, u, hv, hp, hb⟩, hF⟩, st⟩ | ⟨q, st₀, t, T', L, E, ce, h0, X', hL, e1, e2, ⟨u, hp, hb, hF⟩, hce, hcv, hcl, st⟩
  · cases hv
    obtain ⟨k1, k2, k3⟩ := vx_keep h0 e1 hS hA hf hL hF
    obtain ⟨t2, a1, b1⟩ := kk r u t T'.heap (locs ++ L) e1.symm (by rw [← e2]; exact X'.warmed.alike) hp hb k1 k2 k3 T' rfl X'
    exact ⟨t2, st t2 a1, b1⟩
  · obtain ⟨k1, k2, k3⟩ := vx_keep h0 e1 hS hAX hf hL hF
    obtain ⟨t2, a1, b1⟩ := kx E ce q u t T'.heap (locs ++ L) e1.symm (by rw [← e2]; exact X'.warmed.alike) hp hb k1 k2 k3 (by rw [e1]; exact hce) hcv hcl T' rfl X'
    exact ⟨t2, st.trans a1, b1⟩
theorem vx_callf {S SX : Type} {post : UInt32 → S → Prop} {px : SX → Prop} {B : S → State → Prop} {BX : String → SX → State → Prop} {AX : Nat → Prop} (hr : vx_Run p l e R s m args below meth c H locs cells slots mc ms (F0 m pc ls st0) rest (va_Qf post B A1 a) (vx_X px BX AX) free) (hS : va_S A0 H0 H locs) (hA : ∀ q, q < H.size → A1 q → A0 q) (hf : ∀ q, free q → A0 q) (hAX : ∀ q, q < H.size → AX q → A0 q)
    (kx : ∀ (E : String) (ce : Cell) (q9 : Addr) (u : SX) (t : State) (H1 : Heap) (locs1 : List Loc), t.heap = H1 → s.vm.Alike t.vm → px u → BX E u t → H.size ≤ H1.size → (∀ q : Nat, q < H.size → ¬ AX q → H1[q]? = H[q]?) → va_S A0 H0 H1 locs1 → H1[q9]? = some ce → ce.vm = .none → s.vm.findClass E = some ce.cls → vx_W p l e R s m args below meth c H1 locs1 (cells + mc) (slots + ms) Q (F0 m pc ls rest) q9)
    (kk : ∀ (r : UInt32) (u : S) (t : State) (H1 : Heap) (locs1 : List Loc), t.heap = H1 → s.vm.Alike t.vm → post r u → B u t → H.size ≤ H1.size → (∀ q : Nat, q < H.size → ¬ A1 q → H1[q]? = H[q]?) → va_S A0 H0 H1 locs1 → W p l e R s m args below meth c H1 locs1 (cells + mc) (slots + ms) Q (F0 m (pc + 3) ls (.float r :: rest))) : W p l e R s m args below meth c H locs cells slots Q (F0 m pc ls st0) := by
  intro T hT X
  rcases hr T hT X with ⟨v, st₀, t, T', L, h0, X', hL, e1, e2, ⟨⟨r, u, hv, hp, hb⟩, hF⟩, st⟩ | ⟨q, st₀, t, T', L, E, ce, h0, X', hL, e1, e2, ⟨u, hp, hb, hF⟩, hce, hcv, hcl, st⟩
  · cases hv
    obtain ⟨k1, k2, k3⟩ := vx_keep h0 e1 hS hA hf hL hF
    obtain ⟨t2, a1, b1⟩ := kk r u t T'.heap (locs ++ L) e1.symm (by rw [← e2]; exact X'.warmed.alike) hp hb k1 k2 k3 T' rfl X'
    exact ⟨t2, st t2 a1, b1⟩
  · obtain ⟨k1, k2, k3⟩ := vx_keep h0 e1 hS hAX hf hL hF
    obtain ⟨t2, a1, b1⟩ := kx E ce q u t T'.heap (locs ++ L) e1.symm (by rw [← e2]; exact X'.warmed.alike) hp hb k1 k2 k3 (by rw [e1]; exact hce) hcv hcl T' rfl X'
    exact ⟨t2, st.trans a1, b1⟩
theorem vx_calld {S SX : Type} {post : UInt64 → S → Prop} {px : SX → Prop} {B : S → State → Prop} {BX : String → SX → State → Prop} {AX : Nat → Prop} (hr : vx_Run p l e R s m args below meth c H locs cells slots mc ms (F0 m pc ls st0) rest (va_Qd post B A1 a) (vx_X px BX AX) free) (hS : va_S A0 H0 H locs) (hA : ∀ q, q < H.size → A1 q → A0 q) (hf : ∀ q, free q → A0 q) (hAX : ∀ q, q < H.size → AX q → A0 q)
    (kx : ∀ (E : String) (ce : Cell) (q9 : Addr) (u : SX) (t : State) (H1 : Heap) (locs1 : List Loc), t.heap = H1 → s.vm.Alike t.vm → px u → BX E u t → H.size ≤ H1.size → (∀ q : Nat, q < H.size → ¬ AX q → H1[q]? = H[q]?) → va_S A0 H0 H1 locs1 → H1[q9]? = some ce → ce.vm = .none → s.vm.findClass E = some ce.cls → vx_W p l e R s m args below meth c H1 locs1 (cells + mc) (slots + ms) Q (F0 m pc ls rest) q9)
    (kk : ∀ (r : UInt64) (u : S) (t : State) (H1 : Heap) (locs1 : List Loc), t.heap = H1 → s.vm.Alike t.vm → post r u → B u t → H.size ≤ H1.size → (∀ q : Nat, q < H.size → ¬ A1 q → H1[q]? = H[q]?) → va_S A0 H0 H1 locs1 → W p l e R s m args below meth c H1 locs1 (cells + mc) (slots + ms) Q (F0 m (pc + 3) ls (.double r :: rest))) : W p l e R s m args below meth c H locs cells slots Q (F0 m pc ls st0) := by
  intro T hT X
  rcases hr T hT X with ⟨v, st₀, t, T', L, h0, X', hL, e1, e2, ⟨⟨r, u, hv, hp, hb⟩, hF⟩, st⟩ | ⟨q, st₀, t, T', L, E, ce, h0, X', hL, e1, e2, ⟨u, hp, hb, hF⟩, hce, hcv, hcl, st⟩
  · cases hv
    obtain ⟨k1, k2, k3⟩ := vx_keep h0 e1 hS hA hf hL hF
    obtain ⟨t2, a1, b1⟩ := kk r u t T'.heap (locs ++ L) e1.symm (by rw [← e2]; exact X'.warmed.alike) hp hb k1 k2 k3 T' rfl X'
    exact ⟨t2, st t2 a1, b1⟩
  · obtain ⟨k1, k2, k3⟩ := vx_keep h0 e1 hS hAX hf hL hF
    obtain ⟨t2, a1, b1⟩ := kx E ce q u t T'.heap (locs ++ L) e1.symm (by rw [← e2]; exact X'.warmed.alike) hp hb k1 k2 k3 (by rw [e1]; exact hce) hcv hcl T' rfl X'
    exact ⟨t2, st.trans a1, b1⟩
theorem vx_callv {S SX : Type} {post : S → Prop} {px : SX → Prop} {B : S → State → Prop} {BX : String → SX → State → Prop} {AX : Nat → Prop} (hr : vx_Run p l e R s m args below meth c H locs cells slots mc ms (F0 m pc ls st0) rest (va_Qv post B A1 a) (vx_X px BX AX) free) (hS : va_S A0 H0 H locs) (hA : ∀ q, q < H.size → A1 q → A0 q) (hf : ∀ q, free q → A0 q) (hAX : ∀ q, q < H.size → AX q → A0 q)
    (kx : ∀ (E : String) (ce : Cell) (q9 : Addr) (u : SX) (t : State) (H1 : Heap) (locs1 : List Loc), t.heap = H1 → s.vm.Alike t.vm → px u → BX E u t → H.size ≤ H1.size → (∀ q : Nat, q < H.size → ¬ AX q → H1[q]? = H[q]?) → va_S A0 H0 H1 locs1 → H1[q9]? = some ce → ce.vm = .none → s.vm.findClass E = some ce.cls → vx_W p l e R s m args below meth c H1 locs1 (cells + mc) (slots + ms) Q (F0 m pc ls rest) q9)
    (kk : ∀ (u : S) (t : State) (H1 : Heap) (locs1 : List Loc), t.heap = H1 → s.vm.Alike t.vm → post u → B u t → H.size ≤ H1.size → (∀ q : Nat, q < H.size → ¬ A1 q → H1[q]? = H[q]?) → va_S A0 H0 H1 locs1 → W p l e R s m args below meth c H1 locs1 (cells + mc) (slots + ms) Q (F0 m (pc + 3) ls (rest))) : W p l e R s m args below meth c H locs cells slots Q (F0 m pc ls st0) := by
  intro T hT X
  rcases hr T hT X with ⟨v, st₀, t, T', L, h0, X', hL, e1, e2, ⟨⟨u, hv, hp, hb⟩, hF⟩, st⟩ | ⟨q, st₀, t, T', L, E, ce, h0, X', hL, e1, e2, ⟨u, hp, hb, hF⟩, hce, hcv, hcl, st⟩
  · cases hv
    obtain ⟨k1, k2, k3⟩ := vx_keep h0 e1 hS hA hf hL hF
    obtain ⟨t2, a1, b1⟩ := kk u t T'.heap (locs ++ L) e1.symm (by rw [← e2]; exact X'.warmed.alike) hp hb k1 k2 k3 T' rfl X'
    exact ⟨t2, st t2 a1, b1⟩
  · obtain ⟨k1, k2, k3⟩ := vx_keep h0 e1 hS hAX hf hL hF
    obtain ⟨t2, a1, b1⟩ := kx E ce q u t T'.heap (locs ++ L) e1.symm (by rw [← e2]; exact X'.warmed.alike) hp hb k1 k2 k3 (by rw [e1]; exact hce) hcv hcl T' rfl X'
    exact ⟨t2, st.trans a1, b1⟩
theorem vx_catch {own name : String} {E : String} {ce : Cell} {q : Addr} (hown : s.vm.findClass own = some m.cls) (pre : List ExceptionTableEntry) (x : ExceptionTableEntry) (suf : List ExceptionTableEntry) (hsplit : c.exceptionTable.toList = pre ++ x :: suf)
    (hpass : ∀ z ∈ pre, covers z pc = false ∨ (z.catchType ≠ 0 ∧ ∃ nm : String, (Cond.classLink own z.catchType nm).before args s = true ∧ va_Nc E nm s)) (hx : covers x pc = true) (h0 : x.catchType ≠ 0)
    (hlink : (Cond.classLink own x.catchType name).before args s = true) (hcast : (Cond.castable E name).before args s = true) (hcell : H[q]? = some ce) (hv : ce.vm = .none) (hcl : s.vm.findClass E = some ce.cls)
    (kk : W p l e R s m args below meth c H locs cells slots Q (F0 m x.handlerPc ls [.ref q])) : vx_W p l e R s m args below meth c H locs cells slots Q (F0 m pc ls rest) q := by
  intro T hT X
  have hpl : e.platform.magicAccessors = ({} : Platform).magicAccessors := by rw [X.admits.platform]
  obtain ⟨c3, c4, hc3, hc4, hasg⟩ := Cond.castable_spec hcast
  cases Option.some.inj (hc3.symm.trans hcl)
  obtain ⟨c5, hc5, hcl5⟩ := Cond.classLink_spec hown hlink e.platform hpl
  cases Option.some.inj (hc4.symm.trans hc5)
  obtain ⟨vm', X', st⟩ := X.thenCaughtThrough q (g := F0 m pc ls rest) rfl (Steps.refl _) (by rw [hT]; exact hcell) (by rw [hv]; rfl) (by obtain ⟨k9, h9, -⟩ := Vm.findClass_spec hcl; exact ⟨k9, h9⟩) pre x suf hsplit
    (fun z hz => by
      rcases hpass z hz with h | ⟨hz0, nm, hl1, hn1⟩
      · exact Or.inl h
      · obtain ⟨c6, hc6, hcl6⟩ := Cond.classLink_spec hown hl1 e.platform hpl
        obtain ⟨a8, b8, h1, h2, h3⟩ := hn1
        cases Option.some.inj (h1.symm.trans hcl)
        cases Option.some.inj (h2.symm.trans hc6)
        exact Or.inr ⟨hz0, _, hcl6, h3⟩) hx (Or.inr ⟨h0, c4, hcl5, hasg⟩)
  obtain ⟨t, a1, b1⟩ := kk (T.setVm vm') hT X'
  exact ⟨t, st.trans a1, b1⟩
end Rows
section Ends
variable {p : Program} {l : Launch} {e : Env} {R : Room} {s : State} {m : MethodId} {args : Array Value} {below : List Frame} {meth : Method} {c : Code} {H : Heap} {locs : List Loc} {cells slots : Nat} {Q : State → Prop}
variable {mc ms : Nat} {free : Addr → Prop} {A0 A1 : Nat → Prop} {H0 : Heap} {a : Array Value} {ls : Array Slot} {st0 rest : List Value}
variable {Qc : Array Value → State → Outcome → State → Prop} {XC : String → State → State → Prop}
def vx_MQ (below : List Frame) (Qc : Array Value → State → Outcome → State → Prop) (XC : String → State → State → Prop) (a : Array Value) (s : State) (mc ms : Nat) (free : Addr → Prop) : State → Prop := fun t =>
  ∃ o, t.status = .running ∧ Ended t below o ∧ vx_Q Qc XC mc ms free a s o t
theorem vx_ret {g : JFrame} {mc ms : Nat} (k : W p l e R s m args below meth c H locs cells slots (MQ below Qc args s mc ms free) g) : W p l e R s m args below meth c H locs cells slots (vx_MQ below Qc XC args s mc ms free) g := by
  intro T hT X
  obtain ⟨t, a1, o, b1, b2, b3, b4⟩ := k T hT X
  exact ⟨t, a1, o, b1, b2, Or.inl ⟨b3, b4⟩⟩
theorem vx_widen {g : JFrame} {q : Addr} {k n : Nat} (h1 : cells ≤ k) (h2 : slots ≤ n) (kk : vx_W p l e R s m args below meth c H locs k n Q g q) : vx_W p l e R s m args below meth c H locs cells slots Q g q := fun T hT X => kk T hT (stand_widen X h1 h2)
theorem vx_out {pc : Nat} {E : String} {ce : Cell} {q : Addr} {mc ms : Nat} (hout : ∀ x ∈ c.exceptionTable.toList, covers x pc = false) (hlocks : meth.locks = false) (hcell : H[q]? = some ce) (hv : ce.vm = .none) (hcl : s.vm.findClass E = some ce.cls)
    (hx : ∀ t : State, t.heap = H → s.vm.Alike t.vm → XC E s t) (hf : ∀ z ∈ locs, free z.base) (hc : cells ≤ mc) (hs : slots ≤ ms) :
    vx_W p l e R s m args below meth c H locs cells slots (vx_MQ below Qc XC args s mc ms free) (F0 m pc ls rest) q := by
  intro T hT X
  obtain ⟨st1, hrun, hend, hW, hsm⟩ := X.leaveThrown q (g := F0 m pc ls rest) rfl rfl rfl hout hlocks
  have hcell9 : (T.setFrames (.throwing q :: below)).heap[q]? = some ce := by
    show T.heap[q]? = some ce
    rw [hT]; exact hcell
  exact ⟨_, st1, .threw q, hrun, hend, Or.inr ⟨q, rfl, E, ce, locs, hx _ hT hW.alike, hcell9, hv, hcl, hW, hsm.mono hc hs, hf⟩⟩
theorem vx_frame {U : State} {k n : Nat} (h : s.sameButNew ({ U with vm := s.vm } : State) locs k n) : s.heap.size ≤ U.heap.size ∧ ∀ q : Nat, q < s.heap.size → (∀ z ∈ locs, z.base ≠ q) → U.heap[q]? = s.heap[q]? := by
  obtain ⟨-, h2, -, -, -, h6⟩ := h
  refine ⟨h2, fun q hq hz => ?_⟩
  obtain ⟨c9, e1, e2, e3, e4⟩ := h6 q _ (Array.getElem?_eq_getElem hq)
  have hs : c9.slots = (s.heap[q]).slots := Array.ext_getElem? fun i => e4 i fun hm => hz _ hm rfl
  have h9 : c9 = s.heap[q] := by
    rw [hs] at e2
    exact e2
  have e5 : U.heap[q]? = some c9 := e1
  rw [e5, h9, Array.getElem?_eq_getElem hq]
def vx_no (w : Cond) : Bool := decide (w ≠ .isRef (.static Bundle.tN "UNASSIGNED_STACK" Bundle.steD)) && decide (w ≠ .isRef (.static Bundle.tN "SUPPRESSED_SENTINEL" Bundle.listD)) && decide (w ≠ .laysStatic Bundle.tN "UNASSIGNED_STACK" Bundle.steD) && decide (w ≠ .laysStatic Bundle.tN "SUPPRESSED_SENTINEL" Bundle.listD)
def vx_at0 (own : String) (ic : Nat) (X : String) (names : List String) : List Cond := (Bundle.ownAtoms0 own ic X names).filter vx_no
def vx_atS (own : String) (ic : Nat) (X : String) (names : List String) : List Cond := (Bundle.ownAtoms own ic X names).filter vx_no
def vx_ot (w : Cond) : Bool := w.onTables || goodWord w
theorem vx_ot_at {args a' : Array Value} {s U : State} {w : Cond} (hW : s.WarmedH U.vm) (hvm : s.vm = U.vm) (hg : vx_ot w = true) (h : w.before args s = true) : w.before a' U = true := by
  simp only [vx_ot, Bool.or_eq_true] at hg
  rcases hg with hg | hg
  · exact va_tabs hg hvm h
  · exact word_at hW (good_of_word hg) h
theorem vx_hat {args : Array Value} {s : State} {L B : List Cond} (h1 : ∀ w ∈ L.filter goodWord, w.before args s = true) (h2 : ∀ w ∈ L.filter (fun w => !goodWord w), w ∈ B) (h3 : ∀ w ∈ B, w.before args s = true) : ∀ w ∈ L, w.before args s = true := by
  intro w hw
  by_cases g : goodWord w = true
  · exact h1 w (List.mem_filter.mpr ⟨hw, g⟩)
  · refine h3 w (h2 w (List.mem_filter.mpr ⟨hw, ?_⟩))
    show (!goodWord w) = true
    cases hgw : goodWord w
    · rfl
    · exact absurd hgw g
theorem vx_c {args : Array Value} {s : State} {w : Cond} {B : List Cond} (h : w.before args s = true) (t : ∀ w ∈ B, w.before args s = true) : ∀ w' ∈ w :: B, w'.before args s = true := fun w' h' => (List.mem_cons.mp h').elim (fun e => by rw [e]; exact h) (t w')
theorem vx_n {args : Array Value} {s : State} : ∀ w ∈ ([] : List Cond), w.before args s = true := fun _ h => nomatch h
theorem vx_own {args : Array Value} {s : State} {L : List Cond} (h1 : ∀ w ∈ L.filter vx_no, w.before args s = true)
    (hU : (Cond.isRef (.static Bundle.tN "UNASSIGNED_STACK" Bundle.steD)).before args s = true) (hN : (Cond.isRef (.static Bundle.tN "SUPPRESSED_SENTINEL" Bundle.listD)).before args s = true)
    (lU : (Cond.laysStatic Bundle.tN "UNASSIGNED_STACK" Bundle.steD).before args s = true) (lN : (Cond.laysStatic Bundle.tN "SUPPRESSED_SENTINEL" Bundle.listD).before args s = true) : ∀ w ∈ L, w.before args s = true := by
  intro w hw
  by_cases e1 : w = .isRef (.static Bundle.tN "UNASSIGNED_STACK" Bundle.steD)
  · rw [e1]; exact hU
  · by_cases e2 : w = .isRef (.static Bundle.tN "SUPPRESSED_SENTINEL" Bundle.listD)
    · rw [e2]; exact hN
    · by_cases e3 : w = .laysStatic Bundle.tN "UNASSIGNED_STACK" Bundle.steD
      · rw [e3]; exact lU
      · by_cases e4 : w = .laysStatic Bundle.tN "SUPPRESSED_SENTINEL" Bundle.listD
        · rw [e4]; exact lN
        · exact h1 w (List.mem_filter.mpr ⟨hw, by unfold vx_no; rw [decide_eq_true e1, decide_eq_true e2, decide_eq_true e3, decide_eq_true e4]; rfl⟩)
def vx_L (C n d : String) (A : Nat → Prop) (U : State) (H : Heap) : Prop := ∃ (c : ClassId) (k : Class) (i : Nat) (f : Field) (a : Nat) (cell : Cell), U.vm.findClass C = some c ∧ U.fieldFound? C n d = some (c, k, i, f) ∧ f.isStatic = true ∧ k.statics = some a ∧ H[a]? = some cell ∧ cell.vm.isStatics = true ∧ cell.cls = c ∧ f.slot < cell.slots.size ∧ k.staticTypes[f.slot]? = some f.type ∧ ¬ A a
theorem vx_L.moved {C n d : String} {A : Nat → Prop} {u U : State} {H : Heap} (hvm : u.vm.Alike U.vm) (h : vx_L C n d A u H) : vx_L C n d A U H := by
  obtain ⟨c, k, i, f, a, cell, h1, h2, h3, h4, h5, h6, h7, h8, h9, h10⟩ := h
  obtain ⟨k', hi', he⟩ := State.fieldFound?_setVm hvm h2
  exact ⟨c, k', i, f, a, cell, by rw [hvm.findClass]; exact h1, hi', h3, by rw [he]; exact h4, h5, h6, h7, h8, by rw [he]; exact h9, h10⟩
theorem vx_L.kept {C n d : String} {A : Nat → Prop} {U : State} {H H1 : Heap} (h : vx_L C n d A U H) (hq : ∀ a : Nat, a < H.size → ¬ A a → H1[a]? = H[a]?) : vx_L C n d A U H1 := by
  obtain ⟨c, k, i, f, a, cell, h1, h2, h3, h4, h5, h6, h7, h8, h9, h10⟩ := h
  exact ⟨c, k, i, f, a, cell, h1, h2, h3, h4, by rw [hq a (Array.getElem?_eq_some_iff.mp h5).1 h10]; exact h5, h6, h7, h8, h9, h10⟩
theorem vx_L.narrow {C n d : String} {A B : Nat → Prop} {U : State} {H : Heap} (h : vx_L C n d A U H) (hAB : ∀ q, B q → A q) : vx_L C n d B U H := by
  obtain ⟨c, k, i, f, a, cell, h1, h2, h3, h4, h5, h6, h7, h8, h9, h10⟩ := h
  exact ⟨c, k, i, f, a, cell, h1, h2, h3, h4, h5, h6, h7, h8, h9, fun z => h10 (hAB _ z)⟩
theorem vx_L.word {C n d : String} {A : Nat → Prop} {s : State} {args : Array Value} (h : vx_L C n d A s s.heap) : (Cond.laysStatic C n d).before args s = true := by
  obtain ⟨c, k, i, f, a, cell, h1, h2, h3, h4, h5, h6, h7, h8, h9, -⟩ := h
  show (Cond.laysStatic C n d).holds args s none s [] = true
  exact Cond.laysStatic_of h1 h2 h3 h4 h5 h6 h7 h8 h9
def vx_Zq (C n d : String) (A : Nat → Prop) (U : State) (H : Heap) : Prop := va_Zq C n d A U H ∧ vx_L C n d A U H
theorem vx_Zq.moved {C n d : String} {A : Nat → Prop} {u U : State} {H : Heap} (hvm : u.vm.Alike U.vm) (h : vx_Zq C n d A u H) : vx_Zq C n d A U H := ⟨va_Zq.moved hvm h.1, vx_L.moved hvm h.2⟩
theorem vx_Zq.kept {C n d : String} {A : Nat → Prop} {U : State} {H H1 : Heap} (h : vx_Zq C n d A U H) (hq : ∀ a : Nat, a < H.size → ¬ A a → H1[a]? = H[a]?) : vx_Zq C n d A U H1 := ⟨va_Zq.kept h.1 hq, vx_L.kept h.2 hq⟩
theorem vx_Zq.narrow {C n d : String} {A B : Nat → Prop} {U : State} {H : Heap} (h : vx_Zq C n d A U H) (hAB : ∀ q, B q → A q) : vx_Zq C n d B U H := ⟨va_Zq.narrow h.1 hAB, vx_L.narrow h.2 hAB⟩
theorem vx_Zqof {args : Array Value} {s : State} {C n d : String} {A : Nat → Prop} (hl : (Cond.laysStatic C n d).before args s = true) (hini : (Cond.initialized C).before args s = true) (h : (Cond.isRef (.static C n d)).before args s = true) (hA : ∀ a : Nat, a < s.heap.size → ¬ A a) : vx_Zq C n d A s s.heap := by
  refine ⟨va_Zqof hl hini h hA, ?_⟩
  obtain ⟨c, k, i, f, a, cell, h1, h2, h3, h4, h5, h6, h7, h8, h9⟩ := Cond.laysStatic_spec hl
  exact ⟨c, k, i, f, a, cell, h1, h2, h3, h4, h5, h6, h7, h8, h9, hA a (Array.getElem?_eq_some_iff.mp h5).1⟩
theorem vx_isRef {C n d : String} {v : Value} {A : Nat → Prop} {s : State} {args : Array Value} (h : va_Z C n d v A s s.heap) (hv : v.isRef = true) : (Cond.isRef (.static C n d)).before args s = true := by
  obtain ⟨cf, kf, fi, f, a, cell, h1, h2, h3, h4, h5, h6, h7, -⟩ := h
  have he : (Term.static C n d).eval args s none [] s = some v := by
    simp [Term.eval, State.fieldNamed?, h1, h2, h4, h5, h6, h7]
  simp only [Cond.before, Cond.holds, Cond.value, he]
  cases v <;> simp_all [Value.isRef]
theorem vx_isRefq {C n d : String} {A : Nat → Prop} {s : State} {args : Array Value} (h : va_Zq C n d A s s.heap) : (Cond.isRef (.static C n d)).before args s = true := by
  rcases h with h | ⟨t, h⟩
  · exact vx_isRef h rfl
  · exact vx_isRef h rfl
theorem vx_rebase {T : State} (X : Stand p l e R s m args below meth c T locs cells slots) {R' : Room} (hf : R'.frames ≤ R.frames) (hl : R'.locals ≤ R.locals) (hc : cells + R'.cells ≤ R.cells) (hs : slots + R'.slots ≤ R.slots) :
    Stand p l e R' ((T.setVm s.vm).setFrames (.invoking m args :: below)) m args below meth c T [] 0 0 := by
  have htop : (T.setVm s.vm).topJava?.isSome := X.here.top
  have hF : ((T.setVm s.vm).setFrames (.invoking m args :: below)).frames = .invoking m args :: below := State.frames_setFrames _ (State.cur_lt_of_top htop)
  obtain ⟨g₀, hg0⟩ := Option.isSome_iff_exists.mp htop
  obtain ⟨r, hr⟩ := State.topJava?_eq_some.mp hg0
  have hl9 : e.platform.stackLimits (T.setVm s.vm).me = e.platform.stackLimits s.me := X.limits
  have hb9 : (T.setVm s.vm).me.stackBytes = s.me.stackBytes := X.bytes
  refine ⟨X.admits, X.cas, X.clock, hF, ?_, X.hears, X.method, X.code, X.here, X.tail, X.warmed, ?_, ?_, ?_⟩
  · have h := X.room
    have hU : ((T.setVm s.vm).setFrames (.invoking m args :: below)).localsInUse = s.localsInUse := by
      rw [State.localsInUse_invoking hF (meth := meth) (c := c) X.method X.code, State.localsInUse_invoking X.frames X.method X.code]
    simp only [State.hasRoom, Bool.and_eq_true, decide_eq_true_eq] at h ⊢
    obtain ⟨⟨⟨⟨h1, h2, h3, h4, h5, h6⟩, h7⟩, h8⟩, h9⟩ := h
    rw [X.frames, List.length_cons] at h2 h3
    have q1 := X.heapSize
    have q2 := X.used
    simp only [hF, hU, List.length_cons, State.stackLimits_setFrames, State.stackBytes_setFrames, hl9, hb9]
    refine ⟨⟨⟨⟨by omega, by omega, by omega, by omega, by omega, h6⟩, ?_⟩, ?_⟩, X.book⟩
    · show T.heap.size + R'.cells ≤ e.platform.maxCells
      omega
    · show T.slotsUsed + R'.slots ≤ e.platform.maxSlots
      omega
  · rw [State.stackLimits_setFrames]; rfl
  · rw [State.stackBytes_setFrames]; rfl
  · refine ⟨?_, Nat.le_refl _, Nat.le_refl _, ?_, ?_, fun a c9 h9 => ⟨c9, h9, rfl, rfl, fun _ _ => rfl⟩⟩
    · obtain ⟨t, ht, -⟩ := State.frames_cons hr
      show T.setVm s.vm = { ((T.setVm s.vm).setFrames (.invoking m args :: below)).setFrames (T.setVm s.vm).frames with heap := T.heap, slotsUsed := T.slotsUsed }
      rw [State.setFrames_setFrames, State.setFrames_self ht]
      rfl
    · show T.slotsUsed = T.slotsUsed + ((T.heap.toList.drop T.heap.size).map (·.slots.size)).sum
      rw [List.drop_eq_nil_of_le (Nat.le_of_eq Array.length_toList)]
      rfl
    · show ((T.heap.toList.drop T.heap.size).map (·.slots.size)).sum ≤ 0
      rw [List.drop_eq_nil_of_le (Nat.le_of_eq Array.length_toList)]
      exact Nat.le_refl _
theorem vx_throw0 {cc : ByteArray} {pc : Nat} (hexec : p.tables.exec = Jvm.exec) (hb : c.code = cc) (hl : l.stackTraces = false) {own cls : String} {names : List String} {ik ic mc ms : Nat} {A : Nat → Prop}
    (hown : s.vm.findClass own = some m.cls) (hcls : Bundle.fit cls = true) (hnames : ∀ n ∈ names, Bundle.fit n = true)
    (hk : (Cond.classLink own ik cls).before args s = true) (hini : (Cond.initialized cls).before args s = true) (hat : ∀ w ∈ vx_at0 own ic cls names, w.before args s = true)
    (hgood : ∀ w ∈ Cond.classLink own ik cls :: Cond.initialized cls :: vx_at0 own ic cls names, vx_ot w = true)
    (hU : vx_Zq Bundle.tN "UNASSIGNED_STACK" Bundle.steD A s s.heap) (hN : vx_Zq Bundle.tN "SUPPRESSED_SENTINEL" Bundle.listD A s s.heap) (hS : va_S A s.heap H locs) (hsize : ls.size = c.maxLocals)
    (d0 : decode cc pc = .ok (.new ik, 3)) (d3 : decode cc (pc + 3) = .ok (.dup, 1)) (d4 : decode cc (pc + 4) = .ok (.invokespecial ic, 3)) (d7 : decode cc (pc + 7) = .ok (.athrow, 1))
    (hout : ∀ x ∈ c.exceptionTable.toList, covers x (pc + 7) = false)
    (hRframes : names.length + 3 < R.frames) (hRlocals : (rest.map fun v => v.category).sum + (13 * (names.length + 1) + 42) ≤ R.locals) (hRcells : cells + 1 ≤ R.cells) (hRslots : slots + 6 ≤ R.slots) (hlocks : meth.locks = false)
    (hx : ∀ t : State, s.vm.Alike t.vm → H.size ≤ t.heap.size → (∀ q : Nat, q < H.size → t.heap[q]? = H[q]?) → XC cls s t)
    (hf : ∀ z ∈ locs, free z.base) (hc : cells + 1 ≤ mc) (hs : slots + 6 ≤ ms) :
    W p l e R s m args below meth c H locs cells slots (vx_MQ below Qc XC args s mc ms free) (F0 m pc ls rest) := by
  intro T hT X
  have htr : e.platform.stackTraces = false := (show e.platform.stackTraces = l.stackTraces by rw [X.admits.platform]).trans hl
  have Y := vx_rebase X (R' := { frames := R.frames, locals := R.locals, cells := 1, slots := 6 }) (Nat.le_refl _) (Nat.le_refl _) hRcells hRslots
  obtain ⟨s', hA⟩ : ∃ z, z = (T.setVm s.vm).setFrames (.invoking m args :: below) := ⟨_, rfl⟩
  rw [← hA] at Y
  have hvm : s'.vm = s.vm := by rw [hA]; rfl
  have hhp : s'.heap = H := by rw [hA]; exact hT
  have hW0 : s.WarmedH s'.vm := by rw [hvm]; exact State.WarmedH.refl s
  have hat' : ∀ w ∈ vx_at0 own ic cls names, w.before args s' = true := fun w hw => vx_ot_at hW0 hvm.symm (hgood w (List.mem_cons_of_mem _ (List.mem_cons_of_mem _ hw))) (hat w hw)
  have hk' : (Cond.classLink own ik cls).before args s' = true := vx_ot_at hW0 hvm.symm (hgood _ List.mem_cons_self) hk
  have hini' : (Cond.initialized cls).before args s' = true := vx_ot_at hW0 hvm.symm (hgood _ (List.mem_cons_of_mem _ List.mem_cons_self)) hini
  have hU' : vx_Zq Bundle.tN "UNASSIGNED_STACK" Bundle.steD A s' s'.heap := by rw [hhp]; exact vx_Zq.moved hW0.alike (hU.kept hS.2.1)
  have hN' : vx_Zq Bundle.tN "SUPPRESSED_SENTINEL" Bundle.listD A s' s'.heap := by rw [hhp]; exact vx_Zq.moved hW0.alike (hN.kept hS.2.1)
  have h : ∀ w ∈ Bundle.ownAtoms0 own ic cls names, w.before args s' = true := vx_own hat' (vx_isRefq hU'.1) (vx_isRefq hN'.1) hU'.2.word hN'.2.word
  have hown' : s'.vm.findClass own = some m.cls := by rw [hvm]; exact hown
  have hins : (Cond.instantiable cls 6).before args s' = true := h _ (by simp [Bundle.ownAtoms0])
  obtain ⟨vm₁, cX, kX, hfX, hkX, -, -, X₁, st1⟩ := Y.newCold hexec (own := own) (C := cls) (index := ik) (n := 6) hown' hk' hins hini'
    (g := F0 m pc ls rest) rfl (by rw [hb]; exact d0) (Nat.le_refl _) (Nat.le_refl _)
  generalize hT1 : (T.setVm vm₁).pushCell { cls := cX, slots := kX.instanceTypes.map defaultValue, vm := .none } = T1 at X₁ st1
  have hcat : (Value.ref T.heap.size).category = 1 := rfl
  have hcellA : T1.heap[T.heap.size]? = some (freshCell cX kX) := by rw [← hT1]; exact State.heap_pushCell_size _ _
  have d3' : decode c.code (pc + 3) = .ok (.dup, 1) := by rw [hb]; exact d3
  obtain ⟨U, hsteps, hrun, hend, hW, hsame, ce, hce, hO⟩ := X₁.ctorThrow0 hexec htr (own := own) (cls := cls) (names := names) (ic := ic) hown' hcls hnames h (fun x hx => nomatch hx) hfX hkX hcellA (by rw [hhp, hT]; exact Nat.le_refl _)
    (g := { method := m, pc := pc + 4, locals := ls, stack := .ref T.heap.size :: .ref T.heap.size :: rest, locked := none }) rfl hsize rfl rfl (rest := rest) rfl
    (by rw [hb]; exact d4) (by rw [hb]; exact d7) hout hRframes (by simp only [List.map_cons, List.sum_cons, hcat]; omega) hlocks
  obtain ⟨f1, f2⟩ := vx_frame hsame
  rw [hhp] at f1 f2
  have hWs : s.WarmedH U.vm := State.WarmedH.trans hW0 hW
  have hcl : s.vm.findClass cls = some ce.cls := by
    have h9 := hO.cls
    rw [hvm] at h9
    exact h9
  have hall : s.sameButNew ({ U with vm := s.vm } : State) locs mc ms := by
    subst hA
    obtain ⟨e1, e2⟩ := hsame
    rw [State.setFrames_setFrames] at e1
    have h2 : (T.setVm s.vm).sameButNew ({ U with vm := s.vm } : State) [] (0 + 1) (0 + 6) := ⟨e1, e2⟩
    have h3 := X.same.trans h2
    rw [List.append_nil] at h3
    exact h3.mono hc hs
  refine ⟨U, ?_, .threw T.heap.size, hrun, hend, Or.inr ⟨T.heap.size, rfl, cls, ce, locs, hx U hWs.alike f1 (fun q hq => f2 q hq (fun z hz => nomatch hz)), hce, hO.vm, hcl, hWs, hall, hf⟩⟩
  refine st1 _ ?_
  show Steps p.tables e below (T1.setTop { method := m, pc := pc + 3, locals := ls, stack := .ref T.heap.size :: rest, locked := none }) _
  jvm_step X₁.here [X₁.here.top, hexec, d3', Value.category]
  exact hsteps
theorem vx_throwS {cc : ByteArray} {pc : Nat} (hexec : p.tables.exec = Jvm.exec) (hb : c.code = cc) (hl : l.stackTraces = false) {own cls text : String} {names : List String} {ik is ic mc ms sa : Nat} {A : Nat → Prop}
    (hown : s.vm.findClass own = some m.cls) (hcls : Bundle.fit cls = true) (hnames : ∀ n ∈ names, Bundle.fit n = true)
    (hk : (Cond.classLink own ik cls).before args s = true) (hini : (Cond.initialized cls).before args s = true) (hstr : vk_R own is text sa s) (hat : ∀ w ∈ vx_atS own ic cls names, w.before args s = true)
    (hgood : ∀ w ∈ Cond.classLink own ik cls :: Cond.initialized cls :: vx_atS own ic cls names, vx_ot w = true)
    (hU : vx_Zq Bundle.tN "UNASSIGNED_STACK" Bundle.steD A s s.heap) (hN : vx_Zq Bundle.tN "SUPPRESSED_SENTINEL" Bundle.listD A s s.heap) (hS : va_S A s.heap H locs) (hsize : ls.size = c.maxLocals)
    (d0 : decode cc pc = .ok (.new ik, 3)) (d3 : decode cc (pc + 3) = .ok (.dup, 1)) (d4 : decode cc (pc + 4) = .ok (.ldc is, 2)) (d6 : decode cc (pc + 6) = .ok (.invokespecial ic, 3)) (d9 : decode cc (pc + 9) = .ok (.athrow, 1))
    (hout : ∀ x ∈ c.exceptionTable.toList, covers x (pc + 9) = false)
    (hRframes : names.length + 3 < R.frames) (hRlocals : (rest.map fun v => v.category).sum + (13 * (names.length + 1) + 43) ≤ R.locals) (hRcells : cells + 1 ≤ R.cells) (hRslots : slots + 6 ≤ R.slots) (hlocks : meth.locks = false)
    (hx : ∀ t : State, s.vm.Alike t.vm → H.size ≤ t.heap.size → (∀ q : Nat, q < H.size → t.heap[q]? = H[q]?) → XC cls s t)
    (hf : ∀ z ∈ locs, free z.base) (hc : cells + 1 ≤ mc) (hs : slots + 6 ≤ ms) :
    W p l e R s m args below meth c H locs cells slots (vx_MQ below Qc XC args s mc ms free) (F0 m pc ls rest) := by
  intro T hT X
  have htr : e.platform.stackTraces = false := (show e.platform.stackTraces = l.stackTraces by rw [X.admits.platform]).trans hl
  have Y := vx_rebase X (R' := { frames := R.frames, locals := R.locals, cells := 1, slots := 6 }) (Nat.le_refl _) (Nat.le_refl _) hRcells hRslots
  obtain ⟨s', hA⟩ : ∃ z, z = (T.setVm s.vm).setFrames (.invoking m args :: below) := ⟨_, rfl⟩
  rw [← hA] at Y
  have hvm : s'.vm = s.vm := by rw [hA]; rfl
  have hhp : s'.heap = H := by rw [hA]; exact hT
  have hW0 : s.WarmedH s'.vm := by rw [hvm]; exact State.WarmedH.refl s
  have hat' : ∀ w ∈ vx_atS own ic cls names, w.before args s' = true := fun w hw => vx_ot_at hW0 hvm.symm (hgood w (List.mem_cons_of_mem _ (List.mem_cons_of_mem _ hw))) (hat w hw)
  have hk' : (Cond.classLink own ik cls).before args s' = true := vx_ot_at hW0 hvm.symm (hgood _ List.mem_cons_self) hk
  have hini' : (Cond.initialized cls).before args s' = true := vx_ot_at hW0 hvm.symm (hgood _ (List.mem_cons_of_mem _ List.mem_cons_self)) hini
  have hU' : vx_Zq Bundle.tN "UNASSIGNED_STACK" Bundle.steD A s' s'.heap := by rw [hhp]; exact vx_Zq.moved hW0.alike (hU.kept hS.2.1)
  have hN' : vx_Zq Bundle.tN "SUPPRESSED_SENTINEL" Bundle.listD A s' s'.heap := by rw [hhp]; exact vx_Zq.moved hW0.alike (hN.kept hS.2.1)
  have h : ∀ w ∈ Bundle.ownAtoms own ic cls names, w.before args s' = true := vx_own hat' (vx_isRefq hU'.1) (vx_isRefq hN'.1) hU'.2.word hN'.2.word
  have hown' : s'.vm.findClass own = some m.cls := by rw [hvm]; exact hown
  have hins : (Cond.instantiable cls 6).before args s' = true := h _ (by simp [Bundle.ownAtoms])
  obtain ⟨vm₁, cX, kX, hfX, hkX, -, -, X₁, st1⟩ := Y.newCold hexec (own := own) (C := cls) (index := ik) (n := 6) hown' hk' hins hini'
    (g := F0 m pc ls rest) rfl (by rw [hb]; exact d0) (Nat.le_refl _) (Nat.le_refl _)
  generalize hT1 : (T.setVm vm₁).pushCell { cls := cX, slots := kX.instanceTypes.map defaultValue, vm := .none } = T1 at X₁ st1
  have hcat : (Value.ref T.heap.size).category = 1 := rfl
  have hcellA : T1.heap[T.heap.size]? = some (freshCell cX kX) := by rw [← hT1]; exact State.heap_pushCell_size _ _
  have d3' : decode c.code (pc + 3) = .ok (.dup, 1) := by rw [hb]; exact d3
  have d4' : decode c.code (pc + 4) = .ok (.ldc is, 2) := by rw [hb]; exact d4
  have hstr' : vk_R own is text sa s' := vk_R.warm hW0 hstr
  obtain ⟨U, hsteps, hrun, hend, hW, hsame, ce, hce, hO⟩ := X₁.ctorThrowS hexec htr (own := own) (cls := cls) (names := names) (ic := ic) hown' hcls hnames h (fun x hx => nomatch hx) hfX hkX hcellA (by rw [hhp, hT]; exact Nat.le_refl _) (msg := .ref sa) rfl
    (g := { method := m, pc := pc + 6, locals := ls, stack := .ref sa :: .ref T.heap.size :: .ref T.heap.size :: rest, locked := none }) rfl hsize rfl rfl (rest := rest) rfl
    (by rw [hb]; exact d6) (by rw [hb]; exact d9) hout hRframes (by simp only [List.map_cons, List.sum_cons, hcat]; omega) hlocks
  obtain ⟨f1, f2⟩ := vx_frame hsame
  rw [hhp] at f1 f2
  have hWs : s.WarmedH U.vm := State.WarmedH.trans hW0 hW
  have hcl : s.vm.findClass cls = some ce.cls := by
    have h9 := hO.cls
    rw [hvm] at h9
    exact h9
  have hall : s.sameButNew ({ U with vm := s.vm } : State) locs mc ms := by
    subst hA
    obtain ⟨e1, e2⟩ := hsame
    rw [State.setFrames_setFrames] at e1
    have h2 : (T.setVm s.vm).sameButNew ({ U with vm := s.vm } : State) [] (0 + 1) (0 + 6) := ⟨e1, e2⟩
    have h3 := X.same.trans h2
    rw [List.append_nil] at h3
    exact h3.mono hc hs
  refine ⟨U, ?_, .threw T.heap.size, hrun, hend, Or.inr ⟨T.heap.size, rfl, cls, ce, locs, hx U hWs.alike f1 (fun q hq => f2 q hq (fun z hz => nomatch hz)), hce, hO.vm, hcl, hWs, hall, hf⟩⟩
  refine st1 _ ?_
  show Steps p.tables e below (T1.setTop { method := m, pc := pc + 3, locals := ls, stack := .ref T.heap.size :: rest, locked := none }) _
  jvm_step X₁.here [X₁.here.top, hexec, d3', Value.category]
  exact X₁.ldcString hexec (own := own) (text := text) (index := is) (a := sa) hown' hstr'.1 hstr'.2
    (g := { method := m, pc := pc + 4, locals := ls, stack := .ref T.heap.size :: .ref T.heap.size :: rest, locked := none }) rfl d4' _ hsteps
theorem vx_throwSW {cc : ByteArray} {pc : Nat} (hexec : p.tables.exec = Jvm.exec) (hb : c.code = cc) (hl : l.stackTraces = false) {own cls text : String} {names : List String} {ik is ic mc ms sa : Nat} {A : Nat → Prop}
    (hown : s.vm.findClass own = some m.cls) (hcls : Bundle.fit cls = true) (hnames : ∀ n ∈ names, Bundle.fit n = true)
    (hk : (Cond.classLink own ik cls).before args s = true) (hini : (Cond.initialized cls).before args s = true) (hstr : vk_R own is text sa s) (hat : ∀ w ∈ vx_atS own ic cls names, w.before args s = true)
    (hgood : ∀ w ∈ Cond.classLink own ik cls :: Cond.initialized cls :: vx_atS own ic cls names, vx_ot w = true)
    (hU : vx_Zq Bundle.tN "UNASSIGNED_STACK" Bundle.steD A s s.heap) (hN : vx_Zq Bundle.tN "SUPPRESSED_SENTINEL" Bundle.listD A s s.heap) (hS : va_S A s.heap H locs) (hsize : ls.size = c.maxLocals)
    (d0 : decode cc pc = .ok (.new ik, 3)) (d3 : decode cc (pc + 3) = .ok (.dup, 1)) (d4 : decode cc (pc + 4) = .ok (.ldc_w is, 3)) (d7 : decode cc (pc + 7) = .ok (.invokespecial ic, 3)) (d10 : decode cc (pc + 10) = .ok (.athrow, 1))
    (hout : ∀ x ∈ c.exceptionTable.toList, covers x (pc + 10) = false)
    (hRframes : names.length + 3 < R.frames) (hRlocals : (rest.map fun v => v.category).sum + (13 * (names.length + 1) + 43) ≤ R.locals) (hRcells : cells + 1 ≤ R.cells) (hRslots : slots + 6 ≤ R.slots) (hlocks : meth.locks = false)
    (hx : ∀ t : State, s.vm.Alike t.vm → H.size ≤ t.heap.size → (∀ q : Nat, q < H.size → t.heap[q]? = H[q]?) → XC cls s t)
    (hf : ∀ z ∈ locs, free z.base) (hc : cells + 1 ≤ mc) (hs : slots + 6 ≤ ms) :
    W p l e R s m args below meth c H locs cells slots (vx_MQ below Qc XC args s mc ms free) (F0 m pc ls rest) := by
  intro T hT X
  have htr : e.platform.stackTraces = false := (show e.platform.stackTraces = l.stackTraces by rw [X.admits.platform]).trans hl
  have Y := vx_rebase X (R' := { frames := R.frames, locals := R.locals, cells := 1, slots := 6 }) (Nat.le_refl _) (Nat.le_refl _) hRcells hRslots
  obtain ⟨s', hA⟩ : ∃ z, z = (T.setVm s.vm).setFrames (.invoking m args :: below) := ⟨_, rfl⟩
  rw [← hA] at Y
  have hvm : s'.vm = s.vm := by rw [hA]; rfl
  have hhp : s'.heap = H := by rw [hA]; exact hT
  have hW0 : s.WarmedH s'.vm := by rw [hvm]; exact State.WarmedH.refl s
  have hat' : ∀ w ∈ vx_atS own ic cls names, w.before args s' = true := fun w hw => vx_ot_at hW0 hvm.symm (hgood w (List.mem_cons_of_mem _ (List.mem_cons_of_mem _ hw))) (hat w hw)
  have hk' : (Cond.classLink own ik cls).before args s' = true := vx_ot_at hW0 hvm.symm (hgood _ List.mem_cons_self) hk
  have hini' : (Cond.initialized cls).before args s' = true := vx_ot_at hW0 hvm.symm (hgood _ (List.mem_cons_of_mem _ List.mem_cons_self)) hini
  have hU' : vx_Zq Bundle.tN "UNASSIGNED_STACK" Bundle.steD A s' s'.heap := by rw [hhp]; exact vx_Zq.moved hW0.alike (hU.kept hS.2.1)
  have hN' : vx_Zq Bundle.tN "SUPPRESSED_SENTINEL" Bundle.listD A s' s'.heap := by rw [hhp]; exact vx_Zq.moved hW0.alike (hN.kept hS.2.1)
  have h : ∀ w ∈ Bundle.ownAtoms own ic cls names, w.before args s' = true := vx_own hat' (vx_isRefq hU'.1) (vx_isRefq hN'.1) hU'.2.word hN'.2.word
  have hown' : s'.vm.findClass own = some m.cls := by rw [hvm]; exact hown
  have hins : (Cond.instantiable cls 6).before args s' = true := h _ (by simp [Bundle.ownAtoms])
  obtain ⟨vm₁, cX, kX, hfX, hkX, -, -, X₁, st1⟩ := Y.newCold hexec (own := own) (C := cls) (index := ik) (n := 6) hown' hk' hins hini'
    (g := F0 m pc ls rest) rfl (by rw [hb]; exact d0) (Nat.le_refl _) (Nat.le_refl _)
  generalize hT1 : (T.setVm vm₁).pushCell { cls := cX, slots := kX.instanceTypes.map defaultValue, vm := .none } = T1 at X₁ st1
  have hcat : (Value.ref T.heap.size).category = 1 := rfl
  have hcellA : T1.heap[T.heap.size]? = some (freshCell cX kX) := by rw [← hT1]; exact State.heap_pushCell_size _ _
  have d3' : decode c.code (pc + 3) = .ok (.dup, 1) := by rw [hb]; exact d3
  have d4' : decode c.code (pc + 4) = .ok (.ldc_w is, 3) := by rw [hb]; exact d4
  have hstr' : vk_R own is text sa s' := vk_R.warm hW0 hstr
  obtain ⟨U, hsteps, hrun, hend, hW, hsame, ce, hce, hO⟩ := X₁.ctorThrowS hexec htr (own := own) (cls := cls) (names := names) (ic := ic) hown' hcls hnames h (fun x hx => nomatch hx) hfX hkX hcellA (by rw [hhp, hT]; exact Nat.le_refl _) (msg := .ref sa) rfl
    (g := { method := m, pc := pc + 7, locals := ls, stack := .ref sa :: .ref T.heap.size :: .ref T.heap.size :: rest, locked := none }) rfl hsize rfl rfl (rest := rest) rfl
    (by rw [hb]; exact d7) (by rw [hb]; exact d10) hout hRframes (by simp only [List.map_cons, List.sum_cons, hcat]; omega) hlocks
  obtain ⟨f1, f2⟩ := vx_frame hsame
  rw [hhp] at f1 f2
  have hWs : s.WarmedH U.vm := State.WarmedH.trans hW0 hW
  have hcl : s.vm.findClass cls = some ce.cls := by
    have h9 := hO.cls
    rw [hvm] at h9
    exact h9
  have hall : s.sameButNew ({ U with vm := s.vm } : State) locs mc ms := by
    subst hA
    obtain ⟨e1, e2⟩ := hsame
    rw [State.setFrames_setFrames] at e1
    have h2 : (T.setVm s.vm).sameButNew ({ U with vm := s.vm } : State) [] (0 + 1) (0 + 6) := ⟨e1, e2⟩
    have h3 := X.same.trans h2
    rw [List.append_nil] at h3
    exact h3.mono hc hs
  refine ⟨U, ?_, .threw T.heap.size, hrun, hend, Or.inr ⟨T.heap.size, rfl, cls, ce, locs, hx U hWs.alike f1 (fun q hq => f2 q hq (fun z hz => nomatch hz)), hce, hO.vm, hcl, hWs, hall, hf⟩⟩
  refine st1 _ ?_
  show Steps p.tables e below (T1.setTop { method := m, pc := pc + 3, locals := ls, stack := .ref T.heap.size :: rest, locked := none }) _
  jvm_step X₁.here [X₁.here.top, hexec, d3', Value.category]
  exact X₁.ldcStringW hexec (own := own) (text := text) (index := is) (a := sa) hown' hstr'.1 hstr'.2
    (g := { method := m, pc := pc + 4, locals := ls, stack := .ref T.heap.size :: .ref T.heap.size :: rest, locked := none }) rfl d4' _ hsteps
end Ends
section Bodies
variable {l : Launch}
theorem vx_ofW {y : MethodName} {ws ws' : List Cond} {rm : Room} {Pc : Array Value → State → Prop} {Qc : Array Value → State → Outcome → State → Prop} {XC : String → State → State → Prop} {mc ms : Nat} {free : Addr → Prop} {cc : ByteArray} {maxL : Nat} {ret : Option FieldType}
    (hy : plainName y.cls = true) (hw : ws = Cond.code y cc maxL ret :: ws')
    (body : ∀ p e s m args below meth c s₁, BodyLoose p l y (headSpec ws rm) cc maxL ret e s m args below meth c s₁ → c.maxLocals = maxL → (∀ x ∈ c.exceptionTable.toList, False) → Pc args s →
      W p l e (headSpec ws rm).room s m args below meth c s.heap [] 0 0 (vx_MQ below Qc XC args s mc ms free) (entryFrame m args maxL)) : vx_Met l y ws rm Pc Qc XC mc ms free := by
  refine MetFree.of_bodyS (code := cc) (maxLocals := maxL) (ret := ret) hy ?_ ?_
  · intro args s m h hn
    obtain ⟨meth, c, h1, h2, h3, h4, h5, h6, -, -⟩ := Cond.code_spec hn (atoms_spec (ws := ws) h _ (by rw [hw]; exact List.mem_cons_self))
    exact ⟨meth, c, h1, h2, h3, h4, h5, h6⟩
  · intro p e s m args below meth c s₁ B hml hP _
    have hh0 : s₁.heap = s.heap := by rw [B.state]; rfl
    have ht : ∀ x ∈ c.exceptionTable.toList, False := by
      obtain ⟨meth9, c9, h1, h2, -, -, -, -, h7, -⟩ := Cond.code_spec B.named (atoms_spec (ws := ws) B.pre _ (by rw [hw]; exact List.mem_cons_self))
      cases Option.some.inj (h1.symm.trans B.method)
      cases Option.some.inj (h2.symm.trans (Stand.of_body B).code)
      intro x hx
      rw [Array.isEmpty_iff.mp h7] at hx
      cases hx
    obtain ⟨t, a1, o, b1, b2, b3⟩ := body p e s m args below meth c s₁ B hml ht hP s₁ hh0 (Stand.of_body B)
    exact ⟨t, o, a1, b1, b2, b3⟩
theorem vx_table {p : Program} {x y : MethodName} {S : Spec} {cc bytes : ByteArray} {maxL maxL' : Nat} {ret ret' : Option FieldType} {e : Env} {s s₁ : State} {m : MethodId} {args : Array Value} {below : List Frame} {meth : Method} {c : Code} {hh : List (Nat × Nat × Nat × Nat)}
    (B : BodyLoose p l y S cc maxL ret e s m args below meth c s₁) (h : (Cond.codeWith y bytes maxL' ret' hh).before args s = true) : c.exceptionTable.toList = tableOf hh := by
  obtain ⟨m9, meth9, c9, hn9, h1, h2, -, -, h6, -⟩ := Cond.codeWith_spec h
  cases Option.some.inj (hn9.symm.trans B.named)
  cases Option.some.inj (h1.symm.trans B.method)
  cases Option.some.inj (h2.symm.trans (Stand.of_body B).code)
  rw [← h6, table_eq]
end Bodies
end VXA
section VXS
variable {p : Program} {l : Launch} {e : Env} {R : Room} {s : State} {m : MethodId} {args : Array Value} {below : List Frame} {meth : Method} {c : Code} {T : State} {H : Heap} {locs : List Loc} {cells slots : Nat}
abbrev vx_CSW (R : Room) (s : State) (args : Array Value) (own : String) (index : Nat) (y : MethodName) (bytes : ByteArray) (maxL : Nat) (ret : Option FieldType) (hh : List (Nat × Nat × Nat × Nat)) (ws : List Cond) (rm : Room) (mc ms n : Nat) : Prop :=
  (rm.cells = mc ∧ rm.slots = ms ∧ rm.frames + 1 ≤ R.frames ∧ 8 + (maxL + 11) + rm.locals ≤ R.locals ∧ (∀ w ∈ ws, ∀ (a' : Array Value) (U : State), s.WarmedH U.vm → w.before a' U = true) ∧ Cond.codeWith y bytes maxL ret hh ∈ ws) ∧
  (Cond.codeWith y bytes maxL ret hh).before args s = true ∧ (Cond.initialized y.cls).before args s = true ∧ (y.cls ≠ "java/lang/invoke/MethodHandle" ∧ y.cls ≠ "java/lang/invoke/VarHandle") ∧
  (∀ sig, parseMethodDescriptor y.desc = some sig → n = sig.parameters.length) ∧ (Cond.methodLink own index y).before args s = true ∧ (Cond.static y).before args s = true
theorem vx_cwSW {own : String} {index maxL mc ms : Nat} {y : MethodName} {bytes : ByteArray} {ret : Option FieldType} {hh : List (Nat × Nat × Nat × Nat)} {Ts ws ws' : List Cond} {rm : Room} (n : Nat) (ht : ∀ w ∈ Ts, w.before args s = true) (hT : GoodIn Ts (va_wsS own index y ws)) (hw : ws = Cond.codeWith y bytes maxL ret hh :: ws') (hrc : rm.cells = mc) (hrs : rm.slots = ms)
    (hd : y.cls ≠ "java/lang/invoke/MethodHandle" ∧ y.cls ≠ "java/lang/invoke/VarHandle" ∧ (parseMethodDescriptor y.desc).map (fun d => d.parameters.length) = some n) (hR : rm.frames + 1 ≤ R.frames ∧ 8 + (maxL + 11) + rm.locals ≤ R.locals) :
    vx_CSW R s args own index y bytes maxL ret hh ws rm mc ms n := by
  have ok : ∀ w ∈ va_wsS own index y ws, w.before args s = true := fun w h => ht w (hT w h).1
  have hG : GoodIn Ts ws := fun w h => hT w (by unfold va_wsS; exact List.mem_append_right _ h)
  have hc : Cond.codeWith y bytes maxL ret hh ∈ ws := by rw [hw]; exact List.mem_cons_self
  refine ⟨⟨hrc, hrs, hR.1, hR.2, pay_in ht hG, hc⟩, ht _ (hG _ hc).1, ok _ (by simp [va_wsS]), ⟨hd.1, hd.2.1⟩, fun sig h => ?_, ok _ (by simp [va_wsS]), ok _ (by simp [va_wsS])⟩
  have h2 := hd.2.2
  rw [h] at h2
  exact (Option.some.inj h2).symm
theorem vx_callSW (X : Stand p l e R s m args below meth c T locs cells slots) (hexec : p.tables.exec = Jvm.exec) {own : String} {index : Nat} {y : MethodName} {bytes : ByteArray} {maxL : Nat} {ret : Option FieldType} {hh : List (Nat × Nat × Nat × Nat)}
    (hown : s.vm.findClass own = some m.cls) (hlink : (Cond.methodLink own index y).before args s = true) (hstat : (Cond.static y).before args s = true) (hinit : (Cond.initialized y.cls).before args s = true)
    (hcode : (Cond.codeWith y bytes maxL ret hh).before args s = true) (hy : y.cls ≠ "java/lang/invoke/MethodHandle" ∧ y.cls ≠ "java/lang/invoke/VarHandle")
    {W9 : Nat} {Pre : Pt → Array Value → Prop} {Post : Pt → Array Value → Option Value → Pt → Prop} (hK : Back l R p e below s args y 3 W9 Pre Post)
    {g : JFrame} (hg : g.method = m) (hsize : g.locals.size = c.maxLocals) {argsL rest : List Value} (hlen : ∀ sig, parseMethodDescriptor y.desc = some sig → argsL.length = sig.parameters.length)
    (hstack : g.stack = argsL.reverse ++ rest) (hW : 2 * g.monitorRoom + (rest.map fun v => v.category).sum ≤ W9) (hdg : decode c.code g.pc = .ok (.invokestatic index, 3))
    (hpre : ∀ vm₁, s.WarmedH vm₁ → Pre ⟨T.setVm vm₁, locs, cells, slots⟩ argsL.toArray) :
    ∃ (v : Option Value) (vm₁ : Vm) (B : Pt), s.WarmedH vm₁ ∧ Stand p l e R s m args below meth c B.U B.locs B.cells B.slots ∧ Post ⟨T.setVm vm₁, locs, cells, slots⟩ argsL.toArray v B ∧
      ∀ target, Steps p.tables e below (B.U.setTop { g with pc := g.pc + 3, stack := v.toList ++ rest }) target → Steps p.tables e below (T.setTop g) target := by
  obtain ⟨mk, methM, cM, hnamed, hmethM, -, -, -, -, -, -, hsigM⟩ := Cond.codeWith_spec hcode
  have hstatic : methM.isStatic = true := Cond.static_spec hnamed hmethM hstat
  obtain ⟨kP, hkP, -⟩ := className_of_methodNamed hnamed
  have hinitP : kP.init = .initialized := Cond.initialized_spec (findClass_of_methodNamed hnamed) hkP hinit
  obtain ⟨vm₁, X₁, hstep₁⟩ := X.invokestatic hexec hown hlink hnamed hmethM hstatic hkP hinitP hy (g := g) hg (argsL := argsL) (rest := rest) (hlen _ hsigM) hstack hdg
  obtain ⟨v, B, X', hpost, hsteps⟩ := hK m meth c ⟨T.setVm vm₁, locs, cells, slots⟩ { g with stack := rest } (.invokestatic index) mk argsL.toArray X₁ hg hsize hdg hW (X₁.named hnamed) (hpre vm₁ X₁.warmed)
  exact ⟨v, vm₁, B, X₁.warmed, X', hpost, fun target h => hstep₁ _ fun acts => by rw [doInvoke_state]; exact hsteps.trans h⟩
theorem vx_runSW {y : MethodName} {bytes cc : ByteArray} {maxL nL mc ms n index : Nat} {ret : Option FieldType} {hh : List (Nat × Nat × Nat × Nat)} {ws : List Cond} {rm : Room} {Pc : Array Value → State → Prop} {Qc : Array Value → State → Outcome → State → Prop} {free : Addr → Prop} {Ts : List Cond} {own : String} {As rest : List Value} {g : JFrame}
    (S : CallFix p m c cc nL s args Ts own) (hM : Met l y ws rm Pc Qc mc ms free) (cw : vx_CSW R s args own index y bytes maxL ret hh ws rm mc ms n) (hp : PreS s H Pc As)
    (hg : g.method = m) (hn : As.length = n) (hsize : g.locals.size = nL) (hstack : g.stack = As.reverse ++ rest) (hW : 2 * g.monitorRoom + (rest.map fun v => v.category).sum ≤ 8) (hdg : decode cc g.pc = .ok (.invokestatic index, 3)) (hf : cells + mc ≤ R.cells ∧ slots + ms ≤ R.slots) :
    va_Run p l e R s m args below meth c H locs cells slots mc ms g rest (Qc As.toArray) (free) := by
  obtain ⟨⟨hrc, hrs, hfr, hlo, hws, hcw⟩, hcode, hini, hy, hlen, hl, hstt⟩ := cw
  have hK : Back l R p e below s args y 3 8 (PreOf R mc ms Pc) (PostOf Qc mc ms free) := va_backW (hh := hh) (bytes := bytes) (maxL := maxL) (ret := ret) hM hp.1 hrc hrs hfr hlo hws hcw (fun a' U hW => word_at hW (Or.inl (by first | rfl | simp [Cond.onTables, Cond.keeps, Cond.steady])) hini)
  obtain ⟨hx, hb, hml, ho, -⟩ := S
  intro T hT X
  obtain ⟨v, vm₁, ⟨U', l2, c2, s2⟩, hW₁, X', ⟨g', mk, t, L, e1, e2, hq, h1, hL, h2, h3⟩, st⟩ := vx_callSW X hx (hh := hh) (bytes := bytes) (maxL := maxL) (ret := ret) ho hl hstt hini hcode hy hK hg (hsize.trans hml.symm) (argsL := As) (rest := rest) (fun sig h => hn.trans (hlen sig h)) hstack hW (by rw [hb]; exact hdg)
    (fun vm₁ hW₁ => ⟨hf.1, hf.2, hp.2 (T.setVm vm₁) hT hW₁⟩)
  dsimp only [Pt.U, Pt.locs, Pt.cells, Pt.slots] at X' e1 e2 h1 h2 h3 st
  subst h1; subst h2; subst h3
  exact ⟨v, (T.setVm vm₁).calling g' mk As.toArray, t, U', L, hT, X', hL, e1, e2, hq, st⟩
theorem vx_outP {p : Program} {l : Launch} {e : Env} {R : Room} {s : State} {m : MethodId} {args : Array Value} {below : List Frame} {meth : Method} {c : Code} {H : Heap} {locs : List Loc} {cells slots : Nat} {free : Addr → Prop} {ls : Array Slot} {rest : List Value} {Qc : Array Value → State → Outcome → State → Prop} {XC : String → State → State → Prop}
    {pc : Nat} {own E : String} {ce : Cell} {q : Addr} {mc ms : Nat} (hown : s.vm.findClass own = some m.cls) (hlocks : meth.locks = false)
    (hpass : ∀ z ∈ c.exceptionTable.toList, covers z pc = false ∨ (z.catchType ≠ 0 ∧ ∃ nm : String, (Cond.classLink own z.catchType nm).before args s = true ∧ va_Nc E nm s)) (hcell : H[q]? = some ce) (hv : ce.vm = .none) (hcl : s.vm.findClass E = some ce.cls)
    (hx : ∀ t : State, t.heap = H → s.vm.Alike t.vm → XC E s t) (hf : ∀ z ∈ locs, free z.base) (hc : cells ≤ mc) (hs : slots ≤ ms) :
    vx_W p l e R s m args below meth c H locs cells slots (vx_MQ below Qc XC args s mc ms free) (F0 m pc ls rest) q := by
  intro T hT X
  have hpl : e.platform.magicAccessors = ({} : Platform).magicAccessors := by rw [X.admits.platform]
  obtain ⟨vm', hW', X', st⟩ := X.outThrough hlocks q (g := F0 m pc ls rest) rfl rfl rfl (cell := ce) (by rw [hT]; exact hcell) (by rw [hv]; rfl)
    (by obtain ⟨k9, h9, -⟩ := Vm.findClass_spec hcl; exact ⟨k9, h9⟩) (fun z hz => by
      rcases hpass z hz with h | ⟨hz0, nm, hl1, hn1⟩
      · exact Or.inl h
      · obtain ⟨c6, hc6, hcl6⟩ := Cond.classLink_spec hown hl1 e.platform hpl
        obtain ⟨a8, b8, h1, h2, h3⟩ := hn1
        cases Option.some.inj (h1.symm.trans hcl)
        cases Option.some.inj (h2.symm.trans hc6)
        exact Or.inr ⟨hz0, _, hcl6, h3⟩)
  obtain ⟨g₀, hfr⟩ := X'.frames_eq
  have hcell9 : ((T.setVm vm').setFrames (.throwing q :: below)).heap[q]? = some ce := by
    show T.heap[q]? = some ce
    rw [hT]; exact hcell
  have hend : Ended ((T.setVm vm').setFrames (.throwing q :: below)) below (.threw q) := State.frames_setFrames _ (State.cur_lt_of_frames hfr)
  refine ⟨(T.setVm vm').setFrames (.throwing q :: below), ?_, .threw q, X'.here.running, hend, Or.inr ⟨q, rfl, E, ce, locs, hx _ hT (X'.ends _).1.alike, hcell9, hv, hcl, (X'.ends _).1, (X'.ends _).2.mono hc hs, hf⟩⟩
  rw [X.pushThrowing_eq]
  exact st
theorem vx_lt {D : va_G} {cl : List vw_C} {ws : va_W} {H1 : Heap} (h : va_P D cl ws H1) {k : Nat} {q : Nat × va_E} (hk : ws[k]? = some q) : q.1 < H1.size := (h k q hk).lt
end VXS
section VXH
section
variable {l : Launch} {R : Room} {p : Program} {e : Env} {below : List Frame} {s : State} {sargs : Array Value} {y : MethodName} {len W9 : Nat}
theorem vx_backW {ws : List Cond} {rm : Room} {Pc : Array Value → State → Prop} {Qc : Array Value → State → Outcome → State → Prop} {XC : String → State → State → Prop} {mc ms : Nat} {free : Addr → Prop} {bytes : ByteArray} {maxL : Nat} {ret : Option FieldType} {hh : List (Nat × Nat × Nat × Nat)}
    (hM : vx_Met l y ws rm Pc Qc XC mc ms free) (hblind : FrameBlind Pc) (hrc : rm.cells = mc) (hrs : rm.slots = ms)
    (hframes : rm.frames + 1 ≤ R.frames) (hlocals : W9 + (maxL + 11) + rm.locals ≤ R.locals)
    (hws : ∀ w ∈ ws, ∀ a' U, s.WarmedH U.vm → w.before a' U = true) (hcode : Cond.codeWith y bytes maxL ret hh ∈ ws) (hinit : ∀ a' U, s.WarmedH U.vm → (Cond.initialized y.cls).before a' U = true) :
    vx_Back l R p e below s sargs y len W9 (PreOf R mc ms Pc) (PostOf Qc mc ms free) (vx_Post XC mc ms free) := by
  intro m meth c A g ig mk a X hg hsize hdg hW hn hp
  have h1 : (headSpec ws rm).pre.before a A.U = true := atoms_intro fun w hw => hws w hw _ _ X.warmed
  have h2 : (Cond.codeWith y bytes maxL ret hh).before a A.U = true := hws _ hcode _ _ X.warmed
  have h3 : (Cond.initialized y.cls).before a A.U = true := hinit _ _ X.warmed
  have h4 : A.cells + (headSpec ws rm).room.cells ≤ R.cells := by rw [show (headSpec ws rm).room.cells = mc from hrc]; exact hp.1
  have h5 : A.slots + (headSpec ws rm).room.slots ≤ R.slots := by rw [show (headSpec ws rm).room.slots = ms from hrs]; exact hp.2.1
  have hPc : Pc a (A.U.calling g mk a) := hblind _ _ _ _ hp.2.2
  obtain ⟨U, Ls, c0, s0⟩ := A
  dsimp only [Pt.U, Pt.locs, Pt.cells, Pt.slots] at h1 h2 h3 h4 h5 X hn hPc ⊢
  obtain ⟨m9, methY, cY, hn9, hmY, hcY, -, hlY, -⟩ := Cond.codeWith_spec h2
  cases Option.some.inj (hn9.symm.trans hn)
  obtain ⟨kY, hkY, -⟩ := className_of_methodNamed hn
  have hinitY : kY.init = .initialized := Cond.initialized_spec (findClass_of_methodNamed hn) hkY h3
  have h : At U g.method c below := by rw [hg]; exact X.here
  have hlocals9 : W9 + (maxL + 11) + (headSpec ws rm).room.locals ≤ R.locals := hlocals
  have happ : (headSpec ws rm).appliesLoose y e.platform (U.calling g mk a) = true :=
    Spec.appliesLoose_calling (g := g) h hdg hn hkY hinitY
      (X.room_calling (g := g) (R' := (headSpec ws rm).room) hsize hmY hcY hframes (by rw [hlY]; omega) h4 h5) h1
  obtain ⟨mid, hmid⟩ := h.above
  have hfr : (U.setTop g).frames = (.java g :: mid) ++ below := by rw [State.frames_setTop' g h.top, hmid]; rfl
  obtain ⟨o, s₂, hsteps, -, hend, hq⟩ := Steps.callFree hM p X.admits X.cas X.clock (acts := []) hfr happ hPc trivial
  have hq' : vx_Q Qc XC mc ms free a (U.calling g mk a) o s₂ := hq
  rw [State.frames_setTop' g h.top] at hend
  obtain ⟨g₀, hg0⟩ := Option.isSome_iff_exists.mp h.top
  obtain ⟨r, hr⟩ := State.topJava?_eq_some.mp hg0
  have hr' : (({ U with heap := s₂.heap, slotsUsed := s₂.slotsUsed } : State).setVm s₂.vm).frames = .java g₀ :: r := hr
  rcases hq' with ⟨hqc, L, hfe, hL⟩ | ⟨q, rfl, E, ce, L, hx, hce, hcv, hcl, hW₂, hsm, hL⟩
  · obtain ⟨⟨v, rfl⟩, hW₂, e2, q2, q3, q4, q5, q6⟩ := id hfe
    have e3 : s₂ = ({ (U.calling g mk a).setFrames s₂.frames with heap := s₂.heap, slotsUsed := s₂.slotsUsed } : State).setVm s₂.vm := by
      have : s₂ = ({ s₂ with vm := (U.calling g mk a).vm } : State).setVm s₂.vm := rfl
      rw [e2] at this
      exact this
    obtain ⟨c₂, i₂, len₂, hc₂, hd₂, hf₂⟩ := hend
    have hW' : U.WarmedH s₂.vm := hW₂
    have hcc : c₂ = c := by
      have h1 : s₂.code? g.method = U.code? g.method := by
        rw [State.code?_eq, State.code?_eq, hW'.alike.method?]
      exact Option.some.inj (hc₂.symm.trans (h1.trans h.code))
    subst hcc
    have hlen : len₂ = len := by rw [hdg] at hd₂; cases hd₂; rfl
    subst hlen
    have hs₂ : s₂ = (({ U with heap := s₂.heap, slotsUsed := s₂.slotsUsed } : State).setVm s₂.vm).setTop { g with pc := g.pc + len₂, stack := v.toList ++ g.stack } := by
      refine e3.trans ?_
      rw [hf₂, State.calling_eq h.top, State.setFrames_setFrames, State.setTop_of_frames _ hr', hr]
      rfl
    have hsame : U.sameButNew ({ U with heap := s₂.heap, slotsUsed := s₂.slotsUsed } : State) L mc ms := by
      refine ⟨?_, q2, q3, q4, q5, q6⟩
      obtain ⟨t, ht, -⟩ := State.frames_cons hr
      show ({ U with heap := s₂.heap, slotsUsed := s₂.slotsUsed } : State) = { U.setFrames U.frames with heap := s₂.heap, slotsUsed := s₂.slotsUsed }
      rw [State.setFrames_self ht]
    subst hg
    refine Or.inl ⟨v, ⟨(({ U with heap := s₂.heap, slotsUsed := s₂.slotsUsed } : State).setVm s₂.vm), Ls ++ L, c0 + mc, s0 + ms⟩,
      ⟨X.admits, X.cas, X.clock, X.frames, X.room, X.hears, X.method, X.code, (X.here.setHeapUsed s₂.heap s₂.slotsUsed).setVm hW'.alike, X.tail, State.WarmedH.trans X.warmed hW', X.limits, X.bytes, X.same.trans (hsame.setVm s.vm)⟩,
      ⟨g, mk, s₂, L, rfl, rfl, hqc, rfl, hL, rfl, rfl⟩, ?_⟩
    show Steps p.tables e below _ ((({ U with heap := s₂.heap, slotsUsed := s₂.slotsUsed } : State).setVm s₂.vm).setTop { g with pc := g.pc + len₂, stack := v.toList ++ g.stack })
    rw [← hs₂]
    exact hsteps
  · obtain ⟨e2, q2, q3, q4, q5, q6⟩ := id hsm
    have e3 : s₂ = ({ (U.calling g mk a).setFrames s₂.frames with heap := s₂.heap, slotsUsed := s₂.slotsUsed } : State).setVm s₂.vm := by
      have : s₂ = ({ s₂ with vm := (U.calling g mk a).vm } : State).setVm s₂.vm := rfl
      rw [e2] at this
      exact this
    have hf₂ : s₂.frames = .throwing q :: .java g :: U.frames.tail := hend
    have hW' : U.WarmedH s₂.vm := hW₂
    have hs₂ : s₂ = ((({ U with heap := s₂.heap, slotsUsed := s₂.slotsUsed } : State).setVm s₂.vm).setTop g).pushFrame (.throwing q) := by
      refine e3.trans ?_
      rw [hf₂, State.calling_eq h.top, State.setFrames_setFrames, State.pushFrame, State.frames_setTop _ hr', State.setTop_of_frames _ hr', State.setFrames_setFrames, hr]
      rfl
    have hsame : U.sameButNew ({ U with heap := s₂.heap, slotsUsed := s₂.slotsUsed } : State) L mc ms := by
      refine ⟨?_, q2, q3, q4, q5, q6⟩
      obtain ⟨t, ht, -⟩ := State.frames_cons hr
      show ({ U with heap := s₂.heap, slotsUsed := s₂.slotsUsed } : State) = { U.setFrames U.frames with heap := s₂.heap, slotsUsed := s₂.slotsUsed }
      rw [State.setFrames_self ht]
    subst hg
    refine Or.inr ⟨q, ⟨(({ U with heap := s₂.heap, slotsUsed := s₂.slotsUsed } : State).setVm s₂.vm), Ls ++ L, c0 + mc, s0 + ms⟩,
      ⟨X.admits, X.cas, X.clock, X.frames, X.room, X.hears, X.method, X.code, (X.here.setHeapUsed s₂.heap s₂.slotsUsed).setVm hW'.alike, X.tail, State.WarmedH.trans X.warmed hW', X.limits, X.bytes, X.same.trans (hsame.setVm s.vm)⟩,
      ⟨g, mk, s₂, L, E, ce, rfl, rfl, hx, hce, hcv, hcl, rfl, hL, rfl, rfl⟩, ?_⟩
    show Steps p.tables e below _ (((({ U with heap := s₂.heap, slotsUsed := s₂.slotsUsed } : State).setVm s₂.vm).setTop g).pushFrame (.throwing q))
    rw [← hs₂]
    exact hsteps
end
variable {p : Program} {l : Launch} {e : Env} {R : Room} {s : State} {m : MethodId} {args : Array Value} {below : List Frame} {meth : Method} {c : Code} {T : State} {H : Heap} {locs : List Loc} {cells slots : Nat}
theorem vx_callVX (X : Stand p l e R s m args below meth c T locs cells slots) (hexec : p.tables.exec = Jvm.exec) {own C : String} {index : Nat} {y : MethodName} {bytes : ByteArray} {maxL : Nat} {ret : Option FieldType} {hh : List (Nat × Nat × Nat × Nat)}
    (hown : s.vm.findClass own = some m.cls) (hlink : (Cond.methodLink own index y).before args s = true) (hinst : (Cond.instanceMethod y).before args s = true) (hsel : (Cond.selects C y y).before args s = true)
    (hcode : (Cond.codeWith y bytes maxL ret hh).before args s = true) (hy : y.cls ≠ "java/lang/invoke/MethodHandle" ∧ y.cls ≠ "java/lang/invoke/VarHandle")
    {W9 : Nat} {Pre : Pt → Array Value → Prop} {Post : Pt → Array Value → Option Value → Pt → Prop} {PostX : Pt → Array Value → Addr → Pt → Prop} (hK : vx_Back l R p e below s args y 3 W9 Pre Post PostX)
    {b : Addr} {cellB : Cell} (hcell : T.heap[b]? = some cellB) (hobj : cellB.vm.isStatics = false) (hcls : s.vm.findClass C = some cellB.cls)
    {g : JFrame} (hg : g.method = m) (hsize : g.locals.size = c.maxLocals) {argsL rest : List Value} (hlen : ∀ sig, parseMethodDescriptor y.desc = some sig → argsL.length = sig.parameters.length)
    (hstack : g.stack = argsL.reverse ++ .ref b :: rest) (hW : 2 * g.monitorRoom + (rest.map fun v => v.category).sum ≤ W9) (hdg : decode c.code g.pc = .ok (.invokevirtual index, 3))
    (hpre : ∀ vm₁, s.WarmedH vm₁ → Pre ⟨T.setVm vm₁, locs, cells, slots⟩ (Value.ref b :: argsL).toArray) :
    (∃ (v : Option Value) (vm₁ : Vm) (B : Pt), s.WarmedH vm₁ ∧ Stand p l e R s m args below meth c B.U B.locs B.cells B.slots ∧ Post ⟨T.setVm vm₁, locs, cells, slots⟩ (Value.ref b :: argsL).toArray v B ∧
      ∀ target, Steps p.tables e below (B.U.setTop { g with pc := g.pc + 3, stack := v.toList ++ rest }) target → Steps p.tables e below (T.setTop g) target) ∨
    (∃ (q : Addr) (vm₁ : Vm) (B : Pt), s.WarmedH vm₁ ∧ Stand p l e R s m args below meth c B.U B.locs B.cells B.slots ∧ PostX ⟨T.setVm vm₁, locs, cells, slots⟩ (Value.ref b :: argsL).toArray q B ∧
      Steps p.tables e below (T.setTop g) ((B.U.setTop { g with stack := rest }).pushFrame (.throwing q))) := by
  obtain ⟨mk, methM, hnamed, hmethM, hstM, habM⟩ := Cond.instanceMethod_spec hinst
  obtain ⟨m8, methM', cM, hn8, hmethM', -, -, -, -, -, -, hsigM⟩ := Cond.codeWith_spec hcode
  cases Option.some.inj (hn8.symm.trans hnamed)
  cases hmethM.symm.trans hmethM'
  obtain ⟨c2, r2, m2, q1, q2, q3, q4, kP, hkP, hkPi⟩ := Cond.selects_spec hsel
  cases hcls.symm.trans q1
  cases (State.methodFound?_of_named hnamed hy).symm.trans q2
  cases hnamed.symm.trans q3
  have hselP : selectMethod e.platform s.vm cellB.cls mk = .method mk := by rw [Launch.admits_selectMethod X.admits]; exact q4
  obtain ⟨vm₁, X₁, hstep₁⟩ := X.invokevirtual hexec hown hlink hnamed hmethM hstM hkP hkPi hy (a := b) (cell := cellB) hcell
    (fun z h => by rw [h] at hobj; cases hobj) hselP hmethM habM hkP hkPi (g := g) hg (argsL := argsL) (rest := rest) (hlen _ hsigM) hstack hdg
  rcases hK m meth c ⟨T.setVm vm₁, locs, cells, slots⟩ { g with stack := rest } (.invokevirtual index) mk (Value.ref b :: argsL).toArray X₁ hg hsize hdg hW (X₁.named hnamed) (hpre vm₁ X₁.warmed) with ⟨v, B, X', hpost, hsteps⟩ | ⟨q, B, X', hpost, hsteps⟩
  · exact Or.inl ⟨v, vm₁, B, X₁.warmed, X', hpost, fun target h => hstep₁ _ fun acts => by rw [doInvoke_state]; exact hsteps.trans h⟩
  · exact Or.inr ⟨q, vm₁, B, X₁.warmed, X', hpost, hstep₁ _ fun acts => by rw [doInvoke_state]; exact hsteps⟩
theorem vx_callSX (X : Stand p l e R s m args below meth c T locs cells slots) (hexec : p.tables.exec = Jvm.exec) {own : String} {index : Nat} {y : MethodName} {bytes : ByteArray} {maxL : Nat} {ret : Option FieldType} {hh : List (Nat × Nat × Nat × Nat)}
    (hown : s.vm.findClass own = some m.cls) (hlink : (Cond.methodLink own index y).before args s = true) (hstat : (Cond.static y).before args s = true) (hinit : (Cond.initialized y.cls).before args s = true)
    (hcode : (Cond.codeWith y bytes maxL ret hh).before args s = true) (hy : y.cls ≠ "java/lang/invoke/MethodHandle" ∧ y.cls ≠ "java/lang/invoke/VarHandle")
    {W9 : Nat} {Pre : Pt → Array Value → Prop} {Post : Pt → Array Value → Option Value → Pt → Prop} {PostX : Pt → Array Value → Addr → Pt → Prop} (hK : vx_Back l R p e below s args y 3 W9 Pre Post PostX)
    {g : JFrame} (hg : g.method = m) (hsize : g.locals.size = c.maxLocals) {argsL rest : List Value} (hlen : ∀ sig, parseMethodDescriptor y.desc = some sig → argsL.length = sig.parameters.length)
    (hstack : g.stack = argsL.reverse ++ rest) (hW : 2 * g.monitorRoom + (rest.map fun v => v.category).sum ≤ W9) (hdg : decode c.code g.pc = .ok (.invokestatic index, 3))
    (hpre : ∀ vm₁, s.WarmedH vm₁ → Pre ⟨T.setVm vm₁, locs, cells, slots⟩ argsL.toArray) :
    (∃ (v : Option Value) (vm₁ : Vm) (B : Pt), s.WarmedH vm₁ ∧ Stand p l e R s m args below meth c B.U B.locs B.cells B.slots ∧ Post ⟨T.setVm vm₁, locs, cells, slots⟩ argsL.toArray v B ∧
      ∀ target, Steps p.tables e below (B.U.setTop { g with pc := g.pc + 3, stack := v.toList ++ rest }) target → Steps p.tables e below (T.setTop g) target) ∨
    (∃ (q : Addr) (vm₁ : Vm) (B : Pt), s.WarmedH vm₁ ∧ Stand p l e R s m args below meth c B.U B.locs B.cells B.slots ∧ PostX ⟨T.setVm vm₁, locs, cells, slots⟩ argsL.toArray q B ∧
      Steps p.tables e below (T.setTop g) ((B.U.setTop { g with stack := rest }).pushFrame (.throwing q))) := by
  obtain ⟨mk, methM, cM, hnamed, hmethM, -, -, -, -, -, -, hsigM⟩ := Cond.codeWith_spec hcode
  have hstatic : methM.isStatic = true := Cond.static_spec hnamed hmethM hstat
  obtain ⟨kP, hkP, -⟩ := className_of_methodNamed hnamed
  have hinitP : kP.init = .initialized := Cond.initialized_spec (findClass_of_methodNamed hnamed) hkP hinit
  obtain ⟨vm₁, X₁, hstep₁⟩ := X.invokestatic hexec hown hlink hnamed hmethM hstatic hkP hinitP hy (g := g) hg (argsL := argsL) (rest := rest) (hlen _ hsigM) hstack hdg
  rcases hK m meth c ⟨T.setVm vm₁, locs, cells, slots⟩ { g with stack := rest } (.invokestatic index) mk argsL.toArray X₁ hg hsize hdg hW (X₁.named hnamed) (hpre vm₁ X₁.warmed) with ⟨v, B, X', hpost, hsteps⟩ | ⟨q, B, X', hpost, hsteps⟩
  · exact Or.inl ⟨v, vm₁, B, X₁.warmed, X', hpost, fun target h => hstep₁ _ fun acts => by rw [doInvoke_state]; exact hsteps.trans h⟩
  · exact Or.inr ⟨q, vm₁, B, X₁.warmed, X', hpost, hstep₁ _ fun acts => by rw [doInvoke_state]; exact hsteps⟩
theorem vx_callVW (X : Stand p l e R s m args below meth c T locs cells slots) (hexec : p.tables.exec = Jvm.exec) {own C : String} {index : Nat} {y : MethodName} {bytes : ByteArray} {maxL : Nat} {ret : Option FieldType} {hh : List (Nat × Nat × Nat × Nat)}
    (hown : s.vm.findClass own = some m.cls) (hlink : (Cond.methodLink own index y).before args s = true) (hinst : (Cond.instanceMethod y).before args s = true) (hsel : (Cond.selects C y y).before args s = true)
    (hcode : (Cond.codeWith y bytes maxL ret hh).before args s = true) (hy : y.cls ≠ "java/lang/invoke/MethodHandle" ∧ y.cls ≠ "java/lang/invoke/VarHandle")
    {W9 : Nat} {Pre : Pt → Array Value → Prop} {Post : Pt → Array Value → Option Value → Pt → Prop} (hK : Back l R p e below s args y 3 W9 Pre Post)
    {b : Addr} {cellB : Cell} (hcell : T.heap[b]? = some cellB) (hobj : cellB.vm.isStatics = false) (hcls : s.vm.findClass C = some cellB.cls)
    {g : JFrame} (hg : g.method = m) (hsize : g.locals.size = c.maxLocals) {argsL rest : List Value} (hlen : ∀ sig, parseMethodDescriptor y.desc = some sig → argsL.length = sig.parameters.length)
    (hstack : g.stack = argsL.reverse ++ .ref b :: rest) (hW : 2 * g.monitorRoom + (rest.map fun v => v.category).sum ≤ W9) (hdg : decode c.code g.pc = .ok (.invokevirtual index, 3))
    (hpre : ∀ vm₁, s.WarmedH vm₁ → Pre ⟨T.setVm vm₁, locs, cells, slots⟩ (Value.ref b :: argsL).toArray) :
    ∃ (v : Option Value) (vm₁ : Vm) (B : Pt), s.WarmedH vm₁ ∧ Stand p l e R s m args below meth c B.U B.locs B.cells B.slots ∧ Post ⟨T.setVm vm₁, locs, cells, slots⟩ (Value.ref b :: argsL).toArray v B ∧
      ∀ target, Steps p.tables e below (B.U.setTop { g with pc := g.pc + 3, stack := v.toList ++ rest }) target → Steps p.tables e below (T.setTop g) target := by
  obtain ⟨mk, methM, hnamed, hmethM, hstM, habM⟩ := Cond.instanceMethod_spec hinst
  obtain ⟨m8, methM', cM, hn8, hmethM', -, -, -, -, -, -, hsigM⟩ := Cond.codeWith_spec hcode
  cases Option.some.inj (hn8.symm.trans hnamed)
  cases hmethM.symm.trans hmethM'
  obtain ⟨c2, r2, m2, q1, q2, q3, q4, kP, hkP, hkPi⟩ := Cond.selects_spec hsel
  cases hcls.symm.trans q1
  cases (State.methodFound?_of_named hnamed hy).symm.trans q2
  cases hnamed.symm.trans q3
  have hselP : selectMethod e.platform s.vm cellB.cls mk = .method mk := by rw [Launch.admits_selectMethod X.admits]; exact q4
  obtain ⟨vm₁, X₁, hstep₁⟩ := X.invokevirtual hexec hown hlink hnamed hmethM hstM hkP hkPi hy (a := b) (cell := cellB) hcell
    (fun z h => by rw [h] at hobj; cases hobj) hselP hmethM habM hkP hkPi (g := g) hg (argsL := argsL) (rest := rest) (hlen _ hsigM) hstack hdg
  obtain ⟨v, B, X', hpost, hsteps⟩ := hK m meth c ⟨T.setVm vm₁, locs, cells, slots⟩ { g with stack := rest } (.invokevirtual index) mk (Value.ref b :: argsL).toArray X₁ hg hsize hdg hW (X₁.named hnamed) (hpre vm₁ X₁.warmed)
  exact ⟨v, vm₁, B, X₁.warmed, X', hpost, fun target h => hstep₁ _ fun acts => by rw [doInvoke_state]; exact hsteps.trans h⟩
abbrev vx_CVW (R : Room) (s : State) (args : Array Value) (own C : String) (index : Nat) (y : MethodName) (bytes : ByteArray) (maxL : Nat) (ret : Option FieldType) (hh : List (Nat × Nat × Nat × Nat)) (ws : List Cond) (rm : Room) (mc ms n : Nat) : Prop :=
  (rm.cells = mc ∧ rm.slots = ms ∧ rm.frames + 1 ≤ R.frames ∧ 8 + (maxL + 11) + rm.locals ≤ R.locals ∧ (∀ w ∈ ws, ∀ (a' : Array Value) (U : State), s.WarmedH U.vm → w.before a' U = true) ∧ Cond.codeWith y bytes maxL ret hh ∈ ws) ∧
  (Cond.codeWith y bytes maxL ret hh).before args s = true ∧ (Cond.initialized y.cls).before args s = true ∧ (y.cls ≠ "java/lang/invoke/MethodHandle" ∧ y.cls ≠ "java/lang/invoke/VarHandle") ∧
  (∀ sig, parseMethodDescriptor y.desc = some sig → n = sig.parameters.length) ∧ (Cond.methodLink own index y).before args s = true ∧ (Cond.instanceMethod y).before args s = true ∧ (Cond.selects C y y).before args s = true
theorem vx_cwVW {own C : String} {index maxL mc ms : Nat} {y : MethodName} {bytes : ByteArray} {ret : Option FieldType} {hh : List (Nat × Nat × Nat × Nat)} {Ts ws ws' : List Cond} {rm : Room} (n : Nat) (ht : ∀ w ∈ Ts, w.before args s = true) (hT : GoodIn Ts (wsV own index C y ws)) (hw : ws = Cond.codeWith y bytes maxL ret hh :: ws') (hrc : rm.cells = mc) (hrs : rm.slots = ms)
    (hd : y.cls = C ∧ y.cls ≠ "java/lang/invoke/MethodHandle" ∧ y.cls ≠ "java/lang/invoke/VarHandle" ∧ (parseMethodDescriptor y.desc).map (fun d => d.parameters.length) = some n) (hR : rm.frames + 1 ≤ R.frames ∧ 8 + (maxL + 11) + rm.locals ≤ R.locals) :
    vx_CVW R s args own C index y bytes maxL ret hh ws rm mc ms n := by
  obtain ⟨hC, hd⟩ := hd
  subst hC
  have ok : ∀ w ∈ wsV own index y.cls y ws, w.before args s = true := fun w h => ht w (hT w h).1
  have hG : GoodIn Ts ws := fun w h => hT w (by unfold wsV; exact List.mem_append_right _ h)
  have hc : Cond.codeWith y bytes maxL ret hh ∈ ws := by rw [hw]; exact List.mem_cons_self
  refine ⟨⟨hrc, hrs, hR.1, hR.2, pay_in ht hG, hc⟩, ht _ (hG _ hc).1, ok _ (by simp [wsV]), ⟨hd.1, hd.2.1⟩, fun sig h => ?_, ok _ (by simp [wsV]), ok _ (by simp [wsV]), ok _ (by simp [wsV])⟩
  have h2 := hd.2.2
  rw [h] at h2
  exact (Option.some.inj h2).symm
theorem vx_runVW {y : MethodName} {bytes cc : ByteArray} {maxL nL mc ms n index : Nat} {ret : Option FieldType} {hh : List (Nat × Nat × Nat × Nat)} {ws : List Cond} {rm : Room} {Pc : Array Value → State → Prop} {Qc : Array Value → State → Outcome → State → Prop} {free : Addr → Prop} {Ts : List Cond} {own C : String} {b : Addr} {As rest : List Value} {g : JFrame}
    (S : CallFix p m c cc nL s args Ts own) (hM : Met l y ws rm Pc Qc mc ms free) (cw : vx_CVW R s args own C index y bytes maxL ret hh ws rm mc ms n) (hp : PreV s H C b Pc As)
    (hg : g.method = m) (hn : As.length = n) (hsize : g.locals.size = nL) (hstack : g.stack = As.reverse ++ .ref b :: rest) (hW : 2 * g.monitorRoom + (rest.map fun v => v.category).sum ≤ 8) (hdg : decode cc g.pc = .ok (.invokevirtual index, 3)) (hf : cells + mc ≤ R.cells ∧ slots + ms ≤ R.slots) :
    va_Run p l e R s m args below meth c H locs cells slots mc ms g rest (Qc (Value.ref b :: As).toArray) free := by
  obtain ⟨⟨hrc, hrs, hfr, hlo, hws, hcw⟩, hcode, hini, hy, hlen, hl, hin, hse⟩ := cw
  have hK : Back l R p e below s args y 3 8 (PreOf R mc ms Pc) (PostOf Qc mc ms free) := va_backW (hh := hh) (bytes := bytes) (maxL := maxL) (ret := ret) hM hp.1 hrc hrs hfr hlo hws hcw (fun a' U hW => word_at hW (Or.inl (by first | rfl | simp [Cond.onTables, Cond.keeps, Cond.steady])) hini)
  obtain ⟨hx, hb, hml, ho, -⟩ := S
  obtain ⟨-, ⟨cellB, hcB, hoB, hclB⟩, hPc⟩ := hp
  intro T hT X
  obtain ⟨v, vm₁, ⟨U', l2, c2, s2⟩, hW₁, X', ⟨g', mk, t, L, e1, e2, hq, h1, hL, h2, h3⟩, st⟩ := vx_callVW X hx (C := C) (hh := hh) (bytes := bytes) (maxL := maxL) (ret := ret) ho hl hin hse hcode hy hK (by rw [hT]; exact hcB) hoB hclB hg (hsize.trans hml.symm) (argsL := As) (rest := rest) (fun sig h => hn.trans (hlen sig h)) hstack hW (by rw [hb]; exact hdg)
    (fun vm₁ hW₁ => ⟨hf.1, hf.2, hPc (T.setVm vm₁) hT hW₁⟩)
  dsimp only [Pt.U, Pt.locs, Pt.cells, Pt.slots] at X' e1 e2 h1 h2 h3 st
  subst h1; subst h2; subst h3
  exact ⟨v, (T.setVm vm₁).calling g' mk (Value.ref b :: As).toArray, t, U', L, hT, X', hL, e1, e2, hq, st⟩
section
variable {y : MethodName} {bytes cc : ByteArray} {maxL nL mc ms n index : Nat} {ret : Option FieldType} {ws : List Cond} {rm : Room} {Pc : Array Value → State → Prop} {Qc : Array Value → State → Outcome → State → Prop} {XC : String → State → State → Prop} {free : Addr → Prop} {Ts : List Cond} {own C : String} {b : Addr} {As rest : List Value} {g : JFrame}
theorem vx_runVX {hh : List (Nat × Nat × Nat × Nat)} (S : CallFix p m c cc nL s args Ts own) (hM : vx_Met l y ws rm Pc Qc XC mc ms free) (cw : vx_CVW R s args own C index y bytes maxL ret hh ws rm mc ms n) (hp : PreV s H C b Pc As)
    (hg : g.method = m) (hn : As.length = n) (hsize : g.locals.size = nL) (hstack : g.stack = As.reverse ++ .ref b :: rest) (hW : 2 * g.monitorRoom + (rest.map fun v => v.category).sum ≤ 8) (hdg : decode cc g.pc = .ok (.invokevirtual index, 3)) (hf : cells + mc ≤ R.cells ∧ slots + ms ≤ R.slots) :
    vx_Run p l e R s m args below meth c H locs cells slots mc ms g rest (Qc (Value.ref b :: As).toArray) XC free := by
  obtain ⟨⟨hrc, hrs, hfr, hlo, hws, hcw⟩, hcode, hini, hy, hlen, hl, hin, hse⟩ := cw
  have hK : vx_Back l R p e below s args y 3 8 (PreOf R mc ms Pc) (PostOf Qc mc ms free) (vx_Post XC mc ms free) := vx_backW (hh := hh) (bytes := bytes) (maxL := maxL) (ret := ret) hM hp.1 hrc hrs hfr hlo hws hcw (fun a' U hW => word_at hW (Or.inl (by first | rfl | simp [Cond.onTables, Cond.keeps, Cond.steady])) hini)
  obtain ⟨hx, hb, hml, ho, -⟩ := S
  obtain ⟨-, ⟨cellB, hcB, hoB, hclB⟩, hPc⟩ := hp
  intro T hT X
  rcases vx_callVX X hx (C := C) (hh := hh) (bytes := bytes) (maxL := maxL) (ret := ret) ho hl hin hse hcode hy hK (by rw [hT]; exact hcB) hoB hclB hg (hsize.trans hml.symm) (argsL := As) (rest := rest) (fun sig h => hn.trans (hlen sig h)) hstack hW (by rw [hb]; exact hdg)
    (fun vm₁ hW₁ => ⟨hf.1, hf.2, hPc (T.setVm vm₁) hT hW₁⟩) with ⟨v, vm₁, ⟨U', l2, c2, s2⟩, hW₁, X', ⟨g', mk, t, L, e1, e2, hq, h1, hL, h2, h3⟩, st⟩ | ⟨q, vm₁, ⟨U', l2, c2, s2⟩, hW₁, X', ⟨g', mk, t, L, E, ce, e1, e2, hq, hce, hcv, hcl, h1, hL, h2, h3⟩, st⟩
  · dsimp only [Pt.U, Pt.locs, Pt.cells, Pt.slots] at X' e1 e2 h1 h2 h3 st
    subst h1; subst h2; subst h3
    exact Or.inl ⟨v, (T.setVm vm₁).calling g' mk (Value.ref b :: As).toArray, t, U', L, hT, X', hL, e1, e2, hq, st⟩
  · dsimp only [Pt.U, Pt.locs, Pt.cells, Pt.slots] at X' e1 e2 h1 h2 h3 st hcl
    subst h1; subst h2; subst h3
    exact Or.inr ⟨q, (T.setVm vm₁).calling g' mk (Value.ref b :: As).toArray, t, U', L, E, ce, hT, X', hL, e1, e2, hq, hce, hcv, vx_cls hW₁ hcl, st⟩
theorem vx_runSX {hh : List (Nat × Nat × Nat × Nat)} (S : CallFix p m c cc nL s args Ts own) (hM : vx_Met l y ws rm Pc Qc XC mc ms free) (cw : vx_CSW R s args own index y bytes maxL ret hh ws rm mc ms n) (hp : PreS s H Pc As)
    (hg : g.method = m) (hn : As.length = n) (hsize : g.locals.size = nL) (hstack : g.stack = As.reverse ++ rest) (hW : 2 * g.monitorRoom + (rest.map fun v => v.category).sum ≤ 8) (hdg : decode cc g.pc = .ok (.invokestatic index, 3)) (hf : cells + mc ≤ R.cells ∧ slots + ms ≤ R.slots) :
    vx_Run p l e R s m args below meth c H locs cells slots mc ms g rest (Qc As.toArray) XC free := by
  obtain ⟨⟨hrc, hrs, hfr, hlo, hws, hcw⟩, hcode, hini, hy, hlen, hl, hstt⟩ := cw
  have hK : vx_Back l R p e below s args y 3 8 (PreOf R mc ms Pc) (PostOf Qc mc ms free) (vx_Post XC mc ms free) := vx_backW (hh := hh) (bytes := bytes) (maxL := maxL) (ret := ret) hM hp.1 hrc hrs hfr hlo hws hcw (fun a' U hW => word_at hW (Or.inl (by first | rfl | simp [Cond.onTables, Cond.keeps, Cond.steady])) hini)
  obtain ⟨hx, hb, hml, ho, -⟩ := S
  intro T hT X
  rcases vx_callSX X hx (hh := hh) (bytes := bytes) (maxL := maxL) (ret := ret) ho hl hstt hini hcode hy hK hg (hsize.trans hml.symm) (argsL := As) (rest := rest) (fun sig h => hn.trans (hlen sig h)) hstack hW (by rw [hb]; exact hdg)
    (fun vm₁ hW₁ => ⟨hf.1, hf.2, hp.2 (T.setVm vm₁) hT hW₁⟩) with ⟨v, vm₁, ⟨U', l2, c2, s2⟩, hW₁, X', ⟨g', mk, t, L, e1, e2, hq, h1, hL, h2, h3⟩, st⟩ | ⟨q, vm₁, ⟨U', l2, c2, s2⟩, hW₁, X', ⟨g', mk, t, L, E, ce, e1, e2, hq, hce, hcv, hcl, h1, hL, h2, h3⟩, st⟩
  · dsimp only [Pt.U, Pt.locs, Pt.cells, Pt.slots] at X' e1 e2 h1 h2 h3 st
    subst h1; subst h2; subst h3
    exact Or.inl ⟨v, (T.setVm vm₁).calling g' mk As.toArray, t, U', L, hT, X', hL, e1, e2, hq, st⟩
  · dsimp only [Pt.U, Pt.locs, Pt.cells, Pt.slots] at X' e1 e2 h1 h2 h3 st hcl
    subst h1; subst h2; subst h3
    exact Or.inr ⟨q, (T.setVm vm₁).calling g' mk As.toArray, t, U', L, E, ce, hT, X', hL, e1, e2, hq, hce, hcv, vx_cls hW₁ hcl, st⟩
end
end VXH
theorem vx_ofWH {l : Launch} {y : MethodName} {ws ws' : List Cond} {rm : Room} {Pc : Array Value → State → Prop} {Qc : Array Value → State → Outcome → State → Prop} {XC : String → State → State → Prop} {mc ms : Nat} {free : Addr → Prop} {cc : ByteArray} {maxL : Nat} {ret : Option FieldType} {hh : List (Nat × Nat × Nat × Nat)}
    (hy : plainName y.cls = true) (hw : ws = Cond.codeWith y cc maxL ret hh :: ws')
    (body : ∀ p e s m args below meth c s₁, BodyLoose p l y (headSpec ws rm) cc maxL ret e s m args below meth c s₁ → c.maxLocals = maxL → Pc args s →
      W p l e (headSpec ws rm).room s m args below meth c s.heap [] 0 0 (vx_MQ below Qc XC args s mc ms free) (entryFrame m args maxL)) : vx_Met l y ws rm Pc Qc XC mc ms free := by
  refine MetFree.of_bodyS (code := cc) (maxLocals := maxL) (ret := ret) hy ?_ ?_
  · intro args s m h hn
    obtain ⟨m9, meth, c, hn9, h1, h2, h3, h4, -, h5, h6, -⟩ := Cond.codeWith_spec (atoms_spec (ws := ws) h _ (by rw [hw]; exact List.mem_cons_self))
    cases hn.symm.trans hn9
    exact ⟨meth, c, h1, h2, h3, h4, h5, h6⟩
  · intro p e s m args below meth c s₁ B hml hP _
    have hh0 : s₁.heap = s.heap := by rw [B.state]; rfl
    obtain ⟨t, a1, o, b1, b2, b3⟩ := body p e s m args below meth c s₁ B hml hP s₁ hh0 (Stand.of_body B)
    exact ⟨t, o, a1, b1, b2, b3⟩
def RX0 : String := "PodGuideway$Ring"
def TX0 : u_T := fun k => match k with
  | 0 => ("PodGuideway$Ring", "minute", "I", false)
  | 1 => ("PodGuideway$Ring", "stations", "I", false)
  | 2 => ("PodGuideway$Ring", "pods", "I", false)
  | 3 => ("PodGuideway$Ring", "ridersInAll", "I", false)
  | 4 => ("PodGuideway$Ring", "callsAnswered", "I", false)
  | 5 => ("PodGuideway$Ring", "waitedBeforeBoarding", "I", false)
  | 6 => ("PodGuideway$Ring", "podInSlot", "[I", true)
  | 7 => ("PodGuideway$Ring", "podInBerth", "[I", true)
  | 8 => ("PodGuideway$Ring", "stationPlace", "[I", true)
  | 9 => ("PodGuideway$Ring", "stationArrived", "[I", true)
  | 10 => ("PodGuideway$Ring", "stationWaiting", "[I", true)
  | 11 => ("PodGuideway$Ring", "riderNumber", "[I", true)
  | 12 => ("PodGuideway$Ring", "riderGoal", "[I", true)
  | 13 => ("PodGuideway$Ring", "riderCame", "[I", true)
  | 14 => ("PodGuideway$Ring", "podGoal", "[I", true)
  | 15 => ("PodGuideway$Ring", "podRider", "[I", true)
  | _ => ("PodGuideway$Ring", "podBarred", "[I", true)
def tyX0 : Nat → FieldType := fun k => match k with
  | 0 => .int
  | 1 => .int
  | 2 => .int
  | 3 => .int
  | 4 => .int
  | 5 => .int
  | 6 => .array .int
  | 7 => .array .int
  | 8 => .array .int
  | 9 => .array .int
  | 10 => .array .int
  | 11 => .array .int
  | 12 => .array .int
  | 13 => .array .int
  | 14 => .array .int
  | 15 => .array .int
  | _ => .array .int
abbrev wsX00 : List Cond := u_ws RX0 TX0 17
theorem nmX0 : ∀ a, a < 17 → ∀ b, b < 17 → a ≠ b → (TX0 a).2.1 ≠ (TX0 b).2.1 := by decide +kernel
theorem tyX0_ok : ∀ k, k < 17 → parseFieldDescriptor (TX0 k).2.2.1 = some (tyX0 k) := by decide +kernel
abbrev cX0_init : ByteArray := prog_2_method_1_code
def yX0_init : MethodName := ⟨RX0, "<init>", "()V"⟩
abbrev cX0_copyFrom : ByteArray := prog_2_method_2_code
def yX0_copyFrom : MethodName := ⟨RX0, "copyFrom", "(LPodGuideway$Ring;)V"⟩
abbrev cX0_addStation : ByteArray := prog_2_method_3_code
def yX0_addStation : MethodName := ⟨RX0, "addStation", "(I)I"⟩
abbrev cX0_addPod : ByteArray := prog_2_method_4_code
def yX0_addPod : MethodName := ⟨RX0, "addPod", "(I)I"⟩
abbrev cX0_addRider : ByteArray := prog_2_method_5_code
def yX0_addRider : MethodName := ⟨RX0, "addRider", "(II)I"⟩
abbrev cX0_setGoal : ByteArray := prog_2_method_6_code
def yX0_setGoal : MethodName := ⟨RX0, "setGoal", "(II)V"⟩
abbrev cX0_passMinute : ByteArray := prog_2_method_7_code
def yX0_passMinute : MethodName := ⟨RX0, "passMinute", "()V"⟩
abbrev cX0_moveSlots : ByteArray := prog_2_method_8_code
def yX0_moveSlots : MethodName := ⟨RX0, "moveSlots", "()V"⟩
abbrev cX0_letGoOff : ByteArray := prog_2_method_9_code
def yX0_letGoOff : MethodName := ⟨RX0, "letGoOff", "(I)V"⟩
abbrev cX0_letBoard : ByteArray := prog_2_method_10_code
def yX0_letBoard : MethodName := ⟨RX0, "letBoard", "(I)V"⟩
abbrev cX0_boardFirst : ByteArray := prog_2_method_11_code
def yX0_boardFirst : MethodName := ⟨RX0, "boardFirst", "(II)V"⟩
abbrev cX0_letCall : ByteArray := prog_2_method_12_code
def yX0_letCall : MethodName := ⟨RX0, "letCall", "(I)V"⟩
abbrev cX0_letMerge : ByteArray := prog_2_method_13_code
def yX0_letMerge : MethodName := ⟨RX0, "letMerge", "(I)V"⟩
abbrev cX0_stationAtPlace : ByteArray := prog_2_method_14_code
def yX0_stationAtPlace : MethodName := ⟨RX0, "stationAtPlace", "(I)I"⟩
abbrev cX0_stationThatAnswers : ByteArray := prog_2_method_15_code
def yX0_stationThatAnswers : MethodName := ⟨RX0, "stationThatAnswers", "(I)I"⟩
abbrev cX0_placesOn : ByteArray := prog_2_method_16_code
def yX0_placesOn : MethodName := ⟨RX0, "placesOn", "(II)I"⟩
abbrev cX0_placeOf : ByteArray := prog_2_method_17_code
def yX0_placeOf : MethodName := ⟨RX0, "placeOf", "(I)I"⟩
abbrev cX0_waitingAt : ByteArray := prog_2_method_18_code
def yX0_waitingAt : MethodName := ⟨RX0, "waitingAt", "(I)I"⟩
abbrev cX0_podAtPlace : ByteArray := prog_2_method_19_code
def yX0_podAtPlace : MethodName := ⟨RX0, "podAtPlace", "(I)I"⟩
abbrev cX0_goalOf : ByteArray := prog_2_method_20_code
def yX0_goalOf : MethodName := ⟨RX0, "goalOf", "(I)I"⟩
abbrev cX0_berthHolds : ByteArray := prog_2_method_21_code
def yX0_berthHolds : MethodName := ⟨RX0, "berthHolds", "(I)I"⟩
abbrev cX0_firstBerth : ByteArray := prog_2_method_22_code
def yX0_firstBerth : MethodName := ⟨RX0, "firstBerth", "(II)I"⟩
abbrev cX0_berthsThatHold : ByteArray := prog_2_method_23_code
def yX0_berthsThatHold : MethodName := ⟨RX0, "berthsThatHold", "(II)I"⟩
abbrev cX0_berthOf : ByteArray := prog_2_method_24_code
def yX0_berthOf : MethodName := ⟨RX0, "berthOf", "(I)I"⟩
abbrev cX0_emptyPodsTo : ByteArray := prog_2_method_25_code
def yX0_emptyPodsTo : MethodName := ⟨RX0, "emptyPodsTo", "(I)I"⟩
abbrev cX0_waitedBy : ByteArray := prog_2_method_26_code
def yX0_waitedBy : MethodName := ⟨RX0, "waitedBy", "(II)I"⟩
abbrev cX0_waitedAt : ByteArray := prog_2_method_27_code
def yX0_waitedAt : MethodName := ⟨RX0, "waitedAt", "(I)I"⟩
abbrev cX0_waitedInAll : ByteArray := prog_2_method_28_code
def yX0_waitedInAll : MethodName := ⟨RX0, "waitedInAll", "()I"⟩
abbrev cX0_waitingInAll : ByteArray := prog_2_method_29_code
def yX0_waitingInAll : MethodName := ⟨RX0, "waitingInAll", "()I"⟩
abbrev cX0_arrivedInAll : ByteArray := prog_2_method_30_code
def yX0_arrivedInAll : MethodName := ⟨RX0, "arrivedInAll", "()I"⟩
abbrev cX0_ridersInPods : ByteArray := prog_2_method_31_code
def yX0_ridersInPods : MethodName := ⟨RX0, "ridersInPods", "()I"⟩
abbrev cX0_freeSlots : ByteArray := prog_2_method_32_code
def yX0_freeSlots : MethodName := ⟨RX0, "freeSlots", "()I"⟩
abbrev cX0_tellPod : ByteArray := prog_2_method_34_code
def yX0_tellPod : MethodName := ⟨RX0, "tellPod", "(II)I"⟩
abbrev cX0_tellStation : ByteArray := prog_2_method_35_code
def yX0_tellStation : MethodName := ⟨RX0, "tellStation", "(II)I"⟩
abbrev cX0_tellRider : ByteArray := prog_2_method_36_code
def yX0_tellRider : MethodName := ⟨RX0, "tellRider", "(II)I"⟩
abbrev cX0_tellCount : ByteArray := prog_2_method_37_code
def yX0_tellCount : MethodName := ⟨RX0, "tellCount", "(I)I"⟩
abbrev cX0_emptyRow : ByteArray := prog_2_method_38_code
def yX0_emptyRow : MethodName := ⟨RX0, "emptyRow", "(I)[I"⟩
abbrev cX0_read : ByteArray := prog_2_method_39_code
def yX0_read : MethodName := ⟨RX0, "read", "([II)I"⟩
abbrev cX0_write : ByteArray := prog_2_method_40_code
def yX0_write : MethodName := ⟨RX0, "write", "([III)V"⟩
abbrev cX0_find : ByteArray := prog_2_method_41_code
def yX0_find : MethodName := ⟨RX0, "find", "([II)I"⟩
abbrev cX0_copyRow : ByteArray := prog_2_method_42_code
def yX0_copyRow : MethodName := ⟨RX0, "copyRow", "([I[I)V"⟩
def RX1 : String := "PodGuideway"
def TX1 : u_T := fun k => match k with
  | 0 => ("PodGuideway", "now", "LPodGuideway$Ring;", true)
  | _ => ("PodGuideway", "ahead", "LPodGuideway$Ring;", true)
def tyX1 : Nat → FieldType := fun k => match k with
  | 0 => .object "PodGuideway$Ring"
  | _ => .object "PodGuideway$Ring"
abbrev wsX10 : List Cond := u_ws RX1 TX1 2
theorem nmX1 : ∀ a, a < 2 → ∀ b, b < 2 → a ≠ b → (TX1 a).2.1 ≠ (TX1 b).2.1 := by decide +kernel
theorem tyX1_ok : ∀ k, k < 2 → parseFieldDescriptor (TX1 k).2.2.1 = some (tyX1 k) := by decide +kernel
abbrev cX1_init : ByteArray := prog_1_method_1_code
def yX1_init : MethodName := ⟨RX1, "<init>", "()V"⟩
abbrev cX1_build : ByteArray := prog_1_method_2_code
def yX1_build : MethodName := ⟨RX1, "build", "(I)I"⟩
abbrev cX1_pod : ByteArray := prog_1_method_3_code
def yX1_pod : MethodName := ⟨RX1, "pod", "(I)I"⟩
abbrev cX1_ride : ByteArray := prog_1_method_4_code
def yX1_ride : MethodName := ⟨RX1, "ride", "(II)I"⟩
abbrev cX1_send : ByteArray := prog_1_method_5_code
def yX1_send : MethodName := ⟨RX1, "send", "(II)I"⟩
abbrev cX1_told : ByteArray := prog_1_method_6_code
def yX1_told : MethodName := ⟨RX1, "told", "(II)I"⟩
abbrev cX1_station : ByteArray := prog_1_method_7_code
def yX1_station : MethodName := ⟨RX1, "station", "(II)I"⟩
abbrev cX1_waits : ByteArray := prog_1_method_8_code
def yX1_waits : MethodName := ⟨RX1, "waits", "(II)I"⟩
abbrev cX1_slot : ByteArray := prog_1_method_9_code
def yX1_slot : MethodName := ⟨RX1, "slot", "(I)I"⟩
abbrev cX1_count : ByteArray := prog_1_method_10_code
def yX1_count : MethodName := ⟨RX1, "count", "(I)I"⟩
abbrev cX1_pass : ByteArray := prog_1_method_11_code
def yX1_pass : MethodName := ⟨RX1, "pass", "(I)I"⟩
abbrev cX1_when : ByteArray := prog_1_method_12_code
def yX1_when : MethodName := ⟨RX1, "when", "(I)I"⟩
abbrev cX1_answers : ByteArray := prog_1_method_14_code
def yX1_answers : MethodName := ⟨RX1, "answers", "(I)I"⟩
abbrev cX1_foresee : ByteArray := prog_1_method_15_code
def yX1_foresee : MethodName := ⟨RX1, "foresee", "(II)I"⟩
abbrev cX1_mean : ByteArray := prog_1_method_16_code
def yX1_mean : MethodName := ⟨RX1, "mean", "()D"⟩
abbrev cX1_needPlace : ByteArray := prog_1_method_19_code
def yX1_needPlace : MethodName := ⟨RX1, "needPlace", "(I)V"⟩
abbrev cX1_needStation : ByteArray := prog_1_method_20_code
def yX1_needStation : MethodName := ⟨RX1, "needStation", "(I)V"⟩
abbrev cX1_needTwoStations : ByteArray := prog_1_method_21_code
def yX1_needTwoStations : MethodName := ⟨RX1, "needTwoStations", "(II)V"⟩
abbrev cX1_needPod : ByteArray := prog_1_method_22_code
def yX1_needPod : MethodName := ⟨RX1, "needPod", "(I)V"⟩
abbrev cX1_needWhat : ByteArray := prog_1_method_23_code
def yX1_needWhat : MethodName := ⟨RX1, "needWhat", "(III)V"⟩
abbrev cX1_needMinutes : ByteArray := prog_1_method_24_code
def yX1_needMinutes : MethodName := ⟨RX1, "needMinutes", "(I)V"⟩
def RX2 : String := "PodGuidewayLaw$Pod"
def TX2 : u_T := fun k => match k with
  | 0 => ("PodGuidewayLaw$Pod", "slot", "I", false)
  | 1 => ("PodGuidewayLaw$Pod", "at", "I", false)
  | 2 => ("PodGuidewayLaw$Pod", "berth", "I", false)
  | 3 => ("PodGuidewayLaw$Pod", "goal", "I", false)
  | 4 => ("PodGuidewayLaw$Pod", "rider", "I", false)
  | 5 => ("PodGuidewayLaw$Pod", "missed", "I", false)
  | _ => ("PodGuidewayLaw$Pod", "offs", "I", false)
def tyX2 : Nat → FieldType := fun k => match k with
  | 0 => .int
  | 1 => .int
  | 2 => .int
  | 3 => .int
  | 4 => .int
  | 5 => .int
  | _ => .int
abbrev wsX20 : List Cond := u_ws RX2 TX2 7
theorem nmX2 : ∀ a, a < 7 → ∀ b, b < 7 → a ≠ b → (TX2 a).2.1 ≠ (TX2 b).2.1 := by decide +kernel
theorem tyX2_ok : ∀ k, k < 7 → parseFieldDescriptor (TX2 k).2.2.1 = some (tyX2 k) := by decide +kernel
abbrev cX2_init : ByteArray := prog_4_method_1_code
def yX2_init : MethodName := ⟨RX2, "<init>", "()V"⟩
def RX3 : String := "PodGuidewayLaw$Sim"
def TX3 : u_T := fun k => match k with
  | 0 => ("PodGuidewayLaw$Sim", "place", "[I", false)
  | 1 => ("PodGuidewayLaw$Sim", "waits", "[[[I", false)
  | 2 => ("PodGuidewayLaw$Sim", "arrived", "[I", false)
  | 3 => ("PodGuidewayLaw$Sim", "pods", "[LPodGuidewayLaw$Pod;", false)
  | 4 => ("PodGuidewayLaw$Sim", "minute", "I", false)
  | 5 => ("PodGuidewayLaw$Sim", "answered", "I", false)
  | 6 => ("PodGuidewayLaw$Sim", "boarded", "I", false)
  | _ => ("PodGuidewayLaw$Sim", "followed", "I", false)
def tyX3 : Nat → FieldType := fun k => match k with
  | 0 => .array .int
  | 1 => .array (.array (.array .int))
  | 2 => .array .int
  | 3 => .array (.object "PodGuidewayLaw$Pod")
  | 4 => .int
  | 5 => .int
  | 6 => .int
  | _ => .int
abbrev wsX30 : List Cond := u_ws RX3 TX3 8
theorem nmX3 : ∀ a, a < 8 → ∀ b, b < 8 → a ≠ b → (TX3 a).2.1 ≠ (TX3 b).2.1 := by decide +kernel
theorem tyX3_ok : ∀ k, k < 8 → parseFieldDescriptor (TX3 k).2.2.1 = some (tyX3 k) := by decide +kernel
abbrev cX3_init : ByteArray := prog_5_method_1_code
def yX3_init : MethodName := ⟨RX3, "<init>", "()V"⟩
abbrev cX3_more : ByteArray := prog_5_method_3_code
def yX3_more : MethodName := ⟨RX3, "more", "([[I[I)[[I"⟩
abbrev cX3_build : ByteArray := prog_5_method_4_code
def yX3_build : MethodName := ⟨RX3, "build", "(I)V"⟩
abbrev cX3_in : ByteArray := prog_5_method_5_code
def yX3_in : MethodName := ⟨RX3, "in", "(II)LPodGuidewayLaw$Pod;"⟩
abbrev cX3_free : ByteArray := prog_5_method_6_code
def yX3_free : MethodName := ⟨RX3, "free", "(I)I"⟩
abbrev cX3_slot : ByteArray := prog_5_method_7_code
def yX3_slot : MethodName := ⟨RX3, "slot", "(I)LPodGuidewayLaw$Pod;"⟩
abbrev cX3_idle : ByteArray := prog_5_method_8_code
def yX3_idle : MethodName := ⟨RX3, "idle", "(I)LPodGuidewayLaw$Pod;"⟩
abbrev cX3_coming : ByteArray := prog_5_method_9_code
def yX3_coming : MethodName := ⟨RX3, "coming", "(I)I"⟩
abbrev cX3_answer : ByteArray := prog_5_method_10_code
def yX3_answer : MethodName := ⟨RX3, "answer", "(I)I"⟩
abbrev cX3_pass : ByteArray := prog_5_method_11_code
def yX3_pass : MethodName := ⟨RX3, "pass", "()I"⟩
abbrev cX3_told : ByteArray := prog_5_method_12_code
def yX3_told : MethodName := ⟨RX3, "told", "(I)I"⟩
abbrev cX3_isSame : ByteArray := prog_5_method_13_code
def yX3_isSame : MethodName := ⟨RX3, "isSame", "(LPodGuideway;)Z"⟩
def RX4 : String := "PodGuidewayModel"
def TX4 : u_T := fun k => match k with
  | _ => ("", "", "", false)
def tyX4 : Nat → FieldType := fun k => match k with
  | _ => .int
abbrev wsX40 : List Cond := u_ws RX4 TX4 0
theorem nmX4 : ∀ a, a < 0 → ∀ b, b < 0 → a ≠ b → (TX4 a).2.1 ≠ (TX4 b).2.1 := by decide +kernel
theorem tyX4_ok : ∀ k, k < 0 → parseFieldDescriptor (TX4 k).2.2.1 = some (tyX4 k) := by decide +kernel
def RJx145de : String := "java/io/Serializable"
def TJx145de : u_T := fun k => match k with
  | _ => ("", "", "", false)
def tyJx145de : Nat → FieldType := fun k => match k with
  | _ => .int
abbrev wsJx145de0 : List Cond := u_ws RJx145de TJx145de 0
theorem nmJx145de : ∀ a, a < 0 → ∀ b, b < 0 → a ≠ b → (TJx145de a).2.1 ≠ (TJx145de b).2.1 := by decide +kernel
theorem tyJx145de_ok : ∀ k, k < 0 → parseFieldDescriptor (TJx145de k).2.2.1 = some (tyJx145de k) := by decide +kernel
def RJ9 : String := "java/lang/Math"
def TJ9 : u_T := fun k => match k with
  | _ => ("", "", "", false)
def tyJ9 : Nat → FieldType := fun k => match k with
  | _ => .int
abbrev wsJ90 : List Cond := u_ws RJ9 TJ9 0
theorem nmJ9 : ∀ a, a < 0 → ∀ b, b < 0 → a ≠ b → (TJ9 a).2.1 ≠ (TJ9 b).2.1 := by decide +kernel
theorem tyJ9_ok : ∀ k, k < 0 → parseFieldDescriptor (TJ9 k).2.2.1 = some (tyJ9 k) := by decide +kernel
abbrev cJ9_floorMod_7cf53 : ByteArray := prog_11_method_50_code
def yJ9_floorMod_7cf53 : MethodName := ⟨RJ9, "floorMod", "(II)I"⟩
abbrev cJ9_max_7cf53 : ByteArray := prog_11_method_65_code
def yJ9_max_7cf53 : MethodName := ⟨RJ9, "max", "(II)I"⟩
abbrev cJ9_min_7cf53 : ByteArray := prog_11_method_69_code
def yJ9_min_7cf53 : MethodName := ⟨RJ9, "min", "(II)I"⟩
def RJ0 : String := "java/lang/String"
def TJ0 : u_T := fun k => match k with
  | _ => ("", "", "", false)
def tyJ0 : Nat → FieldType := fun k => match k with
  | _ => .int
abbrev wsJ00 : List Cond := u_ws RJ0 TJ0 0
theorem nmJ0 : ∀ a, a < 0 → ∀ b, b < 0 → a ≠ b → (TJ0 a).2.1 ≠ (TJ0 b).2.1 := by decide +kernel
theorem tyJ0_ok : ∀ k, k < 0 → parseFieldDescriptor (TJ0 k).2.2.1 = some (tyJ0 k) := by decide +kernel
def RJ10 : String := "java/lang/System"
def TJ10 : u_T := fun k => match k with
  | _ => ("", "", "", false)
def tyJ10 : Nat → FieldType := fun k => match k with
  | _ => .int
abbrev wsJ100 : List Cond := u_ws RJ10 TJ10 0
theorem nmJ10 : ∀ a, a < 0 → ∀ b, b < 0 → a ≠ b → (TJ10 a).2.1 ≠ (TJ10 b).2.1 := by decide +kernel
theorem tyJ10_ok : ∀ k, k < 0 → parseFieldDescriptor (TJ10 k).2.2.1 = some (tyJ10 k) := by decide +kernel
def RJ7 : String := "java/util/Arrays"
def TJ7 : u_T := fun k => match k with
  | _ => ("", "", "", false)
def tyJ7 : Nat → FieldType := fun k => match k with
  | _ => .int
abbrev wsJ70 : List Cond := u_ws RJ7 TJ7 0
theorem nmJ7 : ∀ a, a < 0 → ∀ b, b < 0 → a ≠ b → (TJ7 a).2.1 ≠ (TJ7 b).2.1 := by decide +kernel
theorem tyJ7_ok : ∀ k, k < 0 → parseFieldDescriptor (TJ7 k).2.2.1 = some (tyJ7 k) := by decide +kernel
abbrev cJ7_fill_53178 : ByteArray := prog_16_method_103_code
def yJ7_fill_53178 : MethodName := ⟨RJ7, "fill", "([II)V"⟩
def RL : String := "PodGuidewayLaw"
abbrev cL_below : ByteArray := method_2_code
def yL_below : MethodName := ⟨RL, "below", "(II)I"⟩
abbrev cL_cell : ByteArray := method_3_code
def yL_cell : MethodName := ⟨RL, "cell", "([II)I"⟩
abbrev cL_act : ByteArray := method_4_code
def yL_act : MethodName := ⟨RL, "act", "(LPodGuideway;LPodGuidewayLaw$Sim;I)Z"⟩
abbrev cL_build : ByteArray := method_5_code
def yL_build : MethodName := ⟨RL, "build", "(LPodGuideway;[I)LPodGuidewayLaw$Sim;"⟩
abbrev cL_law : ByteArray := code
def yL_law : MethodName := ⟨RL, "law", "([I)Z"⟩
def wsJ7_fill_53178 : List Cond := .code yJ7_fill_53178 cJ7_fill_53178 4 none :: ([])
def wsX0_emptyRow : List Cond := .code yX0_emptyRow cX0_emptyRow 2 (some (.array .int)) :: ([.methodLink RX0 146 Lib.Math.max.name, .static Lib.Math.max.name, .initialized "java/lang/Math", .code Lib.Math.max.name Lib.Math.max.code 2 (some .int), .arrayClass .int, .methodLink RX0 174 yJ7_fill_53178, .static yJ7_fill_53178, .initialized RJ7, .code yJ7_fill_53178 cJ7_fill_53178 4 none])
def wsX0_init_r1 : List Cond := [Cond.methodLink RX0 3 objectInit, Cond.instanceMethod objectInit, Cond.code objectInit ⟨#[0xb1]⟩ 1 none, Cond.fieldLink RX0 15 "PodGuideway$Ring" "podInSlot" "[I", Cond.fieldLink RX0 19 "PodGuideway$Ring" "podInBerth" "[I", Cond.arrayClass .int, Cond.fieldLink RX0 22 "PodGuideway$Ring" "stationPlace" "[I", Cond.fieldLink RX0 25 "PodGuideway$Ring" "stationArrived" "[I", Cond.fieldLink RX0 28 "PodGuideway$Ring" "stationWaiting" "[I", Cond.fieldLink RX0 31 "PodGuideway$Ring" "riderNumber" "[I", Cond.fieldLink RX0 34 "PodGuideway$Ring" "riderGoal" "[I", Cond.fieldLink RX0 37 "PodGuideway$Ring" "riderCame" "[I", Cond.fieldLink RX0 40 "PodGuideway$Ring" "podGoal" "[I", Cond.fieldLink RX0 43 "PodGuideway$Ring" "podRider" "[I", Cond.fieldLink RX0 46 "PodGuideway$Ring" "podBarred" "[I", Cond.methodLink RX0 9 yX0_emptyRow, Cond.static yX0_emptyRow, Cond.initialized RX0, Cond.code yX0_emptyRow cX0_emptyRow 2 (some (.array .int)), Cond.methodLink RX0 146 Lib.Math.max.name, Cond.static Lib.Math.max.name, Cond.initialized "java/lang/Math", Cond.code Lib.Math.max.name Lib.Math.max.code 2 (some .int), Cond.methodLink RX0 174 yJ7_fill_53178]
def wsX0_init_r2 : List Cond := [Cond.static yJ7_fill_53178, Cond.initialized RJ7, Cond.code yJ7_fill_53178 cJ7_fill_53178 4 none]
def wsX0_init : List Cond := .code yX0_init cX0_init 1 none :: ((wsX0_init_r1 ++ wsX0_init_r2) ++ wsX00)
def wsX0_copyRow : List Cond := .code yX0_copyRow cX0_copyRow 2 none :: ([.methodLink RX0 180 Lib.Math.min.name, .static Lib.Math.min.name, .initialized "java/lang/Math", .code Lib.Math.min.name Lib.Math.min.code 2 (some .int), .methodLink RX0 104 arraycopyName, .native arraycopyName, .static arraycopyName, .initialized "java/lang/System"])
def wsX0_copyFrom_r1 : List Cond := [Cond.fieldLink RX0 49 "PodGuideway$Ring" "minute" "I", Cond.fieldLink RX0 53 "PodGuideway$Ring" "stations" "I", Cond.fieldLink RX0 56 "PodGuideway$Ring" "pods" "I", Cond.fieldLink RX0 59 "PodGuideway$Ring" "ridersInAll" "I", Cond.fieldLink RX0 62 "PodGuideway$Ring" "callsAnswered" "I", Cond.fieldLink RX0 65 "PodGuideway$Ring" "waitedBeforeBoarding" "I", Cond.fieldLink RX0 15 "PodGuideway$Ring" "podInSlot" "[I", Cond.fieldLink RX0 19 "PodGuideway$Ring" "podInBerth" "[I", Cond.fieldLink RX0 22 "PodGuideway$Ring" "stationPlace" "[I", Cond.fieldLink RX0 25 "PodGuideway$Ring" "stationArrived" "[I", Cond.fieldLink RX0 28 "PodGuideway$Ring" "stationWaiting" "[I", Cond.fieldLink RX0 31 "PodGuideway$Ring" "riderNumber" "[I", Cond.fieldLink RX0 34 "PodGuideway$Ring" "riderGoal" "[I", Cond.fieldLink RX0 37 "PodGuideway$Ring" "riderCame" "[I", Cond.fieldLink RX0 40 "PodGuideway$Ring" "podGoal" "[I", Cond.fieldLink RX0 43 "PodGuideway$Ring" "podRider" "[I", Cond.fieldLink RX0 46 "PodGuideway$Ring" "podBarred" "[I", Cond.methodLink RX0 68 yX0_copyRow, Cond.static yX0_copyRow, Cond.initialized RX0, Cond.code yX0_copyRow cX0_copyRow 2 none, Cond.methodLink RX0 180 Lib.Math.min.name, Cond.static Lib.Math.min.name, Cond.initialized "java/lang/Math"]
def wsX0_copyFrom_r2 : List Cond := [Cond.code Lib.Math.min.name Lib.Math.min.code 2 (some .int), Cond.methodLink RX0 104 arraycopyName, Cond.native arraycopyName, Cond.static arraycopyName, Cond.initialized "java/lang/System"]
def wsX0_copyFrom : List Cond := .code yX0_copyFrom cX0_copyFrom 2 none :: ((wsX0_copyFrom_r1 ++ wsX0_copyFrom_r2) ++ wsX00)
def wsX0_write : List Cond := .code yX0_write cX0_write 3 none :: ([])
def wsX0_addStation : List Cond := .code yX0_addStation cX0_addStation 3 (some .int) :: ([.fieldLink RX0 53 "PodGuideway$Ring" "stations" "I", .fieldLink RX0 22 "PodGuideway$Ring" "stationPlace" "[I", .methodLink RX0 72 yX0_write, .static yX0_write, .initialized RX0, .code yX0_write cX0_write 3 none] ++ wsX00)
def wsX0_read : List Cond := .code yX0_read cX0_read 2 (some .int) :: ([])
def wsX0_berthHolds : List Cond := .code yX0_berthHolds cX0_berthHolds 3 (some .int) :: ([.fieldLink RX0 19 "PodGuideway$Ring" "podInBerth" "[I", .fieldLink RX0 40 "PodGuideway$Ring" "podGoal" "[I", .methodLink RX0 100 yX0_read, .static yX0_read, .initialized RX0, .code yX0_read cX0_read 2 (some .int)] ++ wsX00)
def wsX0_firstBerth : List Cond := .code yX0_firstBerth cX0_firstBerth 4 (some .int) :: ([.methodLink RX0 123 yX0_berthHolds, .instanceMethod yX0_berthHolds, .selects RX0 yX0_berthHolds yX0_berthHolds, .initialized RX0, .code yX0_berthHolds cX0_berthHolds 3 (some .int), .fieldLink RX0 19 "PodGuideway$Ring" "podInBerth" "[I", .fieldLink RX0 40 "PodGuideway$Ring" "podGoal" "[I", .methodLink RX0 100 yX0_read, .static yX0_read, .code yX0_read cX0_read 2 (some .int)] ++ wsX00)
def wsX0_addPod : List Cond := .code yX0_addPod cX0_addPod 3 (some .int) :: ([.fieldLink RX0 56 "PodGuideway$Ring" "pods" "I", .fieldLink RX0 19 "PodGuideway$Ring" "podInBerth" "[I", .methodLink RX0 76 yX0_firstBerth, .instanceMethod yX0_firstBerth, .selects RX0 yX0_firstBerth yX0_firstBerth, .initialized RX0, .code yX0_firstBerth cX0_firstBerth 4 (some .int), .methodLink RX0 123 yX0_berthHolds, .instanceMethod yX0_berthHolds, .selects RX0 yX0_berthHolds yX0_berthHolds, .code yX0_berthHolds cX0_berthHolds 3 (some .int), .fieldLink RX0 40 "PodGuideway$Ring" "podGoal" "[I", .methodLink RX0 100 yX0_read, .static yX0_read, .code yX0_read cX0_read 2 (some .int), .methodLink RX0 72 yX0_write, .static yX0_write, .code yX0_write cX0_write 3 none] ++ wsX00)
def wsX0_waitingAt : List Cond := .code yX0_waitingAt cX0_waitingAt 2 (some .int) :: ([.fieldLink RX0 28 "PodGuideway$Ring" "stationWaiting" "[I", .methodLink RX0 146 Lib.Math.max.name, .static Lib.Math.max.name, .initialized "java/lang/Math", .code Lib.Math.max.name Lib.Math.max.code 2 (some .int), .methodLink RX0 100 yX0_read, .static yX0_read, .initialized RX0, .code yX0_read cX0_read 2 (some .int)] ++ wsX00)
def wsX0_addRider : List Cond := .code yX0_addRider cX0_addRider 5 (some .int) :: ([.fieldLink RX0 59 "PodGuideway$Ring" "ridersInAll" "I", .fieldLink RX0 31 "PodGuideway$Ring" "riderNumber" "[I", .fieldLink RX0 34 "PodGuideway$Ring" "riderGoal" "[I", .fieldLink RX0 37 "PodGuideway$Ring" "riderCame" "[I", .fieldLink RX0 49 "PodGuideway$Ring" "minute" "I", .fieldLink RX0 28 "PodGuideway$Ring" "stationWaiting" "[I", .methodLink RX0 80 yX0_waitingAt, .instanceMethod yX0_waitingAt, .selects RX0 yX0_waitingAt yX0_waitingAt, .initialized RX0, .code yX0_waitingAt cX0_waitingAt 2 (some .int), .methodLink RX0 146 Lib.Math.max.name, .static Lib.Math.max.name, .initialized "java/lang/Math", .code Lib.Math.max.name Lib.Math.max.code 2 (some .int), .methodLink RX0 100 yX0_read, .static yX0_read, .code yX0_read cX0_read 2 (some .int), .methodLink RX0 72 yX0_write, .static yX0_write, .code yX0_write cX0_write 3 none] ++ wsX00)
def wsX0_setGoal : List Cond := .code yX0_setGoal cX0_setGoal 3 none :: ([.fieldLink RX0 40 "PodGuideway$Ring" "podGoal" "[I", .methodLink RX0 72 yX0_write, .static yX0_write, .initialized RX0, .code yX0_write cX0_write 3 none] ++ wsX00)
def wsX0_moveSlots : List Cond := .code yX0_moveSlots cX0_moveSlots 3 none :: ([.fieldLink RX0 15 "PodGuideway$Ring" "podInSlot" "[I", .methodLink RX0 104 arraycopyName, .native arraycopyName, .static arraycopyName, .initialized "java/lang/System", .methodLink RX0 100 yX0_read, .static yX0_read, .initialized RX0, .code yX0_read cX0_read 2 (some .int), .methodLink RX0 72 yX0_write, .static yX0_write, .code yX0_write cX0_write 3 none] ++ wsX00)
def wsX0_placeOf : List Cond := .code yX0_placeOf cX0_placeOf 2 (some .int) :: ([.fieldLink RX0 22 "PodGuideway$Ring" "stationPlace" "[I", .methodLink RX0 100 yX0_read, .static yX0_read, .initialized RX0, .code yX0_read cX0_read 2 (some .int)] ++ wsX00)
def wsX0_podAtPlace : List Cond := .code yX0_podAtPlace cX0_podAtPlace 2 (some .int) :: ([.fieldLink RX0 15 "PodGuideway$Ring" "podInSlot" "[I", .methodLink RX0 100 yX0_read, .static yX0_read, .initialized RX0, .code yX0_read cX0_read 2 (some .int)] ++ wsX00)
def wsX0_goalOf : List Cond := .code yX0_goalOf cX0_goalOf 2 (some .int) :: ([.fieldLink RX0 40 "PodGuideway$Ring" "podGoal" "[I", .methodLink RX0 100 yX0_read, .static yX0_read, .initialized RX0, .code yX0_read cX0_read 2 (some .int)] ++ wsX00)
def wsX0_letGoOff_r1 : List Cond := [Cond.fieldLink RX0 46 "PodGuideway$Ring" "podBarred" "[I", Cond.fieldLink RX0 15 "PodGuideway$Ring" "podInSlot" "[I", Cond.fieldLink RX0 19 "PodGuideway$Ring" "podInBerth" "[I", Cond.fieldLink RX0 43 "PodGuideway$Ring" "podRider" "[I", Cond.fieldLink RX0 25 "PodGuideway$Ring" "stationArrived" "[I", Cond.methodLink RX0 110 yX0_placeOf, Cond.instanceMethod yX0_placeOf, Cond.selects RX0 yX0_placeOf yX0_placeOf, Cond.initialized RX0, Cond.code yX0_placeOf cX0_placeOf 2 (some .int), Cond.fieldLink RX0 22 "PodGuideway$Ring" "stationPlace" "[I", Cond.methodLink RX0 100 yX0_read, Cond.static yX0_read, Cond.code yX0_read cX0_read 2 (some .int), Cond.methodLink RX0 113 yX0_podAtPlace, Cond.instanceMethod yX0_podAtPlace, Cond.selects RX0 yX0_podAtPlace yX0_podAtPlace, Cond.code yX0_podAtPlace cX0_podAtPlace 2 (some .int), Cond.methodLink RX0 116 yX0_goalOf, Cond.instanceMethod yX0_goalOf, Cond.selects RX0 yX0_goalOf yX0_goalOf, Cond.code yX0_goalOf cX0_goalOf 2 (some .int), Cond.fieldLink RX0 40 "PodGuideway$Ring" "podGoal" "[I", Cond.methodLink RX0 76 yX0_firstBerth]
def wsX0_letGoOff_r2 : List Cond := [Cond.instanceMethod yX0_firstBerth, Cond.selects RX0 yX0_firstBerth yX0_firstBerth, Cond.code yX0_firstBerth cX0_firstBerth 4 (some .int), Cond.methodLink RX0 123 yX0_berthHolds, Cond.instanceMethod yX0_berthHolds, Cond.selects RX0 yX0_berthHolds yX0_berthHolds, Cond.code yX0_berthHolds cX0_berthHolds 3 (some .int), Cond.methodLink RX0 72 yX0_write, Cond.static yX0_write, Cond.code yX0_write cX0_write 3 none, Cond.methodLink RX0 119 yX0_setGoal, Cond.instanceMethod yX0_setGoal, Cond.selects RX0 yX0_setGoal yX0_setGoal, Cond.code yX0_setGoal cX0_setGoal 3 none]
def wsX0_letGoOff : List Cond := .code yX0_letGoOff cX0_letGoOff 5 none :: ((wsX0_letGoOff_r1 ++ wsX0_letGoOff_r2) ++ wsX00)
def wsX0_waitedBy : List Cond := .code yX0_waitedBy cX0_waitedBy 3 (some .int) :: ([.fieldLink RX0 49 "PodGuideway$Ring" "minute" "I", .fieldLink RX0 37 "PodGuideway$Ring" "riderCame" "[I", .methodLink RX0 100 yX0_read, .static yX0_read, .initialized RX0, .code yX0_read cX0_read 2 (some .int)] ++ wsX00)
def wsX0_boardFirst_r1 : List Cond := [Cond.fieldLink RX0 43 "PodGuideway$Ring" "podRider" "[I", Cond.fieldLink RX0 31 "PodGuideway$Ring" "riderNumber" "[I", Cond.fieldLink RX0 34 "PodGuideway$Ring" "riderGoal" "[I", Cond.fieldLink RX0 65 "PodGuideway$Ring" "waitedBeforeBoarding" "I", Cond.fieldLink RX0 37 "PodGuideway$Ring" "riderCame" "[I", Cond.fieldLink RX0 28 "PodGuideway$Ring" "stationWaiting" "[I", Cond.methodLink RX0 100 yX0_read, Cond.static yX0_read, Cond.initialized RX0, Cond.code yX0_read cX0_read 2 (some .int), Cond.methodLink RX0 72 yX0_write, Cond.static yX0_write, Cond.code yX0_write cX0_write 3 none, Cond.methodLink RX0 119 yX0_setGoal, Cond.instanceMethod yX0_setGoal, Cond.selects RX0 yX0_setGoal yX0_setGoal, Cond.code yX0_setGoal cX0_setGoal 3 none, Cond.fieldLink RX0 40 "PodGuideway$Ring" "podGoal" "[I", Cond.methodLink RX0 129 yX0_waitedBy, Cond.instanceMethod yX0_waitedBy, Cond.selects RX0 yX0_waitedBy yX0_waitedBy, Cond.code yX0_waitedBy cX0_waitedBy 3 (some .int), Cond.fieldLink RX0 49 "PodGuideway$Ring" "minute" "I", Cond.methodLink RX0 80 yX0_waitingAt]
def wsX0_boardFirst_r2 : List Cond := [Cond.instanceMethod yX0_waitingAt, Cond.selects RX0 yX0_waitingAt yX0_waitingAt, Cond.code yX0_waitingAt cX0_waitingAt 2 (some .int), Cond.methodLink RX0 146 Lib.Math.max.name, Cond.static Lib.Math.max.name, Cond.initialized "java/lang/Math", Cond.code Lib.Math.max.name Lib.Math.max.code 2 (some .int)]
def wsX0_boardFirst : List Cond := .code yX0_boardFirst cX0_boardFirst 6 none :: ((wsX0_boardFirst_r1 ++ wsX0_boardFirst_r2) ++ wsX00)
def wsX0_letBoard_r1 : List Cond := [Cond.fieldLink RX0 19 "PodGuideway$Ring" "podInBerth" "[I", Cond.methodLink RX0 80 yX0_waitingAt, Cond.instanceMethod yX0_waitingAt, Cond.selects RX0 yX0_waitingAt yX0_waitingAt, Cond.initialized RX0, Cond.code yX0_waitingAt cX0_waitingAt 2 (some .int), Cond.fieldLink RX0 28 "PodGuideway$Ring" "stationWaiting" "[I", Cond.methodLink RX0 146 Lib.Math.max.name, Cond.static Lib.Math.max.name, Cond.initialized "java/lang/Math", Cond.code Lib.Math.max.name Lib.Math.max.code 2 (some .int), Cond.methodLink RX0 100 yX0_read, Cond.static yX0_read, Cond.code yX0_read cX0_read 2 (some .int), Cond.methodLink RX0 123 yX0_berthHolds, Cond.instanceMethod yX0_berthHolds, Cond.selects RX0 yX0_berthHolds yX0_berthHolds, Cond.code yX0_berthHolds cX0_berthHolds 3 (some .int), Cond.fieldLink RX0 40 "PodGuideway$Ring" "podGoal" "[I", Cond.methodLink RX0 126 yX0_boardFirst, Cond.instanceMethod yX0_boardFirst, Cond.selects RX0 yX0_boardFirst yX0_boardFirst, Cond.code yX0_boardFirst cX0_boardFirst 6 none, Cond.fieldLink RX0 43 "PodGuideway$Ring" "podRider" "[I"]
def wsX0_letBoard_r2 : List Cond := [Cond.fieldLink RX0 31 "PodGuideway$Ring" "riderNumber" "[I", Cond.fieldLink RX0 34 "PodGuideway$Ring" "riderGoal" "[I", Cond.fieldLink RX0 65 "PodGuideway$Ring" "waitedBeforeBoarding" "I", Cond.fieldLink RX0 37 "PodGuideway$Ring" "riderCame" "[I", Cond.methodLink RX0 72 yX0_write, Cond.static yX0_write, Cond.code yX0_write cX0_write 3 none, Cond.methodLink RX0 119 yX0_setGoal, Cond.instanceMethod yX0_setGoal, Cond.selects RX0 yX0_setGoal yX0_setGoal, Cond.code yX0_setGoal cX0_setGoal 3 none, Cond.methodLink RX0 129 yX0_waitedBy, Cond.instanceMethod yX0_waitedBy, Cond.selects RX0 yX0_waitedBy yX0_waitedBy, Cond.code yX0_waitedBy cX0_waitedBy 3 (some .int), Cond.fieldLink RX0 49 "PodGuideway$Ring" "minute" "I"]
def wsX0_letBoard : List Cond := .code yX0_letBoard cX0_letBoard 3 none :: ((wsX0_letBoard_r1 ++ wsX0_letBoard_r2) ++ wsX00)
def wsX0_emptyPodsTo : List Cond := .code yX0_emptyPodsTo cX0_emptyPodsTo 4 (some .int) :: ([.fieldLink RX0 56 "PodGuideway$Ring" "pods" "I", .fieldLink RX0 43 "PodGuideway$Ring" "podRider" "[I", .methodLink RX0 116 yX0_goalOf, .instanceMethod yX0_goalOf, .selects RX0 yX0_goalOf yX0_goalOf, .initialized RX0, .code yX0_goalOf cX0_goalOf 2 (some .int), .fieldLink RX0 40 "PodGuideway$Ring" "podGoal" "[I", .methodLink RX0 100 yX0_read, .static yX0_read, .code yX0_read cX0_read 2 (some .int)] ++ wsX00)
def wsJ9_floorMod_7cf53 : List Cond := .code yJ9_floorMod_7cf53 cJ9_floorMod_7cf53 3 (some .int) :: ([])
def wsX0_placesOn : List Cond := .code yX0_placesOn cX0_placesOn 3 (some .int) :: ([.methodLink RX0 110 yX0_placeOf, .instanceMethod yX0_placeOf, .selects RX0 yX0_placeOf yX0_placeOf, .initialized RX0, .code yX0_placeOf cX0_placeOf 2 (some .int), .fieldLink RX0 22 "PodGuideway$Ring" "stationPlace" "[I", .methodLink RX0 100 yX0_read, .static yX0_read, .code yX0_read cX0_read 2 (some .int), .methodLink RX0 141 yJ9_floorMod_7cf53, .static yJ9_floorMod_7cf53, .initialized RJ9, .code yJ9_floorMod_7cf53 cJ9_floorMod_7cf53 3 (some .int)] ++ wsX00)
def wsX0_stationThatAnswers_r1 : List Cond := [Cond.fieldLink RX0 53 "PodGuideway$Ring" "stations" "I", Cond.methodLink RX0 138 yX0_placesOn, Cond.instanceMethod yX0_placesOn, Cond.selects RX0 yX0_placesOn yX0_placesOn, Cond.initialized RX0, Cond.code yX0_placesOn cX0_placesOn 3 (some .int), Cond.methodLink RX0 110 yX0_placeOf, Cond.instanceMethod yX0_placeOf, Cond.selects RX0 yX0_placeOf yX0_placeOf, Cond.code yX0_placeOf cX0_placeOf 2 (some .int), Cond.fieldLink RX0 22 "PodGuideway$Ring" "stationPlace" "[I", Cond.methodLink RX0 100 yX0_read, Cond.static yX0_read, Cond.code yX0_read cX0_read 2 (some .int), Cond.methodLink RX0 141 yJ9_floorMod_7cf53, Cond.static yJ9_floorMod_7cf53, Cond.initialized RJ9, Cond.code yJ9_floorMod_7cf53 cJ9_floorMod_7cf53 3 (some .int), Cond.methodLink RX0 80 yX0_waitingAt, Cond.instanceMethod yX0_waitingAt, Cond.selects RX0 yX0_waitingAt yX0_waitingAt, Cond.code yX0_waitingAt cX0_waitingAt 2 (some .int), Cond.fieldLink RX0 28 "PodGuideway$Ring" "stationWaiting" "[I", Cond.methodLink RX0 146 Lib.Math.max.name]
def wsX0_stationThatAnswers_r2 : List Cond := [Cond.static Lib.Math.max.name, Cond.initialized "java/lang/Math", Cond.code Lib.Math.max.name Lib.Math.max.code 2 (some .int), Cond.methodLink RX0 76 yX0_firstBerth, Cond.instanceMethod yX0_firstBerth, Cond.selects RX0 yX0_firstBerth yX0_firstBerth, Cond.code yX0_firstBerth cX0_firstBerth 4 (some .int), Cond.methodLink RX0 123 yX0_berthHolds, Cond.instanceMethod yX0_berthHolds, Cond.selects RX0 yX0_berthHolds yX0_berthHolds, Cond.code yX0_berthHolds cX0_berthHolds 3 (some .int), Cond.fieldLink RX0 19 "PodGuideway$Ring" "podInBerth" "[I", Cond.fieldLink RX0 40 "PodGuideway$Ring" "podGoal" "[I"]
def wsX0_stationThatAnswers : List Cond := .code yX0_stationThatAnswers cX0_stationThatAnswers 6 (some .int) :: ((wsX0_stationThatAnswers_r1 ++ wsX0_stationThatAnswers_r2) ++ wsX00)
def wsX0_letCall_r1 : List Cond := [Cond.fieldLink RX0 19 "PodGuideway$Ring" "podInBerth" "[I", Cond.fieldLink RX0 62 "PodGuideway$Ring" "callsAnswered" "I", Cond.methodLink RX0 80 yX0_waitingAt, Cond.instanceMethod yX0_waitingAt, Cond.selects RX0 yX0_waitingAt yX0_waitingAt, Cond.initialized RX0, Cond.code yX0_waitingAt cX0_waitingAt 2 (some .int), Cond.fieldLink RX0 28 "PodGuideway$Ring" "stationWaiting" "[I", Cond.methodLink RX0 146 Lib.Math.max.name, Cond.static Lib.Math.max.name, Cond.initialized "java/lang/Math", Cond.code Lib.Math.max.name Lib.Math.max.code 2 (some .int), Cond.methodLink RX0 100 yX0_read, Cond.static yX0_read, Cond.code yX0_read cX0_read 2 (some .int), Cond.methodLink RX0 132 yX0_emptyPodsTo, Cond.instanceMethod yX0_emptyPodsTo, Cond.selects RX0 yX0_emptyPodsTo yX0_emptyPodsTo, Cond.code yX0_emptyPodsTo cX0_emptyPodsTo 4 (some .int), Cond.fieldLink RX0 56 "PodGuideway$Ring" "pods" "I", Cond.fieldLink RX0 43 "PodGuideway$Ring" "podRider" "[I", Cond.methodLink RX0 116 yX0_goalOf, Cond.instanceMethod yX0_goalOf, Cond.selects RX0 yX0_goalOf yX0_goalOf]
def wsX0_letCall_r2 : List Cond := [Cond.code yX0_goalOf cX0_goalOf 2 (some .int), Cond.fieldLink RX0 40 "PodGuideway$Ring" "podGoal" "[I", Cond.methodLink RX0 135 yX0_stationThatAnswers, Cond.instanceMethod yX0_stationThatAnswers, Cond.selects RX0 yX0_stationThatAnswers yX0_stationThatAnswers, Cond.code yX0_stationThatAnswers cX0_stationThatAnswers 6 (some .int), Cond.fieldLink RX0 53 "PodGuideway$Ring" "stations" "I", Cond.methodLink RX0 138 yX0_placesOn, Cond.instanceMethod yX0_placesOn, Cond.selects RX0 yX0_placesOn yX0_placesOn, Cond.code yX0_placesOn cX0_placesOn 3 (some .int), Cond.methodLink RX0 110 yX0_placeOf, Cond.instanceMethod yX0_placeOf, Cond.selects RX0 yX0_placeOf yX0_placeOf, Cond.code yX0_placeOf cX0_placeOf 2 (some .int), Cond.fieldLink RX0 22 "PodGuideway$Ring" "stationPlace" "[I", Cond.methodLink RX0 141 yJ9_floorMod_7cf53, Cond.static yJ9_floorMod_7cf53, Cond.initialized RJ9, Cond.code yJ9_floorMod_7cf53 cJ9_floorMod_7cf53 3 (some .int), Cond.methodLink RX0 76 yX0_firstBerth, Cond.instanceMethod yX0_firstBerth, Cond.selects RX0 yX0_firstBerth yX0_firstBerth, Cond.code yX0_firstBerth cX0_firstBerth 4 (some .int)]
def wsX0_letCall_r3 : List Cond := [Cond.methodLink RX0 123 yX0_berthHolds, Cond.instanceMethod yX0_berthHolds, Cond.selects RX0 yX0_berthHolds yX0_berthHolds, Cond.code yX0_berthHolds cX0_berthHolds 3 (some .int), Cond.methodLink RX0 119 yX0_setGoal, Cond.instanceMethod yX0_setGoal, Cond.selects RX0 yX0_setGoal yX0_setGoal, Cond.code yX0_setGoal cX0_setGoal 3 none, Cond.methodLink RX0 72 yX0_write, Cond.static yX0_write, Cond.code yX0_write cX0_write 3 none]
def wsX0_letCall : List Cond := .code yX0_letCall cX0_letCall 4 none :: ((wsX0_letCall_r1 ++ (wsX0_letCall_r2 ++ wsX0_letCall_r3)) ++ wsX00)
def wsX0_letMerge_r1 : List Cond := [Cond.fieldLink RX0 15 "PodGuideway$Ring" "podInSlot" "[I", Cond.fieldLink RX0 19 "PodGuideway$Ring" "podInBerth" "[I", Cond.methodLink RX0 110 yX0_placeOf, Cond.instanceMethod yX0_placeOf, Cond.selects RX0 yX0_placeOf yX0_placeOf, Cond.initialized RX0, Cond.code yX0_placeOf cX0_placeOf 2 (some .int), Cond.fieldLink RX0 22 "PodGuideway$Ring" "stationPlace" "[I", Cond.methodLink RX0 100 yX0_read, Cond.static yX0_read, Cond.code yX0_read cX0_read 2 (some .int), Cond.methodLink RX0 76 yX0_firstBerth, Cond.instanceMethod yX0_firstBerth, Cond.selects RX0 yX0_firstBerth yX0_firstBerth, Cond.code yX0_firstBerth cX0_firstBerth 4 (some .int), Cond.methodLink RX0 123 yX0_berthHolds, Cond.instanceMethod yX0_berthHolds, Cond.selects RX0 yX0_berthHolds yX0_berthHolds, Cond.code yX0_berthHolds cX0_berthHolds 3 (some .int), Cond.fieldLink RX0 40 "PodGuideway$Ring" "podGoal" "[I", Cond.methodLink RX0 113 yX0_podAtPlace, Cond.instanceMethod yX0_podAtPlace, Cond.selects RX0 yX0_podAtPlace yX0_podAtPlace, Cond.code yX0_podAtPlace cX0_podAtPlace 2 (some .int)]
def wsX0_letMerge_r2 : List Cond := [Cond.methodLink RX0 72 yX0_write, Cond.static yX0_write, Cond.code yX0_write cX0_write 3 none]
def wsX0_letMerge : List Cond := .code yX0_letMerge cX0_letMerge 4 none :: ((wsX0_letMerge_r1 ++ wsX0_letMerge_r2) ++ wsX00)
def wsX0_passMinute_r1 : List Cond := [Cond.fieldLink RX0 53 "PodGuideway$Ring" "stations" "I", Cond.fieldLink RX0 49 "PodGuideway$Ring" "minute" "I", Cond.methodLink RX0 84 yX0_moveSlots, Cond.instanceMethod yX0_moveSlots, Cond.selects RX0 yX0_moveSlots yX0_moveSlots, Cond.initialized RX0, Cond.code yX0_moveSlots cX0_moveSlots 3 none, Cond.fieldLink RX0 15 "PodGuideway$Ring" "podInSlot" "[I", Cond.methodLink RX0 104 arraycopyName, Cond.native arraycopyName, Cond.static arraycopyName, Cond.initialized "java/lang/System", Cond.methodLink RX0 100 yX0_read, Cond.static yX0_read, Cond.code yX0_read cX0_read 2 (some .int), Cond.methodLink RX0 72 yX0_write, Cond.static yX0_write, Cond.code yX0_write cX0_write 3 none, Cond.methodLink RX0 87 yX0_letGoOff, Cond.instanceMethod yX0_letGoOff, Cond.selects RX0 yX0_letGoOff yX0_letGoOff, Cond.code yX0_letGoOff cX0_letGoOff 5 none, Cond.fieldLink RX0 46 "PodGuideway$Ring" "podBarred" "[I", Cond.fieldLink RX0 19 "PodGuideway$Ring" "podInBerth" "[I"]
def wsX0_passMinute_r2 : List Cond := [Cond.fieldLink RX0 43 "PodGuideway$Ring" "podRider" "[I", Cond.fieldLink RX0 25 "PodGuideway$Ring" "stationArrived" "[I", Cond.methodLink RX0 110 yX0_placeOf, Cond.instanceMethod yX0_placeOf, Cond.selects RX0 yX0_placeOf yX0_placeOf, Cond.code yX0_placeOf cX0_placeOf 2 (some .int), Cond.fieldLink RX0 22 "PodGuideway$Ring" "stationPlace" "[I", Cond.methodLink RX0 113 yX0_podAtPlace, Cond.instanceMethod yX0_podAtPlace, Cond.selects RX0 yX0_podAtPlace yX0_podAtPlace, Cond.code yX0_podAtPlace cX0_podAtPlace 2 (some .int), Cond.methodLink RX0 116 yX0_goalOf, Cond.instanceMethod yX0_goalOf, Cond.selects RX0 yX0_goalOf yX0_goalOf, Cond.code yX0_goalOf cX0_goalOf 2 (some .int), Cond.fieldLink RX0 40 "PodGuideway$Ring" "podGoal" "[I", Cond.methodLink RX0 76 yX0_firstBerth, Cond.instanceMethod yX0_firstBerth, Cond.selects RX0 yX0_firstBerth yX0_firstBerth, Cond.code yX0_firstBerth cX0_firstBerth 4 (some .int), Cond.methodLink RX0 123 yX0_berthHolds, Cond.instanceMethod yX0_berthHolds, Cond.selects RX0 yX0_berthHolds yX0_berthHolds, Cond.code yX0_berthHolds cX0_berthHolds 3 (some .int)]
def wsX0_passMinute_r3 : List Cond := [Cond.methodLink RX0 119 yX0_setGoal, Cond.instanceMethod yX0_setGoal, Cond.selects RX0 yX0_setGoal yX0_setGoal, Cond.code yX0_setGoal cX0_setGoal 3 none, Cond.methodLink RX0 91 yX0_letBoard, Cond.instanceMethod yX0_letBoard, Cond.selects RX0 yX0_letBoard yX0_letBoard, Cond.code yX0_letBoard cX0_letBoard 3 none, Cond.methodLink RX0 80 yX0_waitingAt, Cond.instanceMethod yX0_waitingAt, Cond.selects RX0 yX0_waitingAt yX0_waitingAt, Cond.code yX0_waitingAt cX0_waitingAt 2 (some .int), Cond.fieldLink RX0 28 "PodGuideway$Ring" "stationWaiting" "[I", Cond.methodLink RX0 146 Lib.Math.max.name, Cond.static Lib.Math.max.name, Cond.initialized "java/lang/Math", Cond.code Lib.Math.max.name Lib.Math.max.code 2 (some .int), Cond.methodLink RX0 126 yX0_boardFirst, Cond.instanceMethod yX0_boardFirst, Cond.selects RX0 yX0_boardFirst yX0_boardFirst, Cond.code yX0_boardFirst cX0_boardFirst 6 none, Cond.fieldLink RX0 31 "PodGuideway$Ring" "riderNumber" "[I", Cond.fieldLink RX0 34 "PodGuideway$Ring" "riderGoal" "[I", Cond.fieldLink RX0 65 "PodGuideway$Ring" "waitedBeforeBoarding" "I"]
def wsX0_passMinute_r4 : List Cond := [Cond.fieldLink RX0 37 "PodGuideway$Ring" "riderCame" "[I", Cond.methodLink RX0 129 yX0_waitedBy, Cond.instanceMethod yX0_waitedBy, Cond.selects RX0 yX0_waitedBy yX0_waitedBy, Cond.code yX0_waitedBy cX0_waitedBy 3 (some .int), Cond.methodLink RX0 94 yX0_letCall, Cond.instanceMethod yX0_letCall, Cond.selects RX0 yX0_letCall yX0_letCall, Cond.code yX0_letCall cX0_letCall 4 none, Cond.fieldLink RX0 62 "PodGuideway$Ring" "callsAnswered" "I", Cond.methodLink RX0 132 yX0_emptyPodsTo, Cond.instanceMethod yX0_emptyPodsTo, Cond.selects RX0 yX0_emptyPodsTo yX0_emptyPodsTo, Cond.code yX0_emptyPodsTo cX0_emptyPodsTo 4 (some .int), Cond.fieldLink RX0 56 "PodGuideway$Ring" "pods" "I", Cond.methodLink RX0 135 yX0_stationThatAnswers, Cond.instanceMethod yX0_stationThatAnswers, Cond.selects RX0 yX0_stationThatAnswers yX0_stationThatAnswers, Cond.code yX0_stationThatAnswers cX0_stationThatAnswers 6 (some .int), Cond.methodLink RX0 138 yX0_placesOn, Cond.instanceMethod yX0_placesOn, Cond.selects RX0 yX0_placesOn yX0_placesOn, Cond.code yX0_placesOn cX0_placesOn 3 (some .int), Cond.methodLink RX0 141 yJ9_floorMod_7cf53]
def wsX0_passMinute_r5 : List Cond := [Cond.static yJ9_floorMod_7cf53, Cond.initialized RJ9, Cond.code yJ9_floorMod_7cf53 cJ9_floorMod_7cf53 3 (some .int), Cond.methodLink RX0 97 yX0_letMerge, Cond.instanceMethod yX0_letMerge, Cond.selects RX0 yX0_letMerge yX0_letMerge, Cond.code yX0_letMerge cX0_letMerge 4 none]
def wsX0_passMinute : List Cond := .code yX0_passMinute cX0_passMinute 2 none :: ((wsX0_passMinute_r1 ++ (wsX0_passMinute_r2 ++ (wsX0_passMinute_r3 ++ (wsX0_passMinute_r4 ++ wsX0_passMinute_r5)))) ++ wsX00)
def wsX0_stationAtPlace : List Cond := .code yX0_stationAtPlace cX0_stationAtPlace 3 (some .int) :: ([.fieldLink RX0 53 "PodGuideway$Ring" "stations" "I", .methodLink RX0 110 yX0_placeOf, .instanceMethod yX0_placeOf, .selects RX0 yX0_placeOf yX0_placeOf, .initialized RX0, .code yX0_placeOf cX0_placeOf 2 (some .int), .fieldLink RX0 22 "PodGuideway$Ring" "stationPlace" "[I", .methodLink RX0 100 yX0_read, .static yX0_read, .code yX0_read cX0_read 2 (some .int)] ++ wsX00)
def wsX0_berthsThatHold : List Cond := .code yX0_berthsThatHold cX0_berthsThatHold 5 (some .int) :: ([.methodLink RX0 123 yX0_berthHolds, .instanceMethod yX0_berthHolds, .selects RX0 yX0_berthHolds yX0_berthHolds, .initialized RX0, .code yX0_berthHolds cX0_berthHolds 3 (some .int), .fieldLink RX0 19 "PodGuideway$Ring" "podInBerth" "[I", .fieldLink RX0 40 "PodGuideway$Ring" "podGoal" "[I", .methodLink RX0 100 yX0_read, .static yX0_read, .code yX0_read cX0_read 2 (some .int)] ++ wsX00)
def wsX0_find : List Cond := .code yX0_find cX0_find 3 (some .int) :: ([])
def wsX0_berthOf : List Cond := .code yX0_berthOf cX0_berthOf 2 (some .int) :: ([.fieldLink RX0 19 "PodGuideway$Ring" "podInBerth" "[I", .methodLink RX0 149 yX0_find, .static yX0_find, .initialized RX0, .code yX0_find cX0_find 3 (some .int)] ++ wsX00)
def wsX0_waitedAt : List Cond := .code yX0_waitedAt cX0_waitedAt 5 (some .int) :: ([.methodLink RX0 80 yX0_waitingAt, .instanceMethod yX0_waitingAt, .selects RX0 yX0_waitingAt yX0_waitingAt, .initialized RX0, .code yX0_waitingAt cX0_waitingAt 2 (some .int), .fieldLink RX0 28 "PodGuideway$Ring" "stationWaiting" "[I", .methodLink RX0 146 Lib.Math.max.name, .static Lib.Math.max.name, .initialized "java/lang/Math", .code Lib.Math.max.name Lib.Math.max.code 2 (some .int), .methodLink RX0 100 yX0_read, .static yX0_read, .code yX0_read cX0_read 2 (some .int), .methodLink RX0 129 yX0_waitedBy, .instanceMethod yX0_waitedBy, .selects RX0 yX0_waitedBy yX0_waitedBy, .code yX0_waitedBy cX0_waitedBy 3 (some .int), .fieldLink RX0 49 "PodGuideway$Ring" "minute" "I", .fieldLink RX0 37 "PodGuideway$Ring" "riderCame" "[I"] ++ wsX00)
def wsX0_waitedInAll : List Cond := .code yX0_waitedInAll cX0_waitedInAll 3 (some .int) :: ([.fieldLink RX0 53 "PodGuideway$Ring" "stations" "I", .methodLink RX0 152 yX0_waitedAt, .instanceMethod yX0_waitedAt, .selects RX0 yX0_waitedAt yX0_waitedAt, .initialized RX0, .code yX0_waitedAt cX0_waitedAt 5 (some .int), .methodLink RX0 80 yX0_waitingAt, .instanceMethod yX0_waitingAt, .selects RX0 yX0_waitingAt yX0_waitingAt, .code yX0_waitingAt cX0_waitingAt 2 (some .int), .fieldLink RX0 28 "PodGuideway$Ring" "stationWaiting" "[I", .methodLink RX0 146 Lib.Math.max.name, .static Lib.Math.max.name, .initialized "java/lang/Math", .code Lib.Math.max.name Lib.Math.max.code 2 (some .int), .methodLink RX0 100 yX0_read, .static yX0_read, .code yX0_read cX0_read 2 (some .int), .methodLink RX0 129 yX0_waitedBy, .instanceMethod yX0_waitedBy, .selects RX0 yX0_waitedBy yX0_waitedBy, .code yX0_waitedBy cX0_waitedBy 3 (some .int), .fieldLink RX0 49 "PodGuideway$Ring" "minute" "I", .fieldLink RX0 37 "PodGuideway$Ring" "riderCame" "[I"] ++ wsX00)
def wsX0_waitingInAll : List Cond := .code yX0_waitingInAll cX0_waitingInAll 3 (some .int) :: ([.fieldLink RX0 53 "PodGuideway$Ring" "stations" "I", .methodLink RX0 80 yX0_waitingAt, .instanceMethod yX0_waitingAt, .selects RX0 yX0_waitingAt yX0_waitingAt, .initialized RX0, .code yX0_waitingAt cX0_waitingAt 2 (some .int), .fieldLink RX0 28 "PodGuideway$Ring" "stationWaiting" "[I", .methodLink RX0 146 Lib.Math.max.name, .static Lib.Math.max.name, .initialized "java/lang/Math", .code Lib.Math.max.name Lib.Math.max.code 2 (some .int), .methodLink RX0 100 yX0_read, .static yX0_read, .code yX0_read cX0_read 2 (some .int)] ++ wsX00)
def wsX0_arrivedInAll : List Cond := .code yX0_arrivedInAll cX0_arrivedInAll 3 (some .int) :: ([.fieldLink RX0 53 "PodGuideway$Ring" "stations" "I", .fieldLink RX0 25 "PodGuideway$Ring" "stationArrived" "[I", .methodLink RX0 100 yX0_read, .static yX0_read, .initialized RX0, .code yX0_read cX0_read 2 (some .int)] ++ wsX00)
def wsX0_ridersInPods : List Cond := .code yX0_ridersInPods cX0_ridersInPods 3 (some .int) :: ([.fieldLink RX0 56 "PodGuideway$Ring" "pods" "I", .fieldLink RX0 43 "PodGuideway$Ring" "podRider" "[I", .methodLink RX0 100 yX0_read, .static yX0_read, .initialized RX0, .code yX0_read cX0_read 2 (some .int)] ++ wsX00)
def wsX0_freeSlots : List Cond := .code yX0_freeSlots cX0_freeSlots 3 (some .int) :: ([.methodLink RX0 113 yX0_podAtPlace, .instanceMethod yX0_podAtPlace, .selects RX0 yX0_podAtPlace yX0_podAtPlace, .initialized RX0, .code yX0_podAtPlace cX0_podAtPlace 2 (some .int), .fieldLink RX0 15 "PodGuideway$Ring" "podInSlot" "[I", .methodLink RX0 100 yX0_read, .static yX0_read, .code yX0_read cX0_read 2 (some .int)] ++ wsX00)
def wsX0_tellPod : List Cond := .code yX0_tellPod cX0_tellPod 4 (some .int) :: ([.fieldLink RX0 15 "PodGuideway$Ring" "podInSlot" "[I", .fieldLink RX0 43 "PodGuideway$Ring" "podRider" "[I", .fieldLink RX0 46 "PodGuideway$Ring" "podBarred" "[I", .methodLink RX0 155 yX0_berthOf, .instanceMethod yX0_berthOf, .selects RX0 yX0_berthOf yX0_berthOf, .initialized RX0, .code yX0_berthOf cX0_berthOf 2 (some .int), .fieldLink RX0 19 "PodGuideway$Ring" "podInBerth" "[I", .methodLink RX0 149 yX0_find, .static yX0_find, .code yX0_find cX0_find 3 (some .int), .methodLink RX0 116 yX0_goalOf, .instanceMethod yX0_goalOf, .selects RX0 yX0_goalOf yX0_goalOf, .code yX0_goalOf cX0_goalOf 2 (some .int), .fieldLink RX0 40 "PodGuideway$Ring" "podGoal" "[I", .methodLink RX0 100 yX0_read, .static yX0_read, .code yX0_read cX0_read 2 (some .int)] ++ wsX00)
def wsX0_tellStation_r1 : List Cond := [Cond.fieldLink RX0 25 "PodGuideway$Ring" "stationArrived" "[I", Cond.methodLink RX0 110 yX0_placeOf, Cond.instanceMethod yX0_placeOf, Cond.selects RX0 yX0_placeOf yX0_placeOf, Cond.initialized RX0, Cond.code yX0_placeOf cX0_placeOf 2 (some .int), Cond.fieldLink RX0 22 "PodGuideway$Ring" "stationPlace" "[I", Cond.methodLink RX0 100 yX0_read, Cond.static yX0_read, Cond.code yX0_read cX0_read 2 (some .int), Cond.methodLink RX0 158 yX0_berthsThatHold, Cond.instanceMethod yX0_berthsThatHold, Cond.selects RX0 yX0_berthsThatHold yX0_berthsThatHold, Cond.code yX0_berthsThatHold cX0_berthsThatHold 5 (some .int), Cond.methodLink RX0 123 yX0_berthHolds, Cond.instanceMethod yX0_berthHolds, Cond.selects RX0 yX0_berthHolds yX0_berthHolds, Cond.code yX0_berthHolds cX0_berthHolds 3 (some .int), Cond.fieldLink RX0 19 "PodGuideway$Ring" "podInBerth" "[I", Cond.fieldLink RX0 40 "PodGuideway$Ring" "podGoal" "[I", Cond.methodLink RX0 80 yX0_waitingAt, Cond.instanceMethod yX0_waitingAt, Cond.selects RX0 yX0_waitingAt yX0_waitingAt, Cond.code yX0_waitingAt cX0_waitingAt 2 (some .int)]
def wsX0_tellStation_r2 : List Cond := [Cond.fieldLink RX0 28 "PodGuideway$Ring" "stationWaiting" "[I", Cond.methodLink RX0 146 Lib.Math.max.name, Cond.static Lib.Math.max.name, Cond.initialized "java/lang/Math", Cond.code Lib.Math.max.name Lib.Math.max.code 2 (some .int), Cond.methodLink RX0 132 yX0_emptyPodsTo, Cond.instanceMethod yX0_emptyPodsTo, Cond.selects RX0 yX0_emptyPodsTo yX0_emptyPodsTo, Cond.code yX0_emptyPodsTo cX0_emptyPodsTo 4 (some .int), Cond.fieldLink RX0 56 "PodGuideway$Ring" "pods" "I", Cond.fieldLink RX0 43 "PodGuideway$Ring" "podRider" "[I", Cond.methodLink RX0 116 yX0_goalOf, Cond.instanceMethod yX0_goalOf, Cond.selects RX0 yX0_goalOf yX0_goalOf, Cond.code yX0_goalOf cX0_goalOf 2 (some .int), Cond.methodLink RX0 152 yX0_waitedAt, Cond.instanceMethod yX0_waitedAt, Cond.selects RX0 yX0_waitedAt yX0_waitedAt, Cond.code yX0_waitedAt cX0_waitedAt 5 (some .int), Cond.methodLink RX0 129 yX0_waitedBy, Cond.instanceMethod yX0_waitedBy, Cond.selects RX0 yX0_waitedBy yX0_waitedBy, Cond.code yX0_waitedBy cX0_waitedBy 3 (some .int), Cond.fieldLink RX0 49 "PodGuideway$Ring" "minute" "I"]
def wsX0_tellStation_r3 : List Cond := [Cond.fieldLink RX0 37 "PodGuideway$Ring" "riderCame" "[I"]
def wsX0_tellStation : List Cond := .code yX0_tellStation cX0_tellStation 3 (some .int) :: ((wsX0_tellStation_r1 ++ (wsX0_tellStation_r2 ++ wsX0_tellStation_r3)) ++ wsX00)
def wsX0_tellRider : List Cond := .code yX0_tellRider cX0_tellRider 3 (some .int) :: ([.fieldLink RX0 34 "PodGuideway$Ring" "riderGoal" "[I", .methodLink RX0 129 yX0_waitedBy, .instanceMethod yX0_waitedBy, .selects RX0 yX0_waitedBy yX0_waitedBy, .initialized RX0, .code yX0_waitedBy cX0_waitedBy 3 (some .int), .fieldLink RX0 49 "PodGuideway$Ring" "minute" "I", .fieldLink RX0 37 "PodGuideway$Ring" "riderCame" "[I", .methodLink RX0 100 yX0_read, .static yX0_read, .code yX0_read cX0_read 2 (some .int)] ++ wsX00)
def wsX0_tellCount_r1 : List Cond := [Cond.fieldLink RX0 49 "PodGuideway$Ring" "minute" "I", Cond.fieldLink RX0 53 "PodGuideway$Ring" "stations" "I", Cond.fieldLink RX0 56 "PodGuideway$Ring" "pods" "I", Cond.fieldLink RX0 62 "PodGuideway$Ring" "callsAnswered" "I", Cond.fieldLink RX0 65 "PodGuideway$Ring" "waitedBeforeBoarding" "I", Cond.methodLink RX0 161 yX0_waitingInAll, Cond.instanceMethod yX0_waitingInAll, Cond.selects RX0 yX0_waitingInAll yX0_waitingInAll, Cond.initialized RX0, Cond.code yX0_waitingInAll cX0_waitingInAll 3 (some .int), Cond.methodLink RX0 80 yX0_waitingAt, Cond.instanceMethod yX0_waitingAt, Cond.selects RX0 yX0_waitingAt yX0_waitingAt, Cond.code yX0_waitingAt cX0_waitingAt 2 (some .int), Cond.fieldLink RX0 28 "PodGuideway$Ring" "stationWaiting" "[I", Cond.methodLink RX0 146 Lib.Math.max.name, Cond.static Lib.Math.max.name, Cond.initialized "java/lang/Math", Cond.code Lib.Math.max.name Lib.Math.max.code 2 (some .int), Cond.methodLink RX0 100 yX0_read, Cond.static yX0_read, Cond.code yX0_read cX0_read 2 (some .int), Cond.methodLink RX0 165 yX0_ridersInPods, Cond.instanceMethod yX0_ridersInPods]
def wsX0_tellCount_r2 : List Cond := [Cond.selects RX0 yX0_ridersInPods yX0_ridersInPods, Cond.code yX0_ridersInPods cX0_ridersInPods 3 (some .int), Cond.fieldLink RX0 43 "PodGuideway$Ring" "podRider" "[I", Cond.methodLink RX0 168 yX0_arrivedInAll, Cond.instanceMethod yX0_arrivedInAll, Cond.selects RX0 yX0_arrivedInAll yX0_arrivedInAll, Cond.code yX0_arrivedInAll cX0_arrivedInAll 3 (some .int), Cond.fieldLink RX0 25 "PodGuideway$Ring" "stationArrived" "[I", Cond.methodLink RX0 171 yX0_freeSlots, Cond.instanceMethod yX0_freeSlots, Cond.selects RX0 yX0_freeSlots yX0_freeSlots, Cond.code yX0_freeSlots cX0_freeSlots 3 (some .int), Cond.methodLink RX0 113 yX0_podAtPlace, Cond.instanceMethod yX0_podAtPlace, Cond.selects RX0 yX0_podAtPlace yX0_podAtPlace, Cond.code yX0_podAtPlace cX0_podAtPlace 2 (some .int), Cond.fieldLink RX0 15 "PodGuideway$Ring" "podInSlot" "[I"]
def wsX0_tellCount : List Cond := .code yX0_tellCount cX0_tellCount 2 (some .int) :: ((wsX0_tellCount_r1 ++ wsX0_tellCount_r2) ++ wsX00)
def wsX1_init_r1 : List Cond := [Cond.methodLink RX1 1 objectInit, Cond.instanceMethod objectInit, Cond.code objectInit ⟨#[0xb1]⟩ 1 none, Cond.classLink RX1 7 RX0, Cond.instantiable RX0 17, Cond.initialized RX0, Cond.fieldLink RX1 10 "PodGuideway" "now" "LPodGuideway$Ring;", Cond.fieldLink RX1 16 "PodGuideway" "ahead" "LPodGuideway$Ring;", Cond.instanceMethod yX0_init, Cond.code yX0_init cX0_init 1 none, Cond.methodLink RX0 3 objectInit, Cond.fieldLink RX0 15 "PodGuideway$Ring" "podInSlot" "[I", Cond.fieldLink RX0 19 "PodGuideway$Ring" "podInBerth" "[I", Cond.arrayClass .int, Cond.fieldLink RX0 22 "PodGuideway$Ring" "stationPlace" "[I", Cond.fieldLink RX0 25 "PodGuideway$Ring" "stationArrived" "[I", Cond.fieldLink RX0 28 "PodGuideway$Ring" "stationWaiting" "[I", Cond.fieldLink RX0 31 "PodGuideway$Ring" "riderNumber" "[I", Cond.fieldLink RX0 34 "PodGuideway$Ring" "riderGoal" "[I", Cond.fieldLink RX0 37 "PodGuideway$Ring" "riderCame" "[I", Cond.fieldLink RX0 40 "PodGuideway$Ring" "podGoal" "[I", Cond.fieldLink RX0 43 "PodGuideway$Ring" "podRider" "[I", Cond.fieldLink RX0 46 "PodGuideway$Ring" "podBarred" "[I", Cond.methodLink RX0 9 yX0_emptyRow]
def wsX1_init_r2 : List Cond := [Cond.static yX0_emptyRow, Cond.code yX0_emptyRow cX0_emptyRow 2 (some (.array .int)), Cond.methodLink RX0 146 Lib.Math.max.name, Cond.static Lib.Math.max.name, Cond.initialized "java/lang/Math", Cond.code Lib.Math.max.name Lib.Math.max.code 2 (some .int), Cond.methodLink RX0 174 yJ7_fill_53178, Cond.static yJ7_fill_53178, Cond.initialized RJ7, Cond.code yJ7_fill_53178 cJ7_fill_53178 4 none]
def wsX1_init : List Cond := .code yX1_init cX1_init 1 none :: ((wsX1_init_r1 ++ wsX1_init_r2) ++ wsX00 ++ wsX10)
def wsX1_needPlace : List Cond := .code yX1_needPlace cX1_needPlace 2 none :: ([.classLink RX1 101 "java/lang/IndexOutOfBoundsException", .initialized "java/lang/IndexOutOfBoundsException"] ++ (vx_atS RX1 105 "java/lang/IndexOutOfBoundsException" ["java/lang/RuntimeException", "java/lang/Exception"]).filter goodWord)
def wsX1_build_r1 : List Cond := [Cond.classLink RX1 27 "java/lang/IllegalStateException", Cond.initialized "java/lang/IllegalStateException", Cond.fieldLink RX1 10 "PodGuideway" "now" "LPodGuideway$Ring;", Cond.methodLink RX1 19 yX1_needPlace, Cond.instanceMethod yX1_needPlace, Cond.selects RX1 yX1_needPlace yX1_needPlace, Cond.initialized RX1, Cond.code yX1_needPlace cX1_needPlace 2 none, Cond.classLink RX1 101 "java/lang/IndexOutOfBoundsException", Cond.initialized "java/lang/IndexOutOfBoundsException", Cond.instanceMethod yX0_stationAtPlace, Cond.initialized RX0, Cond.selects RX0 yX0_stationAtPlace yX0_stationAtPlace, Cond.code yX0_stationAtPlace cX0_stationAtPlace 3 (some .int), Cond.fieldLink RX0 53 "PodGuideway$Ring" "stations" "I", Cond.methodLink RX0 110 yX0_placeOf, Cond.instanceMethod yX0_placeOf, Cond.selects RX0 yX0_placeOf yX0_placeOf, Cond.code yX0_placeOf cX0_placeOf 2 (some .int), Cond.fieldLink RX0 22 "PodGuideway$Ring" "stationPlace" "[I", Cond.methodLink RX0 100 yX0_read, Cond.static yX0_read, Cond.code yX0_read cX0_read 2 (some .int), Cond.instanceMethod yX0_addStation]
def wsX1_build_r2 : List Cond := [Cond.selects RX0 yX0_addStation yX0_addStation, Cond.code yX0_addStation cX0_addStation 3 (some .int), Cond.methodLink RX0 72 yX0_write, Cond.static yX0_write, Cond.code yX0_write cX0_write 3 none]
def wsX1_build : List Cond := .code yX1_build cX1_build 2 (some .int) :: ((wsX1_build_r1 ++ wsX1_build_r2) ++ wsX10 ++ wsX00 ++ (vx_atS RX1 31 "java/lang/IllegalStateException" ["java/lang/RuntimeException", "java/lang/Exception"]).filter goodWord ++ (vx_atS RX1 105 "java/lang/IndexOutOfBoundsException" ["java/lang/RuntimeException", "java/lang/Exception"]).filter goodWord)
def wsX1_needStation : List Cond := .code yX1_needStation cX1_needStation 2 none :: ([.classLink RX1 101 "java/lang/IndexOutOfBoundsException", .initialized "java/lang/IndexOutOfBoundsException", .fieldLink RX1 10 "PodGuideway" "now" "LPodGuideway$Ring;"] ++ wsX10 ++ wsX00 ++ (vx_atS RX1 105 "java/lang/IndexOutOfBoundsException" ["java/lang/RuntimeException", "java/lang/Exception"]).filter goodWord)
def wsX1_pod_r1 : List Cond := [Cond.classLink RX1 27 "java/lang/IllegalStateException", Cond.initialized "java/lang/IllegalStateException", Cond.fieldLink RX1 10 "PodGuideway" "now" "LPodGuideway$Ring;", Cond.methodLink RX1 43 yX1_needStation, Cond.instanceMethod yX1_needStation, Cond.selects RX1 yX1_needStation yX1_needStation, Cond.initialized RX1, Cond.code yX1_needStation cX1_needStation 2 none, Cond.classLink RX1 101 "java/lang/IndexOutOfBoundsException", Cond.initialized "java/lang/IndexOutOfBoundsException", Cond.instanceMethod yX0_firstBerth, Cond.initialized RX0, Cond.selects RX0 yX0_firstBerth yX0_firstBerth, Cond.code yX0_firstBerth cX0_firstBerth 4 (some .int), Cond.methodLink RX0 123 yX0_berthHolds, Cond.instanceMethod yX0_berthHolds, Cond.selects RX0 yX0_berthHolds yX0_berthHolds, Cond.code yX0_berthHolds cX0_berthHolds 3 (some .int), Cond.fieldLink RX0 19 "PodGuideway$Ring" "podInBerth" "[I", Cond.fieldLink RX0 40 "PodGuideway$Ring" "podGoal" "[I", Cond.methodLink RX0 100 yX0_read, Cond.static yX0_read, Cond.code yX0_read cX0_read 2 (some .int), Cond.instanceMethod yX0_addPod]
def wsX1_pod_r2 : List Cond := [Cond.selects RX0 yX0_addPod yX0_addPod, Cond.code yX0_addPod cX0_addPod 3 (some .int), Cond.fieldLink RX0 56 "PodGuideway$Ring" "pods" "I", Cond.methodLink RX0 76 yX0_firstBerth, Cond.methodLink RX0 72 yX0_write, Cond.static yX0_write, Cond.code yX0_write cX0_write 3 none]
def wsX1_pod : List Cond := .code yX1_pod cX1_pod 2 (some .int) :: ((wsX1_pod_r1 ++ wsX1_pod_r2) ++ wsX10 ++ wsX00 ++ (vx_atS RX1 31 "java/lang/IllegalStateException" ["java/lang/RuntimeException", "java/lang/Exception"]).filter goodWord ++ (vx_atS RX1 105 "java/lang/IndexOutOfBoundsException" ["java/lang/RuntimeException", "java/lang/Exception"]).filter goodWord)
def wsX1_needTwoStations : List Cond := .code yX1_needTwoStations cX1_needTwoStations 3 none :: ([.classLink RX1 154 "java/lang/IllegalArgumentException", .initialized "java/lang/IllegalArgumentException", .methodLink RX1 43 yX1_needStation, .instanceMethod yX1_needStation, .selects RX1 yX1_needStation yX1_needStation, .initialized RX1, .code yX1_needStation cX1_needStation 2 none, .classLink RX1 101 "java/lang/IndexOutOfBoundsException", .initialized "java/lang/IndexOutOfBoundsException", .fieldLink RX1 10 "PodGuideway" "now" "LPodGuideway$Ring;"] ++ wsX10 ++ wsX00 ++ (vx_atS RX1 158 "java/lang/IllegalArgumentException" ["java/lang/RuntimeException", "java/lang/Exception"]).filter goodWord ++ (vx_atS RX1 105 "java/lang/IndexOutOfBoundsException" ["java/lang/RuntimeException", "java/lang/Exception"]).filter goodWord)
def wsX1_ride_r1 : List Cond := [Cond.classLink RX1 27 "java/lang/IllegalStateException", Cond.initialized "java/lang/IllegalStateException", Cond.fieldLink RX1 10 "PodGuideway" "now" "LPodGuideway$Ring;", Cond.methodLink RX1 60 yX1_needTwoStations, Cond.instanceMethod yX1_needTwoStations, Cond.selects RX1 yX1_needTwoStations yX1_needTwoStations, Cond.initialized RX1, Cond.code yX1_needTwoStations cX1_needTwoStations 3 none, Cond.classLink RX1 154 "java/lang/IllegalArgumentException", Cond.initialized "java/lang/IllegalArgumentException", Cond.methodLink RX1 43 yX1_needStation, Cond.instanceMethod yX1_needStation, Cond.selects RX1 yX1_needStation yX1_needStation, Cond.code yX1_needStation cX1_needStation 2 none, Cond.classLink RX1 101 "java/lang/IndexOutOfBoundsException", Cond.initialized "java/lang/IndexOutOfBoundsException", Cond.instanceMethod yX0_waitingAt, Cond.initialized RX0, Cond.selects RX0 yX0_waitingAt yX0_waitingAt, Cond.code yX0_waitingAt cX0_waitingAt 2 (some .int), Cond.fieldLink RX0 28 "PodGuideway$Ring" "stationWaiting" "[I", Cond.methodLink RX0 146 Lib.Math.max.name, Cond.static Lib.Math.max.name, Cond.initialized "java/lang/Math"]
def wsX1_ride_r2 : List Cond := [Cond.code Lib.Math.max.name Lib.Math.max.code 2 (some .int), Cond.methodLink RX0 100 yX0_read, Cond.static yX0_read, Cond.code yX0_read cX0_read 2 (some .int), Cond.instanceMethod yX0_addRider, Cond.selects RX0 yX0_addRider yX0_addRider, Cond.code yX0_addRider cX0_addRider 5 (some .int), Cond.fieldLink RX0 59 "PodGuideway$Ring" "ridersInAll" "I", Cond.fieldLink RX0 31 "PodGuideway$Ring" "riderNumber" "[I", Cond.fieldLink RX0 34 "PodGuideway$Ring" "riderGoal" "[I", Cond.fieldLink RX0 37 "PodGuideway$Ring" "riderCame" "[I", Cond.fieldLink RX0 49 "PodGuideway$Ring" "minute" "I", Cond.methodLink RX0 80 yX0_waitingAt, Cond.methodLink RX0 72 yX0_write, Cond.static yX0_write, Cond.code yX0_write cX0_write 3 none]
def wsX1_ride : List Cond := .code yX1_ride cX1_ride 3 (some .int) :: ((wsX1_ride_r1 ++ wsX1_ride_r2) ++ wsX10 ++ wsX00 ++ (vx_atS RX1 31 "java/lang/IllegalStateException" ["java/lang/RuntimeException", "java/lang/Exception"]).filter goodWord ++ (vx_atS RX1 158 "java/lang/IllegalArgumentException" ["java/lang/RuntimeException", "java/lang/Exception"]).filter goodWord ++ (vx_atS RX1 105 "java/lang/IndexOutOfBoundsException" ["java/lang/RuntimeException", "java/lang/Exception"]).filter goodWord)
def wsX1_needPod : List Cond := .code yX1_needPod cX1_needPod 2 none :: ([.classLink RX1 101 "java/lang/IndexOutOfBoundsException", .initialized "java/lang/IndexOutOfBoundsException", .fieldLink RX1 10 "PodGuideway" "now" "LPodGuideway$Ring;"] ++ wsX10 ++ wsX00 ++ (vx_atS RX1 105 "java/lang/IndexOutOfBoundsException" ["java/lang/RuntimeException", "java/lang/Exception"]).filter goodWord)
def wsX1_send_r1 : List Cond := [Cond.classLink RX1 27 "java/lang/IllegalStateException", Cond.initialized "java/lang/IllegalStateException", Cond.fieldLink RX1 10 "PodGuideway" "now" "LPodGuideway$Ring;", Cond.methodLink RX1 72 yX1_needPod, Cond.instanceMethod yX1_needPod, Cond.selects RX1 yX1_needPod yX1_needPod, Cond.initialized RX1, Cond.code yX1_needPod cX1_needPod 2 none, Cond.classLink RX1 101 "java/lang/IndexOutOfBoundsException", Cond.initialized "java/lang/IndexOutOfBoundsException", Cond.methodLink RX1 43 yX1_needStation, Cond.instanceMethod yX1_needStation, Cond.selects RX1 yX1_needStation yX1_needStation, Cond.code yX1_needStation cX1_needStation 2 none, Cond.instanceMethod yX0_berthOf, Cond.initialized RX0, Cond.selects RX0 yX0_berthOf yX0_berthOf, Cond.code yX0_berthOf cX0_berthOf 2 (some .int), Cond.fieldLink RX0 19 "PodGuideway$Ring" "podInBerth" "[I", Cond.methodLink RX0 149 yX0_find, Cond.static yX0_find, Cond.code yX0_find cX0_find 3 (some .int), Cond.instanceMethod yX0_goalOf, Cond.selects RX0 yX0_goalOf yX0_goalOf]
def wsX1_send_r2 : List Cond := [Cond.code yX0_goalOf cX0_goalOf 2 (some .int), Cond.fieldLink RX0 40 "PodGuideway$Ring" "podGoal" "[I", Cond.methodLink RX0 100 yX0_read, Cond.static yX0_read, Cond.code yX0_read cX0_read 2 (some .int), Cond.instanceMethod yX0_setGoal, Cond.selects RX0 yX0_setGoal yX0_setGoal, Cond.code yX0_setGoal cX0_setGoal 3 none, Cond.methodLink RX0 72 yX0_write, Cond.static yX0_write, Cond.code yX0_write cX0_write 3 none, Cond.instanceMethod yX0_placesOn, Cond.selects RX0 yX0_placesOn yX0_placesOn, Cond.code yX0_placesOn cX0_placesOn 3 (some .int), Cond.methodLink RX0 110 yX0_placeOf, Cond.instanceMethod yX0_placeOf, Cond.selects RX0 yX0_placeOf yX0_placeOf, Cond.code yX0_placeOf cX0_placeOf 2 (some .int), Cond.fieldLink RX0 22 "PodGuideway$Ring" "stationPlace" "[I", Cond.methodLink RX0 141 yJ9_floorMod_7cf53, Cond.static yJ9_floorMod_7cf53, Cond.initialized RJ9, Cond.code yJ9_floorMod_7cf53 cJ9_floorMod_7cf53 3 (some .int)]
def wsX1_send : List Cond := .code yX1_send cX1_send 5 (some .int) :: ((wsX1_send_r1 ++ wsX1_send_r2) ++ wsX10 ++ wsX00 ++ (vx_atS RX1 31 "java/lang/IllegalStateException" ["java/lang/RuntimeException", "java/lang/Exception"]).filter goodWord ++ (vx_atS RX1 105 "java/lang/IndexOutOfBoundsException" ["java/lang/RuntimeException", "java/lang/Exception"]).filter goodWord)
def wsX1_needWhat : List Cond := .code yX1_needWhat cX1_needWhat 4 none :: ([.classLink RX1 101 "java/lang/IndexOutOfBoundsException", .initialized "java/lang/IndexOutOfBoundsException"] ++ (vx_atS RX1 105 "java/lang/IndexOutOfBoundsException" ["java/lang/RuntimeException", "java/lang/Exception"]).filter goodWord)
def wsX1_told_r1 : List Cond := [Cond.fieldLink RX1 10 "PodGuideway" "now" "LPodGuideway$Ring;", Cond.methodLink RX1 72 yX1_needPod, Cond.instanceMethod yX1_needPod, Cond.selects RX1 yX1_needPod yX1_needPod, Cond.initialized RX1, Cond.code yX1_needPod cX1_needPod 2 none, Cond.classLink RX1 101 "java/lang/IndexOutOfBoundsException", Cond.initialized "java/lang/IndexOutOfBoundsException", Cond.methodLink RX1 91 yX1_needWhat, Cond.instanceMethod yX1_needWhat, Cond.selects RX1 yX1_needWhat yX1_needWhat, Cond.code yX1_needWhat cX1_needWhat 4 none, Cond.instanceMethod yX0_tellPod, Cond.initialized RX0, Cond.selects RX0 yX0_tellPod yX0_tellPod, Cond.code yX0_tellPod cX0_tellPod 4 (some .int), Cond.fieldLink RX0 15 "PodGuideway$Ring" "podInSlot" "[I", Cond.fieldLink RX0 43 "PodGuideway$Ring" "podRider" "[I", Cond.fieldLink RX0 46 "PodGuideway$Ring" "podBarred" "[I", Cond.methodLink RX0 155 yX0_berthOf, Cond.instanceMethod yX0_berthOf, Cond.selects RX0 yX0_berthOf yX0_berthOf, Cond.code yX0_berthOf cX0_berthOf 2 (some .int), Cond.fieldLink RX0 19 "PodGuideway$Ring" "podInBerth" "[I"]
def wsX1_told_r2 : List Cond := [Cond.methodLink RX0 149 yX0_find, Cond.static yX0_find, Cond.code yX0_find cX0_find 3 (some .int), Cond.methodLink RX0 116 yX0_goalOf, Cond.instanceMethod yX0_goalOf, Cond.selects RX0 yX0_goalOf yX0_goalOf, Cond.code yX0_goalOf cX0_goalOf 2 (some .int), Cond.fieldLink RX0 40 "PodGuideway$Ring" "podGoal" "[I", Cond.methodLink RX0 100 yX0_read, Cond.static yX0_read, Cond.code yX0_read cX0_read 2 (some .int)]
def wsX1_told : List Cond := .code yX1_told cX1_told 3 (some .int) :: ((wsX1_told_r1 ++ wsX1_told_r2) ++ wsX10 ++ wsX00 ++ (vx_atS RX1 105 "java/lang/IndexOutOfBoundsException" ["java/lang/RuntimeException", "java/lang/Exception"]).filter goodWord)
def wsX1_station_r1 : List Cond := [Cond.fieldLink RX1 10 "PodGuideway" "now" "LPodGuideway$Ring;", Cond.methodLink RX1 43 yX1_needStation, Cond.instanceMethod yX1_needStation, Cond.selects RX1 yX1_needStation yX1_needStation, Cond.initialized RX1, Cond.code yX1_needStation cX1_needStation 2 none, Cond.classLink RX1 101 "java/lang/IndexOutOfBoundsException", Cond.initialized "java/lang/IndexOutOfBoundsException", Cond.methodLink RX1 91 yX1_needWhat, Cond.instanceMethod yX1_needWhat, Cond.selects RX1 yX1_needWhat yX1_needWhat, Cond.code yX1_needWhat cX1_needWhat 4 none, Cond.instanceMethod yX0_tellStation, Cond.initialized RX0, Cond.selects RX0 yX0_tellStation yX0_tellStation, Cond.code yX0_tellStation cX0_tellStation 3 (some .int), Cond.fieldLink RX0 25 "PodGuideway$Ring" "stationArrived" "[I", Cond.methodLink RX0 110 yX0_placeOf, Cond.instanceMethod yX0_placeOf, Cond.selects RX0 yX0_placeOf yX0_placeOf, Cond.code yX0_placeOf cX0_placeOf 2 (some .int), Cond.fieldLink RX0 22 "PodGuideway$Ring" "stationPlace" "[I", Cond.methodLink RX0 100 yX0_read, Cond.static yX0_read]
def wsX1_station_r2 : List Cond := [Cond.code yX0_read cX0_read 2 (some .int), Cond.methodLink RX0 158 yX0_berthsThatHold, Cond.instanceMethod yX0_berthsThatHold, Cond.selects RX0 yX0_berthsThatHold yX0_berthsThatHold, Cond.code yX0_berthsThatHold cX0_berthsThatHold 5 (some .int), Cond.methodLink RX0 123 yX0_berthHolds, Cond.instanceMethod yX0_berthHolds, Cond.selects RX0 yX0_berthHolds yX0_berthHolds, Cond.code yX0_berthHolds cX0_berthHolds 3 (some .int), Cond.fieldLink RX0 19 "PodGuideway$Ring" "podInBerth" "[I", Cond.fieldLink RX0 40 "PodGuideway$Ring" "podGoal" "[I", Cond.methodLink RX0 80 yX0_waitingAt, Cond.instanceMethod yX0_waitingAt, Cond.selects RX0 yX0_waitingAt yX0_waitingAt, Cond.code yX0_waitingAt cX0_waitingAt 2 (some .int), Cond.fieldLink RX0 28 "PodGuideway$Ring" "stationWaiting" "[I", Cond.methodLink RX0 146 Lib.Math.max.name, Cond.static Lib.Math.max.name, Cond.initialized "java/lang/Math", Cond.code Lib.Math.max.name Lib.Math.max.code 2 (some .int), Cond.methodLink RX0 132 yX0_emptyPodsTo, Cond.instanceMethod yX0_emptyPodsTo, Cond.selects RX0 yX0_emptyPodsTo yX0_emptyPodsTo, Cond.code yX0_emptyPodsTo cX0_emptyPodsTo 4 (some .int)]
def wsX1_station_r3 : List Cond := [Cond.fieldLink RX0 56 "PodGuideway$Ring" "pods" "I", Cond.fieldLink RX0 43 "PodGuideway$Ring" "podRider" "[I", Cond.methodLink RX0 116 yX0_goalOf, Cond.instanceMethod yX0_goalOf, Cond.selects RX0 yX0_goalOf yX0_goalOf, Cond.code yX0_goalOf cX0_goalOf 2 (some .int), Cond.methodLink RX0 152 yX0_waitedAt, Cond.instanceMethod yX0_waitedAt, Cond.selects RX0 yX0_waitedAt yX0_waitedAt, Cond.code yX0_waitedAt cX0_waitedAt 5 (some .int), Cond.methodLink RX0 129 yX0_waitedBy, Cond.instanceMethod yX0_waitedBy, Cond.selects RX0 yX0_waitedBy yX0_waitedBy, Cond.code yX0_waitedBy cX0_waitedBy 3 (some .int), Cond.fieldLink RX0 49 "PodGuideway$Ring" "minute" "I", Cond.fieldLink RX0 37 "PodGuideway$Ring" "riderCame" "[I"]
def wsX1_station : List Cond := .code yX1_station cX1_station 3 (some .int) :: ((wsX1_station_r1 ++ (wsX1_station_r2 ++ wsX1_station_r3)) ++ wsX10 ++ wsX00 ++ (vx_atS RX1 105 "java/lang/IndexOutOfBoundsException" ["java/lang/RuntimeException", "java/lang/Exception"]).filter goodWord)
def wsX1_waits_r1 : List Cond := [Cond.classLink RX1 101 "java/lang/IndexOutOfBoundsException", Cond.initialized "java/lang/IndexOutOfBoundsException", Cond.fieldLink RX1 10 "PodGuideway" "now" "LPodGuideway$Ring;", Cond.methodLink RX1 43 yX1_needStation, Cond.instanceMethod yX1_needStation, Cond.selects RX1 yX1_needStation yX1_needStation, Cond.initialized RX1, Cond.code yX1_needStation cX1_needStation 2 none, Cond.instanceMethod yX0_waitingAt, Cond.initialized RX0, Cond.selects RX0 yX0_waitingAt yX0_waitingAt, Cond.code yX0_waitingAt cX0_waitingAt 2 (some .int), Cond.fieldLink RX0 28 "PodGuideway$Ring" "stationWaiting" "[I", Cond.methodLink RX0 146 Lib.Math.max.name, Cond.static Lib.Math.max.name, Cond.initialized "java/lang/Math", Cond.code Lib.Math.max.name Lib.Math.max.code 2 (some .int), Cond.methodLink RX0 100 yX0_read, Cond.static yX0_read, Cond.code yX0_read cX0_read 2 (some .int), Cond.instanceMethod yX0_tellRider, Cond.selects RX0 yX0_tellRider yX0_tellRider, Cond.code yX0_tellRider cX0_tellRider 3 (some .int), Cond.fieldLink RX0 34 "PodGuideway$Ring" "riderGoal" "[I"]
def wsX1_waits_r2 : List Cond := [Cond.methodLink RX0 129 yX0_waitedBy, Cond.instanceMethod yX0_waitedBy, Cond.selects RX0 yX0_waitedBy yX0_waitedBy, Cond.code yX0_waitedBy cX0_waitedBy 3 (some .int), Cond.fieldLink RX0 49 "PodGuideway$Ring" "minute" "I", Cond.fieldLink RX0 37 "PodGuideway$Ring" "riderCame" "[I"]
def wsX1_waits : List Cond := .code yX1_waits cX1_waits 3 (some .int) :: ((wsX1_waits_r1 ++ wsX1_waits_r2) ++ wsX10 ++ wsX00 ++ (vx_atS RX1 105 "java/lang/IndexOutOfBoundsException" ["java/lang/RuntimeException", "java/lang/Exception"]).filter goodWord)
def wsX1_slot : List Cond := .code yX1_slot cX1_slot 2 (some .int) :: ([.fieldLink RX1 10 "PodGuideway" "now" "LPodGuideway$Ring;", .methodLink RX1 19 yX1_needPlace, .instanceMethod yX1_needPlace, .selects RX1 yX1_needPlace yX1_needPlace, .initialized RX1, .code yX1_needPlace cX1_needPlace 2 none, .classLink RX1 101 "java/lang/IndexOutOfBoundsException", .initialized "java/lang/IndexOutOfBoundsException", .instanceMethod yX0_podAtPlace, .initialized RX0, .selects RX0 yX0_podAtPlace yX0_podAtPlace, .code yX0_podAtPlace cX0_podAtPlace 2 (some .int), .fieldLink RX0 15 "PodGuideway$Ring" "podInSlot" "[I", .methodLink RX0 100 yX0_read, .static yX0_read, .code yX0_read cX0_read 2 (some .int)] ++ wsX10 ++ wsX00 ++ (vx_atS RX1 105 "java/lang/IndexOutOfBoundsException" ["java/lang/RuntimeException", "java/lang/Exception"]).filter goodWord)
def wsX1_count_r1 : List Cond := [Cond.fieldLink RX1 10 "PodGuideway" "now" "LPodGuideway$Ring;", Cond.methodLink RX1 91 yX1_needWhat, Cond.instanceMethod yX1_needWhat, Cond.selects RX1 yX1_needWhat yX1_needWhat, Cond.initialized RX1, Cond.code yX1_needWhat cX1_needWhat 4 none, Cond.classLink RX1 101 "java/lang/IndexOutOfBoundsException", Cond.initialized "java/lang/IndexOutOfBoundsException", Cond.instanceMethod yX0_tellCount, Cond.initialized RX0, Cond.selects RX0 yX0_tellCount yX0_tellCount, Cond.code yX0_tellCount cX0_tellCount 2 (some .int), Cond.fieldLink RX0 49 "PodGuideway$Ring" "minute" "I", Cond.fieldLink RX0 53 "PodGuideway$Ring" "stations" "I", Cond.fieldLink RX0 56 "PodGuideway$Ring" "pods" "I", Cond.fieldLink RX0 62 "PodGuideway$Ring" "callsAnswered" "I", Cond.fieldLink RX0 65 "PodGuideway$Ring" "waitedBeforeBoarding" "I", Cond.methodLink RX0 161 yX0_waitingInAll, Cond.instanceMethod yX0_waitingInAll, Cond.selects RX0 yX0_waitingInAll yX0_waitingInAll, Cond.code yX0_waitingInAll cX0_waitingInAll 3 (some .int), Cond.methodLink RX0 80 yX0_waitingAt, Cond.instanceMethod yX0_waitingAt, Cond.selects RX0 yX0_waitingAt yX0_waitingAt]
def wsX1_count_r2 : List Cond := [Cond.code yX0_waitingAt cX0_waitingAt 2 (some .int), Cond.fieldLink RX0 28 "PodGuideway$Ring" "stationWaiting" "[I", Cond.methodLink RX0 146 Lib.Math.max.name, Cond.static Lib.Math.max.name, Cond.initialized "java/lang/Math", Cond.code Lib.Math.max.name Lib.Math.max.code 2 (some .int), Cond.methodLink RX0 100 yX0_read, Cond.static yX0_read, Cond.code yX0_read cX0_read 2 (some .int), Cond.methodLink RX0 165 yX0_ridersInPods, Cond.instanceMethod yX0_ridersInPods, Cond.selects RX0 yX0_ridersInPods yX0_ridersInPods, Cond.code yX0_ridersInPods cX0_ridersInPods 3 (some .int), Cond.fieldLink RX0 43 "PodGuideway$Ring" "podRider" "[I", Cond.methodLink RX0 168 yX0_arrivedInAll, Cond.instanceMethod yX0_arrivedInAll, Cond.selects RX0 yX0_arrivedInAll yX0_arrivedInAll, Cond.code yX0_arrivedInAll cX0_arrivedInAll 3 (some .int), Cond.fieldLink RX0 25 "PodGuideway$Ring" "stationArrived" "[I", Cond.methodLink RX0 171 yX0_freeSlots, Cond.instanceMethod yX0_freeSlots, Cond.selects RX0 yX0_freeSlots yX0_freeSlots, Cond.code yX0_freeSlots cX0_freeSlots 3 (some .int), Cond.methodLink RX0 113 yX0_podAtPlace]
def wsX1_count_r3 : List Cond := [Cond.instanceMethod yX0_podAtPlace, Cond.selects RX0 yX0_podAtPlace yX0_podAtPlace, Cond.code yX0_podAtPlace cX0_podAtPlace 2 (some .int), Cond.fieldLink RX0 15 "PodGuideway$Ring" "podInSlot" "[I"]
def wsX1_count : List Cond := .code yX1_count cX1_count 2 (some .int) :: ((wsX1_count_r1 ++ (wsX1_count_r2 ++ wsX1_count_r3)) ++ wsX10 ++ wsX00 ++ (vx_atS RX1 105 "java/lang/IndexOutOfBoundsException" ["java/lang/RuntimeException", "java/lang/Exception"]).filter goodWord)
def wsX1_needMinutes : List Cond := .code yX1_needMinutes cX1_needMinutes 2 none :: ([.classLink RX1 154 "java/lang/IllegalArgumentException", .initialized "java/lang/IllegalArgumentException"] ++ (vx_atS RX1 158 "java/lang/IllegalArgumentException" ["java/lang/RuntimeException", "java/lang/Exception"]).filter goodWord)
def wsX1_pass_r1 : List Cond := [Cond.fieldLink RX1 10 "PodGuideway" "now" "LPodGuideway$Ring;", Cond.methodLink RX1 115 yX1_needMinutes, Cond.instanceMethod yX1_needMinutes, Cond.selects RX1 yX1_needMinutes yX1_needMinutes, Cond.initialized RX1, Cond.code yX1_needMinutes cX1_needMinutes 2 none, Cond.classLink RX1 154 "java/lang/IllegalArgumentException", Cond.initialized "java/lang/IllegalArgumentException", Cond.instanceMethod yX0_arrivedInAll, Cond.initialized RX0, Cond.selects RX0 yX0_arrivedInAll yX0_arrivedInAll, Cond.code yX0_arrivedInAll cX0_arrivedInAll 3 (some .int), Cond.fieldLink RX0 53 "PodGuideway$Ring" "stations" "I", Cond.fieldLink RX0 25 "PodGuideway$Ring" "stationArrived" "[I", Cond.methodLink RX0 100 yX0_read, Cond.static yX0_read, Cond.code yX0_read cX0_read 2 (some .int), Cond.instanceMethod yX0_passMinute, Cond.selects RX0 yX0_passMinute yX0_passMinute, Cond.code yX0_passMinute cX0_passMinute 2 none, Cond.fieldLink RX0 49 "PodGuideway$Ring" "minute" "I", Cond.methodLink RX0 84 yX0_moveSlots, Cond.instanceMethod yX0_moveSlots, Cond.selects RX0 yX0_moveSlots yX0_moveSlots]
def wsX1_pass_r2 : List Cond := [Cond.code yX0_moveSlots cX0_moveSlots 3 none, Cond.fieldLink RX0 15 "PodGuideway$Ring" "podInSlot" "[I", Cond.methodLink RX0 104 arraycopyName, Cond.native arraycopyName, Cond.static arraycopyName, Cond.initialized "java/lang/System", Cond.methodLink RX0 72 yX0_write, Cond.static yX0_write, Cond.code yX0_write cX0_write 3 none, Cond.methodLink RX0 87 yX0_letGoOff, Cond.instanceMethod yX0_letGoOff, Cond.selects RX0 yX0_letGoOff yX0_letGoOff, Cond.code yX0_letGoOff cX0_letGoOff 5 none, Cond.fieldLink RX0 46 "PodGuideway$Ring" "podBarred" "[I", Cond.fieldLink RX0 19 "PodGuideway$Ring" "podInBerth" "[I", Cond.fieldLink RX0 43 "PodGuideway$Ring" "podRider" "[I", Cond.methodLink RX0 110 yX0_placeOf, Cond.instanceMethod yX0_placeOf, Cond.selects RX0 yX0_placeOf yX0_placeOf, Cond.code yX0_placeOf cX0_placeOf 2 (some .int), Cond.fieldLink RX0 22 "PodGuideway$Ring" "stationPlace" "[I", Cond.methodLink RX0 113 yX0_podAtPlace, Cond.instanceMethod yX0_podAtPlace, Cond.selects RX0 yX0_podAtPlace yX0_podAtPlace]
def wsX1_pass_r3 : List Cond := [Cond.code yX0_podAtPlace cX0_podAtPlace 2 (some .int), Cond.methodLink RX0 116 yX0_goalOf, Cond.instanceMethod yX0_goalOf, Cond.selects RX0 yX0_goalOf yX0_goalOf, Cond.code yX0_goalOf cX0_goalOf 2 (some .int), Cond.fieldLink RX0 40 "PodGuideway$Ring" "podGoal" "[I", Cond.methodLink RX0 76 yX0_firstBerth, Cond.instanceMethod yX0_firstBerth, Cond.selects RX0 yX0_firstBerth yX0_firstBerth, Cond.code yX0_firstBerth cX0_firstBerth 4 (some .int), Cond.methodLink RX0 123 yX0_berthHolds, Cond.instanceMethod yX0_berthHolds, Cond.selects RX0 yX0_berthHolds yX0_berthHolds, Cond.code yX0_berthHolds cX0_berthHolds 3 (some .int), Cond.methodLink RX0 119 yX0_setGoal, Cond.instanceMethod yX0_setGoal, Cond.selects RX0 yX0_setGoal yX0_setGoal, Cond.code yX0_setGoal cX0_setGoal 3 none, Cond.methodLink RX0 91 yX0_letBoard, Cond.instanceMethod yX0_letBoard, Cond.selects RX0 yX0_letBoard yX0_letBoard, Cond.code yX0_letBoard cX0_letBoard 3 none, Cond.methodLink RX0 80 yX0_waitingAt, Cond.instanceMethod yX0_waitingAt]
def wsX1_pass_r4 : List Cond := [Cond.selects RX0 yX0_waitingAt yX0_waitingAt, Cond.code yX0_waitingAt cX0_waitingAt 2 (some .int), Cond.fieldLink RX0 28 "PodGuideway$Ring" "stationWaiting" "[I", Cond.methodLink RX0 146 Lib.Math.max.name, Cond.static Lib.Math.max.name, Cond.initialized "java/lang/Math", Cond.code Lib.Math.max.name Lib.Math.max.code 2 (some .int), Cond.methodLink RX0 126 yX0_boardFirst, Cond.instanceMethod yX0_boardFirst, Cond.selects RX0 yX0_boardFirst yX0_boardFirst, Cond.code yX0_boardFirst cX0_boardFirst 6 none, Cond.fieldLink RX0 31 "PodGuideway$Ring" "riderNumber" "[I", Cond.fieldLink RX0 34 "PodGuideway$Ring" "riderGoal" "[I", Cond.fieldLink RX0 65 "PodGuideway$Ring" "waitedBeforeBoarding" "I", Cond.fieldLink RX0 37 "PodGuideway$Ring" "riderCame" "[I", Cond.methodLink RX0 129 yX0_waitedBy, Cond.instanceMethod yX0_waitedBy, Cond.selects RX0 yX0_waitedBy yX0_waitedBy, Cond.code yX0_waitedBy cX0_waitedBy 3 (some .int), Cond.methodLink RX0 94 yX0_letCall, Cond.instanceMethod yX0_letCall, Cond.selects RX0 yX0_letCall yX0_letCall, Cond.code yX0_letCall cX0_letCall 4 none, Cond.fieldLink RX0 62 "PodGuideway$Ring" "callsAnswered" "I"]
def wsX1_pass_r5 : List Cond := [Cond.methodLink RX0 132 yX0_emptyPodsTo, Cond.instanceMethod yX0_emptyPodsTo, Cond.selects RX0 yX0_emptyPodsTo yX0_emptyPodsTo, Cond.code yX0_emptyPodsTo cX0_emptyPodsTo 4 (some .int), Cond.fieldLink RX0 56 "PodGuideway$Ring" "pods" "I", Cond.methodLink RX0 135 yX0_stationThatAnswers, Cond.instanceMethod yX0_stationThatAnswers, Cond.selects RX0 yX0_stationThatAnswers yX0_stationThatAnswers, Cond.code yX0_stationThatAnswers cX0_stationThatAnswers 6 (some .int), Cond.methodLink RX0 138 yX0_placesOn, Cond.instanceMethod yX0_placesOn, Cond.selects RX0 yX0_placesOn yX0_placesOn, Cond.code yX0_placesOn cX0_placesOn 3 (some .int), Cond.methodLink RX0 141 yJ9_floorMod_7cf53, Cond.static yJ9_floorMod_7cf53, Cond.initialized RJ9, Cond.code yJ9_floorMod_7cf53 cJ9_floorMod_7cf53 3 (some .int), Cond.methodLink RX0 97 yX0_letMerge, Cond.instanceMethod yX0_letMerge, Cond.selects RX0 yX0_letMerge yX0_letMerge, Cond.code yX0_letMerge cX0_letMerge 4 none]
def wsX1_pass : List Cond := .code yX1_pass cX1_pass 4 (some .int) :: ((wsX1_pass_r1 ++ (wsX1_pass_r2 ++ (wsX1_pass_r3 ++ (wsX1_pass_r4 ++ wsX1_pass_r5)))) ++ wsX10 ++ wsX00 ++ (vx_atS RX1 158 "java/lang/IllegalArgumentException" ["java/lang/RuntimeException", "java/lang/Exception"]).filter goodWord)
def wsX1_when_r1 : List Cond := [Cond.fieldLink RX1 10 "PodGuideway" "now" "LPodGuideway$Ring;", Cond.fieldLink RX1 16 "PodGuideway" "ahead" "LPodGuideway$Ring;", Cond.methodLink RX1 72 yX1_needPod, Cond.instanceMethod yX1_needPod, Cond.selects RX1 yX1_needPod yX1_needPod, Cond.initialized RX1, Cond.code yX1_needPod cX1_needPod 2 none, Cond.classLink RX1 101 "java/lang/IndexOutOfBoundsException", Cond.initialized "java/lang/IndexOutOfBoundsException", Cond.instanceMethod yX0_goalOf, Cond.initialized RX0, Cond.selects RX0 yX0_goalOf yX0_goalOf, Cond.code yX0_goalOf cX0_goalOf 2 (some .int), Cond.fieldLink RX0 40 "PodGuideway$Ring" "podGoal" "[I", Cond.methodLink RX0 100 yX0_read, Cond.static yX0_read, Cond.code yX0_read cX0_read 2 (some .int), Cond.instanceMethod yX0_copyFrom, Cond.selects RX0 yX0_copyFrom yX0_copyFrom, Cond.code yX0_copyFrom cX0_copyFrom 2 none, Cond.fieldLink RX0 49 "PodGuideway$Ring" "minute" "I", Cond.fieldLink RX0 53 "PodGuideway$Ring" "stations" "I", Cond.fieldLink RX0 56 "PodGuideway$Ring" "pods" "I", Cond.fieldLink RX0 59 "PodGuideway$Ring" "ridersInAll" "I"]
def wsX1_when_r2 : List Cond := [Cond.fieldLink RX0 62 "PodGuideway$Ring" "callsAnswered" "I", Cond.fieldLink RX0 65 "PodGuideway$Ring" "waitedBeforeBoarding" "I", Cond.fieldLink RX0 15 "PodGuideway$Ring" "podInSlot" "[I", Cond.fieldLink RX0 19 "PodGuideway$Ring" "podInBerth" "[I", Cond.fieldLink RX0 22 "PodGuideway$Ring" "stationPlace" "[I", Cond.fieldLink RX0 25 "PodGuideway$Ring" "stationArrived" "[I", Cond.fieldLink RX0 28 "PodGuideway$Ring" "stationWaiting" "[I", Cond.fieldLink RX0 31 "PodGuideway$Ring" "riderNumber" "[I", Cond.fieldLink RX0 34 "PodGuideway$Ring" "riderGoal" "[I", Cond.fieldLink RX0 37 "PodGuideway$Ring" "riderCame" "[I", Cond.fieldLink RX0 43 "PodGuideway$Ring" "podRider" "[I", Cond.fieldLink RX0 46 "PodGuideway$Ring" "podBarred" "[I", Cond.methodLink RX0 68 yX0_copyRow, Cond.static yX0_copyRow, Cond.code yX0_copyRow cX0_copyRow 2 none, Cond.methodLink RX0 180 Lib.Math.min.name, Cond.static Lib.Math.min.name, Cond.initialized "java/lang/Math", Cond.code Lib.Math.min.name Lib.Math.min.code 2 (some .int), Cond.methodLink RX0 104 arraycopyName, Cond.native arraycopyName, Cond.static arraycopyName, Cond.initialized "java/lang/System", Cond.instanceMethod yX0_passMinute]
def wsX1_when_r3 : List Cond := [Cond.selects RX0 yX0_passMinute yX0_passMinute, Cond.code yX0_passMinute cX0_passMinute 2 none, Cond.methodLink RX0 84 yX0_moveSlots, Cond.instanceMethod yX0_moveSlots, Cond.selects RX0 yX0_moveSlots yX0_moveSlots, Cond.code yX0_moveSlots cX0_moveSlots 3 none, Cond.methodLink RX0 72 yX0_write, Cond.static yX0_write, Cond.code yX0_write cX0_write 3 none, Cond.methodLink RX0 87 yX0_letGoOff, Cond.instanceMethod yX0_letGoOff, Cond.selects RX0 yX0_letGoOff yX0_letGoOff, Cond.code yX0_letGoOff cX0_letGoOff 5 none, Cond.methodLink RX0 110 yX0_placeOf, Cond.instanceMethod yX0_placeOf, Cond.selects RX0 yX0_placeOf yX0_placeOf, Cond.code yX0_placeOf cX0_placeOf 2 (some .int), Cond.methodLink RX0 113 yX0_podAtPlace, Cond.instanceMethod yX0_podAtPlace, Cond.selects RX0 yX0_podAtPlace yX0_podAtPlace, Cond.code yX0_podAtPlace cX0_podAtPlace 2 (some .int), Cond.methodLink RX0 116 yX0_goalOf, Cond.methodLink RX0 76 yX0_firstBerth, Cond.instanceMethod yX0_firstBerth]
def wsX1_when_r4 : List Cond := [Cond.selects RX0 yX0_firstBerth yX0_firstBerth, Cond.code yX0_firstBerth cX0_firstBerth 4 (some .int), Cond.methodLink RX0 123 yX0_berthHolds, Cond.instanceMethod yX0_berthHolds, Cond.selects RX0 yX0_berthHolds yX0_berthHolds, Cond.code yX0_berthHolds cX0_berthHolds 3 (some .int), Cond.methodLink RX0 119 yX0_setGoal, Cond.instanceMethod yX0_setGoal, Cond.selects RX0 yX0_setGoal yX0_setGoal, Cond.code yX0_setGoal cX0_setGoal 3 none, Cond.methodLink RX0 91 yX0_letBoard, Cond.instanceMethod yX0_letBoard, Cond.selects RX0 yX0_letBoard yX0_letBoard, Cond.code yX0_letBoard cX0_letBoard 3 none, Cond.methodLink RX0 80 yX0_waitingAt, Cond.instanceMethod yX0_waitingAt, Cond.selects RX0 yX0_waitingAt yX0_waitingAt, Cond.code yX0_waitingAt cX0_waitingAt 2 (some .int), Cond.methodLink RX0 146 Lib.Math.max.name, Cond.static Lib.Math.max.name, Cond.code Lib.Math.max.name Lib.Math.max.code 2 (some .int), Cond.methodLink RX0 126 yX0_boardFirst, Cond.instanceMethod yX0_boardFirst, Cond.selects RX0 yX0_boardFirst yX0_boardFirst]
def wsX1_when_r5 : List Cond := [Cond.code yX0_boardFirst cX0_boardFirst 6 none, Cond.methodLink RX0 129 yX0_waitedBy, Cond.instanceMethod yX0_waitedBy, Cond.selects RX0 yX0_waitedBy yX0_waitedBy, Cond.code yX0_waitedBy cX0_waitedBy 3 (some .int), Cond.methodLink RX0 94 yX0_letCall, Cond.instanceMethod yX0_letCall, Cond.selects RX0 yX0_letCall yX0_letCall, Cond.code yX0_letCall cX0_letCall 4 none, Cond.methodLink RX0 132 yX0_emptyPodsTo, Cond.instanceMethod yX0_emptyPodsTo, Cond.selects RX0 yX0_emptyPodsTo yX0_emptyPodsTo, Cond.code yX0_emptyPodsTo cX0_emptyPodsTo 4 (some .int), Cond.methodLink RX0 135 yX0_stationThatAnswers, Cond.instanceMethod yX0_stationThatAnswers, Cond.selects RX0 yX0_stationThatAnswers yX0_stationThatAnswers, Cond.code yX0_stationThatAnswers cX0_stationThatAnswers 6 (some .int), Cond.methodLink RX0 138 yX0_placesOn, Cond.instanceMethod yX0_placesOn, Cond.selects RX0 yX0_placesOn yX0_placesOn, Cond.code yX0_placesOn cX0_placesOn 3 (some .int), Cond.methodLink RX0 141 yJ9_floorMod_7cf53, Cond.static yJ9_floorMod_7cf53, Cond.initialized RJ9]
def wsX1_when_r6 : List Cond := [Cond.code yJ9_floorMod_7cf53 cJ9_floorMod_7cf53 3 (some .int), Cond.methodLink RX0 97 yX0_letMerge, Cond.instanceMethod yX0_letMerge, Cond.selects RX0 yX0_letMerge yX0_letMerge, Cond.code yX0_letMerge cX0_letMerge 4 none]
def wsX1_when : List Cond := .code yX1_when cX1_when 4 (some .int) :: ((wsX1_when_r1 ++ (wsX1_when_r2 ++ (wsX1_when_r3 ++ (wsX1_when_r4 ++ (wsX1_when_r5 ++ wsX1_when_r6))))) ++ wsX10 ++ wsX00 ++ (vx_atS RX1 105 "java/lang/IndexOutOfBoundsException" ["java/lang/RuntimeException", "java/lang/Exception"]).filter goodWord)
def wsX1_answers_r1 : List Cond := [Cond.fieldLink RX1 10 "PodGuideway" "now" "LPodGuideway$Ring;", Cond.methodLink RX1 43 yX1_needStation, Cond.instanceMethod yX1_needStation, Cond.selects RX1 yX1_needStation yX1_needStation, Cond.initialized RX1, Cond.code yX1_needStation cX1_needStation 2 none, Cond.classLink RX1 101 "java/lang/IndexOutOfBoundsException", Cond.initialized "java/lang/IndexOutOfBoundsException", Cond.instanceMethod yX0_stationThatAnswers, Cond.initialized RX0, Cond.selects RX0 yX0_stationThatAnswers yX0_stationThatAnswers, Cond.code yX0_stationThatAnswers cX0_stationThatAnswers 6 (some .int), Cond.fieldLink RX0 53 "PodGuideway$Ring" "stations" "I", Cond.methodLink RX0 138 yX0_placesOn, Cond.instanceMethod yX0_placesOn, Cond.selects RX0 yX0_placesOn yX0_placesOn, Cond.code yX0_placesOn cX0_placesOn 3 (some .int), Cond.methodLink RX0 110 yX0_placeOf, Cond.instanceMethod yX0_placeOf, Cond.selects RX0 yX0_placeOf yX0_placeOf, Cond.code yX0_placeOf cX0_placeOf 2 (some .int), Cond.fieldLink RX0 22 "PodGuideway$Ring" "stationPlace" "[I", Cond.methodLink RX0 100 yX0_read, Cond.static yX0_read]
def wsX1_answers_r2 : List Cond := [Cond.code yX0_read cX0_read 2 (some .int), Cond.methodLink RX0 141 yJ9_floorMod_7cf53, Cond.static yJ9_floorMod_7cf53, Cond.initialized RJ9, Cond.code yJ9_floorMod_7cf53 cJ9_floorMod_7cf53 3 (some .int), Cond.methodLink RX0 80 yX0_waitingAt, Cond.instanceMethod yX0_waitingAt, Cond.selects RX0 yX0_waitingAt yX0_waitingAt, Cond.code yX0_waitingAt cX0_waitingAt 2 (some .int), Cond.fieldLink RX0 28 "PodGuideway$Ring" "stationWaiting" "[I", Cond.methodLink RX0 146 Lib.Math.max.name, Cond.static Lib.Math.max.name, Cond.initialized "java/lang/Math", Cond.code Lib.Math.max.name Lib.Math.max.code 2 (some .int), Cond.methodLink RX0 76 yX0_firstBerth, Cond.instanceMethod yX0_firstBerth, Cond.selects RX0 yX0_firstBerth yX0_firstBerth, Cond.code yX0_firstBerth cX0_firstBerth 4 (some .int), Cond.methodLink RX0 123 yX0_berthHolds, Cond.instanceMethod yX0_berthHolds, Cond.selects RX0 yX0_berthHolds yX0_berthHolds, Cond.code yX0_berthHolds cX0_berthHolds 3 (some .int), Cond.fieldLink RX0 19 "PodGuideway$Ring" "podInBerth" "[I", Cond.fieldLink RX0 40 "PodGuideway$Ring" "podGoal" "[I"]
def wsX1_answers : List Cond := .code yX1_answers cX1_answers 2 (some .int) :: ((wsX1_answers_r1 ++ wsX1_answers_r2) ++ wsX10 ++ wsX00 ++ (vx_atS RX1 105 "java/lang/IndexOutOfBoundsException" ["java/lang/RuntimeException", "java/lang/Exception"]).filter goodWord)
def wsX1_foresee_r1 : List Cond := [Cond.fieldLink RX1 16 "PodGuideway" "ahead" "LPodGuideway$Ring;", Cond.fieldLink RX1 10 "PodGuideway" "now" "LPodGuideway$Ring;", Cond.methodLink RX1 115 yX1_needMinutes, Cond.instanceMethod yX1_needMinutes, Cond.selects RX1 yX1_needMinutes yX1_needMinutes, Cond.initialized RX1, Cond.code yX1_needMinutes cX1_needMinutes 2 none, Cond.classLink RX1 154 "java/lang/IllegalArgumentException", Cond.initialized "java/lang/IllegalArgumentException", Cond.methodLink RX1 91 yX1_needWhat, Cond.instanceMethod yX1_needWhat, Cond.selects RX1 yX1_needWhat yX1_needWhat, Cond.code yX1_needWhat cX1_needWhat 4 none, Cond.classLink RX1 101 "java/lang/IndexOutOfBoundsException", Cond.initialized "java/lang/IndexOutOfBoundsException", Cond.instanceMethod yX0_copyFrom, Cond.initialized RX0, Cond.selects RX0 yX0_copyFrom yX0_copyFrom, Cond.code yX0_copyFrom cX0_copyFrom 2 none, Cond.fieldLink RX0 49 "PodGuideway$Ring" "minute" "I", Cond.fieldLink RX0 53 "PodGuideway$Ring" "stations" "I", Cond.fieldLink RX0 56 "PodGuideway$Ring" "pods" "I", Cond.fieldLink RX0 59 "PodGuideway$Ring" "ridersInAll" "I", Cond.fieldLink RX0 62 "PodGuideway$Ring" "callsAnswered" "I"]
def wsX1_foresee_r2 : List Cond := [Cond.fieldLink RX0 65 "PodGuideway$Ring" "waitedBeforeBoarding" "I", Cond.fieldLink RX0 15 "PodGuideway$Ring" "podInSlot" "[I", Cond.fieldLink RX0 19 "PodGuideway$Ring" "podInBerth" "[I", Cond.fieldLink RX0 22 "PodGuideway$Ring" "stationPlace" "[I", Cond.fieldLink RX0 25 "PodGuideway$Ring" "stationArrived" "[I", Cond.fieldLink RX0 28 "PodGuideway$Ring" "stationWaiting" "[I", Cond.fieldLink RX0 31 "PodGuideway$Ring" "riderNumber" "[I", Cond.fieldLink RX0 34 "PodGuideway$Ring" "riderGoal" "[I", Cond.fieldLink RX0 37 "PodGuideway$Ring" "riderCame" "[I", Cond.fieldLink RX0 40 "PodGuideway$Ring" "podGoal" "[I", Cond.fieldLink RX0 43 "PodGuideway$Ring" "podRider" "[I", Cond.fieldLink RX0 46 "PodGuideway$Ring" "podBarred" "[I", Cond.methodLink RX0 68 yX0_copyRow, Cond.static yX0_copyRow, Cond.code yX0_copyRow cX0_copyRow 2 none, Cond.methodLink RX0 180 Lib.Math.min.name, Cond.static Lib.Math.min.name, Cond.initialized "java/lang/Math", Cond.code Lib.Math.min.name Lib.Math.min.code 2 (some .int), Cond.methodLink RX0 104 arraycopyName, Cond.native arraycopyName, Cond.static arraycopyName, Cond.initialized "java/lang/System", Cond.instanceMethod yX0_passMinute]
def wsX1_foresee_r3 : List Cond := [Cond.selects RX0 yX0_passMinute yX0_passMinute, Cond.code yX0_passMinute cX0_passMinute 2 none, Cond.methodLink RX0 84 yX0_moveSlots, Cond.instanceMethod yX0_moveSlots, Cond.selects RX0 yX0_moveSlots yX0_moveSlots, Cond.code yX0_moveSlots cX0_moveSlots 3 none, Cond.methodLink RX0 100 yX0_read, Cond.static yX0_read, Cond.code yX0_read cX0_read 2 (some .int), Cond.methodLink RX0 72 yX0_write, Cond.static yX0_write, Cond.code yX0_write cX0_write 3 none, Cond.methodLink RX0 87 yX0_letGoOff, Cond.instanceMethod yX0_letGoOff, Cond.selects RX0 yX0_letGoOff yX0_letGoOff, Cond.code yX0_letGoOff cX0_letGoOff 5 none, Cond.methodLink RX0 110 yX0_placeOf, Cond.instanceMethod yX0_placeOf, Cond.selects RX0 yX0_placeOf yX0_placeOf, Cond.code yX0_placeOf cX0_placeOf 2 (some .int), Cond.methodLink RX0 113 yX0_podAtPlace, Cond.instanceMethod yX0_podAtPlace, Cond.selects RX0 yX0_podAtPlace yX0_podAtPlace, Cond.code yX0_podAtPlace cX0_podAtPlace 2 (some .int)]
def wsX1_foresee_r4 : List Cond := [Cond.methodLink RX0 116 yX0_goalOf, Cond.instanceMethod yX0_goalOf, Cond.selects RX0 yX0_goalOf yX0_goalOf, Cond.code yX0_goalOf cX0_goalOf 2 (some .int), Cond.methodLink RX0 76 yX0_firstBerth, Cond.instanceMethod yX0_firstBerth, Cond.selects RX0 yX0_firstBerth yX0_firstBerth, Cond.code yX0_firstBerth cX0_firstBerth 4 (some .int), Cond.methodLink RX0 123 yX0_berthHolds, Cond.instanceMethod yX0_berthHolds, Cond.selects RX0 yX0_berthHolds yX0_berthHolds, Cond.code yX0_berthHolds cX0_berthHolds 3 (some .int), Cond.methodLink RX0 119 yX0_setGoal, Cond.instanceMethod yX0_setGoal, Cond.selects RX0 yX0_setGoal yX0_setGoal, Cond.code yX0_setGoal cX0_setGoal 3 none, Cond.methodLink RX0 91 yX0_letBoard, Cond.instanceMethod yX0_letBoard, Cond.selects RX0 yX0_letBoard yX0_letBoard, Cond.code yX0_letBoard cX0_letBoard 3 none, Cond.methodLink RX0 80 yX0_waitingAt, Cond.instanceMethod yX0_waitingAt, Cond.selects RX0 yX0_waitingAt yX0_waitingAt, Cond.code yX0_waitingAt cX0_waitingAt 2 (some .int)]
def wsX1_foresee_r5 : List Cond := [Cond.methodLink RX0 146 Lib.Math.max.name, Cond.static Lib.Math.max.name, Cond.code Lib.Math.max.name Lib.Math.max.code 2 (some .int), Cond.methodLink RX0 126 yX0_boardFirst, Cond.instanceMethod yX0_boardFirst, Cond.selects RX0 yX0_boardFirst yX0_boardFirst, Cond.code yX0_boardFirst cX0_boardFirst 6 none, Cond.methodLink RX0 129 yX0_waitedBy, Cond.instanceMethod yX0_waitedBy, Cond.selects RX0 yX0_waitedBy yX0_waitedBy, Cond.code yX0_waitedBy cX0_waitedBy 3 (some .int), Cond.methodLink RX0 94 yX0_letCall, Cond.instanceMethod yX0_letCall, Cond.selects RX0 yX0_letCall yX0_letCall, Cond.code yX0_letCall cX0_letCall 4 none, Cond.methodLink RX0 132 yX0_emptyPodsTo, Cond.instanceMethod yX0_emptyPodsTo, Cond.selects RX0 yX0_emptyPodsTo yX0_emptyPodsTo, Cond.code yX0_emptyPodsTo cX0_emptyPodsTo 4 (some .int), Cond.methodLink RX0 135 yX0_stationThatAnswers, Cond.instanceMethod yX0_stationThatAnswers, Cond.selects RX0 yX0_stationThatAnswers yX0_stationThatAnswers, Cond.code yX0_stationThatAnswers cX0_stationThatAnswers 6 (some .int), Cond.methodLink RX0 138 yX0_placesOn]
def wsX1_foresee_r6 : List Cond := [Cond.instanceMethod yX0_placesOn, Cond.selects RX0 yX0_placesOn yX0_placesOn, Cond.code yX0_placesOn cX0_placesOn 3 (some .int), Cond.methodLink RX0 141 yJ9_floorMod_7cf53, Cond.static yJ9_floorMod_7cf53, Cond.initialized RJ9, Cond.code yJ9_floorMod_7cf53 cJ9_floorMod_7cf53 3 (some .int), Cond.methodLink RX0 97 yX0_letMerge, Cond.instanceMethod yX0_letMerge, Cond.selects RX0 yX0_letMerge yX0_letMerge, Cond.code yX0_letMerge cX0_letMerge 4 none, Cond.instanceMethod yX0_tellCount, Cond.selects RX0 yX0_tellCount yX0_tellCount, Cond.code yX0_tellCount cX0_tellCount 2 (some .int), Cond.methodLink RX0 161 yX0_waitingInAll, Cond.instanceMethod yX0_waitingInAll, Cond.selects RX0 yX0_waitingInAll yX0_waitingInAll, Cond.code yX0_waitingInAll cX0_waitingInAll 3 (some .int), Cond.methodLink RX0 165 yX0_ridersInPods, Cond.instanceMethod yX0_ridersInPods, Cond.selects RX0 yX0_ridersInPods yX0_ridersInPods, Cond.code yX0_ridersInPods cX0_ridersInPods 3 (some .int), Cond.methodLink RX0 168 yX0_arrivedInAll, Cond.instanceMethod yX0_arrivedInAll]
def wsX1_foresee_r7 : List Cond := [Cond.selects RX0 yX0_arrivedInAll yX0_arrivedInAll, Cond.code yX0_arrivedInAll cX0_arrivedInAll 3 (some .int), Cond.methodLink RX0 171 yX0_freeSlots, Cond.instanceMethod yX0_freeSlots, Cond.selects RX0 yX0_freeSlots yX0_freeSlots, Cond.code yX0_freeSlots cX0_freeSlots 3 (some .int)]
def wsX1_foresee : List Cond := .code yX1_foresee cX1_foresee 4 (some .int) :: ((wsX1_foresee_r1 ++ (wsX1_foresee_r2 ++ (wsX1_foresee_r3 ++ (wsX1_foresee_r4 ++ (wsX1_foresee_r5 ++ (wsX1_foresee_r6 ++ wsX1_foresee_r7)))))) ++ wsX10 ++ wsX00 ++ (vx_atS RX1 158 "java/lang/IllegalArgumentException" ["java/lang/RuntimeException", "java/lang/Exception"]).filter goodWord ++ (vx_atS RX1 105 "java/lang/IndexOutOfBoundsException" ["java/lang/RuntimeException", "java/lang/Exception"]).filter goodWord)
def wsX1_mean_r1 : List Cond := [Cond.fieldLink RX1 10 "PodGuideway" "now" "LPodGuideway$Ring;", Cond.instanceMethod yX0_waitingInAll, Cond.initialized RX0, Cond.selects RX0 yX0_waitingInAll yX0_waitingInAll, Cond.code yX0_waitingInAll cX0_waitingInAll 3 (some .int), Cond.fieldLink RX0 53 "PodGuideway$Ring" "stations" "I", Cond.methodLink RX0 80 yX0_waitingAt, Cond.instanceMethod yX0_waitingAt, Cond.selects RX0 yX0_waitingAt yX0_waitingAt, Cond.code yX0_waitingAt cX0_waitingAt 2 (some .int), Cond.fieldLink RX0 28 "PodGuideway$Ring" "stationWaiting" "[I", Cond.methodLink RX0 146 Lib.Math.max.name, Cond.static Lib.Math.max.name, Cond.initialized "java/lang/Math", Cond.code Lib.Math.max.name Lib.Math.max.code 2 (some .int), Cond.methodLink RX0 100 yX0_read, Cond.static yX0_read, Cond.code yX0_read cX0_read 2 (some .int), Cond.instanceMethod yX0_waitedInAll, Cond.selects RX0 yX0_waitedInAll yX0_waitedInAll, Cond.code yX0_waitedInAll cX0_waitedInAll 3 (some .int), Cond.methodLink RX0 152 yX0_waitedAt, Cond.instanceMethod yX0_waitedAt, Cond.selects RX0 yX0_waitedAt yX0_waitedAt]
def wsX1_mean_r2 : List Cond := [Cond.code yX0_waitedAt cX0_waitedAt 5 (some .int), Cond.methodLink RX0 129 yX0_waitedBy, Cond.instanceMethod yX0_waitedBy, Cond.selects RX0 yX0_waitedBy yX0_waitedBy, Cond.code yX0_waitedBy cX0_waitedBy 3 (some .int), Cond.fieldLink RX0 49 "PodGuideway$Ring" "minute" "I", Cond.fieldLink RX0 37 "PodGuideway$Ring" "riderCame" "[I"]
def wsX1_mean : List Cond := .code yX1_mean cX1_mean 2 (some .double) :: ((wsX1_mean_r1 ++ wsX1_mean_r2) ++ wsX10 ++ wsX00)
def wsX2_init : List Cond := .code yX2_init cX2_init 1 none :: ([.methodLink RX2 1 objectInit, .instanceMethod objectInit, .code objectInit ⟨#[0xb1]⟩ 1 none, .fieldLink RX2 7 "PodGuidewayLaw$Pod" "slot" "I", .fieldLink RX2 13 "PodGuidewayLaw$Pod" "goal" "I"] ++ wsX20)
def wsX3_init : List Cond := .code yX3_init cX3_init 1 none :: ([.methodLink RX3 1 objectInit, .instanceMethod objectInit, .code objectInit ⟨#[0xb1]⟩ 1 none, .arrayClass .int, .fieldLink RX3 7 "PodGuidewayLaw$Sim" "place" "[I", .classLink RX3 13 "[[I", .fieldLink RX3 15 "PodGuidewayLaw$Sim" "waits" "[[[I", .fieldLink RX3 19 "PodGuidewayLaw$Sim" "arrived" "[I", .classLink RX3 22 RX2, .fieldLink RX3 24 "PodGuidewayLaw$Sim" "pods" "[LPodGuidewayLaw$Pod;", .fieldLink RX3 28 "PodGuidewayLaw$Sim" "followed" "I"] ++ wsX30)
def wsX3_more : List Cond := .code yX3_more cX3_more 4 (some (.array (.array .int))) :: ([.classLink RX3 33 "[I"])
def wsX3_build : List Cond := .code yX3_build cX3_build 7 none :: ([.fieldLink RX3 7 "PodGuidewayLaw$Sim" "place" "[I", .arrayClass .int, .classLink RX3 13 "[[I", .fieldLink RX3 19 "PodGuidewayLaw$Sim" "arrived" "[I", .fieldLink RX3 15 "PodGuidewayLaw$Sim" "waits" "[[[I", .classLink RX3 33 "[I"] ++ wsX30)
def wsX3_in : List Cond := .code yX3_in cX3_in 7 (some (.object "PodGuidewayLaw$Pod")) :: ([.fieldLink RX3 24 "PodGuidewayLaw$Sim" "pods" "[LPodGuidewayLaw$Pod;", .fieldLink RX3 51 "PodGuidewayLaw$Pod" "slot" "I", .fieldLink RX3 54 "PodGuidewayLaw$Pod" "at" "I", .fieldLink RX3 57 "PodGuidewayLaw$Pod" "berth" "I"] ++ wsX30 ++ wsX20)
def wsX3_free : List Cond := .code yX3_free cX3_free 3 (some .int) :: ([.methodLink RX3 60 yX3_in, .instanceMethod yX3_in, .selects RX3 yX3_in yX3_in, .initialized RX3, .code yX3_in cX3_in 7 (some (.object "PodGuidewayLaw$Pod")), .fieldLink RX3 24 "PodGuidewayLaw$Sim" "pods" "[LPodGuidewayLaw$Pod;", .fieldLink RX3 51 "PodGuidewayLaw$Pod" "slot" "I", .fieldLink RX3 54 "PodGuidewayLaw$Pod" "at" "I", .fieldLink RX3 57 "PodGuidewayLaw$Pod" "berth" "I"] ++ wsX30 ++ wsX20)
def wsX3_slot : List Cond := .code yX3_slot cX3_slot 6 (some (.object "PodGuidewayLaw$Pod")) :: ([.fieldLink RX3 24 "PodGuidewayLaw$Sim" "pods" "[LPodGuidewayLaw$Pod;", .fieldLink RX3 51 "PodGuidewayLaw$Pod" "slot" "I"] ++ wsX30 ++ wsX20)
def wsX3_idle : List Cond := .code yX3_idle cX3_idle 4 (some (.object "PodGuidewayLaw$Pod")) :: ([.fieldLink RX3 64 "PodGuidewayLaw$Pod" "goal" "I", .methodLink RX3 60 yX3_in, .instanceMethod yX3_in, .selects RX3 yX3_in yX3_in, .initialized RX3, .code yX3_in cX3_in 7 (some (.object "PodGuidewayLaw$Pod")), .fieldLink RX3 24 "PodGuidewayLaw$Sim" "pods" "[LPodGuidewayLaw$Pod;", .fieldLink RX3 51 "PodGuidewayLaw$Pod" "slot" "I", .fieldLink RX3 54 "PodGuidewayLaw$Pod" "at" "I", .fieldLink RX3 57 "PodGuidewayLaw$Pod" "berth" "I"] ++ wsX20 ++ wsX30)
def wsX3_coming : List Cond := .code yX3_coming cX3_coming 7 (some .int) :: ([.fieldLink RX3 24 "PodGuidewayLaw$Sim" "pods" "[LPodGuidewayLaw$Pod;", .fieldLink RX3 64 "PodGuidewayLaw$Pod" "goal" "I", .fieldLink RX3 67 "PodGuidewayLaw$Pod" "rider" "I"] ++ wsX30 ++ wsX20)
def wsX3_answer : List Cond := .code yX3_answer cX3_answer 4 (some .int) :: ([.fieldLink RX3 7 "PodGuidewayLaw$Sim" "place" "[I", .fieldLink RX3 15 "PodGuidewayLaw$Sim" "waits" "[[[I", .methodLink RX3 70 yX3_idle, .instanceMethod yX3_idle, .selects RX3 yX3_idle yX3_idle, .initialized RX3, .code yX3_idle cX3_idle 4 (some (.object "PodGuidewayLaw$Pod")), .fieldLink RX3 64 "PodGuidewayLaw$Pod" "goal" "I", .methodLink RX3 60 yX3_in, .instanceMethod yX3_in, .selects RX3 yX3_in yX3_in, .code yX3_in cX3_in 7 (some (.object "PodGuidewayLaw$Pod")), .fieldLink RX3 24 "PodGuidewayLaw$Sim" "pods" "[LPodGuidewayLaw$Pod;", .fieldLink RX3 51 "PodGuidewayLaw$Pod" "slot" "I", .fieldLink RX3 54 "PodGuidewayLaw$Pod" "at" "I", .fieldLink RX3 57 "PodGuidewayLaw$Pod" "berth" "I"] ++ wsX30 ++ wsX20)
def wsX3_pass_r1 : List Cond := [Cond.fieldLink RX3 7 "PodGuidewayLaw$Sim" "place" "[I", Cond.fieldLink RX3 24 "PodGuidewayLaw$Sim" "pods" "[LPodGuidewayLaw$Pod;", Cond.fieldLink RX3 51 "PodGuidewayLaw$Pod" "slot" "I", Cond.fieldLink RX3 64 "PodGuidewayLaw$Pod" "goal" "I", Cond.fieldLink RX3 80 "PodGuidewayLaw$Pod" "missed" "I", Cond.fieldLink RX3 67 "PodGuidewayLaw$Pod" "rider" "I", Cond.fieldLink RX3 19 "PodGuidewayLaw$Sim" "arrived" "[I", Cond.fieldLink RX3 42 "PodGuidewayLaw$Sim" "minute" "I", Cond.fieldLink RX3 28 "PodGuidewayLaw$Sim" "followed" "I", Cond.fieldLink RX3 54 "PodGuidewayLaw$Pod" "at" "I", Cond.fieldLink RX3 57 "PodGuidewayLaw$Pod" "berth" "I", Cond.fieldLink RX3 83 "PodGuidewayLaw$Pod" "offs" "I", Cond.fieldLink RX3 15 "PodGuidewayLaw$Sim" "waits" "[[[I", Cond.fieldLink RX3 48 "PodGuidewayLaw$Sim" "boarded" "I", Cond.classLink RX3 33 "[I", Cond.fieldLink RX3 45 "PodGuidewayLaw$Sim" "answered" "I", Cond.methodLink RX3 74 yX3_slot, Cond.instanceMethod yX3_slot, Cond.selects RX3 yX3_slot yX3_slot, Cond.initialized RX3, Cond.code yX3_slot cX3_slot 6 (some (.object "PodGuidewayLaw$Pod")), Cond.methodLink RX3 76 yX3_free, Cond.instanceMethod yX3_free, Cond.selects RX3 yX3_free yX3_free]
def wsX3_pass_r2 : List Cond := [Cond.code yX3_free cX3_free 3 (some .int), Cond.methodLink RX3 60 yX3_in, Cond.instanceMethod yX3_in, Cond.selects RX3 yX3_in yX3_in, Cond.code yX3_in cX3_in 7 (some (.object "PodGuidewayLaw$Pod")), Cond.methodLink RX3 70 yX3_idle, Cond.instanceMethod yX3_idle, Cond.selects RX3 yX3_idle yX3_idle, Cond.code yX3_idle cX3_idle 4 (some (.object "PodGuidewayLaw$Pod")), Cond.methodLink RX3 86 yX3_coming, Cond.instanceMethod yX3_coming, Cond.selects RX3 yX3_coming yX3_coming, Cond.code yX3_coming cX3_coming 7 (some .int), Cond.methodLink RX3 89 yX3_answer, Cond.instanceMethod yX3_answer, Cond.selects RX3 yX3_answer yX3_answer, Cond.code yX3_answer cX3_answer 4 (some .int)]
def wsX3_pass : List Cond := .code yX3_pass cX3_pass 11 (some .int) :: ((wsX3_pass_r1 ++ wsX3_pass_r2) ++ wsX30 ++ wsX20)
def wsX3_told : List Cond := .code yX3_told cX3_told 7 (some .int) :: ([.fieldLink RX3 45 "PodGuidewayLaw$Sim" "answered" "I", .fieldLink RX3 15 "PodGuidewayLaw$Sim" "waits" "[[[I", .fieldLink RX3 19 "PodGuidewayLaw$Sim" "arrived" "[I", .fieldLink RX3 24 "PodGuidewayLaw$Sim" "pods" "[LPodGuidewayLaw$Pod;", .fieldLink RX3 67 "PodGuidewayLaw$Pod" "rider" "I", .fieldLink RX3 51 "PodGuidewayLaw$Pod" "slot" "I"] ++ wsX30 ++ wsX20)
def wsX3_isSame_r1 : List Cond := [Cond.fieldLink RX3 7 "PodGuidewayLaw$Sim" "place" "[I", Cond.fieldLink RX3 24 "PodGuidewayLaw$Sim" "pods" "[LPodGuidewayLaw$Pod;", Cond.fieldLink RX3 51 "PodGuidewayLaw$Pod" "slot" "I", Cond.fieldLink RX3 54 "PodGuidewayLaw$Pod" "at" "I", Cond.fieldLink RX3 64 "PodGuidewayLaw$Pod" "goal" "I", Cond.fieldLink RX3 15 "PodGuidewayLaw$Sim" "waits" "[[[I", Cond.arrayClass .int, Cond.fieldLink RX3 19 "PodGuidewayLaw$Sim" "arrived" "[I", Cond.fieldLink RX3 57 "PodGuidewayLaw$Pod" "berth" "I", Cond.fieldLink RX3 67 "PodGuidewayLaw$Pod" "rider" "I", Cond.fieldLink RX3 80 "PodGuidewayLaw$Pod" "missed" "I", Cond.fieldLink RX3 42 "PodGuidewayLaw$Sim" "minute" "I", Cond.fieldLink RX3 45 "PodGuidewayLaw$Sim" "answered" "I", Cond.fieldLink RX3 48 "PodGuidewayLaw$Sim" "boarded" "I", Cond.methodLink RX3 92 yX1_waits, Cond.instanceMethod yX1_waits, Cond.selects RX1 yX1_waits yX1_waits, Cond.initialized RX1, Cond.code yX1_waits cX1_waits 3 (some .int), Cond.classLink RX1 101 "java/lang/IndexOutOfBoundsException", Cond.initialized "java/lang/IndexOutOfBoundsException", Cond.fieldLink RX1 10 "PodGuideway" "now" "LPodGuideway$Ring;", Cond.methodLink RX1 43 yX1_needStation, Cond.instanceMethod yX1_needStation]
def wsX3_isSame_r2 : List Cond := [Cond.selects RX1 yX1_needStation yX1_needStation, Cond.code yX1_needStation cX1_needStation 2 none, Cond.instanceMethod yX0_waitingAt, Cond.initialized RX0, Cond.selects RX0 yX0_waitingAt yX0_waitingAt, Cond.code yX0_waitingAt cX0_waitingAt 2 (some .int), Cond.fieldLink RX0 28 "PodGuideway$Ring" "stationWaiting" "[I", Cond.methodLink RX0 146 Lib.Math.max.name, Cond.static Lib.Math.max.name, Cond.initialized "java/lang/Math", Cond.code Lib.Math.max.name Lib.Math.max.code 2 (some .int), Cond.methodLink RX0 100 yX0_read, Cond.static yX0_read, Cond.code yX0_read cX0_read 2 (some .int), Cond.instanceMethod yX0_tellRider, Cond.selects RX0 yX0_tellRider yX0_tellRider, Cond.code yX0_tellRider cX0_tellRider 3 (some .int), Cond.fieldLink RX0 34 "PodGuideway$Ring" "riderGoal" "[I", Cond.methodLink RX0 129 yX0_waitedBy, Cond.instanceMethod yX0_waitedBy, Cond.selects RX0 yX0_waitedBy yX0_waitedBy, Cond.code yX0_waitedBy cX0_waitedBy 3 (some .int), Cond.fieldLink RX0 49 "PodGuideway$Ring" "minute" "I", Cond.fieldLink RX0 37 "PodGuideway$Ring" "riderCame" "[I"]
def wsX3_isSame_r3 : List Cond := [Cond.methodLink RX3 86 yX3_coming, Cond.instanceMethod yX3_coming, Cond.selects RX3 yX3_coming yX3_coming, Cond.initialized RX3, Cond.code yX3_coming cX3_coming 7 (some .int), Cond.methodLink RX3 97 yX1_station, Cond.instanceMethod yX1_station, Cond.selects RX1 yX1_station yX1_station, Cond.code yX1_station cX1_station 3 (some .int), Cond.methodLink RX1 91 yX1_needWhat, Cond.instanceMethod yX1_needWhat, Cond.selects RX1 yX1_needWhat yX1_needWhat, Cond.code yX1_needWhat cX1_needWhat 4 none, Cond.instanceMethod yX0_tellStation, Cond.selects RX0 yX0_tellStation yX0_tellStation, Cond.code yX0_tellStation cX0_tellStation 3 (some .int), Cond.fieldLink RX0 25 "PodGuideway$Ring" "stationArrived" "[I", Cond.methodLink RX0 110 yX0_placeOf, Cond.instanceMethod yX0_placeOf, Cond.selects RX0 yX0_placeOf yX0_placeOf, Cond.code yX0_placeOf cX0_placeOf 2 (some .int), Cond.fieldLink RX0 22 "PodGuideway$Ring" "stationPlace" "[I", Cond.methodLink RX0 158 yX0_berthsThatHold, Cond.instanceMethod yX0_berthsThatHold]
def wsX3_isSame_r4 : List Cond := [Cond.selects RX0 yX0_berthsThatHold yX0_berthsThatHold, Cond.code yX0_berthsThatHold cX0_berthsThatHold 5 (some .int), Cond.methodLink RX0 123 yX0_berthHolds, Cond.instanceMethod yX0_berthHolds, Cond.selects RX0 yX0_berthHolds yX0_berthHolds, Cond.code yX0_berthHolds cX0_berthHolds 3 (some .int), Cond.fieldLink RX0 19 "PodGuideway$Ring" "podInBerth" "[I", Cond.fieldLink RX0 40 "PodGuideway$Ring" "podGoal" "[I", Cond.methodLink RX0 80 yX0_waitingAt, Cond.methodLink RX0 132 yX0_emptyPodsTo, Cond.instanceMethod yX0_emptyPodsTo, Cond.selects RX0 yX0_emptyPodsTo yX0_emptyPodsTo, Cond.code yX0_emptyPodsTo cX0_emptyPodsTo 4 (some .int), Cond.fieldLink RX0 56 "PodGuideway$Ring" "pods" "I", Cond.fieldLink RX0 43 "PodGuideway$Ring" "podRider" "[I", Cond.methodLink RX0 116 yX0_goalOf, Cond.instanceMethod yX0_goalOf, Cond.selects RX0 yX0_goalOf yX0_goalOf, Cond.code yX0_goalOf cX0_goalOf 2 (some .int), Cond.methodLink RX0 152 yX0_waitedAt, Cond.instanceMethod yX0_waitedAt, Cond.selects RX0 yX0_waitedAt yX0_waitedAt, Cond.code yX0_waitedAt cX0_waitedAt 5 (some .int), Cond.methodLink RX3 100 yX1_answers]
def wsX3_isSame_r5 : List Cond := [Cond.instanceMethod yX1_answers, Cond.selects RX1 yX1_answers yX1_answers, Cond.code yX1_answers cX1_answers 2 (some .int), Cond.instanceMethod yX0_stationThatAnswers, Cond.selects RX0 yX0_stationThatAnswers yX0_stationThatAnswers, Cond.code yX0_stationThatAnswers cX0_stationThatAnswers 6 (some .int), Cond.fieldLink RX0 53 "PodGuideway$Ring" "stations" "I", Cond.methodLink RX0 138 yX0_placesOn, Cond.instanceMethod yX0_placesOn, Cond.selects RX0 yX0_placesOn yX0_placesOn, Cond.code yX0_placesOn cX0_placesOn 3 (some .int), Cond.methodLink RX0 141 yJ9_floorMod_7cf53, Cond.static yJ9_floorMod_7cf53, Cond.initialized RJ9, Cond.code yJ9_floorMod_7cf53 cJ9_floorMod_7cf53 3 (some .int), Cond.methodLink RX0 76 yX0_firstBerth, Cond.instanceMethod yX0_firstBerth, Cond.selects RX0 yX0_firstBerth yX0_firstBerth, Cond.code yX0_firstBerth cX0_firstBerth 4 (some .int), Cond.methodLink RX3 89 yX3_answer, Cond.instanceMethod yX3_answer, Cond.selects RX3 yX3_answer yX3_answer, Cond.code yX3_answer cX3_answer 4 (some .int), Cond.methodLink RX3 70 yX3_idle]
def wsX3_isSame_r6 : List Cond := [Cond.instanceMethod yX3_idle, Cond.selects RX3 yX3_idle yX3_idle, Cond.code yX3_idle cX3_idle 4 (some (.object "PodGuidewayLaw$Pod")), Cond.methodLink RX3 60 yX3_in, Cond.instanceMethod yX3_in, Cond.selects RX3 yX3_in yX3_in, Cond.code yX3_in cX3_in 7 (some (.object "PodGuidewayLaw$Pod")), Cond.methodLink RX3 103 yX1_told, Cond.instanceMethod yX1_told, Cond.selects RX1 yX1_told yX1_told, Cond.code yX1_told cX1_told 3 (some .int), Cond.methodLink RX1 72 yX1_needPod, Cond.instanceMethod yX1_needPod, Cond.selects RX1 yX1_needPod yX1_needPod, Cond.code yX1_needPod cX1_needPod 2 none, Cond.instanceMethod yX0_tellPod, Cond.selects RX0 yX0_tellPod yX0_tellPod, Cond.code yX0_tellPod cX0_tellPod 4 (some .int), Cond.fieldLink RX0 15 "PodGuideway$Ring" "podInSlot" "[I", Cond.fieldLink RX0 46 "PodGuideway$Ring" "podBarred" "[I", Cond.methodLink RX0 155 yX0_berthOf, Cond.instanceMethod yX0_berthOf, Cond.selects RX0 yX0_berthOf yX0_berthOf, Cond.code yX0_berthOf cX0_berthOf 2 (some .int)]
def wsX3_isSame_r7 : List Cond := [Cond.methodLink RX0 149 yX0_find, Cond.static yX0_find, Cond.code yX0_find cX0_find 3 (some .int), Cond.methodLink RX3 106 yX1_slot, Cond.instanceMethod yX1_slot, Cond.selects RX1 yX1_slot yX1_slot, Cond.code yX1_slot cX1_slot 2 (some .int), Cond.methodLink RX1 19 yX1_needPlace, Cond.instanceMethod yX1_needPlace, Cond.selects RX1 yX1_needPlace yX1_needPlace, Cond.code yX1_needPlace cX1_needPlace 2 none, Cond.instanceMethod yX0_podAtPlace, Cond.selects RX0 yX0_podAtPlace yX0_podAtPlace, Cond.code yX0_podAtPlace cX0_podAtPlace 2 (some .int), Cond.methodLink RX3 108 yX3_told, Cond.instanceMethod yX3_told, Cond.selects RX3 yX3_told yX3_told, Cond.code yX3_told cX3_told 7 (some .int), Cond.methodLink RX3 110 yX1_count, Cond.instanceMethod yX1_count, Cond.selects RX1 yX1_count yX1_count, Cond.code yX1_count cX1_count 2 (some .int), Cond.instanceMethod yX0_tellCount, Cond.selects RX0 yX0_tellCount yX0_tellCount]
def wsX3_isSame_r8 : List Cond := [Cond.code yX0_tellCount cX0_tellCount 2 (some .int), Cond.fieldLink RX0 62 "PodGuideway$Ring" "callsAnswered" "I", Cond.fieldLink RX0 65 "PodGuideway$Ring" "waitedBeforeBoarding" "I", Cond.methodLink RX0 161 yX0_waitingInAll, Cond.instanceMethod yX0_waitingInAll, Cond.selects RX0 yX0_waitingInAll yX0_waitingInAll, Cond.code yX0_waitingInAll cX0_waitingInAll 3 (some .int), Cond.methodLink RX0 165 yX0_ridersInPods, Cond.instanceMethod yX0_ridersInPods, Cond.selects RX0 yX0_ridersInPods yX0_ridersInPods, Cond.code yX0_ridersInPods cX0_ridersInPods 3 (some .int), Cond.methodLink RX0 168 yX0_arrivedInAll, Cond.instanceMethod yX0_arrivedInAll, Cond.selects RX0 yX0_arrivedInAll yX0_arrivedInAll, Cond.code yX0_arrivedInAll cX0_arrivedInAll 3 (some .int), Cond.methodLink RX0 171 yX0_freeSlots, Cond.instanceMethod yX0_freeSlots, Cond.selects RX0 yX0_freeSlots yX0_freeSlots, Cond.code yX0_freeSlots cX0_freeSlots 3 (some .int), Cond.methodLink RX0 113 yX0_podAtPlace, Cond.methodLink RX3 113 yX1_mean, Cond.instanceMethod yX1_mean, Cond.selects RX1 yX1_mean yX1_mean, Cond.code yX1_mean cX1_mean 2 (some .double)]
def wsX3_isSame_r9 : List Cond := [Cond.instanceMethod yX0_waitedInAll, Cond.selects RX0 yX0_waitedInAll yX0_waitedInAll, Cond.code yX0_waitedInAll cX0_waitedInAll 3 (some .int)]
def wsX3_isSame : List Cond := .code yX3_isSame cX3_isSame 11 (some .boolean) :: ((wsX3_isSame_r1 ++ (wsX3_isSame_r2 ++ (wsX3_isSame_r3 ++ (wsX3_isSame_r4 ++ (wsX3_isSame_r5 ++ (wsX3_isSame_r6 ++ (wsX3_isSame_r7 ++ (wsX3_isSame_r8 ++ wsX3_isSame_r9)))))))) ++ wsX30 ++ wsX20 ++ wsX10 ++ wsX00 ++ (vx_atS RX1 105 "java/lang/IndexOutOfBoundsException" ["java/lang/RuntimeException", "java/lang/Exception"]).filter goodWord)
def wsJ9_max_7cf53 : List Cond := .code yJ9_max_7cf53 cJ9_max_7cf53 2 (some .int) :: ([])
def wsJ9_min_7cf53 : List Cond := .code yJ9_min_7cf53 cJ9_min_7cf53 2 (some .int) :: ([])
def wsL_below : List Cond := .code yL_below cL_below 2 (some .int) :: ([.constant RL 7 (2147483647)])
def wsL_cell : List Cond := .code yL_cell cL_cell 2 (some .int) :: ([.constant RL 8 (790386105)])
def wsL_act_r1 : List Cond := [Cond.fieldLink RL 9 "PodGuidewayLaw$Sim" "place" "[I", Cond.fieldLink RL 15 "PodGuidewayLaw$Sim" "pods" "[LPodGuidewayLaw$Pod;", Cond.classLink RL 37 RX2, Cond.instantiable RX2 7, Cond.initialized RX2, Cond.fieldLink RL 40 "PodGuidewayLaw$Pod" "at" "I", Cond.fieldLink RL 44 "PodGuidewayLaw$Pod" "berth" "I", Cond.fieldLink RL 50 "PodGuidewayLaw$Pod" "slot" "I", Cond.fieldLink RL 53 "PodGuidewayLaw$Pod" "goal" "I", Cond.fieldLink RL 59 "PodGuidewayLaw$Sim" "waits" "[[[I", Cond.arrayClass .int, Cond.methodLink RL 19 yL_below, Cond.static yL_below, Cond.initialized RL, Cond.code yL_below cL_below 2 (some .int), Cond.constant RL 7 (2147483647), Cond.methodLink RL 25 yX3_build, Cond.instanceMethod yX3_build, Cond.selects RX3 yX3_build yX3_build, Cond.initialized RX3, Cond.code yX3_build cX3_build 7 none, Cond.fieldLink RX3 7 "PodGuidewayLaw$Sim" "place" "[I", Cond.classLink RX3 13 "[[I", Cond.fieldLink RX3 19 "PodGuidewayLaw$Sim" "arrived" "[I"]
def wsL_act_r2 : List Cond := [Cond.fieldLink RX3 15 "PodGuidewayLaw$Sim" "waits" "[[[I", Cond.classLink RX3 33 "[I", Cond.methodLink RL 29 yX1_build, Cond.instanceMethod yX1_build, Cond.selects RX1 yX1_build yX1_build, Cond.initialized RX1, Cond.code yX1_build cX1_build 2 (some .int), Cond.classLink RX1 27 "java/lang/IllegalStateException", Cond.initialized "java/lang/IllegalStateException", Cond.fieldLink RX1 10 "PodGuideway" "now" "LPodGuideway$Ring;", Cond.methodLink RX1 19 yX1_needPlace, Cond.instanceMethod yX1_needPlace, Cond.selects RX1 yX1_needPlace yX1_needPlace, Cond.code yX1_needPlace cX1_needPlace 2 none, Cond.classLink RX1 101 "java/lang/IndexOutOfBoundsException", Cond.initialized "java/lang/IndexOutOfBoundsException", Cond.instanceMethod yX0_stationAtPlace, Cond.initialized RX0, Cond.selects RX0 yX0_stationAtPlace yX0_stationAtPlace, Cond.code yX0_stationAtPlace cX0_stationAtPlace 3 (some .int), Cond.fieldLink RX0 53 "PodGuideway$Ring" "stations" "I", Cond.methodLink RX0 110 yX0_placeOf, Cond.instanceMethod yX0_placeOf, Cond.selects RX0 yX0_placeOf yX0_placeOf]
def wsL_act_r3 : List Cond := [Cond.code yX0_placeOf cX0_placeOf 2 (some .int), Cond.fieldLink RX0 22 "PodGuideway$Ring" "stationPlace" "[I", Cond.methodLink RX0 100 yX0_read, Cond.static yX0_read, Cond.code yX0_read cX0_read 2 (some .int), Cond.instanceMethod yX0_addStation, Cond.selects RX0 yX0_addStation yX0_addStation, Cond.code yX0_addStation cX0_addStation 3 (some .int), Cond.methodLink RX0 72 yX0_write, Cond.static yX0_write, Cond.code yX0_write cX0_write 3 none, Cond.methodLink RL 34 yX3_free, Cond.instanceMethod yX3_free, Cond.selects RX3 yX3_free yX3_free, Cond.code yX3_free cX3_free 3 (some .int), Cond.methodLink RX3 60 yX3_in, Cond.instanceMethod yX3_in, Cond.selects RX3 yX3_in yX3_in, Cond.code yX3_in cX3_in 7 (some (.object "PodGuidewayLaw$Pod")), Cond.fieldLink RX3 24 "PodGuidewayLaw$Sim" "pods" "[LPodGuidewayLaw$Pod;", Cond.fieldLink RX3 51 "PodGuidewayLaw$Pod" "slot" "I", Cond.fieldLink RX3 54 "PodGuidewayLaw$Pod" "at" "I", Cond.fieldLink RX3 57 "PodGuidewayLaw$Pod" "berth" "I", Cond.instanceMethod yX2_init]
def wsL_act_r4 : List Cond := [Cond.code yX2_init cX2_init 1 none, Cond.methodLink RX2 1 objectInit, Cond.instanceMethod objectInit, Cond.code objectInit ⟨#[0xb1]⟩ 1 none, Cond.fieldLink RX2 7 "PodGuidewayLaw$Pod" "slot" "I", Cond.fieldLink RX2 13 "PodGuidewayLaw$Pod" "goal" "I", Cond.methodLink RL 47 yX1_pod, Cond.instanceMethod yX1_pod, Cond.selects RX1 yX1_pod yX1_pod, Cond.code yX1_pod cX1_pod 2 (some .int), Cond.methodLink RX1 43 yX1_needStation, Cond.instanceMethod yX1_needStation, Cond.selects RX1 yX1_needStation yX1_needStation, Cond.code yX1_needStation cX1_needStation 2 none, Cond.instanceMethod yX0_firstBerth, Cond.selects RX0 yX0_firstBerth yX0_firstBerth, Cond.code yX0_firstBerth cX0_firstBerth 4 (some .int), Cond.methodLink RX0 123 yX0_berthHolds, Cond.instanceMethod yX0_berthHolds, Cond.selects RX0 yX0_berthHolds yX0_berthHolds, Cond.code yX0_berthHolds cX0_berthHolds 3 (some .int), Cond.fieldLink RX0 19 "PodGuideway$Ring" "podInBerth" "[I", Cond.fieldLink RX0 40 "PodGuideway$Ring" "podGoal" "[I", Cond.instanceMethod yX0_addPod]
def wsL_act_r5 : List Cond := [Cond.selects RX0 yX0_addPod yX0_addPod, Cond.code yX0_addPod cX0_addPod 3 (some .int), Cond.fieldLink RX0 56 "PodGuideway$Ring" "pods" "I", Cond.methodLink RX0 76 yX0_firstBerth, Cond.methodLink RL 56 yX1_send, Cond.instanceMethod yX1_send, Cond.selects RX1 yX1_send yX1_send, Cond.code yX1_send cX1_send 5 (some .int), Cond.methodLink RX1 72 yX1_needPod, Cond.instanceMethod yX1_needPod, Cond.selects RX1 yX1_needPod yX1_needPod, Cond.code yX1_needPod cX1_needPod 2 none, Cond.instanceMethod yX0_berthOf, Cond.selects RX0 yX0_berthOf yX0_berthOf, Cond.code yX0_berthOf cX0_berthOf 2 (some .int), Cond.methodLink RX0 149 yX0_find, Cond.static yX0_find, Cond.code yX0_find cX0_find 3 (some .int), Cond.instanceMethod yX0_goalOf, Cond.selects RX0 yX0_goalOf yX0_goalOf, Cond.code yX0_goalOf cX0_goalOf 2 (some .int), Cond.instanceMethod yX0_setGoal, Cond.selects RX0 yX0_setGoal yX0_setGoal, Cond.code yX0_setGoal cX0_setGoal 3 none]
def wsL_act_r6 : List Cond := [Cond.instanceMethod yX0_placesOn, Cond.selects RX0 yX0_placesOn yX0_placesOn, Cond.code yX0_placesOn cX0_placesOn 3 (some .int), Cond.methodLink RX0 141 yJ9_floorMod_7cf53, Cond.static yJ9_floorMod_7cf53, Cond.initialized RJ9, Cond.code yJ9_floorMod_7cf53 cJ9_floorMod_7cf53 3 (some .int), Cond.methodLink RL 63 yX3_more, Cond.static yX3_more, Cond.code yX3_more cX3_more 4 (some (.array (.array .int))), Cond.methodLink RL 67 yX1_ride, Cond.instanceMethod yX1_ride, Cond.selects RX1 yX1_ride yX1_ride, Cond.code yX1_ride cX1_ride 3 (some .int), Cond.methodLink RX1 60 yX1_needTwoStations, Cond.instanceMethod yX1_needTwoStations, Cond.selects RX1 yX1_needTwoStations yX1_needTwoStations, Cond.code yX1_needTwoStations cX1_needTwoStations 3 none, Cond.classLink RX1 154 "java/lang/IllegalArgumentException", Cond.initialized "java/lang/IllegalArgumentException", Cond.instanceMethod yX0_waitingAt, Cond.selects RX0 yX0_waitingAt yX0_waitingAt, Cond.code yX0_waitingAt cX0_waitingAt 2 (some .int), Cond.fieldLink RX0 28 "PodGuideway$Ring" "stationWaiting" "[I"]
def wsL_act_r7 : List Cond := [Cond.methodLink RX0 146 Lib.Math.max.name, Cond.static Lib.Math.max.name, Cond.initialized "java/lang/Math", Cond.code Lib.Math.max.name Lib.Math.max.code 2 (some .int), Cond.instanceMethod yX0_addRider, Cond.selects RX0 yX0_addRider yX0_addRider, Cond.code yX0_addRider cX0_addRider 5 (some .int), Cond.fieldLink RX0 59 "PodGuideway$Ring" "ridersInAll" "I", Cond.fieldLink RX0 31 "PodGuideway$Ring" "riderNumber" "[I", Cond.fieldLink RX0 34 "PodGuideway$Ring" "riderGoal" "[I", Cond.fieldLink RX0 37 "PodGuideway$Ring" "riderCame" "[I", Cond.fieldLink RX0 49 "PodGuideway$Ring" "minute" "I", Cond.methodLink RX0 80 yX0_waitingAt]
def wsL_act : List Cond := .code yL_act cL_act 12 (some .boolean) :: ((wsL_act_r1 ++ (wsL_act_r2 ++ (wsL_act_r3 ++ (wsL_act_r4 ++ (wsL_act_r5 ++ (wsL_act_r6 ++ wsL_act_r7)))))) ++ wsX30 ++ wsX20 ++ wsX10 ++ wsX00 ++ (vx_atS RX1 31 "java/lang/IllegalStateException" ["java/lang/RuntimeException", "java/lang/Exception"]).filter goodWord ++ (vx_atS RX1 105 "java/lang/IndexOutOfBoundsException" ["java/lang/RuntimeException", "java/lang/Exception"]).filter goodWord ++ (vx_atS RX1 158 "java/lang/IllegalArgumentException" ["java/lang/RuntimeException", "java/lang/Exception"]).filter goodWord)
def wsL_build_r1 : List Cond := [Cond.classLink RL 10 RX3, Cond.instantiable RX3 8, Cond.initialized RX3, Cond.instanceMethod yX3_init, Cond.code yX3_init cX3_init 1 none, Cond.methodLink RX3 1 objectInit, Cond.instanceMethod objectInit, Cond.code objectInit ⟨#[0xb1]⟩ 1 none, Cond.arrayClass .int, Cond.fieldLink RX3 7 "PodGuidewayLaw$Sim" "place" "[I", Cond.classLink RX3 13 "[[I", Cond.fieldLink RX3 15 "PodGuidewayLaw$Sim" "waits" "[[[I", Cond.fieldLink RX3 19 "PodGuidewayLaw$Sim" "arrived" "[I", Cond.classLink RX3 22 RX2, Cond.fieldLink RX3 24 "PodGuidewayLaw$Sim" "pods" "[LPodGuidewayLaw$Pod;", Cond.fieldLink RX3 28 "PodGuidewayLaw$Sim" "followed" "I", Cond.methodLink RL 71 yL_cell, Cond.static yL_cell, Cond.initialized RL, Cond.code yL_cell cL_cell 2 (some .int), Cond.constant RL 8 (790386105), Cond.methodLink RL 75 yL_act, Cond.static yL_act, Cond.code yL_act cL_act 12 (some .boolean)]
def wsL_build_r2 : List Cond := [Cond.fieldLink RL 9 "PodGuidewayLaw$Sim" "place" "[I", Cond.fieldLink RL 15 "PodGuidewayLaw$Sim" "pods" "[LPodGuidewayLaw$Pod;", Cond.classLink RL 37 RX2, Cond.instantiable RX2 7, Cond.initialized RX2, Cond.fieldLink RL 40 "PodGuidewayLaw$Pod" "at" "I", Cond.fieldLink RL 44 "PodGuidewayLaw$Pod" "berth" "I", Cond.fieldLink RL 50 "PodGuidewayLaw$Pod" "slot" "I", Cond.fieldLink RL 53 "PodGuidewayLaw$Pod" "goal" "I", Cond.fieldLink RL 59 "PodGuidewayLaw$Sim" "waits" "[[[I", Cond.methodLink RL 19 yL_below, Cond.static yL_below, Cond.code yL_below cL_below 2 (some .int), Cond.constant RL 7 (2147483647), Cond.methodLink RL 25 yX3_build, Cond.instanceMethod yX3_build, Cond.selects RX3 yX3_build yX3_build, Cond.code yX3_build cX3_build 7 none, Cond.classLink RX3 33 "[I", Cond.methodLink RL 29 yX1_build, Cond.instanceMethod yX1_build, Cond.selects RX1 yX1_build yX1_build, Cond.initialized RX1, Cond.code yX1_build cX1_build 2 (some .int)]
def wsL_build_r3 : List Cond := [Cond.classLink RX1 27 "java/lang/IllegalStateException", Cond.initialized "java/lang/IllegalStateException", Cond.fieldLink RX1 10 "PodGuideway" "now" "LPodGuideway$Ring;", Cond.methodLink RX1 19 yX1_needPlace, Cond.instanceMethod yX1_needPlace, Cond.selects RX1 yX1_needPlace yX1_needPlace, Cond.code yX1_needPlace cX1_needPlace 2 none, Cond.classLink RX1 101 "java/lang/IndexOutOfBoundsException", Cond.initialized "java/lang/IndexOutOfBoundsException", Cond.instanceMethod yX0_stationAtPlace, Cond.initialized RX0, Cond.selects RX0 yX0_stationAtPlace yX0_stationAtPlace, Cond.code yX0_stationAtPlace cX0_stationAtPlace 3 (some .int), Cond.fieldLink RX0 53 "PodGuideway$Ring" "stations" "I", Cond.methodLink RX0 110 yX0_placeOf, Cond.instanceMethod yX0_placeOf, Cond.selects RX0 yX0_placeOf yX0_placeOf, Cond.code yX0_placeOf cX0_placeOf 2 (some .int), Cond.fieldLink RX0 22 "PodGuideway$Ring" "stationPlace" "[I", Cond.methodLink RX0 100 yX0_read, Cond.static yX0_read, Cond.code yX0_read cX0_read 2 (some .int), Cond.instanceMethod yX0_addStation, Cond.selects RX0 yX0_addStation yX0_addStation]
def wsL_build_r4 : List Cond := [Cond.code yX0_addStation cX0_addStation 3 (some .int), Cond.methodLink RX0 72 yX0_write, Cond.static yX0_write, Cond.code yX0_write cX0_write 3 none, Cond.methodLink RL 34 yX3_free, Cond.instanceMethod yX3_free, Cond.selects RX3 yX3_free yX3_free, Cond.code yX3_free cX3_free 3 (some .int), Cond.methodLink RX3 60 yX3_in, Cond.instanceMethod yX3_in, Cond.selects RX3 yX3_in yX3_in, Cond.code yX3_in cX3_in 7 (some (.object "PodGuidewayLaw$Pod")), Cond.fieldLink RX3 51 "PodGuidewayLaw$Pod" "slot" "I", Cond.fieldLink RX3 54 "PodGuidewayLaw$Pod" "at" "I", Cond.fieldLink RX3 57 "PodGuidewayLaw$Pod" "berth" "I", Cond.instanceMethod yX2_init, Cond.code yX2_init cX2_init 1 none, Cond.methodLink RX2 1 objectInit, Cond.fieldLink RX2 7 "PodGuidewayLaw$Pod" "slot" "I", Cond.fieldLink RX2 13 "PodGuidewayLaw$Pod" "goal" "I", Cond.methodLink RL 47 yX1_pod, Cond.instanceMethod yX1_pod, Cond.selects RX1 yX1_pod yX1_pod, Cond.code yX1_pod cX1_pod 2 (some .int)]
def wsL_build_r5 : List Cond := [Cond.methodLink RX1 43 yX1_needStation, Cond.instanceMethod yX1_needStation, Cond.selects RX1 yX1_needStation yX1_needStation, Cond.code yX1_needStation cX1_needStation 2 none, Cond.instanceMethod yX0_firstBerth, Cond.selects RX0 yX0_firstBerth yX0_firstBerth, Cond.code yX0_firstBerth cX0_firstBerth 4 (some .int), Cond.methodLink RX0 123 yX0_berthHolds, Cond.instanceMethod yX0_berthHolds, Cond.selects RX0 yX0_berthHolds yX0_berthHolds, Cond.code yX0_berthHolds cX0_berthHolds 3 (some .int), Cond.fieldLink RX0 19 "PodGuideway$Ring" "podInBerth" "[I", Cond.fieldLink RX0 40 "PodGuideway$Ring" "podGoal" "[I", Cond.instanceMethod yX0_addPod, Cond.selects RX0 yX0_addPod yX0_addPod, Cond.code yX0_addPod cX0_addPod 3 (some .int), Cond.fieldLink RX0 56 "PodGuideway$Ring" "pods" "I", Cond.methodLink RX0 76 yX0_firstBerth, Cond.methodLink RL 56 yX1_send, Cond.instanceMethod yX1_send, Cond.selects RX1 yX1_send yX1_send, Cond.code yX1_send cX1_send 5 (some .int), Cond.methodLink RX1 72 yX1_needPod, Cond.instanceMethod yX1_needPod]
def wsL_build_r6 : List Cond := [Cond.selects RX1 yX1_needPod yX1_needPod, Cond.code yX1_needPod cX1_needPod 2 none, Cond.instanceMethod yX0_berthOf, Cond.selects RX0 yX0_berthOf yX0_berthOf, Cond.code yX0_berthOf cX0_berthOf 2 (some .int), Cond.methodLink RX0 149 yX0_find, Cond.static yX0_find, Cond.code yX0_find cX0_find 3 (some .int), Cond.instanceMethod yX0_goalOf, Cond.selects RX0 yX0_goalOf yX0_goalOf, Cond.code yX0_goalOf cX0_goalOf 2 (some .int), Cond.instanceMethod yX0_setGoal, Cond.selects RX0 yX0_setGoal yX0_setGoal, Cond.code yX0_setGoal cX0_setGoal 3 none, Cond.instanceMethod yX0_placesOn, Cond.selects RX0 yX0_placesOn yX0_placesOn, Cond.code yX0_placesOn cX0_placesOn 3 (some .int), Cond.methodLink RX0 141 yJ9_floorMod_7cf53, Cond.static yJ9_floorMod_7cf53, Cond.initialized RJ9, Cond.code yJ9_floorMod_7cf53 cJ9_floorMod_7cf53 3 (some .int), Cond.methodLink RL 63 yX3_more, Cond.static yX3_more, Cond.code yX3_more cX3_more 4 (some (.array (.array .int)))]
def wsL_build_r7 : List Cond := [Cond.methodLink RL 67 yX1_ride, Cond.instanceMethod yX1_ride, Cond.selects RX1 yX1_ride yX1_ride, Cond.code yX1_ride cX1_ride 3 (some .int), Cond.methodLink RX1 60 yX1_needTwoStations, Cond.instanceMethod yX1_needTwoStations, Cond.selects RX1 yX1_needTwoStations yX1_needTwoStations, Cond.code yX1_needTwoStations cX1_needTwoStations 3 none, Cond.classLink RX1 154 "java/lang/IllegalArgumentException", Cond.initialized "java/lang/IllegalArgumentException", Cond.instanceMethod yX0_waitingAt, Cond.selects RX0 yX0_waitingAt yX0_waitingAt, Cond.code yX0_waitingAt cX0_waitingAt 2 (some .int), Cond.fieldLink RX0 28 "PodGuideway$Ring" "stationWaiting" "[I", Cond.methodLink RX0 146 Lib.Math.max.name, Cond.static Lib.Math.max.name, Cond.initialized "java/lang/Math", Cond.code Lib.Math.max.name Lib.Math.max.code 2 (some .int), Cond.instanceMethod yX0_addRider, Cond.selects RX0 yX0_addRider yX0_addRider, Cond.code yX0_addRider cX0_addRider 5 (some .int), Cond.fieldLink RX0 59 "PodGuideway$Ring" "ridersInAll" "I", Cond.fieldLink RX0 31 "PodGuideway$Ring" "riderNumber" "[I", Cond.fieldLink RX0 34 "PodGuideway$Ring" "riderGoal" "[I"]
def wsL_build_r8 : List Cond := [Cond.fieldLink RX0 37 "PodGuideway$Ring" "riderCame" "[I", Cond.fieldLink RX0 49 "PodGuideway$Ring" "minute" "I", Cond.methodLink RX0 80 yX0_waitingAt, Cond.methodLink RL 79 yX1_pass, Cond.instanceMethod yX1_pass, Cond.selects RX1 yX1_pass yX1_pass, Cond.code yX1_pass cX1_pass 4 (some .int), Cond.methodLink RX1 115 yX1_needMinutes, Cond.instanceMethod yX1_needMinutes, Cond.selects RX1 yX1_needMinutes yX1_needMinutes, Cond.code yX1_needMinutes cX1_needMinutes 2 none, Cond.instanceMethod yX0_arrivedInAll, Cond.selects RX0 yX0_arrivedInAll yX0_arrivedInAll, Cond.code yX0_arrivedInAll cX0_arrivedInAll 3 (some .int), Cond.fieldLink RX0 25 "PodGuideway$Ring" "stationArrived" "[I", Cond.instanceMethod yX0_passMinute, Cond.selects RX0 yX0_passMinute yX0_passMinute, Cond.code yX0_passMinute cX0_passMinute 2 none, Cond.methodLink RX0 84 yX0_moveSlots, Cond.instanceMethod yX0_moveSlots, Cond.selects RX0 yX0_moveSlots yX0_moveSlots, Cond.code yX0_moveSlots cX0_moveSlots 3 none, Cond.fieldLink RX0 15 "PodGuideway$Ring" "podInSlot" "[I", Cond.methodLink RX0 104 arraycopyName]
def wsL_build_r9 : List Cond := [Cond.native arraycopyName, Cond.static arraycopyName, Cond.initialized "java/lang/System", Cond.methodLink RX0 87 yX0_letGoOff, Cond.instanceMethod yX0_letGoOff, Cond.selects RX0 yX0_letGoOff yX0_letGoOff, Cond.code yX0_letGoOff cX0_letGoOff 5 none, Cond.fieldLink RX0 46 "PodGuideway$Ring" "podBarred" "[I", Cond.fieldLink RX0 43 "PodGuideway$Ring" "podRider" "[I", Cond.methodLink RX0 113 yX0_podAtPlace, Cond.instanceMethod yX0_podAtPlace, Cond.selects RX0 yX0_podAtPlace yX0_podAtPlace, Cond.code yX0_podAtPlace cX0_podAtPlace 2 (some .int), Cond.methodLink RX0 116 yX0_goalOf, Cond.methodLink RX0 119 yX0_setGoal, Cond.methodLink RX0 91 yX0_letBoard, Cond.instanceMethod yX0_letBoard, Cond.selects RX0 yX0_letBoard yX0_letBoard, Cond.code yX0_letBoard cX0_letBoard 3 none, Cond.methodLink RX0 126 yX0_boardFirst, Cond.instanceMethod yX0_boardFirst, Cond.selects RX0 yX0_boardFirst yX0_boardFirst, Cond.code yX0_boardFirst cX0_boardFirst 6 none, Cond.fieldLink RX0 65 "PodGuideway$Ring" "waitedBeforeBoarding" "I"]
def wsL_build_r10 : List Cond := [Cond.methodLink RX0 129 yX0_waitedBy, Cond.instanceMethod yX0_waitedBy, Cond.selects RX0 yX0_waitedBy yX0_waitedBy, Cond.code yX0_waitedBy cX0_waitedBy 3 (some .int), Cond.methodLink RX0 94 yX0_letCall, Cond.instanceMethod yX0_letCall, Cond.selects RX0 yX0_letCall yX0_letCall, Cond.code yX0_letCall cX0_letCall 4 none, Cond.fieldLink RX0 62 "PodGuideway$Ring" "callsAnswered" "I", Cond.methodLink RX0 132 yX0_emptyPodsTo, Cond.instanceMethod yX0_emptyPodsTo, Cond.selects RX0 yX0_emptyPodsTo yX0_emptyPodsTo, Cond.code yX0_emptyPodsTo cX0_emptyPodsTo 4 (some .int), Cond.methodLink RX0 135 yX0_stationThatAnswers, Cond.instanceMethod yX0_stationThatAnswers, Cond.selects RX0 yX0_stationThatAnswers yX0_stationThatAnswers, Cond.code yX0_stationThatAnswers cX0_stationThatAnswers 6 (some .int), Cond.methodLink RX0 138 yX0_placesOn, Cond.methodLink RX0 97 yX0_letMerge, Cond.instanceMethod yX0_letMerge, Cond.selects RX0 yX0_letMerge yX0_letMerge, Cond.code yX0_letMerge cX0_letMerge 4 none, Cond.methodLink RL 82 yX3_pass, Cond.instanceMethod yX3_pass]
def wsL_build_r11 : List Cond := [Cond.selects RX3 yX3_pass yX3_pass, Cond.code yX3_pass cX3_pass 11 (some .int), Cond.fieldLink RX3 64 "PodGuidewayLaw$Pod" "goal" "I", Cond.fieldLink RX3 80 "PodGuidewayLaw$Pod" "missed" "I", Cond.fieldLink RX3 67 "PodGuidewayLaw$Pod" "rider" "I", Cond.fieldLink RX3 42 "PodGuidewayLaw$Sim" "minute" "I", Cond.fieldLink RX3 83 "PodGuidewayLaw$Pod" "offs" "I", Cond.fieldLink RX3 48 "PodGuidewayLaw$Sim" "boarded" "I", Cond.fieldLink RX3 45 "PodGuidewayLaw$Sim" "answered" "I", Cond.methodLink RX3 74 yX3_slot, Cond.instanceMethod yX3_slot, Cond.selects RX3 yX3_slot yX3_slot, Cond.code yX3_slot cX3_slot 6 (some (.object "PodGuidewayLaw$Pod")), Cond.methodLink RX3 76 yX3_free, Cond.methodLink RX3 70 yX3_idle, Cond.instanceMethod yX3_idle, Cond.selects RX3 yX3_idle yX3_idle, Cond.code yX3_idle cX3_idle 4 (some (.object "PodGuidewayLaw$Pod")), Cond.methodLink RX3 86 yX3_coming, Cond.instanceMethod yX3_coming, Cond.selects RX3 yX3_coming yX3_coming, Cond.code yX3_coming cX3_coming 7 (some .int), Cond.methodLink RX3 89 yX3_answer, Cond.instanceMethod yX3_answer]
def wsL_build_r12 : List Cond := [Cond.selects RX3 yX3_answer yX3_answer, Cond.code yX3_answer cX3_answer 4 (some .int)]
def wsL_build : List Cond := .code yL_build cL_build 4 (some (.object "PodGuidewayLaw$Sim")) :: ((wsL_build_r1 ++ (wsL_build_r2 ++ (wsL_build_r3 ++ (wsL_build_r4 ++ (wsL_build_r5 ++ (wsL_build_r6 ++ (wsL_build_r7 ++ (wsL_build_r8 ++ (wsL_build_r9 ++ (wsL_build_r10 ++ (wsL_build_r11 ++ wsL_build_r12))))))))))) ++ wsX30 ++ wsX20 ++ wsX10 ++ wsX00 ++ (vx_atS RX1 31 "java/lang/IllegalStateException" ["java/lang/RuntimeException", "java/lang/Exception"]).filter goodWord ++ (vx_atS RX1 105 "java/lang/IndexOutOfBoundsException" ["java/lang/RuntimeException", "java/lang/Exception"]).filter goodWord ++ (vx_atS RX1 158 "java/lang/IllegalArgumentException" ["java/lang/RuntimeException", "java/lang/Exception"]).filter goodWord)
def wsL_law0_r1 : List Cond := [Cond.classLink RL 30 RX1, Cond.instantiable RX1 2, Cond.initialized RX1, Cond.arrayClass .int, Cond.methodLink RL 85 yX1_init, Cond.instanceMethod yX1_init, Cond.code yX1_init cX1_init 1 none, Cond.methodLink RX1 1 objectInit, Cond.instanceMethod objectInit, Cond.code objectInit ⟨#[0xb1]⟩ 1 none, Cond.classLink RX1 7 RX0, Cond.instantiable RX0 17, Cond.initialized RX0, Cond.fieldLink RX1 10 "PodGuideway" "now" "LPodGuideway$Ring;", Cond.fieldLink RX1 16 "PodGuideway" "ahead" "LPodGuideway$Ring;", Cond.instanceMethod yX0_init, Cond.code yX0_init cX0_init 1 none, Cond.methodLink RX0 3 objectInit, Cond.fieldLink RX0 15 "PodGuideway$Ring" "podInSlot" "[I", Cond.fieldLink RX0 19 "PodGuideway$Ring" "podInBerth" "[I", Cond.fieldLink RX0 22 "PodGuideway$Ring" "stationPlace" "[I", Cond.fieldLink RX0 25 "PodGuideway$Ring" "stationArrived" "[I", Cond.fieldLink RX0 28 "PodGuideway$Ring" "stationWaiting" "[I", Cond.fieldLink RX0 31 "PodGuideway$Ring" "riderNumber" "[I"]
def wsL_law0_r2 : List Cond := [Cond.fieldLink RX0 34 "PodGuideway$Ring" "riderGoal" "[I", Cond.fieldLink RX0 37 "PodGuideway$Ring" "riderCame" "[I", Cond.fieldLink RX0 40 "PodGuideway$Ring" "podGoal" "[I", Cond.fieldLink RX0 43 "PodGuideway$Ring" "podRider" "[I", Cond.fieldLink RX0 46 "PodGuideway$Ring" "podBarred" "[I", Cond.methodLink RX0 9 yX0_emptyRow, Cond.static yX0_emptyRow, Cond.code yX0_emptyRow cX0_emptyRow 2 (some (.array .int)), Cond.methodLink RX0 146 Lib.Math.max.name, Cond.static Lib.Math.max.name, Cond.initialized "java/lang/Math", Cond.code Lib.Math.max.name Lib.Math.max.code 2 (some .int), Cond.methodLink RX0 174 yJ7_fill_53178, Cond.static yJ7_fill_53178, Cond.initialized RJ7, Cond.code yJ7_fill_53178 cJ7_fill_53178 4 none, Cond.methodLink RL 86 yL_build, Cond.static yL_build, Cond.initialized RL, Cond.code yL_build cL_build 4 (some (.object "PodGuidewayLaw$Sim")), Cond.classLink RL 10 RX3, Cond.instantiable RX3 8, Cond.initialized RX3, Cond.instanceMethod yX3_init]
def wsL_law0_r3 : List Cond := [Cond.code yX3_init cX3_init 1 none, Cond.methodLink RX3 1 objectInit, Cond.fieldLink RX3 7 "PodGuidewayLaw$Sim" "place" "[I", Cond.classLink RX3 13 "[[I", Cond.fieldLink RX3 15 "PodGuidewayLaw$Sim" "waits" "[[[I", Cond.fieldLink RX3 19 "PodGuidewayLaw$Sim" "arrived" "[I", Cond.classLink RX3 22 RX2, Cond.fieldLink RX3 24 "PodGuidewayLaw$Sim" "pods" "[LPodGuidewayLaw$Pod;", Cond.fieldLink RX3 28 "PodGuidewayLaw$Sim" "followed" "I", Cond.methodLink RL 71 yL_cell, Cond.static yL_cell, Cond.code yL_cell cL_cell 2 (some .int), Cond.constant RL 8 (790386105), Cond.methodLink RL 75 yL_act, Cond.static yL_act, Cond.code yL_act cL_act 12 (some .boolean), Cond.fieldLink RL 9 "PodGuidewayLaw$Sim" "place" "[I", Cond.fieldLink RL 15 "PodGuidewayLaw$Sim" "pods" "[LPodGuidewayLaw$Pod;", Cond.classLink RL 37 RX2, Cond.instantiable RX2 7, Cond.initialized RX2, Cond.fieldLink RL 40 "PodGuidewayLaw$Pod" "at" "I", Cond.fieldLink RL 44 "PodGuidewayLaw$Pod" "berth" "I", Cond.fieldLink RL 50 "PodGuidewayLaw$Pod" "slot" "I"]
def wsL_law0_r4 : List Cond := [Cond.fieldLink RL 53 "PodGuidewayLaw$Pod" "goal" "I", Cond.fieldLink RL 59 "PodGuidewayLaw$Sim" "waits" "[[[I", Cond.methodLink RL 19 yL_below, Cond.static yL_below, Cond.code yL_below cL_below 2 (some .int), Cond.constant RL 7 (2147483647), Cond.methodLink RL 25 yX3_build, Cond.instanceMethod yX3_build, Cond.selects RX3 yX3_build yX3_build, Cond.code yX3_build cX3_build 7 none, Cond.classLink RX3 33 "[I", Cond.methodLink RL 29 yX1_build, Cond.instanceMethod yX1_build, Cond.selects RX1 yX1_build yX1_build, Cond.code yX1_build cX1_build 2 (some .int), Cond.classLink RX1 27 "java/lang/IllegalStateException", Cond.initialized "java/lang/IllegalStateException", Cond.methodLink RX1 19 yX1_needPlace, Cond.instanceMethod yX1_needPlace, Cond.selects RX1 yX1_needPlace yX1_needPlace, Cond.code yX1_needPlace cX1_needPlace 2 none, Cond.classLink RX1 101 "java/lang/IndexOutOfBoundsException", Cond.initialized "java/lang/IndexOutOfBoundsException", Cond.instanceMethod yX0_stationAtPlace]
def wsL_law0_r5 : List Cond := [Cond.selects RX0 yX0_stationAtPlace yX0_stationAtPlace, Cond.code yX0_stationAtPlace cX0_stationAtPlace 3 (some .int), Cond.fieldLink RX0 53 "PodGuideway$Ring" "stations" "I", Cond.methodLink RX0 110 yX0_placeOf, Cond.instanceMethod yX0_placeOf, Cond.selects RX0 yX0_placeOf yX0_placeOf, Cond.code yX0_placeOf cX0_placeOf 2 (some .int), Cond.methodLink RX0 100 yX0_read, Cond.static yX0_read, Cond.code yX0_read cX0_read 2 (some .int), Cond.instanceMethod yX0_addStation, Cond.selects RX0 yX0_addStation yX0_addStation, Cond.code yX0_addStation cX0_addStation 3 (some .int), Cond.methodLink RX0 72 yX0_write, Cond.static yX0_write, Cond.code yX0_write cX0_write 3 none, Cond.methodLink RL 34 yX3_free, Cond.instanceMethod yX3_free, Cond.selects RX3 yX3_free yX3_free, Cond.code yX3_free cX3_free 3 (some .int), Cond.methodLink RX3 60 yX3_in, Cond.instanceMethod yX3_in, Cond.selects RX3 yX3_in yX3_in, Cond.code yX3_in cX3_in 7 (some (.object "PodGuidewayLaw$Pod"))]
def wsL_law0_r6 : List Cond := [Cond.fieldLink RX3 51 "PodGuidewayLaw$Pod" "slot" "I", Cond.fieldLink RX3 54 "PodGuidewayLaw$Pod" "at" "I", Cond.fieldLink RX3 57 "PodGuidewayLaw$Pod" "berth" "I", Cond.instanceMethod yX2_init, Cond.code yX2_init cX2_init 1 none, Cond.methodLink RX2 1 objectInit, Cond.fieldLink RX2 7 "PodGuidewayLaw$Pod" "slot" "I", Cond.fieldLink RX2 13 "PodGuidewayLaw$Pod" "goal" "I", Cond.methodLink RL 47 yX1_pod, Cond.instanceMethod yX1_pod, Cond.selects RX1 yX1_pod yX1_pod, Cond.code yX1_pod cX1_pod 2 (some .int), Cond.methodLink RX1 43 yX1_needStation, Cond.instanceMethod yX1_needStation, Cond.selects RX1 yX1_needStation yX1_needStation, Cond.code yX1_needStation cX1_needStation 2 none, Cond.instanceMethod yX0_firstBerth, Cond.selects RX0 yX0_firstBerth yX0_firstBerth, Cond.code yX0_firstBerth cX0_firstBerth 4 (some .int), Cond.methodLink RX0 123 yX0_berthHolds, Cond.instanceMethod yX0_berthHolds, Cond.selects RX0 yX0_berthHolds yX0_berthHolds, Cond.code yX0_berthHolds cX0_berthHolds 3 (some .int), Cond.instanceMethod yX0_addPod]
def wsL_law0_r7 : List Cond := [Cond.selects RX0 yX0_addPod yX0_addPod, Cond.code yX0_addPod cX0_addPod 3 (some .int), Cond.fieldLink RX0 56 "PodGuideway$Ring" "pods" "I", Cond.methodLink RX0 76 yX0_firstBerth, Cond.methodLink RL 56 yX1_send, Cond.instanceMethod yX1_send, Cond.selects RX1 yX1_send yX1_send, Cond.code yX1_send cX1_send 5 (some .int), Cond.methodLink RX1 72 yX1_needPod, Cond.instanceMethod yX1_needPod, Cond.selects RX1 yX1_needPod yX1_needPod, Cond.code yX1_needPod cX1_needPod 2 none, Cond.instanceMethod yX0_berthOf, Cond.selects RX0 yX0_berthOf yX0_berthOf, Cond.code yX0_berthOf cX0_berthOf 2 (some .int), Cond.methodLink RX0 149 yX0_find, Cond.static yX0_find, Cond.code yX0_find cX0_find 3 (some .int), Cond.instanceMethod yX0_goalOf, Cond.selects RX0 yX0_goalOf yX0_goalOf, Cond.code yX0_goalOf cX0_goalOf 2 (some .int), Cond.instanceMethod yX0_setGoal, Cond.selects RX0 yX0_setGoal yX0_setGoal, Cond.code yX0_setGoal cX0_setGoal 3 none]
def wsL_law0_r8 : List Cond := [Cond.instanceMethod yX0_placesOn, Cond.selects RX0 yX0_placesOn yX0_placesOn, Cond.code yX0_placesOn cX0_placesOn 3 (some .int), Cond.methodLink RX0 141 yJ9_floorMod_7cf53, Cond.static yJ9_floorMod_7cf53, Cond.initialized RJ9, Cond.code yJ9_floorMod_7cf53 cJ9_floorMod_7cf53 3 (some .int), Cond.methodLink RL 63 yX3_more, Cond.static yX3_more, Cond.code yX3_more cX3_more 4 (some (.array (.array .int))), Cond.methodLink RL 67 yX1_ride, Cond.instanceMethod yX1_ride, Cond.selects RX1 yX1_ride yX1_ride, Cond.code yX1_ride cX1_ride 3 (some .int), Cond.methodLink RX1 60 yX1_needTwoStations, Cond.instanceMethod yX1_needTwoStations, Cond.selects RX1 yX1_needTwoStations yX1_needTwoStations, Cond.code yX1_needTwoStations cX1_needTwoStations 3 none, Cond.classLink RX1 154 "java/lang/IllegalArgumentException", Cond.initialized "java/lang/IllegalArgumentException", Cond.instanceMethod yX0_waitingAt, Cond.selects RX0 yX0_waitingAt yX0_waitingAt, Cond.code yX0_waitingAt cX0_waitingAt 2 (some .int), Cond.instanceMethod yX0_addRider]
def wsL_law0_r9 : List Cond := [Cond.selects RX0 yX0_addRider yX0_addRider, Cond.code yX0_addRider cX0_addRider 5 (some .int), Cond.fieldLink RX0 59 "PodGuideway$Ring" "ridersInAll" "I", Cond.fieldLink RX0 49 "PodGuideway$Ring" "minute" "I", Cond.methodLink RX0 80 yX0_waitingAt, Cond.methodLink RL 79 yX1_pass, Cond.instanceMethod yX1_pass, Cond.selects RX1 yX1_pass yX1_pass, Cond.code yX1_pass cX1_pass 4 (some .int), Cond.methodLink RX1 115 yX1_needMinutes, Cond.instanceMethod yX1_needMinutes, Cond.selects RX1 yX1_needMinutes yX1_needMinutes, Cond.code yX1_needMinutes cX1_needMinutes 2 none, Cond.instanceMethod yX0_arrivedInAll, Cond.selects RX0 yX0_arrivedInAll yX0_arrivedInAll, Cond.code yX0_arrivedInAll cX0_arrivedInAll 3 (some .int), Cond.instanceMethod yX0_passMinute, Cond.selects RX0 yX0_passMinute yX0_passMinute, Cond.code yX0_passMinute cX0_passMinute 2 none, Cond.methodLink RX0 84 yX0_moveSlots, Cond.instanceMethod yX0_moveSlots, Cond.selects RX0 yX0_moveSlots yX0_moveSlots, Cond.code yX0_moveSlots cX0_moveSlots 3 none, Cond.methodLink RX0 104 arraycopyName]
def wsL_law0_r10 : List Cond := [Cond.native arraycopyName, Cond.static arraycopyName, Cond.initialized "java/lang/System", Cond.methodLink RX0 87 yX0_letGoOff, Cond.instanceMethod yX0_letGoOff, Cond.selects RX0 yX0_letGoOff yX0_letGoOff, Cond.code yX0_letGoOff cX0_letGoOff 5 none, Cond.methodLink RX0 113 yX0_podAtPlace, Cond.instanceMethod yX0_podAtPlace, Cond.selects RX0 yX0_podAtPlace yX0_podAtPlace, Cond.code yX0_podAtPlace cX0_podAtPlace 2 (some .int), Cond.methodLink RX0 116 yX0_goalOf, Cond.methodLink RX0 119 yX0_setGoal, Cond.methodLink RX0 91 yX0_letBoard, Cond.instanceMethod yX0_letBoard, Cond.selects RX0 yX0_letBoard yX0_letBoard, Cond.code yX0_letBoard cX0_letBoard 3 none, Cond.methodLink RX0 126 yX0_boardFirst, Cond.instanceMethod yX0_boardFirst, Cond.selects RX0 yX0_boardFirst yX0_boardFirst, Cond.code yX0_boardFirst cX0_boardFirst 6 none, Cond.fieldLink RX0 65 "PodGuideway$Ring" "waitedBeforeBoarding" "I", Cond.methodLink RX0 129 yX0_waitedBy, Cond.instanceMethod yX0_waitedBy]
def wsL_law0_r11 : List Cond := [Cond.selects RX0 yX0_waitedBy yX0_waitedBy, Cond.code yX0_waitedBy cX0_waitedBy 3 (some .int), Cond.methodLink RX0 94 yX0_letCall, Cond.instanceMethod yX0_letCall, Cond.selects RX0 yX0_letCall yX0_letCall, Cond.code yX0_letCall cX0_letCall 4 none, Cond.fieldLink RX0 62 "PodGuideway$Ring" "callsAnswered" "I", Cond.methodLink RX0 132 yX0_emptyPodsTo, Cond.instanceMethod yX0_emptyPodsTo, Cond.selects RX0 yX0_emptyPodsTo yX0_emptyPodsTo, Cond.code yX0_emptyPodsTo cX0_emptyPodsTo 4 (some .int), Cond.methodLink RX0 135 yX0_stationThatAnswers, Cond.instanceMethod yX0_stationThatAnswers, Cond.selects RX0 yX0_stationThatAnswers yX0_stationThatAnswers, Cond.code yX0_stationThatAnswers cX0_stationThatAnswers 6 (some .int), Cond.methodLink RX0 138 yX0_placesOn, Cond.methodLink RX0 97 yX0_letMerge, Cond.instanceMethod yX0_letMerge, Cond.selects RX0 yX0_letMerge yX0_letMerge, Cond.code yX0_letMerge cX0_letMerge 4 none, Cond.methodLink RL 82 yX3_pass, Cond.instanceMethod yX3_pass, Cond.selects RX3 yX3_pass yX3_pass, Cond.code yX3_pass cX3_pass 11 (some .int)]
def wsL_law0_r12 : List Cond := [Cond.fieldLink RX3 64 "PodGuidewayLaw$Pod" "goal" "I", Cond.fieldLink RX3 80 "PodGuidewayLaw$Pod" "missed" "I", Cond.fieldLink RX3 67 "PodGuidewayLaw$Pod" "rider" "I", Cond.fieldLink RX3 42 "PodGuidewayLaw$Sim" "minute" "I", Cond.fieldLink RX3 83 "PodGuidewayLaw$Pod" "offs" "I", Cond.fieldLink RX3 48 "PodGuidewayLaw$Sim" "boarded" "I", Cond.fieldLink RX3 45 "PodGuidewayLaw$Sim" "answered" "I", Cond.methodLink RX3 74 yX3_slot, Cond.instanceMethod yX3_slot, Cond.selects RX3 yX3_slot yX3_slot, Cond.code yX3_slot cX3_slot 6 (some (.object "PodGuidewayLaw$Pod")), Cond.methodLink RX3 76 yX3_free, Cond.methodLink RX3 70 yX3_idle, Cond.instanceMethod yX3_idle, Cond.selects RX3 yX3_idle yX3_idle, Cond.code yX3_idle cX3_idle 4 (some (.object "PodGuidewayLaw$Pod")), Cond.methodLink RX3 86 yX3_coming, Cond.instanceMethod yX3_coming, Cond.selects RX3 yX3_coming yX3_coming, Cond.code yX3_coming cX3_coming 7 (some .int), Cond.methodLink RX3 89 yX3_answer, Cond.instanceMethod yX3_answer, Cond.selects RX3 yX3_answer yX3_answer, Cond.code yX3_answer cX3_answer 4 (some .int)]
def wsL_law0_r13 : List Cond := [Cond.methodLink RL 89 yX1_count, Cond.instanceMethod yX1_count, Cond.selects RX1 yX1_count yX1_count, Cond.code yX1_count cX1_count 2 (some .int), Cond.methodLink RX1 91 yX1_needWhat, Cond.instanceMethod yX1_needWhat, Cond.selects RX1 yX1_needWhat yX1_needWhat, Cond.code yX1_needWhat cX1_needWhat 4 none, Cond.instanceMethod yX0_tellCount, Cond.selects RX0 yX0_tellCount yX0_tellCount, Cond.code yX0_tellCount cX0_tellCount 2 (some .int), Cond.methodLink RX0 161 yX0_waitingInAll, Cond.instanceMethod yX0_waitingInAll, Cond.selects RX0 yX0_waitingInAll yX0_waitingInAll, Cond.code yX0_waitingInAll cX0_waitingInAll 3 (some .int), Cond.methodLink RX0 165 yX0_ridersInPods, Cond.instanceMethod yX0_ridersInPods, Cond.selects RX0 yX0_ridersInPods yX0_ridersInPods, Cond.code yX0_ridersInPods cX0_ridersInPods 3 (some .int), Cond.methodLink RX0 168 yX0_arrivedInAll, Cond.methodLink RX0 171 yX0_freeSlots, Cond.instanceMethod yX0_freeSlots, Cond.selects RX0 yX0_freeSlots yX0_freeSlots, Cond.code yX0_freeSlots cX0_freeSlots 3 (some .int)]
def wsL_law0_r14 : List Cond := [Cond.methodLink RL 92 yX1_when, Cond.instanceMethod yX1_when, Cond.selects RX1 yX1_when yX1_when, Cond.code yX1_when cX1_when 4 (some .int), Cond.instanceMethod yX0_copyFrom, Cond.selects RX0 yX0_copyFrom yX0_copyFrom, Cond.code yX0_copyFrom cX0_copyFrom 2 none, Cond.methodLink RX0 68 yX0_copyRow, Cond.static yX0_copyRow, Cond.code yX0_copyRow cX0_copyRow 2 none, Cond.methodLink RX0 180 Lib.Math.min.name, Cond.static Lib.Math.min.name, Cond.code Lib.Math.min.name Lib.Math.min.code 2 (some .int), Cond.methodLink RL 95 yX1_told, Cond.instanceMethod yX1_told, Cond.selects RX1 yX1_told yX1_told, Cond.code yX1_told cX1_told 3 (some .int), Cond.instanceMethod yX0_tellPod, Cond.selects RX0 yX0_tellPod yX0_tellPod, Cond.code yX0_tellPod cX0_tellPod 4 (some .int), Cond.methodLink RX0 155 yX0_berthOf, Cond.methodLink RL 98 yX1_foresee, Cond.instanceMethod yX1_foresee, Cond.selects RX1 yX1_foresee yX1_foresee]
def wsL_law0_r15 : List Cond := [Cond.code yX1_foresee cX1_foresee 4 (some .int), Cond.methodLink RL 101 yX1_station, Cond.instanceMethod yX1_station, Cond.selects RX1 yX1_station yX1_station, Cond.code yX1_station cX1_station 3 (some .int), Cond.instanceMethod yX0_tellStation, Cond.selects RX0 yX0_tellStation yX0_tellStation, Cond.code yX0_tellStation cX0_tellStation 3 (some .int), Cond.methodLink RX0 158 yX0_berthsThatHold, Cond.instanceMethod yX0_berthsThatHold, Cond.selects RX0 yX0_berthsThatHold yX0_berthsThatHold, Cond.code yX0_berthsThatHold cX0_berthsThatHold 5 (some .int), Cond.methodLink RX0 152 yX0_waitedAt, Cond.instanceMethod yX0_waitedAt, Cond.selects RX0 yX0_waitedAt yX0_waitedAt, Cond.code yX0_waitedAt cX0_waitedAt 5 (some .int), Cond.methodLink RL 104 yX1_answers, Cond.instanceMethod yX1_answers, Cond.selects RX1 yX1_answers yX1_answers, Cond.code yX1_answers cX1_answers 2 (some .int), Cond.methodLink RL 107 yX3_isSame, Cond.instanceMethod yX3_isSame, Cond.selects RX3 yX3_isSame yX3_isSame, Cond.code yX3_isSame cX3_isSame 11 (some .boolean)]
def wsL_law0_r16 : List Cond := [Cond.methodLink RX3 92 yX1_waits, Cond.instanceMethod yX1_waits, Cond.selects RX1 yX1_waits yX1_waits, Cond.code yX1_waits cX1_waits 3 (some .int), Cond.instanceMethod yX0_tellRider, Cond.selects RX0 yX0_tellRider yX0_tellRider, Cond.code yX0_tellRider cX0_tellRider 3 (some .int), Cond.methodLink RX3 97 yX1_station, Cond.methodLink RX3 100 yX1_answers, Cond.methodLink RX3 103 yX1_told, Cond.methodLink RX3 106 yX1_slot, Cond.instanceMethod yX1_slot, Cond.selects RX1 yX1_slot yX1_slot, Cond.code yX1_slot cX1_slot 2 (some .int), Cond.methodLink RX3 108 yX3_told, Cond.instanceMethod yX3_told, Cond.selects RX3 yX3_told yX3_told, Cond.code yX3_told cX3_told 7 (some .int), Cond.methodLink RX3 110 yX1_count, Cond.methodLink RX3 113 yX1_mean, Cond.instanceMethod yX1_mean, Cond.selects RX1 yX1_mean yX1_mean, Cond.code yX1_mean cX1_mean 2 (some .double), Cond.instanceMethod yX0_waitedInAll]
def wsL_law0_r17 : List Cond := [Cond.selects RX0 yX0_waitedInAll yX0_waitedInAll, Cond.code yX0_waitedInAll cX0_waitedInAll 3 (some .int)]
def wsL_law0 : List Cond := (wsL_law0_r1 ++ (wsL_law0_r2 ++ (wsL_law0_r3 ++ (wsL_law0_r4 ++ (wsL_law0_r5 ++ (wsL_law0_r6 ++ (wsL_law0_r7 ++ (wsL_law0_r8 ++ (wsL_law0_r9 ++ (wsL_law0_r10 ++ (wsL_law0_r11 ++ (wsL_law0_r12 ++ (wsL_law0_r13 ++ (wsL_law0_r14 ++ (wsL_law0_r15 ++ (wsL_law0_r16 ++ wsL_law0_r17)))))))))))))))) ++ wsX10 ++ wsX00 ++ wsX30 ++ wsX20 ++ ([] : List Cond)
def wsL_law : List Cond := wsL_law0 ++ (vx_atS RX1 31 "java/lang/IllegalStateException" ["java/lang/RuntimeException", "java/lang/Exception"]).filter goodWord ++ (vx_atS RX1 105 "java/lang/IndexOutOfBoundsException" ["java/lang/RuntimeException", "java/lang/Exception"]).filter goodWord ++ (vx_atS RX1 158 "java/lang/IllegalArgumentException" ["java/lang/RuntimeException", "java/lang/Exception"]).filter goodWord
set_option maxRecDepth 20000 in
abbrev vwCl : List vw_C := [(RX0, TX0, 17), (RX1, TX1, 2), (RX2, TX2, 7), (RX3, TX3, 8)]
end
section
set_option maxRecDepth 20000 in
theorem ggX0_init_X0_emptyRow : GoodIn wsX0_init wsX0_emptyRow := goodIn_r _ [19, 20, 21, 22, 23, 6, 24, 25, 26, 27] (by decide +kernel) (by decide +kernel)
set_option maxRecDepth 20000 in
theorem gX0_init_X0_emptyRow : GoodIn wsX0_init (va_wsS RX0 9 yX0_emptyRow wsX0_emptyRow) := goodIn_app (goodIn_of _ (by decide +kernel)) ggX0_init_X0_emptyRow
theorem dX0_init_0 : decode cX0_init 0 = .ok (.aload_n 0, 1) := by decide +kernel
theorem dX0_init_1 : decode cX0_init 1 = .ok (.invokespecial 3, 3) := by decide +kernel
theorem dX0_init_4 : decode cX0_init 4 = .ok (.aload_n 0, 1) := by decide +kernel
theorem dX0_init_5 : decode cX0_init 5 = .ok (.bipush 24, 2) := by decide +kernel
theorem dX0_init_7 : decode cX0_init 7 = .ok (.invokestatic 9, 3) := by decide +kernel
theorem dX0_init_10 : decode cX0_init 10 = .ok (.putfield 15, 3) := by decide +kernel
theorem dX0_init_13 : decode cX0_init 13 = .ok (.aload_n 0, 1) := by decide +kernel
theorem dX0_init_14 : decode cX0_init 14 = .ok (.bipush 18, 2) := by decide +kernel
theorem dX0_init_16 : decode cX0_init 16 = .ok (.invokestatic 9, 3) := by decide +kernel
theorem dX0_init_19 : decode cX0_init 19 = .ok (.putfield 19, 3) := by decide +kernel
theorem dX0_init_22 : decode cX0_init 22 = .ok (.aload_n 0, 1) := by decide +kernel
theorem dX0_init_23 : decode cX0_init 23 = .ok (.bipush 6, 2) := by decide +kernel
theorem dX0_init_25 : decode cX0_init 25 = .ok (.newarray .int, 2) := by decide +kernel
theorem dX0_init_27 : decode cX0_init 27 = .ok (.putfield 22, 3) := by decide +kernel
theorem dX0_init_30 : decode cX0_init 30 = .ok (.aload_n 0, 1) := by decide +kernel
theorem dX0_init_31 : decode cX0_init 31 = .ok (.bipush 6, 2) := by decide +kernel
theorem dX0_init_33 : decode cX0_init 33 = .ok (.newarray .int, 2) := by decide +kernel
theorem dX0_init_35 : decode cX0_init 35 = .ok (.putfield 25, 3) := by decide +kernel
theorem dX0_init_38 : decode cX0_init 38 = .ok (.aload_n 0, 1) := by decide +kernel
theorem dX0_init_39 : decode cX0_init 39 = .ok (.bipush 6, 2) := by decide +kernel
theorem dX0_init_41 : decode cX0_init 41 = .ok (.newarray .int, 2) := by decide +kernel
theorem dX0_init_43 : decode cX0_init 43 = .ok (.putfield 28, 3) := by decide +kernel
theorem dX0_init_46 : decode cX0_init 46 = .ok (.aload_n 0, 1) := by decide +kernel
theorem dX0_init_47 : decode cX0_init 47 = .ok (.bipush 54, 2) := by decide +kernel
theorem dX0_init_49 : decode cX0_init 49 = .ok (.newarray .int, 2) := by decide +kernel
theorem dX0_init_51 : decode cX0_init 51 = .ok (.putfield 31, 3) := by decide +kernel
theorem dX0_init_54 : decode cX0_init 54 = .ok (.aload_n 0, 1) := by decide +kernel
theorem dX0_init_55 : decode cX0_init 55 = .ok (.bipush 54, 2) := by decide +kernel
theorem dX0_init_57 : decode cX0_init 57 = .ok (.newarray .int, 2) := by decide +kernel
theorem dX0_init_59 : decode cX0_init 59 = .ok (.putfield 34, 3) := by decide +kernel
theorem dX0_init_62 : decode cX0_init 62 = .ok (.aload_n 0, 1) := by decide +kernel
theorem dX0_init_63 : decode cX0_init 63 = .ok (.bipush 54, 2) := by decide +kernel
theorem dX0_init_65 : decode cX0_init 65 = .ok (.newarray .int, 2) := by decide +kernel
theorem dX0_init_67 : decode cX0_init 67 = .ok (.putfield 37, 3) := by decide +kernel
theorem dX0_init_70 : decode cX0_init 70 = .ok (.aload_n 0, 1) := by decide +kernel
theorem dX0_init_71 : decode cX0_init 71 = .ok (.bipush 12, 2) := by decide +kernel
theorem dX0_init_73 : decode cX0_init 73 = .ok (.invokestatic 9, 3) := by decide +kernel
theorem dX0_init_76 : decode cX0_init 76 = .ok (.putfield 40, 3) := by decide +kernel
theorem dX0_init_79 : decode cX0_init 79 = .ok (.aload_n 0, 1) := by decide +kernel
theorem dX0_init_80 : decode cX0_init 80 = .ok (.bipush 12, 2) := by decide +kernel
theorem dX0_init_82 : decode cX0_init 82 = .ok (.invokestatic 9, 3) := by decide +kernel
theorem dX0_init_85 : decode cX0_init 85 = .ok (.putfield 43, 3) := by decide +kernel
theorem dX0_init_88 : decode cX0_init 88 = .ok (.aload_n 0, 1) := by decide +kernel
theorem dX0_init_89 : decode cX0_init 89 = .ok (.bipush 12, 2) := by decide +kernel
theorem dX0_init_91 : decode cX0_init 91 = .ok (.newarray .int, 2) := by decide +kernel
theorem dX0_init_93 : decode cX0_init 93 = .ok (.putfield 46, 3) := by decide +kernel
theorem dX0_init_96 : decode cX0_init 96 = .ok (.return_, 1) := by decide +kernel
set_option maxRecDepth 20000 in
theorem ggX0_copyFrom_X0_copyRow : GoodIn wsX0_copyFrom wsX0_copyRow := goodIn_r _ [21, 22, 23, 24, 25, 26, 27, 28, 29] (by decide +kernel) (by decide +kernel)
set_option maxRecDepth 20000 in
theorem gX0_copyFrom_X0_copyRow : GoodIn wsX0_copyFrom (va_wsS RX0 68 yX0_copyRow wsX0_copyRow) := goodIn_app (goodIn_of _ (by decide +kernel)) ggX0_copyFrom_X0_copyRow
theorem dX0_copyFrom_0 : decode cX0_copyFrom 0 = .ok (.aload_n 0, 1) := by decide +kernel
theorem dX0_copyFrom_1 : decode cX0_copyFrom 1 = .ok (.aload_n 1, 1) := by decide +kernel
theorem dX0_copyFrom_2 : decode cX0_copyFrom 2 = .ok (.getfield 49, 3) := by decide +kernel
theorem dX0_copyFrom_5 : decode cX0_copyFrom 5 = .ok (.putfield 49, 3) := by decide +kernel
theorem dX0_copyFrom_8 : decode cX0_copyFrom 8 = .ok (.aload_n 0, 1) := by decide +kernel
theorem dX0_copyFrom_9 : decode cX0_copyFrom 9 = .ok (.aload_n 1, 1) := by decide +kernel
theorem dX0_copyFrom_10 : decode cX0_copyFrom 10 = .ok (.getfield 53, 3) := by decide +kernel
theorem dX0_copyFrom_13 : decode cX0_copyFrom 13 = .ok (.putfield 53, 3) := by decide +kernel
theorem dX0_copyFrom_16 : decode cX0_copyFrom 16 = .ok (.aload_n 0, 1) := by decide +kernel
theorem dX0_copyFrom_17 : decode cX0_copyFrom 17 = .ok (.aload_n 1, 1) := by decide +kernel
theorem dX0_copyFrom_18 : decode cX0_copyFrom 18 = .ok (.getfield 56, 3) := by decide +kernel
theorem dX0_copyFrom_21 : decode cX0_copyFrom 21 = .ok (.putfield 56, 3) := by decide +kernel
theorem dX0_copyFrom_24 : decode cX0_copyFrom 24 = .ok (.aload_n 0, 1) := by decide +kernel
theorem dX0_copyFrom_25 : decode cX0_copyFrom 25 = .ok (.aload_n 1, 1) := by decide +kernel
theorem dX0_copyFrom_26 : decode cX0_copyFrom 26 = .ok (.getfield 59, 3) := by decide +kernel
theorem dX0_copyFrom_29 : decode cX0_copyFrom 29 = .ok (.putfield 59, 3) := by decide +kernel
theorem dX0_copyFrom_32 : decode cX0_copyFrom 32 = .ok (.aload_n 0, 1) := by decide +kernel
theorem dX0_copyFrom_33 : decode cX0_copyFrom 33 = .ok (.aload_n 1, 1) := by decide +kernel
theorem dX0_copyFrom_34 : decode cX0_copyFrom 34 = .ok (.getfield 62, 3) := by decide +kernel
theorem dX0_copyFrom_37 : decode cX0_copyFrom 37 = .ok (.putfield 62, 3) := by decide +kernel
theorem dX0_copyFrom_40 : decode cX0_copyFrom 40 = .ok (.aload_n 0, 1) := by decide +kernel
theorem dX0_copyFrom_41 : decode cX0_copyFrom 41 = .ok (.aload_n 1, 1) := by decide +kernel
theorem dX0_copyFrom_42 : decode cX0_copyFrom 42 = .ok (.getfield 65, 3) := by decide +kernel
theorem dX0_copyFrom_45 : decode cX0_copyFrom 45 = .ok (.putfield 65, 3) := by decide +kernel
theorem dX0_copyFrom_48 : decode cX0_copyFrom 48 = .ok (.aload_n 1, 1) := by decide +kernel
theorem dX0_copyFrom_49 : decode cX0_copyFrom 49 = .ok (.getfield 15, 3) := by decide +kernel
theorem dX0_copyFrom_52 : decode cX0_copyFrom 52 = .ok (.aload_n 0, 1) := by decide +kernel
theorem dX0_copyFrom_53 : decode cX0_copyFrom 53 = .ok (.getfield 15, 3) := by decide +kernel
theorem dX0_copyFrom_56 : decode cX0_copyFrom 56 = .ok (.invokestatic 68, 3) := by decide +kernel
theorem dX0_copyFrom_59 : decode cX0_copyFrom 59 = .ok (.aload_n 1, 1) := by decide +kernel
theorem dX0_copyFrom_60 : decode cX0_copyFrom 60 = .ok (.getfield 19, 3) := by decide +kernel
theorem dX0_copyFrom_63 : decode cX0_copyFrom 63 = .ok (.aload_n 0, 1) := by decide +kernel
theorem dX0_copyFrom_64 : decode cX0_copyFrom 64 = .ok (.getfield 19, 3) := by decide +kernel
theorem dX0_copyFrom_67 : decode cX0_copyFrom 67 = .ok (.invokestatic 68, 3) := by decide +kernel
theorem dX0_copyFrom_70 : decode cX0_copyFrom 70 = .ok (.aload_n 1, 1) := by decide +kernel
theorem dX0_copyFrom_71 : decode cX0_copyFrom 71 = .ok (.getfield 22, 3) := by decide +kernel
theorem dX0_copyFrom_74 : decode cX0_copyFrom 74 = .ok (.aload_n 0, 1) := by decide +kernel
theorem dX0_copyFrom_75 : decode cX0_copyFrom 75 = .ok (.getfield 22, 3) := by decide +kernel
theorem dX0_copyFrom_78 : decode cX0_copyFrom 78 = .ok (.invokestatic 68, 3) := by decide +kernel
theorem dX0_copyFrom_81 : decode cX0_copyFrom 81 = .ok (.aload_n 1, 1) := by decide +kernel
theorem dX0_copyFrom_82 : decode cX0_copyFrom 82 = .ok (.getfield 25, 3) := by decide +kernel
theorem dX0_copyFrom_85 : decode cX0_copyFrom 85 = .ok (.aload_n 0, 1) := by decide +kernel
theorem dX0_copyFrom_86 : decode cX0_copyFrom 86 = .ok (.getfield 25, 3) := by decide +kernel
theorem dX0_copyFrom_89 : decode cX0_copyFrom 89 = .ok (.invokestatic 68, 3) := by decide +kernel
theorem dX0_copyFrom_92 : decode cX0_copyFrom 92 = .ok (.aload_n 1, 1) := by decide +kernel
theorem dX0_copyFrom_93 : decode cX0_copyFrom 93 = .ok (.getfield 28, 3) := by decide +kernel
theorem dX0_copyFrom_96 : decode cX0_copyFrom 96 = .ok (.aload_n 0, 1) := by decide +kernel
theorem dX0_copyFrom_97 : decode cX0_copyFrom 97 = .ok (.getfield 28, 3) := by decide +kernel
theorem dX0_copyFrom_100 : decode cX0_copyFrom 100 = .ok (.invokestatic 68, 3) := by decide +kernel
theorem dX0_copyFrom_103 : decode cX0_copyFrom 103 = .ok (.aload_n 1, 1) := by decide +kernel
theorem dX0_copyFrom_104 : decode cX0_copyFrom 104 = .ok (.getfield 31, 3) := by decide +kernel
theorem dX0_copyFrom_107 : decode cX0_copyFrom 107 = .ok (.aload_n 0, 1) := by decide +kernel
theorem dX0_copyFrom_108 : decode cX0_copyFrom 108 = .ok (.getfield 31, 3) := by decide +kernel
theorem dX0_copyFrom_111 : decode cX0_copyFrom 111 = .ok (.invokestatic 68, 3) := by decide +kernel
theorem dX0_copyFrom_114 : decode cX0_copyFrom 114 = .ok (.aload_n 1, 1) := by decide +kernel
theorem dX0_copyFrom_115 : decode cX0_copyFrom 115 = .ok (.getfield 34, 3) := by decide +kernel
theorem dX0_copyFrom_118 : decode cX0_copyFrom 118 = .ok (.aload_n 0, 1) := by decide +kernel
theorem dX0_copyFrom_119 : decode cX0_copyFrom 119 = .ok (.getfield 34, 3) := by decide +kernel
theorem dX0_copyFrom_122 : decode cX0_copyFrom 122 = .ok (.invokestatic 68, 3) := by decide +kernel
theorem dX0_copyFrom_125 : decode cX0_copyFrom 125 = .ok (.aload_n 1, 1) := by decide +kernel
theorem dX0_copyFrom_126 : decode cX0_copyFrom 126 = .ok (.getfield 37, 3) := by decide +kernel
theorem dX0_copyFrom_129 : decode cX0_copyFrom 129 = .ok (.aload_n 0, 1) := by decide +kernel
theorem dX0_copyFrom_130 : decode cX0_copyFrom 130 = .ok (.getfield 37, 3) := by decide +kernel
theorem dX0_copyFrom_133 : decode cX0_copyFrom 133 = .ok (.invokestatic 68, 3) := by decide +kernel
theorem dX0_copyFrom_136 : decode cX0_copyFrom 136 = .ok (.aload_n 1, 1) := by decide +kernel
theorem dX0_copyFrom_137 : decode cX0_copyFrom 137 = .ok (.getfield 40, 3) := by decide +kernel
theorem dX0_copyFrom_140 : decode cX0_copyFrom 140 = .ok (.aload_n 0, 1) := by decide +kernel
theorem dX0_copyFrom_141 : decode cX0_copyFrom 141 = .ok (.getfield 40, 3) := by decide +kernel
theorem dX0_copyFrom_144 : decode cX0_copyFrom 144 = .ok (.invokestatic 68, 3) := by decide +kernel
theorem dX0_copyFrom_147 : decode cX0_copyFrom 147 = .ok (.aload_n 1, 1) := by decide +kernel
theorem dX0_copyFrom_148 : decode cX0_copyFrom 148 = .ok (.getfield 43, 3) := by decide +kernel
theorem dX0_copyFrom_151 : decode cX0_copyFrom 151 = .ok (.aload_n 0, 1) := by decide +kernel
theorem dX0_copyFrom_152 : decode cX0_copyFrom 152 = .ok (.getfield 43, 3) := by decide +kernel
theorem dX0_copyFrom_155 : decode cX0_copyFrom 155 = .ok (.invokestatic 68, 3) := by decide +kernel
theorem dX0_copyFrom_158 : decode cX0_copyFrom 158 = .ok (.aload_n 1, 1) := by decide +kernel
theorem dX0_copyFrom_159 : decode cX0_copyFrom 159 = .ok (.getfield 46, 3) := by decide +kernel
theorem dX0_copyFrom_162 : decode cX0_copyFrom 162 = .ok (.aload_n 0, 1) := by decide +kernel
theorem dX0_copyFrom_163 : decode cX0_copyFrom 163 = .ok (.getfield 46, 3) := by decide +kernel
theorem dX0_copyFrom_166 : decode cX0_copyFrom 166 = .ok (.invokestatic 68, 3) := by decide +kernel
theorem dX0_copyFrom_169 : decode cX0_copyFrom 169 = .ok (.return_, 1) := by decide +kernel
set_option maxRecDepth 20000 in
theorem ggX0_addStation_X0_write : GoodIn wsX0_addStation wsX0_write := goodIn_r _ [6] (by decide +kernel) (by decide +kernel)
set_option maxRecDepth 20000 in
theorem gX0_addStation_X0_write : GoodIn wsX0_addStation (va_wsS RX0 72 yX0_write wsX0_write) := goodIn_app (goodIn_of _ (by decide +kernel)) ggX0_addStation_X0_write
theorem dX0_addStation_0 : decode cX0_addStation 0 = .ok (.aload_n 0, 1) := by decide +kernel
theorem dX0_addStation_1 : decode cX0_addStation 1 = .ok (.getfield 53, 3) := by decide +kernel
theorem dX0_addStation_4 : decode cX0_addStation 4 = .ok (.istore_n 2, 1) := by decide +kernel
theorem dX0_addStation_5 : decode cX0_addStation 5 = .ok (.aload_n 0, 1) := by decide +kernel
theorem dX0_addStation_6 : decode cX0_addStation 6 = .ok (.getfield 22, 3) := by decide +kernel
theorem dX0_addStation_9 : decode cX0_addStation 9 = .ok (.iload_n 2, 1) := by decide +kernel
theorem dX0_addStation_10 : decode cX0_addStation 10 = .ok (.iload_n 1, 1) := by decide +kernel
theorem dX0_addStation_11 : decode cX0_addStation 11 = .ok (.invokestatic 72, 3) := by decide +kernel
theorem dX0_addStation_14 : decode cX0_addStation 14 = .ok (.aload_n 0, 1) := by decide +kernel
theorem dX0_addStation_15 : decode cX0_addStation 15 = .ok (.dup, 1) := by decide +kernel
theorem dX0_addStation_16 : decode cX0_addStation 16 = .ok (.getfield 53, 3) := by decide +kernel
theorem dX0_addStation_19 : decode cX0_addStation 19 = .ok (.iconst 1, 1) := by decide +kernel
theorem dX0_addStation_20 : decode cX0_addStation 20 = .ok (.iadd, 1) := by decide +kernel
theorem dX0_addStation_21 : decode cX0_addStation 21 = .ok (.putfield 53, 3) := by decide +kernel
theorem dX0_addStation_24 : decode cX0_addStation 24 = .ok (.iload_n 2, 1) := by decide +kernel
theorem dX0_addStation_25 : decode cX0_addStation 25 = .ok (.ireturn, 1) := by decide +kernel
set_option maxRecDepth 20000 in
theorem ggX0_addPod_X0_firstBerth : GoodIn wsX0_addPod wsX0_firstBerth := goodIn_r _ [7, 8, 9, 10, 6, 11, 2, 12, 13, 14, 15, 19, 20, 21, 22, 23, 24, 25, 26, 27, 28, 29, 30, 31, 32, 33, 34, 35] (by decide +kernel) (by decide +kernel)
set_option maxRecDepth 20000 in
theorem gX0_addPod_X0_firstBerth : GoodIn wsX0_addPod (wsV RX0 76 RX0 yX0_firstBerth wsX0_firstBerth) := goodIn_app (goodIn_of _ (by decide +kernel)) ggX0_addPod_X0_firstBerth
set_option maxRecDepth 20000 in
theorem ggX0_addPod_X0_write : GoodIn wsX0_addPod wsX0_write := goodIn_r _ [18] (by decide +kernel) (by decide +kernel)
set_option maxRecDepth 20000 in
theorem gX0_addPod_X0_write : GoodIn wsX0_addPod (va_wsS RX0 72 yX0_write wsX0_write) := goodIn_app (goodIn_of _ (by decide +kernel)) ggX0_addPod_X0_write
theorem dX0_addPod_0 : decode cX0_addPod 0 = .ok (.aload_n 0, 1) := by decide +kernel
theorem dX0_addPod_1 : decode cX0_addPod 1 = .ok (.getfield 56, 3) := by decide +kernel
theorem dX0_addPod_4 : decode cX0_addPod 4 = .ok (.istore_n 2, 1) := by decide +kernel
theorem dX0_addPod_5 : decode cX0_addPod 5 = .ok (.aload_n 0, 1) := by decide +kernel
theorem dX0_addPod_6 : decode cX0_addPod 6 = .ok (.getfield 19, 3) := by decide +kernel
theorem dX0_addPod_9 : decode cX0_addPod 9 = .ok (.aload_n 0, 1) := by decide +kernel
theorem dX0_addPod_10 : decode cX0_addPod 10 = .ok (.iload_n 1, 1) := by decide +kernel
theorem dX0_addPod_11 : decode cX0_addPod 11 = .ok (.iconst 0, 1) := by decide +kernel
theorem dX0_addPod_12 : decode cX0_addPod 12 = .ok (.invokevirtual 76, 3) := by decide +kernel
theorem dX0_addPod_15 : decode cX0_addPod 15 = .ok (.iload_n 2, 1) := by decide +kernel
theorem dX0_addPod_16 : decode cX0_addPod 16 = .ok (.invokestatic 72, 3) := by decide +kernel
theorem dX0_addPod_19 : decode cX0_addPod 19 = .ok (.aload_n 0, 1) := by decide +kernel
theorem dX0_addPod_20 : decode cX0_addPod 20 = .ok (.dup, 1) := by decide +kernel
theorem dX0_addPod_21 : decode cX0_addPod 21 = .ok (.getfield 56, 3) := by decide +kernel
theorem dX0_addPod_24 : decode cX0_addPod 24 = .ok (.iconst 1, 1) := by decide +kernel
theorem dX0_addPod_25 : decode cX0_addPod 25 = .ok (.iadd, 1) := by decide +kernel
theorem dX0_addPod_26 : decode cX0_addPod 26 = .ok (.putfield 56, 3) := by decide +kernel
theorem dX0_addPod_29 : decode cX0_addPod 29 = .ok (.iload_n 2, 1) := by decide +kernel
theorem dX0_addPod_30 : decode cX0_addPod 30 = .ok (.ireturn, 1) := by decide +kernel
set_option maxRecDepth 20000 in
theorem ggX0_addRider_X0_waitingAt : GoodIn wsX0_addRider wsX0_waitingAt := goodIn_r _ [11, 6, 12, 13, 14, 15, 16, 17, 10, 18, 22, 23, 24, 25, 26, 27, 28, 29, 30, 31, 32, 33, 34, 35, 36, 37, 38] (by decide +kernel) (by decide +kernel)
set_option maxRecDepth 20000 in
theorem gX0_addRider_X0_waitingAt : GoodIn wsX0_addRider (wsV RX0 80 RX0 yX0_waitingAt wsX0_waitingAt) := goodIn_app (goodIn_of _ (by decide +kernel)) ggX0_addRider_X0_waitingAt
set_option maxRecDepth 20000 in
theorem ggX0_addRider_X0_write : GoodIn wsX0_addRider wsX0_write := goodIn_r _ [21] (by decide +kernel) (by decide +kernel)
set_option maxRecDepth 20000 in
theorem gX0_addRider_X0_write : GoodIn wsX0_addRider (va_wsS RX0 72 yX0_write wsX0_write) := goodIn_app (goodIn_of _ (by decide +kernel)) ggX0_addRider_X0_write
theorem dX0_addRider_0 : decode cX0_addRider 0 = .ok (.aload_n 0, 1) := by decide +kernel
theorem dX0_addRider_1 : decode cX0_addRider 1 = .ok (.getfield 59, 3) := by decide +kernel
theorem dX0_addRider_4 : decode cX0_addRider 4 = .ok (.istore_n 3, 1) := by decide +kernel
theorem dX0_addRider_5 : decode cX0_addRider 5 = .ok (.iload_n 1, 1) := by decide +kernel
theorem dX0_addRider_6 : decode cX0_addRider 6 = .ok (.bipush 9, 2) := by decide +kernel
theorem dX0_addRider_8 : decode cX0_addRider 8 = .ok (.imul, 1) := by decide +kernel
theorem dX0_addRider_9 : decode cX0_addRider 9 = .ok (.aload_n 0, 1) := by decide +kernel
theorem dX0_addRider_10 : decode cX0_addRider 10 = .ok (.iload_n 1, 1) := by decide +kernel
theorem dX0_addRider_11 : decode cX0_addRider 11 = .ok (.invokevirtual 80, 3) := by decide +kernel
theorem dX0_addRider_14 : decode cX0_addRider 14 = .ok (.iadd, 1) := by decide +kernel
theorem dX0_addRider_15 : decode cX0_addRider 15 = .ok (.istore 4, 2) := by decide +kernel
theorem dX0_addRider_17 : decode cX0_addRider 17 = .ok (.aload_n 0, 1) := by decide +kernel
theorem dX0_addRider_18 : decode cX0_addRider 18 = .ok (.getfield 31, 3) := by decide +kernel
theorem dX0_addRider_21 : decode cX0_addRider 21 = .ok (.iload 4, 2) := by decide +kernel
theorem dX0_addRider_23 : decode cX0_addRider 23 = .ok (.iload_n 3, 1) := by decide +kernel
theorem dX0_addRider_24 : decode cX0_addRider 24 = .ok (.invokestatic 72, 3) := by decide +kernel
theorem dX0_addRider_27 : decode cX0_addRider 27 = .ok (.aload_n 0, 1) := by decide +kernel
theorem dX0_addRider_28 : decode cX0_addRider 28 = .ok (.getfield 34, 3) := by decide +kernel
theorem dX0_addRider_31 : decode cX0_addRider 31 = .ok (.iload 4, 2) := by decide +kernel
theorem dX0_addRider_33 : decode cX0_addRider 33 = .ok (.iload_n 2, 1) := by decide +kernel
theorem dX0_addRider_34 : decode cX0_addRider 34 = .ok (.invokestatic 72, 3) := by decide +kernel
theorem dX0_addRider_37 : decode cX0_addRider 37 = .ok (.aload_n 0, 1) := by decide +kernel
theorem dX0_addRider_38 : decode cX0_addRider 38 = .ok (.getfield 37, 3) := by decide +kernel
theorem dX0_addRider_41 : decode cX0_addRider 41 = .ok (.iload 4, 2) := by decide +kernel
theorem dX0_addRider_43 : decode cX0_addRider 43 = .ok (.aload_n 0, 1) := by decide +kernel
theorem dX0_addRider_44 : decode cX0_addRider 44 = .ok (.getfield 49, 3) := by decide +kernel
theorem dX0_addRider_47 : decode cX0_addRider 47 = .ok (.invokestatic 72, 3) := by decide +kernel
theorem dX0_addRider_50 : decode cX0_addRider 50 = .ok (.aload_n 0, 1) := by decide +kernel
theorem dX0_addRider_51 : decode cX0_addRider 51 = .ok (.getfield 28, 3) := by decide +kernel
theorem dX0_addRider_54 : decode cX0_addRider 54 = .ok (.iload_n 1, 1) := by decide +kernel
theorem dX0_addRider_55 : decode cX0_addRider 55 = .ok (.aload_n 0, 1) := by decide +kernel
theorem dX0_addRider_56 : decode cX0_addRider 56 = .ok (.iload_n 1, 1) := by decide +kernel
theorem dX0_addRider_57 : decode cX0_addRider 57 = .ok (.invokevirtual 80, 3) := by decide +kernel
theorem dX0_addRider_60 : decode cX0_addRider 60 = .ok (.iconst 1, 1) := by decide +kernel
theorem dX0_addRider_61 : decode cX0_addRider 61 = .ok (.iadd, 1) := by decide +kernel
theorem dX0_addRider_62 : decode cX0_addRider 62 = .ok (.invokestatic 72, 3) := by decide +kernel
theorem dX0_addRider_65 : decode cX0_addRider 65 = .ok (.aload_n 0, 1) := by decide +kernel
theorem dX0_addRider_66 : decode cX0_addRider 66 = .ok (.dup, 1) := by decide +kernel
theorem dX0_addRider_67 : decode cX0_addRider 67 = .ok (.getfield 59, 3) := by decide +kernel
theorem dX0_addRider_70 : decode cX0_addRider 70 = .ok (.iconst 1, 1) := by decide +kernel
theorem dX0_addRider_71 : decode cX0_addRider 71 = .ok (.iadd, 1) := by decide +kernel
theorem dX0_addRider_72 : decode cX0_addRider 72 = .ok (.putfield 59, 3) := by decide +kernel
theorem dX0_addRider_75 : decode cX0_addRider 75 = .ok (.iload_n 3, 1) := by decide +kernel
theorem dX0_addRider_76 : decode cX0_addRider 76 = .ok (.ireturn, 1) := by decide +kernel
set_option maxRecDepth 20000 in
theorem ggX0_setGoal_X0_write : GoodIn wsX0_setGoal wsX0_write := goodIn_r _ [5] (by decide +kernel) (by decide +kernel)
set_option maxRecDepth 20000 in
theorem gX0_setGoal_X0_write : GoodIn wsX0_setGoal (va_wsS RX0 72 yX0_write wsX0_write) := goodIn_app (goodIn_of _ (by decide +kernel)) ggX0_setGoal_X0_write
theorem dX0_setGoal_0 : decode cX0_setGoal 0 = .ok (.aload_n 0, 1) := by decide +kernel
theorem dX0_setGoal_1 : decode cX0_setGoal 1 = .ok (.getfield 40, 3) := by decide +kernel
theorem dX0_setGoal_4 : decode cX0_setGoal 4 = .ok (.iload_n 1, 1) := by decide +kernel
theorem dX0_setGoal_5 : decode cX0_setGoal 5 = .ok (.iload_n 2, 1) := by decide +kernel
theorem dX0_setGoal_6 : decode cX0_setGoal 6 = .ok (.invokestatic 72, 3) := by decide +kernel
theorem dX0_setGoal_9 : decode cX0_setGoal 9 = .ok (.return_, 1) := by decide +kernel
set_option maxRecDepth 20000 in
theorem ggX0_passMinute_X0_moveSlots : GoodIn wsX0_passMinute wsX0_moveSlots := goodIn_r _ [7, 8, 9, 10, 11, 12, 13, 14, 6, 15, 16, 17, 18, 104, 105, 106, 107, 108, 109, 110, 111, 112, 113, 114, 115, 116, 117, 118, 119, 120] (by decide +kernel) (by decide +kernel)
set_option maxRecDepth 20000 in
theorem gX0_passMinute_X0_moveSlots : GoodIn wsX0_passMinute (wsV RX0 84 RX0 yX0_moveSlots wsX0_moveSlots) := goodIn_app (goodIn_of _ (by decide +kernel)) ggX0_passMinute_X0_moveSlots
set_option maxRecDepth 20000 in
theorem ggX0_passMinute_X0_letGoOff : GoodIn wsX0_passMinute wsX0_letGoOff := goodIn_r _ [22, 23, 8, 24, 25, 26, 27, 28, 29, 6, 30, 31, 13, 14, 15, 32, 33, 34, 35, 36, 37, 38, 39, 40, 41, 42, 43, 44, 45, 46, 47, 48, 16, 17, 18, 49, 50, 51, 52, 104, 105, 106, 107, 108, 109, 110, 111, 112, 113, 114, 115, 116, 117, 118, 119, 120] (by decide +kernel) (by decide +kernel)
set_option maxRecDepth 20000 in
theorem gX0_passMinute_X0_letGoOff : GoodIn wsX0_passMinute (wsV RX0 87 RX0 yX0_letGoOff wsX0_letGoOff) := goodIn_app (goodIn_of _ (by decide +kernel)) ggX0_passMinute_X0_letGoOff
set_option maxRecDepth 20000 in
theorem ggX0_passMinute_X0_letBoard : GoodIn wsX0_passMinute wsX0_letBoard := goodIn_r _ [56, 24, 57, 58, 59, 6, 60, 61, 62, 63, 64, 65, 13, 14, 15, 45, 46, 47, 48, 40, 66, 67, 68, 69, 25, 70, 71, 72, 73, 16, 17, 18, 49, 50, 51, 52, 74, 75, 76, 77, 2, 104, 105, 106, 107, 108, 109, 110, 111, 112, 113, 114, 115, 116, 117, 118, 119, 120] (by decide +kernel) (by decide +kernel)
set_option maxRecDepth 20000 in
theorem gX0_passMinute_X0_letBoard : GoodIn wsX0_passMinute (wsV RX0 91 RX0 yX0_letBoard wsX0_letBoard) := goodIn_app (goodIn_of _ (by decide +kernel)) ggX0_passMinute_X0_letBoard
set_option maxRecDepth 20000 in
theorem ggX0_passMinute_X0_letCall : GoodIn wsX0_passMinute wsX0_letCall := goodIn_r _ [81, 24, 82, 57, 58, 59, 6, 60, 61, 62, 63, 64, 65, 13, 14, 15, 83, 84, 85, 86, 87, 25, 36, 37, 38, 39, 40, 88, 89, 90, 91, 1, 92, 93, 94, 95, 27, 28, 29, 30, 31, 96, 97, 98, 99, 41, 42, 43, 44, 45, 46, 47, 48, 49, 50, 51, 52, 16, 17, 18, 104, 105, 106, 107, 108, 109, 110, 111, 112, 113, 114, 115, 116, 117, 118, 119, 120] (by decide +kernel) (by decide +kernel)
set_option maxRecDepth 20000 in
theorem gX0_passMinute_X0_letCall : GoodIn wsX0_passMinute (wsV RX0 94 RX0 yX0_letCall wsX0_letCall) := goodIn_app (goodIn_of _ (by decide +kernel)) ggX0_passMinute_X0_letCall
set_option maxRecDepth 20000 in
theorem ggX0_passMinute_X0_letMerge : GoodIn wsX0_passMinute wsX0_letMerge := goodIn_r _ [103, 8, 24, 27, 28, 29, 6, 30, 31, 13, 14, 15, 41, 42, 43, 44, 45, 46, 47, 48, 40, 32, 33, 34, 35, 16, 17, 18, 104, 105, 106, 107, 108, 109, 110, 111, 112, 113, 114, 115, 116, 117, 118, 119, 120] (by decide +kernel) (by decide +kernel)
set_option maxRecDepth 20000 in
theorem gX0_passMinute_X0_letMerge : GoodIn wsX0_passMinute (wsV RX0 97 RX0 yX0_letMerge wsX0_letMerge) := goodIn_app (goodIn_of _ (by decide +kernel)) ggX0_passMinute_X0_letMerge
theorem dX0_passMinute_0 : decode cX0_passMinute 0 = .ok (.aload_n 0, 1) := by decide +kernel
theorem dX0_passMinute_1 : decode cX0_passMinute 1 = .ok (.invokevirtual 84, 3) := by decide +kernel
theorem dX0_passMinute_4 : decode cX0_passMinute 4 = .ok (.iconst 0, 1) := by decide +kernel
theorem dX0_passMinute_5 : decode cX0_passMinute 5 = .ok (.istore_n 1, 1) := by decide +kernel
theorem dX0_passMinute_6 : decode cX0_passMinute 6 = .ok (.iload_n 1, 1) := by decide +kernel
theorem dX0_passMinute_7 : decode cX0_passMinute 7 = .ok (.aload_n 0, 1) := by decide +kernel
theorem dX0_passMinute_8 : decode cX0_passMinute 8 = .ok (.getfield 53, 3) := by decide +kernel
theorem dX0_passMinute_11 : decode cX0_passMinute 11 = .ok (.if_icmp .ge 14, 3) := by decide +kernel
theorem dX0_passMinute_14 : decode cX0_passMinute 14 = .ok (.aload_n 0, 1) := by decide +kernel
theorem dX0_passMinute_15 : decode cX0_passMinute 15 = .ok (.iload_n 1, 1) := by decide +kernel
theorem dX0_passMinute_16 : decode cX0_passMinute 16 = .ok (.invokevirtual 87, 3) := by decide +kernel
theorem dX0_passMinute_19 : decode cX0_passMinute 19 = .ok (.iinc 1 1, 3) := by decide +kernel
theorem dX0_passMinute_22 : decode cX0_passMinute 22 = .ok (.goto (-16), 3) := by decide +kernel
theorem dX0_passMinute_25 : decode cX0_passMinute 25 = .ok (.iconst 0, 1) := by decide +kernel
theorem dX0_passMinute_26 : decode cX0_passMinute 26 = .ok (.istore_n 1, 1) := by decide +kernel
theorem dX0_passMinute_27 : decode cX0_passMinute 27 = .ok (.iload_n 1, 1) := by decide +kernel
theorem dX0_passMinute_28 : decode cX0_passMinute 28 = .ok (.aload_n 0, 1) := by decide +kernel
theorem dX0_passMinute_29 : decode cX0_passMinute 29 = .ok (.getfield 53, 3) := by decide +kernel
theorem dX0_passMinute_32 : decode cX0_passMinute 32 = .ok (.if_icmp .ge 14, 3) := by decide +kernel
theorem dX0_passMinute_35 : decode cX0_passMinute 35 = .ok (.aload_n 0, 1) := by decide +kernel
theorem dX0_passMinute_36 : decode cX0_passMinute 36 = .ok (.iload_n 1, 1) := by decide +kernel
theorem dX0_passMinute_37 : decode cX0_passMinute 37 = .ok (.invokevirtual 91, 3) := by decide +kernel
theorem dX0_passMinute_40 : decode cX0_passMinute 40 = .ok (.iinc 1 1, 3) := by decide +kernel
theorem dX0_passMinute_43 : decode cX0_passMinute 43 = .ok (.goto (-16), 3) := by decide +kernel
theorem dX0_passMinute_46 : decode cX0_passMinute 46 = .ok (.iconst 0, 1) := by decide +kernel
theorem dX0_passMinute_47 : decode cX0_passMinute 47 = .ok (.istore_n 1, 1) := by decide +kernel
theorem dX0_passMinute_48 : decode cX0_passMinute 48 = .ok (.iload_n 1, 1) := by decide +kernel
theorem dX0_passMinute_49 : decode cX0_passMinute 49 = .ok (.aload_n 0, 1) := by decide +kernel
theorem dX0_passMinute_50 : decode cX0_passMinute 50 = .ok (.getfield 53, 3) := by decide +kernel
theorem dX0_passMinute_53 : decode cX0_passMinute 53 = .ok (.if_icmp .ge 14, 3) := by decide +kernel
theorem dX0_passMinute_56 : decode cX0_passMinute 56 = .ok (.aload_n 0, 1) := by decide +kernel
theorem dX0_passMinute_57 : decode cX0_passMinute 57 = .ok (.iload_n 1, 1) := by decide +kernel
theorem dX0_passMinute_58 : decode cX0_passMinute 58 = .ok (.invokevirtual 94, 3) := by decide +kernel
theorem dX0_passMinute_61 : decode cX0_passMinute 61 = .ok (.iinc 1 1, 3) := by decide +kernel
theorem dX0_passMinute_64 : decode cX0_passMinute 64 = .ok (.goto (-16), 3) := by decide +kernel
theorem dX0_passMinute_67 : decode cX0_passMinute 67 = .ok (.iconst 0, 1) := by decide +kernel
theorem dX0_passMinute_68 : decode cX0_passMinute 68 = .ok (.istore_n 1, 1) := by decide +kernel
theorem dX0_passMinute_69 : decode cX0_passMinute 69 = .ok (.iload_n 1, 1) := by decide +kernel
theorem dX0_passMinute_70 : decode cX0_passMinute 70 = .ok (.aload_n 0, 1) := by decide +kernel
theorem dX0_passMinute_71 : decode cX0_passMinute 71 = .ok (.getfield 53, 3) := by decide +kernel
theorem dX0_passMinute_74 : decode cX0_passMinute 74 = .ok (.if_icmp .ge 14, 3) := by decide +kernel
theorem dX0_passMinute_77 : decode cX0_passMinute 77 = .ok (.aload_n 0, 1) := by decide +kernel
theorem dX0_passMinute_78 : decode cX0_passMinute 78 = .ok (.iload_n 1, 1) := by decide +kernel
theorem dX0_passMinute_79 : decode cX0_passMinute 79 = .ok (.invokevirtual 97, 3) := by decide +kernel
theorem dX0_passMinute_82 : decode cX0_passMinute 82 = .ok (.iinc 1 1, 3) := by decide +kernel
theorem dX0_passMinute_85 : decode cX0_passMinute 85 = .ok (.goto (-16), 3) := by decide +kernel
theorem dX0_passMinute_88 : decode cX0_passMinute 88 = .ok (.aload_n 0, 1) := by decide +kernel
theorem dX0_passMinute_89 : decode cX0_passMinute 89 = .ok (.dup, 1) := by decide +kernel
theorem dX0_passMinute_90 : decode cX0_passMinute 90 = .ok (.getfield 49, 3) := by decide +kernel
theorem dX0_passMinute_93 : decode cX0_passMinute 93 = .ok (.iconst 1, 1) := by decide +kernel
theorem dX0_passMinute_94 : decode cX0_passMinute 94 = .ok (.iadd, 1) := by decide +kernel
theorem dX0_passMinute_95 : decode cX0_passMinute 95 = .ok (.putfield 49, 3) := by decide +kernel
theorem dX0_passMinute_98 : decode cX0_passMinute 98 = .ok (.return_, 1) := by decide +kernel
set_option maxRecDepth 20000 in
theorem ggX0_moveSlots_X0_read : GoodIn wsX0_moveSlots wsX0_read := goodIn_r _ [9] (by decide +kernel) (by decide +kernel)
set_option maxRecDepth 20000 in
theorem gX0_moveSlots_X0_read : GoodIn wsX0_moveSlots (va_wsS RX0 100 yX0_read wsX0_read) := goodIn_app (goodIn_of _ (by decide +kernel)) ggX0_moveSlots_X0_read
set_option maxRecDepth 20000 in
theorem ggX0_moveSlots_X0_write : GoodIn wsX0_moveSlots wsX0_write := goodIn_r _ [12] (by decide +kernel) (by decide +kernel)
set_option maxRecDepth 20000 in
theorem gX0_moveSlots_X0_write : GoodIn wsX0_moveSlots (va_wsS RX0 72 yX0_write wsX0_write) := goodIn_app (goodIn_of _ (by decide +kernel)) ggX0_moveSlots_X0_write
theorem dX0_moveSlots_0 : decode cX0_moveSlots 0 = .ok (.aload_n 0, 1) := by decide +kernel
theorem dX0_moveSlots_1 : decode cX0_moveSlots 1 = .ok (.getfield 15, 3) := by decide +kernel
theorem dX0_moveSlots_4 : decode cX0_moveSlots 4 = .ok (.arraylength, 1) := by decide +kernel
theorem dX0_moveSlots_5 : decode cX0_moveSlots 5 = .ok (.iconst 1, 1) := by decide +kernel
theorem dX0_moveSlots_6 : decode cX0_moveSlots 6 = .ok (.isub, 1) := by decide +kernel
theorem dX0_moveSlots_7 : decode cX0_moveSlots 7 = .ok (.istore_n 1, 1) := by decide +kernel
theorem dX0_moveSlots_8 : decode cX0_moveSlots 8 = .ok (.iload_n 1, 1) := by decide +kernel
theorem dX0_moveSlots_9 : decode cX0_moveSlots 9 = .ok (.iconst 1, 1) := by decide +kernel
theorem dX0_moveSlots_10 : decode cX0_moveSlots 10 = .ok (.if_icmp .ge 4, 3) := by decide +kernel
theorem dX0_moveSlots_13 : decode cX0_moveSlots 13 = .ok (.return_, 1) := by decide +kernel
theorem dX0_moveSlots_14 : decode cX0_moveSlots 14 = .ok (.aload_n 0, 1) := by decide +kernel
theorem dX0_moveSlots_15 : decode cX0_moveSlots 15 = .ok (.getfield 15, 3) := by decide +kernel
theorem dX0_moveSlots_18 : decode cX0_moveSlots 18 = .ok (.iload_n 1, 1) := by decide +kernel
theorem dX0_moveSlots_19 : decode cX0_moveSlots 19 = .ok (.invokestatic 100, 3) := by decide +kernel
theorem dX0_moveSlots_22 : decode cX0_moveSlots 22 = .ok (.istore_n 2, 1) := by decide +kernel
theorem dX0_moveSlots_23 : decode cX0_moveSlots 23 = .ok (.aload_n 0, 1) := by decide +kernel
theorem dX0_moveSlots_24 : decode cX0_moveSlots 24 = .ok (.getfield 15, 3) := by decide +kernel
theorem dX0_moveSlots_27 : decode cX0_moveSlots 27 = .ok (.iconst 0, 1) := by decide +kernel
theorem dX0_moveSlots_28 : decode cX0_moveSlots 28 = .ok (.aload_n 0, 1) := by decide +kernel
theorem dX0_moveSlots_29 : decode cX0_moveSlots 29 = .ok (.getfield 15, 3) := by decide +kernel
theorem dX0_moveSlots_32 : decode cX0_moveSlots 32 = .ok (.iconst 1, 1) := by decide +kernel
theorem dX0_moveSlots_33 : decode cX0_moveSlots 33 = .ok (.iload_n 1, 1) := by decide +kernel
theorem dX0_moveSlots_34 : decode cX0_moveSlots 34 = .ok (.invokestatic 104, 3) := by decide +kernel
theorem dX0_moveSlots_37 : decode cX0_moveSlots 37 = .ok (.aload_n 0, 1) := by decide +kernel
theorem dX0_moveSlots_38 : decode cX0_moveSlots 38 = .ok (.getfield 15, 3) := by decide +kernel
theorem dX0_moveSlots_41 : decode cX0_moveSlots 41 = .ok (.iconst 0, 1) := by decide +kernel
theorem dX0_moveSlots_42 : decode cX0_moveSlots 42 = .ok (.iload_n 2, 1) := by decide +kernel
theorem dX0_moveSlots_43 : decode cX0_moveSlots 43 = .ok (.invokestatic 72, 3) := by decide +kernel
theorem dX0_moveSlots_46 : decode cX0_moveSlots 46 = .ok (.return_, 1) := by decide +kernel
set_option maxRecDepth 20000 in
theorem ggX0_letGoOff_X0_placeOf : GoodIn wsX0_letGoOff wsX0_placeOf := goodIn_r _ [10, 11, 12, 13, 9, 14, 39, 40, 41, 42, 43, 44, 45, 46, 47, 48, 49, 50, 51, 52, 53, 54, 55] (by decide +kernel) (by decide +kernel)
set_option maxRecDepth 20000 in
theorem gX0_letGoOff_X0_placeOf : GoodIn wsX0_letGoOff (wsV RX0 110 RX0 yX0_placeOf wsX0_placeOf) := goodIn_app (goodIn_of _ (by decide +kernel)) ggX0_letGoOff_X0_placeOf
set_option maxRecDepth 20000 in
theorem ggX0_letGoOff_X0_podAtPlace : GoodIn wsX0_letGoOff wsX0_podAtPlace := goodIn_r _ [18, 2, 12, 13, 9, 14, 39, 40, 41, 42, 43, 44, 45, 46, 47, 48, 49, 50, 51, 52, 53, 54, 55] (by decide +kernel) (by decide +kernel)
set_option maxRecDepth 20000 in
theorem gX0_letGoOff_X0_podAtPlace : GoodIn wsX0_letGoOff (wsV RX0 113 RX0 yX0_podAtPlace wsX0_podAtPlace) := goodIn_app (goodIn_of _ (by decide +kernel)) ggX0_letGoOff_X0_podAtPlace
set_option maxRecDepth 20000 in
theorem ggX0_letGoOff_X0_goalOf : GoodIn wsX0_letGoOff wsX0_goalOf := goodIn_r _ [22, 23, 12, 13, 9, 14, 39, 40, 41, 42, 43, 44, 45, 46, 47, 48, 49, 50, 51, 52, 53, 54, 55] (by decide +kernel) (by decide +kernel)
set_option maxRecDepth 20000 in
theorem gX0_letGoOff_X0_goalOf : GoodIn wsX0_letGoOff (wsV RX0 116 RX0 yX0_goalOf wsX0_goalOf) := goodIn_app (goodIn_of _ (by decide +kernel)) ggX0_letGoOff_X0_goalOf
set_option maxRecDepth 20000 in
theorem ggX0_letGoOff_X0_firstBerth : GoodIn wsX0_letGoOff wsX0_firstBerth := goodIn_r _ [27, 28, 29, 30, 9, 31, 3, 23, 12, 13, 14, 39, 40, 41, 42, 43, 44, 45, 46, 47, 48, 49, 50, 51, 52, 53, 54, 55] (by decide +kernel) (by decide +kernel)
set_option maxRecDepth 20000 in
theorem gX0_letGoOff_X0_firstBerth : GoodIn wsX0_letGoOff (wsV RX0 76 RX0 yX0_firstBerth wsX0_firstBerth) := goodIn_app (goodIn_of _ (by decide +kernel)) ggX0_letGoOff_X0_firstBerth
set_option maxRecDepth 20000 in
theorem ggX0_letGoOff_X0_read : GoodIn wsX0_letGoOff wsX0_read := goodIn_r _ [14] (by decide +kernel) (by decide +kernel)
set_option maxRecDepth 20000 in
theorem gX0_letGoOff_X0_read : GoodIn wsX0_letGoOff (va_wsS RX0 100 yX0_read wsX0_read) := goodIn_app (goodIn_of _ (by decide +kernel)) ggX0_letGoOff_X0_read
set_option maxRecDepth 20000 in
theorem ggX0_letGoOff_X0_write : GoodIn wsX0_letGoOff wsX0_write := goodIn_r _ [34] (by decide +kernel) (by decide +kernel)
set_option maxRecDepth 20000 in
theorem gX0_letGoOff_X0_write : GoodIn wsX0_letGoOff (va_wsS RX0 72 yX0_write wsX0_write) := goodIn_app (goodIn_of _ (by decide +kernel)) ggX0_letGoOff_X0_write
set_option maxRecDepth 20000 in
theorem ggX0_letGoOff_X0_setGoal : GoodIn wsX0_letGoOff wsX0_setGoal := goodIn_r _ [38, 23, 32, 33, 9, 34, 39, 40, 41, 42, 43, 44, 45, 46, 47, 48, 49, 50, 51, 52, 53, 54, 55] (by decide +kernel) (by decide +kernel)
set_option maxRecDepth 20000 in
theorem gX0_letGoOff_X0_setGoal : GoodIn wsX0_letGoOff (wsV RX0 119 RX0 yX0_setGoal wsX0_setGoal) := goodIn_app (goodIn_of _ (by decide +kernel)) ggX0_letGoOff_X0_setGoal
theorem dX0_letGoOff_0 : decode cX0_letGoOff 0 = .ok (.aload_n 0, 1) := by decide +kernel
theorem dX0_letGoOff_1 : decode cX0_letGoOff 1 = .ok (.iload_n 1, 1) := by decide +kernel
theorem dX0_letGoOff_2 : decode cX0_letGoOff 2 = .ok (.invokevirtual 110, 3) := by decide +kernel
theorem dX0_letGoOff_5 : decode cX0_letGoOff 5 = .ok (.istore_n 2, 1) := by decide +kernel
theorem dX0_letGoOff_6 : decode cX0_letGoOff 6 = .ok (.aload_n 0, 1) := by decide +kernel
theorem dX0_letGoOff_7 : decode cX0_letGoOff 7 = .ok (.iload_n 2, 1) := by decide +kernel
theorem dX0_letGoOff_8 : decode cX0_letGoOff 8 = .ok (.invokevirtual 113, 3) := by decide +kernel
theorem dX0_letGoOff_11 : decode cX0_letGoOff 11 = .ok (.istore_n 3, 1) := by decide +kernel
theorem dX0_letGoOff_12 : decode cX0_letGoOff 12 = .ok (.iload_n 3, 1) := by decide +kernel
theorem dX0_letGoOff_13 : decode cX0_letGoOff 13 = .ok (.iconst (-1), 1) := by decide +kernel
theorem dX0_letGoOff_14 : decode cX0_letGoOff 14 = .ok (.if_icmp .eq 12, 3) := by decide +kernel
theorem dX0_letGoOff_17 : decode cX0_letGoOff 17 = .ok (.aload_n 0, 1) := by decide +kernel
theorem dX0_letGoOff_18 : decode cX0_letGoOff 18 = .ok (.iload_n 3, 1) := by decide +kernel
theorem dX0_letGoOff_19 : decode cX0_letGoOff 19 = .ok (.invokevirtual 116, 3) := by decide +kernel
theorem dX0_letGoOff_22 : decode cX0_letGoOff 22 = .ok (.iload_n 1, 1) := by decide +kernel
theorem dX0_letGoOff_23 : decode cX0_letGoOff 23 = .ok (.if_icmp .eq 4, 3) := by decide +kernel
theorem dX0_letGoOff_26 : decode cX0_letGoOff 26 = .ok (.return_, 1) := by decide +kernel
theorem dX0_letGoOff_27 : decode cX0_letGoOff 27 = .ok (.aload_n 0, 1) := by decide +kernel
theorem dX0_letGoOff_28 : decode cX0_letGoOff 28 = .ok (.iload_n 1, 1) := by decide +kernel
theorem dX0_letGoOff_29 : decode cX0_letGoOff 29 = .ok (.iconst 0, 1) := by decide +kernel
theorem dX0_letGoOff_30 : decode cX0_letGoOff 30 = .ok (.invokevirtual 76, 3) := by decide +kernel
theorem dX0_letGoOff_33 : decode cX0_letGoOff 33 = .ok (.istore 4, 2) := by decide +kernel
theorem dX0_letGoOff_35 : decode cX0_letGoOff 35 = .ok (.iload 4, 2) := by decide +kernel
theorem dX0_letGoOff_37 : decode cX0_letGoOff 37 = .ok (.iconst (-1), 1) := by decide +kernel
theorem dX0_letGoOff_38 : decode cX0_letGoOff 38 = .ok (.if_icmp .ne 22, 3) := by decide +kernel
theorem dX0_letGoOff_41 : decode cX0_letGoOff 41 = .ok (.aload_n 0, 1) := by decide +kernel
theorem dX0_letGoOff_42 : decode cX0_letGoOff 42 = .ok (.getfield 46, 3) := by decide +kernel
theorem dX0_letGoOff_45 : decode cX0_letGoOff 45 = .ok (.iload_n 3, 1) := by decide +kernel
theorem dX0_letGoOff_46 : decode cX0_letGoOff 46 = .ok (.aload_n 0, 1) := by decide +kernel
theorem dX0_letGoOff_47 : decode cX0_letGoOff 47 = .ok (.getfield 46, 3) := by decide +kernel
theorem dX0_letGoOff_50 : decode cX0_letGoOff 50 = .ok (.iload_n 3, 1) := by decide +kernel
theorem dX0_letGoOff_51 : decode cX0_letGoOff 51 = .ok (.invokestatic 100, 3) := by decide +kernel
theorem dX0_letGoOff_54 : decode cX0_letGoOff 54 = .ok (.iconst 1, 1) := by decide +kernel
theorem dX0_letGoOff_55 : decode cX0_letGoOff 55 = .ok (.iadd, 1) := by decide +kernel
theorem dX0_letGoOff_56 : decode cX0_letGoOff 56 = .ok (.invokestatic 72, 3) := by decide +kernel
theorem dX0_letGoOff_59 : decode cX0_letGoOff 59 = .ok (.return_, 1) := by decide +kernel
theorem dX0_letGoOff_60 : decode cX0_letGoOff 60 = .ok (.aload_n 0, 1) := by decide +kernel
theorem dX0_letGoOff_61 : decode cX0_letGoOff 61 = .ok (.getfield 15, 3) := by decide +kernel
theorem dX0_letGoOff_64 : decode cX0_letGoOff 64 = .ok (.iload_n 2, 1) := by decide +kernel
theorem dX0_letGoOff_65 : decode cX0_letGoOff 65 = .ok (.iconst (-1), 1) := by decide +kernel
theorem dX0_letGoOff_66 : decode cX0_letGoOff 66 = .ok (.invokestatic 72, 3) := by decide +kernel
theorem dX0_letGoOff_69 : decode cX0_letGoOff 69 = .ok (.aload_n 0, 1) := by decide +kernel
theorem dX0_letGoOff_70 : decode cX0_letGoOff 70 = .ok (.getfield 19, 3) := by decide +kernel
theorem dX0_letGoOff_73 : decode cX0_letGoOff 73 = .ok (.iload 4, 2) := by decide +kernel
theorem dX0_letGoOff_75 : decode cX0_letGoOff 75 = .ok (.iload_n 3, 1) := by decide +kernel
theorem dX0_letGoOff_76 : decode cX0_letGoOff 76 = .ok (.invokestatic 72, 3) := by decide +kernel
theorem dX0_letGoOff_79 : decode cX0_letGoOff 79 = .ok (.aload_n 0, 1) := by decide +kernel
theorem dX0_letGoOff_80 : decode cX0_letGoOff 80 = .ok (.iload_n 3, 1) := by decide +kernel
theorem dX0_letGoOff_81 : decode cX0_letGoOff 81 = .ok (.iconst (-1), 1) := by decide +kernel
theorem dX0_letGoOff_82 : decode cX0_letGoOff 82 = .ok (.invokevirtual 119, 3) := by decide +kernel
theorem dX0_letGoOff_85 : decode cX0_letGoOff 85 = .ok (.aload_n 0, 1) := by decide +kernel
theorem dX0_letGoOff_86 : decode cX0_letGoOff 86 = .ok (.getfield 43, 3) := by decide +kernel
theorem dX0_letGoOff_89 : decode cX0_letGoOff 89 = .ok (.iload_n 3, 1) := by decide +kernel
theorem dX0_letGoOff_90 : decode cX0_letGoOff 90 = .ok (.invokestatic 100, 3) := by decide +kernel
theorem dX0_letGoOff_93 : decode cX0_letGoOff 93 = .ok (.iconst (-1), 1) := by decide +kernel
theorem dX0_letGoOff_94 : decode cX0_letGoOff 94 = .ok (.if_icmp .eq 30, 3) := by decide +kernel
theorem dX0_letGoOff_97 : decode cX0_letGoOff 97 = .ok (.aload_n 0, 1) := by decide +kernel
theorem dX0_letGoOff_98 : decode cX0_letGoOff 98 = .ok (.getfield 43, 3) := by decide +kernel
theorem dX0_letGoOff_101 : decode cX0_letGoOff 101 = .ok (.iload_n 3, 1) := by decide +kernel
theorem dX0_letGoOff_102 : decode cX0_letGoOff 102 = .ok (.iconst (-1), 1) := by decide +kernel
theorem dX0_letGoOff_103 : decode cX0_letGoOff 103 = .ok (.invokestatic 72, 3) := by decide +kernel
theorem dX0_letGoOff_106 : decode cX0_letGoOff 106 = .ok (.aload_n 0, 1) := by decide +kernel
theorem dX0_letGoOff_107 : decode cX0_letGoOff 107 = .ok (.getfield 25, 3) := by decide +kernel
theorem dX0_letGoOff_110 : decode cX0_letGoOff 110 = .ok (.iload_n 1, 1) := by decide +kernel
theorem dX0_letGoOff_111 : decode cX0_letGoOff 111 = .ok (.aload_n 0, 1) := by decide +kernel
theorem dX0_letGoOff_112 : decode cX0_letGoOff 112 = .ok (.getfield 25, 3) := by decide +kernel
theorem dX0_letGoOff_115 : decode cX0_letGoOff 115 = .ok (.iload_n 1, 1) := by decide +kernel
theorem dX0_letGoOff_116 : decode cX0_letGoOff 116 = .ok (.invokestatic 100, 3) := by decide +kernel
theorem dX0_letGoOff_119 : decode cX0_letGoOff 119 = .ok (.iconst 1, 1) := by decide +kernel
theorem dX0_letGoOff_120 : decode cX0_letGoOff 120 = .ok (.iadd, 1) := by decide +kernel
theorem dX0_letGoOff_121 : decode cX0_letGoOff 121 = .ok (.invokestatic 72, 3) := by decide +kernel
theorem dX0_letGoOff_124 : decode cX0_letGoOff 124 = .ok (.return_, 1) := by decide +kernel
set_option maxRecDepth 20000 in
theorem ggX0_letBoard_X0_waitingAt : GoodIn wsX0_letBoard wsX0_waitingAt := goodIn_r _ [6, 7, 8, 9, 10, 11, 12, 13, 5, 14, 41, 42, 43, 44, 45, 46, 47, 48, 49, 50, 51, 52, 53, 54, 55, 56, 57] (by decide +kernel) (by decide +kernel)
set_option maxRecDepth 20000 in
theorem gX0_letBoard_X0_waitingAt : GoodIn wsX0_letBoard (wsV RX0 80 RX0 yX0_waitingAt wsX0_waitingAt) := goodIn_app (goodIn_of _ (by decide +kernel)) ggX0_letBoard_X0_waitingAt
set_option maxRecDepth 20000 in
theorem ggX0_letBoard_X0_berthHolds : GoodIn wsX0_letBoard wsX0_berthHolds := goodIn_r _ [18, 1, 19, 12, 13, 5, 14, 41, 42, 43, 44, 45, 46, 47, 48, 49, 50, 51, 52, 53, 54, 55, 56, 57] (by decide +kernel) (by decide +kernel)
set_option maxRecDepth 20000 in
theorem gX0_letBoard_X0_berthHolds : GoodIn wsX0_letBoard (wsV RX0 123 RX0 yX0_berthHolds wsX0_berthHolds) := goodIn_app (goodIn_of _ (by decide +kernel)) ggX0_letBoard_X0_berthHolds
set_option maxRecDepth 20000 in
theorem ggX0_letBoard_X0_read : GoodIn wsX0_letBoard wsX0_read := goodIn_r _ [14] (by decide +kernel) (by decide +kernel)
set_option maxRecDepth 20000 in
theorem gX0_letBoard_X0_read : GoodIn wsX0_letBoard (va_wsS RX0 100 yX0_read wsX0_read) := goodIn_app (goodIn_of _ (by decide +kernel)) ggX0_letBoard_X0_read
set_option maxRecDepth 20000 in
theorem ggX0_letBoard_X0_boardFirst : GoodIn wsX0_letBoard wsX0_boardFirst := goodIn_r _ [23, 24, 25, 26, 27, 28, 7, 12, 13, 5, 14, 29, 30, 31, 32, 33, 34, 35, 19, 36, 37, 38, 39, 40, 2, 3, 4, 6, 8, 9, 10, 11, 41, 42, 43, 44, 45, 46, 47, 48, 49, 50, 51, 52, 53, 54, 55, 56, 57] (by decide +kernel) (by decide +kernel)
set_option maxRecDepth 20000 in
theorem gX0_letBoard_X0_boardFirst : GoodIn wsX0_letBoard (wsV RX0 126 RX0 yX0_boardFirst wsX0_boardFirst) := goodIn_app (goodIn_of _ (by decide +kernel)) ggX0_letBoard_X0_boardFirst
theorem dX0_letBoard_0 : decode cX0_letBoard 0 = .ok (.iload_n 1, 1) := by decide +kernel
theorem dX0_letBoard_1 : decode cX0_letBoard 1 = .ok (.iconst 3, 1) := by decide +kernel
theorem dX0_letBoard_2 : decode cX0_letBoard 2 = .ok (.imul, 1) := by decide +kernel
theorem dX0_letBoard_3 : decode cX0_letBoard 3 = .ok (.istore_n 2, 1) := by decide +kernel
theorem dX0_letBoard_4 : decode cX0_letBoard 4 = .ok (.iload_n 2, 1) := by decide +kernel
theorem dX0_letBoard_5 : decode cX0_letBoard 5 = .ok (.iload_n 1, 1) := by decide +kernel
theorem dX0_letBoard_6 : decode cX0_letBoard 6 = .ok (.iconst 1, 1) := by decide +kernel
theorem dX0_letBoard_7 : decode cX0_letBoard 7 = .ok (.iadd, 1) := by decide +kernel
theorem dX0_letBoard_8 : decode cX0_letBoard 8 = .ok (.iconst 3, 1) := by decide +kernel
theorem dX0_letBoard_9 : decode cX0_letBoard 9 = .ok (.imul, 1) := by decide +kernel
theorem dX0_letBoard_10 : decode cX0_letBoard 10 = .ok (.if_icmp .ge 39, 3) := by decide +kernel
theorem dX0_letBoard_13 : decode cX0_letBoard 13 = .ok (.aload_n 0, 1) := by decide +kernel
theorem dX0_letBoard_14 : decode cX0_letBoard 14 = .ok (.iload_n 1, 1) := by decide +kernel
theorem dX0_letBoard_15 : decode cX0_letBoard 15 = .ok (.invokevirtual 80, 3) := by decide +kernel
theorem dX0_letBoard_18 : decode cX0_letBoard 18 = .ok (.ifCond .le 25, 3) := by decide +kernel
theorem dX0_letBoard_21 : decode cX0_letBoard 21 = .ok (.aload_n 0, 1) := by decide +kernel
theorem dX0_letBoard_22 : decode cX0_letBoard 22 = .ok (.iload_n 2, 1) := by decide +kernel
theorem dX0_letBoard_23 : decode cX0_letBoard 23 = .ok (.invokevirtual 123, 3) := by decide +kernel
theorem dX0_letBoard_26 : decode cX0_letBoard 26 = .ok (.iconst 1, 1) := by decide +kernel
theorem dX0_letBoard_27 : decode cX0_letBoard 27 = .ok (.if_icmp .ne 16, 3) := by decide +kernel
theorem dX0_letBoard_30 : decode cX0_letBoard 30 = .ok (.aload_n 0, 1) := by decide +kernel
theorem dX0_letBoard_31 : decode cX0_letBoard 31 = .ok (.iload_n 1, 1) := by decide +kernel
theorem dX0_letBoard_32 : decode cX0_letBoard 32 = .ok (.aload_n 0, 1) := by decide +kernel
theorem dX0_letBoard_33 : decode cX0_letBoard 33 = .ok (.getfield 19, 3) := by decide +kernel
theorem dX0_letBoard_36 : decode cX0_letBoard 36 = .ok (.iload_n 2, 1) := by decide +kernel
theorem dX0_letBoard_37 : decode cX0_letBoard 37 = .ok (.invokestatic 100, 3) := by decide +kernel
theorem dX0_letBoard_40 : decode cX0_letBoard 40 = .ok (.invokevirtual 126, 3) := by decide +kernel
theorem dX0_letBoard_43 : decode cX0_letBoard 43 = .ok (.iinc 2 1, 3) := by decide +kernel
theorem dX0_letBoard_46 : decode cX0_letBoard 46 = .ok (.goto (-42), 3) := by decide +kernel
theorem dX0_letBoard_49 : decode cX0_letBoard 49 = .ok (.return_, 1) := by decide +kernel
set_option maxRecDepth 20000 in
theorem ggX0_boardFirst_X0_read : GoodIn wsX0_boardFirst wsX0_read := goodIn_r _ [10] (by decide +kernel) (by decide +kernel)
set_option maxRecDepth 20000 in
theorem gX0_boardFirst_X0_read : GoodIn wsX0_boardFirst (va_wsS RX0 100 yX0_read wsX0_read) := goodIn_app (goodIn_of _ (by decide +kernel)) ggX0_boardFirst_X0_read
set_option maxRecDepth 20000 in
theorem ggX0_boardFirst_X0_write : GoodIn wsX0_boardFirst wsX0_write := goodIn_r _ [13] (by decide +kernel) (by decide +kernel)
set_option maxRecDepth 20000 in
theorem gX0_boardFirst_X0_write : GoodIn wsX0_boardFirst (va_wsS RX0 72 yX0_write wsX0_write) := goodIn_app (goodIn_of _ (by decide +kernel)) ggX0_boardFirst_X0_write
set_option maxRecDepth 20000 in
theorem ggX0_boardFirst_X0_setGoal : GoodIn wsX0_boardFirst wsX0_setGoal := goodIn_r _ [17, 18, 11, 12, 9, 13, 32, 33, 34, 35, 36, 37, 38, 39, 40, 41, 42, 43, 44, 45, 46, 47, 48] (by decide +kernel) (by decide +kernel)
set_option maxRecDepth 20000 in
theorem gX0_boardFirst_X0_setGoal : GoodIn wsX0_boardFirst (wsV RX0 119 RX0 yX0_setGoal wsX0_setGoal) := goodIn_app (goodIn_of _ (by decide +kernel)) ggX0_boardFirst_X0_setGoal
set_option maxRecDepth 20000 in
theorem ggX0_boardFirst_X0_waitedBy : GoodIn wsX0_boardFirst wsX0_waitedBy := goodIn_r _ [22, 23, 5, 7, 8, 9, 10, 32, 33, 34, 35, 36, 37, 38, 39, 40, 41, 42, 43, 44, 45, 46, 47, 48] (by decide +kernel) (by decide +kernel)
set_option maxRecDepth 20000 in
theorem gX0_boardFirst_X0_waitedBy : GoodIn wsX0_boardFirst (wsV RX0 129 RX0 yX0_waitedBy wsX0_waitedBy) := goodIn_app (goodIn_of _ (by decide +kernel)) ggX0_boardFirst_X0_waitedBy
set_option maxRecDepth 20000 in
theorem ggX0_boardFirst_X0_waitingAt : GoodIn wsX0_boardFirst wsX0_waitingAt := goodIn_r _ [27, 6, 28, 29, 30, 31, 7, 8, 9, 10, 32, 33, 34, 35, 36, 37, 38, 39, 40, 41, 42, 43, 44, 45, 46, 47, 48] (by decide +kernel) (by decide +kernel)
set_option maxRecDepth 20000 in
theorem gX0_boardFirst_X0_waitingAt : GoodIn wsX0_boardFirst (wsV RX0 80 RX0 yX0_waitingAt wsX0_waitingAt) := goodIn_app (goodIn_of _ (by decide +kernel)) ggX0_boardFirst_X0_waitingAt
theorem dX0_boardFirst_0 : decode cX0_boardFirst 0 = .ok (.iload_n 1, 1) := by decide +kernel
theorem dX0_boardFirst_1 : decode cX0_boardFirst 1 = .ok (.bipush 9, 2) := by decide +kernel
theorem dX0_boardFirst_3 : decode cX0_boardFirst 3 = .ok (.imul, 1) := by decide +kernel
theorem dX0_boardFirst_4 : decode cX0_boardFirst 4 = .ok (.istore_n 3, 1) := by decide +kernel
theorem dX0_boardFirst_5 : decode cX0_boardFirst 5 = .ok (.aload_n 0, 1) := by decide +kernel
theorem dX0_boardFirst_6 : decode cX0_boardFirst 6 = .ok (.getfield 43, 3) := by decide +kernel
theorem dX0_boardFirst_9 : decode cX0_boardFirst 9 = .ok (.iload_n 2, 1) := by decide +kernel
theorem dX0_boardFirst_10 : decode cX0_boardFirst 10 = .ok (.aload_n 0, 1) := by decide +kernel
theorem dX0_boardFirst_11 : decode cX0_boardFirst 11 = .ok (.getfield 31, 3) := by decide +kernel
theorem dX0_boardFirst_14 : decode cX0_boardFirst 14 = .ok (.iload_n 3, 1) := by decide +kernel
theorem dX0_boardFirst_15 : decode cX0_boardFirst 15 = .ok (.invokestatic 100, 3) := by decide +kernel
theorem dX0_boardFirst_18 : decode cX0_boardFirst 18 = .ok (.invokestatic 72, 3) := by decide +kernel
theorem dX0_boardFirst_21 : decode cX0_boardFirst 21 = .ok (.aload_n 0, 1) := by decide +kernel
theorem dX0_boardFirst_22 : decode cX0_boardFirst 22 = .ok (.iload_n 2, 1) := by decide +kernel
theorem dX0_boardFirst_23 : decode cX0_boardFirst 23 = .ok (.aload_n 0, 1) := by decide +kernel
theorem dX0_boardFirst_24 : decode cX0_boardFirst 24 = .ok (.getfield 34, 3) := by decide +kernel
theorem dX0_boardFirst_27 : decode cX0_boardFirst 27 = .ok (.iload_n 3, 1) := by decide +kernel
theorem dX0_boardFirst_28 : decode cX0_boardFirst 28 = .ok (.invokestatic 100, 3) := by decide +kernel
theorem dX0_boardFirst_31 : decode cX0_boardFirst 31 = .ok (.invokevirtual 119, 3) := by decide +kernel
theorem dX0_boardFirst_34 : decode cX0_boardFirst 34 = .ok (.aload_n 0, 1) := by decide +kernel
theorem dX0_boardFirst_35 : decode cX0_boardFirst 35 = .ok (.dup, 1) := by decide +kernel
theorem dX0_boardFirst_36 : decode cX0_boardFirst 36 = .ok (.getfield 65, 3) := by decide +kernel
theorem dX0_boardFirst_39 : decode cX0_boardFirst 39 = .ok (.aload_n 0, 1) := by decide +kernel
theorem dX0_boardFirst_40 : decode cX0_boardFirst 40 = .ok (.iload_n 1, 1) := by decide +kernel
theorem dX0_boardFirst_41 : decode cX0_boardFirst 41 = .ok (.iconst 0, 1) := by decide +kernel
theorem dX0_boardFirst_42 : decode cX0_boardFirst 42 = .ok (.invokevirtual 129, 3) := by decide +kernel
theorem dX0_boardFirst_45 : decode cX0_boardFirst 45 = .ok (.iadd, 1) := by decide +kernel
theorem dX0_boardFirst_46 : decode cX0_boardFirst 46 = .ok (.putfield 65, 3) := by decide +kernel
theorem dX0_boardFirst_49 : decode cX0_boardFirst 49 = .ok (.aload_n 0, 1) := by decide +kernel
theorem dX0_boardFirst_50 : decode cX0_boardFirst 50 = .ok (.iload_n 1, 1) := by decide +kernel
theorem dX0_boardFirst_51 : decode cX0_boardFirst 51 = .ok (.invokevirtual 80, 3) := by decide +kernel
theorem dX0_boardFirst_54 : decode cX0_boardFirst 54 = .ok (.iconst 1, 1) := by decide +kernel
theorem dX0_boardFirst_55 : decode cX0_boardFirst 55 = .ok (.isub, 1) := by decide +kernel
theorem dX0_boardFirst_56 : decode cX0_boardFirst 56 = .ok (.istore 4, 2) := by decide +kernel
theorem dX0_boardFirst_58 : decode cX0_boardFirst 58 = .ok (.iload_n 3, 1) := by decide +kernel
theorem dX0_boardFirst_59 : decode cX0_boardFirst 59 = .ok (.istore 5, 2) := by decide +kernel
theorem dX0_boardFirst_61 : decode cX0_boardFirst 61 = .ok (.iload 5, 2) := by decide +kernel
theorem dX0_boardFirst_63 : decode cX0_boardFirst 63 = .ok (.iload_n 3, 1) := by decide +kernel
theorem dX0_boardFirst_64 : decode cX0_boardFirst 64 = .ok (.iload 4, 2) := by decide +kernel
theorem dX0_boardFirst_66 : decode cX0_boardFirst 66 = .ok (.iadd, 1) := by decide +kernel
theorem dX0_boardFirst_67 : decode cX0_boardFirst 67 = .ok (.if_icmp .ge 69, 3) := by decide +kernel
theorem dX0_boardFirst_70 : decode cX0_boardFirst 70 = .ok (.aload_n 0, 1) := by decide +kernel
theorem dX0_boardFirst_71 : decode cX0_boardFirst 71 = .ok (.getfield 31, 3) := by decide +kernel
theorem dX0_boardFirst_74 : decode cX0_boardFirst 74 = .ok (.iload 5, 2) := by decide +kernel
theorem dX0_boardFirst_76 : decode cX0_boardFirst 76 = .ok (.aload_n 0, 1) := by decide +kernel
theorem dX0_boardFirst_77 : decode cX0_boardFirst 77 = .ok (.getfield 31, 3) := by decide +kernel
theorem dX0_boardFirst_80 : decode cX0_boardFirst 80 = .ok (.iload 5, 2) := by decide +kernel
theorem dX0_boardFirst_82 : decode cX0_boardFirst 82 = .ok (.iconst 1, 1) := by decide +kernel
theorem dX0_boardFirst_83 : decode cX0_boardFirst 83 = .ok (.iadd, 1) := by decide +kernel
theorem dX0_boardFirst_84 : decode cX0_boardFirst 84 = .ok (.invokestatic 100, 3) := by decide +kernel
theorem dX0_boardFirst_87 : decode cX0_boardFirst 87 = .ok (.invokestatic 72, 3) := by decide +kernel
theorem dX0_boardFirst_90 : decode cX0_boardFirst 90 = .ok (.aload_n 0, 1) := by decide +kernel
theorem dX0_boardFirst_91 : decode cX0_boardFirst 91 = .ok (.getfield 34, 3) := by decide +kernel
theorem dX0_boardFirst_94 : decode cX0_boardFirst 94 = .ok (.iload 5, 2) := by decide +kernel
theorem dX0_boardFirst_96 : decode cX0_boardFirst 96 = .ok (.aload_n 0, 1) := by decide +kernel
theorem dX0_boardFirst_97 : decode cX0_boardFirst 97 = .ok (.getfield 34, 3) := by decide +kernel
theorem dX0_boardFirst_100 : decode cX0_boardFirst 100 = .ok (.iload 5, 2) := by decide +kernel
theorem dX0_boardFirst_102 : decode cX0_boardFirst 102 = .ok (.iconst 1, 1) := by decide +kernel
theorem dX0_boardFirst_103 : decode cX0_boardFirst 103 = .ok (.iadd, 1) := by decide +kernel
theorem dX0_boardFirst_104 : decode cX0_boardFirst 104 = .ok (.invokestatic 100, 3) := by decide +kernel
theorem dX0_boardFirst_107 : decode cX0_boardFirst 107 = .ok (.invokestatic 72, 3) := by decide +kernel
theorem dX0_boardFirst_110 : decode cX0_boardFirst 110 = .ok (.aload_n 0, 1) := by decide +kernel
theorem dX0_boardFirst_111 : decode cX0_boardFirst 111 = .ok (.getfield 37, 3) := by decide +kernel
theorem dX0_boardFirst_114 : decode cX0_boardFirst 114 = .ok (.iload 5, 2) := by decide +kernel
theorem dX0_boardFirst_116 : decode cX0_boardFirst 116 = .ok (.aload_n 0, 1) := by decide +kernel
theorem dX0_boardFirst_117 : decode cX0_boardFirst 117 = .ok (.getfield 37, 3) := by decide +kernel
theorem dX0_boardFirst_120 : decode cX0_boardFirst 120 = .ok (.iload 5, 2) := by decide +kernel
theorem dX0_boardFirst_122 : decode cX0_boardFirst 122 = .ok (.iconst 1, 1) := by decide +kernel
theorem dX0_boardFirst_123 : decode cX0_boardFirst 123 = .ok (.iadd, 1) := by decide +kernel
theorem dX0_boardFirst_124 : decode cX0_boardFirst 124 = .ok (.invokestatic 100, 3) := by decide +kernel
theorem dX0_boardFirst_127 : decode cX0_boardFirst 127 = .ok (.invokestatic 72, 3) := by decide +kernel
theorem dX0_boardFirst_130 : decode cX0_boardFirst 130 = .ok (.iinc 5 1, 3) := by decide +kernel
theorem dX0_boardFirst_133 : decode cX0_boardFirst 133 = .ok (.goto (-72), 3) := by decide +kernel
theorem dX0_boardFirst_136 : decode cX0_boardFirst 136 = .ok (.aload_n 0, 1) := by decide +kernel
theorem dX0_boardFirst_137 : decode cX0_boardFirst 137 = .ok (.getfield 28, 3) := by decide +kernel
theorem dX0_boardFirst_140 : decode cX0_boardFirst 140 = .ok (.iload_n 1, 1) := by decide +kernel
theorem dX0_boardFirst_141 : decode cX0_boardFirst 141 = .ok (.iload 4, 2) := by decide +kernel
theorem dX0_boardFirst_143 : decode cX0_boardFirst 143 = .ok (.invokestatic 72, 3) := by decide +kernel
theorem dX0_boardFirst_146 : decode cX0_boardFirst 146 = .ok (.return_, 1) := by decide +kernel
set_option maxRecDepth 20000 in
theorem ggX0_letCall_X0_waitingAt : GoodIn wsX0_letCall wsX0_waitingAt := goodIn_r _ [7, 8, 9, 10, 11, 12, 13, 14, 6, 15, 60, 61, 62, 63, 64, 65, 66, 67, 68, 69, 70, 71, 72, 73, 74, 75, 76] (by decide +kernel) (by decide +kernel)
set_option maxRecDepth 20000 in
theorem gX0_letCall_X0_waitingAt : GoodIn wsX0_letCall (wsV RX0 80 RX0 yX0_waitingAt wsX0_waitingAt) := goodIn_app (goodIn_of _ (by decide +kernel)) ggX0_letCall_X0_waitingAt
set_option maxRecDepth 20000 in
theorem ggX0_letCall_X0_emptyPodsTo : GoodIn wsX0_letCall wsX0_emptyPodsTo := goodIn_r _ [19, 20, 21, 22, 23, 24, 6, 25, 26, 13, 14, 15, 60, 61, 62, 63, 64, 65, 66, 67, 68, 69, 70, 71, 72, 73, 74, 75, 76] (by decide +kernel) (by decide +kernel)
set_option maxRecDepth 20000 in
theorem gX0_letCall_X0_emptyPodsTo : GoodIn wsX0_letCall (wsV RX0 132 RX0 yX0_emptyPodsTo wsX0_emptyPodsTo) := goodIn_app (goodIn_of _ (by decide +kernel)) ggX0_letCall_X0_emptyPodsTo
set_option maxRecDepth 20000 in
theorem ggX0_letCall_X0_stationThatAnswers : GoodIn wsX0_letCall wsX0_stationThatAnswers := goodIn_r _ [30, 31, 32, 33, 34, 6, 35, 36, 37, 38, 39, 40, 13, 14, 15, 41, 42, 43, 44, 3, 4, 5, 7, 8, 9, 10, 11, 12, 45, 46, 47, 48, 49, 50, 51, 52, 1, 26, 60, 61, 62, 63, 64, 65, 66, 67, 68, 69, 70, 71, 72, 73, 74, 75, 76] (by decide +kernel) (by decide +kernel)
set_option maxRecDepth 20000 in
theorem gX0_letCall_X0_stationThatAnswers : GoodIn wsX0_letCall (wsV RX0 135 RX0 yX0_stationThatAnswers wsX0_stationThatAnswers) := goodIn_app (goodIn_of _ (by decide +kernel)) ggX0_letCall_X0_stationThatAnswers
set_option maxRecDepth 20000 in
theorem ggX0_letCall_X0_firstBerth : GoodIn wsX0_letCall wsX0_firstBerth := goodIn_r _ [48, 49, 50, 51, 6, 52, 1, 26, 13, 14, 15, 60, 61, 62, 63, 64, 65, 66, 67, 68, 69, 70, 71, 72, 73, 74, 75, 76] (by decide +kernel) (by decide +kernel)
set_option maxRecDepth 20000 in
theorem gX0_letCall_X0_firstBerth : GoodIn wsX0_letCall (wsV RX0 76 RX0 yX0_firstBerth wsX0_firstBerth) := goodIn_app (goodIn_of _ (by decide +kernel)) ggX0_letCall_X0_firstBerth
set_option maxRecDepth 20000 in
theorem ggX0_letCall_X0_read : GoodIn wsX0_letCall wsX0_read := goodIn_r _ [15] (by decide +kernel) (by decide +kernel)
set_option maxRecDepth 20000 in
theorem gX0_letCall_X0_read : GoodIn wsX0_letCall (va_wsS RX0 100 yX0_read wsX0_read) := goodIn_app (goodIn_of _ (by decide +kernel)) ggX0_letCall_X0_read
set_option maxRecDepth 20000 in
theorem ggX0_letCall_X0_setGoal : GoodIn wsX0_letCall wsX0_setGoal := goodIn_r _ [56, 26, 57, 58, 6, 59, 60, 61, 62, 63, 64, 65, 66, 67, 68, 69, 70, 71, 72, 73, 74, 75, 76] (by decide +kernel) (by decide +kernel)
set_option maxRecDepth 20000 in
theorem gX0_letCall_X0_setGoal : GoodIn wsX0_letCall (wsV RX0 119 RX0 yX0_setGoal wsX0_setGoal) := goodIn_app (goodIn_of _ (by decide +kernel)) ggX0_letCall_X0_setGoal
theorem dX0_letCall_0 : decode cX0_letCall 0 = .ok (.aload_n 0, 1) := by decide +kernel
theorem dX0_letCall_1 : decode cX0_letCall 1 = .ok (.iload_n 1, 1) := by decide +kernel
theorem dX0_letCall_2 : decode cX0_letCall 2 = .ok (.invokevirtual 80, 3) := by decide +kernel
theorem dX0_letCall_5 : decode cX0_letCall 5 = .ok (.aload_n 0, 1) := by decide +kernel
theorem dX0_letCall_6 : decode cX0_letCall 6 = .ok (.iload_n 1, 1) := by decide +kernel
theorem dX0_letCall_7 : decode cX0_letCall 7 = .ok (.invokevirtual 132, 3) := by decide +kernel
theorem dX0_letCall_10 : decode cX0_letCall 10 = .ok (.if_icmp .gt 4, 3) := by decide +kernel
theorem dX0_letCall_13 : decode cX0_letCall 13 = .ok (.return_, 1) := by decide +kernel
theorem dX0_letCall_14 : decode cX0_letCall 14 = .ok (.aload_n 0, 1) := by decide +kernel
theorem dX0_letCall_15 : decode cX0_letCall 15 = .ok (.iload_n 1, 1) := by decide +kernel
theorem dX0_letCall_16 : decode cX0_letCall 16 = .ok (.invokevirtual 135, 3) := by decide +kernel
theorem dX0_letCall_19 : decode cX0_letCall 19 = .ok (.istore_n 2, 1) := by decide +kernel
theorem dX0_letCall_20 : decode cX0_letCall 20 = .ok (.iload_n 2, 1) := by decide +kernel
theorem dX0_letCall_21 : decode cX0_letCall 21 = .ok (.iconst (-1), 1) := by decide +kernel
theorem dX0_letCall_22 : decode cX0_letCall 22 = .ok (.if_icmp .ne 4, 3) := by decide +kernel
theorem dX0_letCall_25 : decode cX0_letCall 25 = .ok (.return_, 1) := by decide +kernel
theorem dX0_letCall_26 : decode cX0_letCall 26 = .ok (.aload_n 0, 1) := by decide +kernel
theorem dX0_letCall_27 : decode cX0_letCall 27 = .ok (.getfield 19, 3) := by decide +kernel
theorem dX0_letCall_30 : decode cX0_letCall 30 = .ok (.aload_n 0, 1) := by decide +kernel
theorem dX0_letCall_31 : decode cX0_letCall 31 = .ok (.iload_n 2, 1) := by decide +kernel
theorem dX0_letCall_32 : decode cX0_letCall 32 = .ok (.iconst 1, 1) := by decide +kernel
theorem dX0_letCall_33 : decode cX0_letCall 33 = .ok (.invokevirtual 76, 3) := by decide +kernel
theorem dX0_letCall_36 : decode cX0_letCall 36 = .ok (.invokestatic 100, 3) := by decide +kernel
theorem dX0_letCall_39 : decode cX0_letCall 39 = .ok (.istore_n 3, 1) := by decide +kernel
theorem dX0_letCall_40 : decode cX0_letCall 40 = .ok (.aload_n 0, 1) := by decide +kernel
theorem dX0_letCall_41 : decode cX0_letCall 41 = .ok (.iload_n 3, 1) := by decide +kernel
theorem dX0_letCall_42 : decode cX0_letCall 42 = .ok (.iload_n 1, 1) := by decide +kernel
theorem dX0_letCall_43 : decode cX0_letCall 43 = .ok (.invokevirtual 119, 3) := by decide +kernel
theorem dX0_letCall_46 : decode cX0_letCall 46 = .ok (.aload_n 0, 1) := by decide +kernel
theorem dX0_letCall_47 : decode cX0_letCall 47 = .ok (.dup, 1) := by decide +kernel
theorem dX0_letCall_48 : decode cX0_letCall 48 = .ok (.getfield 62, 3) := by decide +kernel
theorem dX0_letCall_51 : decode cX0_letCall 51 = .ok (.iconst 1, 1) := by decide +kernel
theorem dX0_letCall_52 : decode cX0_letCall 52 = .ok (.iadd, 1) := by decide +kernel
theorem dX0_letCall_53 : decode cX0_letCall 53 = .ok (.putfield 62, 3) := by decide +kernel
theorem dX0_letCall_56 : decode cX0_letCall 56 = .ok (.return_, 1) := by decide +kernel
set_option maxRecDepth 20000 in
theorem ggX0_letMerge_X0_placeOf : GoodIn wsX0_letMerge wsX0_placeOf := goodIn_r _ [7, 8, 9, 10, 6, 11, 28, 29, 30, 31, 32, 33, 34, 35, 36, 37, 38, 39, 40, 41, 42, 43, 44] (by decide +kernel) (by decide +kernel)
set_option maxRecDepth 20000 in
theorem gX0_letMerge_X0_placeOf : GoodIn wsX0_letMerge (wsV RX0 110 RX0 yX0_placeOf wsX0_placeOf) := goodIn_app (goodIn_of _ (by decide +kernel)) ggX0_letMerge_X0_placeOf
set_option maxRecDepth 20000 in
theorem ggX0_letMerge_X0_firstBerth : GoodIn wsX0_letMerge wsX0_firstBerth := goodIn_r _ [15, 16, 17, 18, 6, 19, 2, 20, 9, 10, 11, 28, 29, 30, 31, 32, 33, 34, 35, 36, 37, 38, 39, 40, 41, 42, 43, 44] (by decide +kernel) (by decide +kernel)
set_option maxRecDepth 20000 in
theorem gX0_letMerge_X0_firstBerth : GoodIn wsX0_letMerge (wsV RX0 76 RX0 yX0_firstBerth wsX0_firstBerth) := goodIn_app (goodIn_of _ (by decide +kernel)) ggX0_letMerge_X0_firstBerth
set_option maxRecDepth 20000 in
theorem ggX0_letMerge_X0_podAtPlace : GoodIn wsX0_letMerge wsX0_podAtPlace := goodIn_r _ [24, 1, 9, 10, 6, 11, 28, 29, 30, 31, 32, 33, 34, 35, 36, 37, 38, 39, 40, 41, 42, 43, 44] (by decide +kernel) (by decide +kernel)
set_option maxRecDepth 20000 in
theorem gX0_letMerge_X0_podAtPlace : GoodIn wsX0_letMerge (wsV RX0 113 RX0 yX0_podAtPlace wsX0_podAtPlace) := goodIn_app (goodIn_of _ (by decide +kernel)) ggX0_letMerge_X0_podAtPlace
set_option maxRecDepth 20000 in
theorem ggX0_letMerge_X0_read : GoodIn wsX0_letMerge wsX0_read := goodIn_r _ [11] (by decide +kernel) (by decide +kernel)
set_option maxRecDepth 20000 in
theorem gX0_letMerge_X0_read : GoodIn wsX0_letMerge (va_wsS RX0 100 yX0_read wsX0_read) := goodIn_app (goodIn_of _ (by decide +kernel)) ggX0_letMerge_X0_read
set_option maxRecDepth 20000 in
theorem ggX0_letMerge_X0_write : GoodIn wsX0_letMerge wsX0_write := goodIn_r _ [27] (by decide +kernel) (by decide +kernel)
set_option maxRecDepth 20000 in
theorem gX0_letMerge_X0_write : GoodIn wsX0_letMerge (va_wsS RX0 72 yX0_write wsX0_write) := goodIn_app (goodIn_of _ (by decide +kernel)) ggX0_letMerge_X0_write
theorem dX0_letMerge_0 : decode cX0_letMerge 0 = .ok (.aload_n 0, 1) := by decide +kernel
theorem dX0_letMerge_1 : decode cX0_letMerge 1 = .ok (.iload_n 1, 1) := by decide +kernel
theorem dX0_letMerge_2 : decode cX0_letMerge 2 = .ok (.invokevirtual 110, 3) := by decide +kernel
theorem dX0_letMerge_5 : decode cX0_letMerge 5 = .ok (.istore_n 2, 1) := by decide +kernel
theorem dX0_letMerge_6 : decode cX0_letMerge 6 = .ok (.aload_n 0, 1) := by decide +kernel
theorem dX0_letMerge_7 : decode cX0_letMerge 7 = .ok (.iload_n 1, 1) := by decide +kernel
theorem dX0_letMerge_8 : decode cX0_letMerge 8 = .ok (.iconst 2, 1) := by decide +kernel
theorem dX0_letMerge_9 : decode cX0_letMerge 9 = .ok (.invokevirtual 76, 3) := by decide +kernel
theorem dX0_letMerge_12 : decode cX0_letMerge 12 = .ok (.istore_n 3, 1) := by decide +kernel
theorem dX0_letMerge_13 : decode cX0_letMerge 13 = .ok (.iload_n 3, 1) := by decide +kernel
theorem dX0_letMerge_14 : decode cX0_letMerge 14 = .ok (.iconst (-1), 1) := by decide +kernel
theorem dX0_letMerge_15 : decode cX0_letMerge 15 = .ok (.if_icmp .eq 12, 3) := by decide +kernel
theorem dX0_letMerge_18 : decode cX0_letMerge 18 = .ok (.aload_n 0, 1) := by decide +kernel
theorem dX0_letMerge_19 : decode cX0_letMerge 19 = .ok (.iload_n 2, 1) := by decide +kernel
theorem dX0_letMerge_20 : decode cX0_letMerge 20 = .ok (.invokevirtual 113, 3) := by decide +kernel
theorem dX0_letMerge_23 : decode cX0_letMerge 23 = .ok (.iconst (-1), 1) := by decide +kernel
theorem dX0_letMerge_24 : decode cX0_letMerge 24 = .ok (.if_icmp .eq 4, 3) := by decide +kernel
theorem dX0_letMerge_27 : decode cX0_letMerge 27 = .ok (.return_, 1) := by decide +kernel
theorem dX0_letMerge_28 : decode cX0_letMerge 28 = .ok (.aload_n 0, 1) := by decide +kernel
theorem dX0_letMerge_29 : decode cX0_letMerge 29 = .ok (.getfield 15, 3) := by decide +kernel
theorem dX0_letMerge_32 : decode cX0_letMerge 32 = .ok (.iload_n 2, 1) := by decide +kernel
theorem dX0_letMerge_33 : decode cX0_letMerge 33 = .ok (.aload_n 0, 1) := by decide +kernel
theorem dX0_letMerge_34 : decode cX0_letMerge 34 = .ok (.getfield 19, 3) := by decide +kernel
theorem dX0_letMerge_37 : decode cX0_letMerge 37 = .ok (.iload_n 3, 1) := by decide +kernel
theorem dX0_letMerge_38 : decode cX0_letMerge 38 = .ok (.invokestatic 100, 3) := by decide +kernel
theorem dX0_letMerge_41 : decode cX0_letMerge 41 = .ok (.invokestatic 72, 3) := by decide +kernel
theorem dX0_letMerge_44 : decode cX0_letMerge 44 = .ok (.aload_n 0, 1) := by decide +kernel
theorem dX0_letMerge_45 : decode cX0_letMerge 45 = .ok (.getfield 19, 3) := by decide +kernel
theorem dX0_letMerge_48 : decode cX0_letMerge 48 = .ok (.iload_n 3, 1) := by decide +kernel
theorem dX0_letMerge_49 : decode cX0_letMerge 49 = .ok (.iconst (-1), 1) := by decide +kernel
theorem dX0_letMerge_50 : decode cX0_letMerge 50 = .ok (.invokestatic 72, 3) := by decide +kernel
theorem dX0_letMerge_53 : decode cX0_letMerge 53 = .ok (.return_, 1) := by decide +kernel
set_option maxRecDepth 20000 in
theorem ggX0_stationAtPlace_X0_placeOf : GoodIn wsX0_stationAtPlace wsX0_placeOf := goodIn_r _ [6, 7, 8, 9, 5, 10, 11, 12, 13, 14, 15, 16, 17, 18, 19, 20, 21, 22, 23, 24, 25, 26, 27] (by decide +kernel) (by decide +kernel)
set_option maxRecDepth 20000 in
theorem gX0_stationAtPlace_X0_placeOf : GoodIn wsX0_stationAtPlace (wsV RX0 110 RX0 yX0_placeOf wsX0_placeOf) := goodIn_app (goodIn_of _ (by decide +kernel)) ggX0_stationAtPlace_X0_placeOf
theorem dX0_stationAtPlace_0 : decode cX0_stationAtPlace 0 = .ok (.iconst 0, 1) := by decide +kernel
theorem dX0_stationAtPlace_1 : decode cX0_stationAtPlace 1 = .ok (.istore_n 2, 1) := by decide +kernel
theorem dX0_stationAtPlace_2 : decode cX0_stationAtPlace 2 = .ok (.iload_n 2, 1) := by decide +kernel
theorem dX0_stationAtPlace_3 : decode cX0_stationAtPlace 3 = .ok (.aload_n 0, 1) := by decide +kernel
theorem dX0_stationAtPlace_4 : decode cX0_stationAtPlace 4 = .ok (.getfield 53, 3) := by decide +kernel
theorem dX0_stationAtPlace_7 : decode cX0_stationAtPlace 7 = .ok (.if_icmp .ge 20, 3) := by decide +kernel
theorem dX0_stationAtPlace_10 : decode cX0_stationAtPlace 10 = .ok (.aload_n 0, 1) := by decide +kernel
theorem dX0_stationAtPlace_11 : decode cX0_stationAtPlace 11 = .ok (.iload_n 2, 1) := by decide +kernel
theorem dX0_stationAtPlace_12 : decode cX0_stationAtPlace 12 = .ok (.invokevirtual 110, 3) := by decide +kernel
theorem dX0_stationAtPlace_15 : decode cX0_stationAtPlace 15 = .ok (.iload_n 1, 1) := by decide +kernel
theorem dX0_stationAtPlace_16 : decode cX0_stationAtPlace 16 = .ok (.if_icmp .ne 5, 3) := by decide +kernel
theorem dX0_stationAtPlace_19 : decode cX0_stationAtPlace 19 = .ok (.iload_n 2, 1) := by decide +kernel
theorem dX0_stationAtPlace_20 : decode cX0_stationAtPlace 20 = .ok (.ireturn, 1) := by decide +kernel
theorem dX0_stationAtPlace_21 : decode cX0_stationAtPlace 21 = .ok (.iinc 2 1, 3) := by decide +kernel
theorem dX0_stationAtPlace_24 : decode cX0_stationAtPlace 24 = .ok (.goto (-22), 3) := by decide +kernel
theorem dX0_stationAtPlace_27 : decode cX0_stationAtPlace 27 = .ok (.iconst (-1), 1) := by decide +kernel
theorem dX0_stationAtPlace_28 : decode cX0_stationAtPlace 28 = .ok (.ireturn, 1) := by decide +kernel
set_option maxRecDepth 20000 in
theorem ggX0_stationThatAnswers_X0_placesOn : GoodIn wsX0_stationThatAnswers wsX0_placesOn := goodIn_r _ [6, 7, 8, 9, 5, 10, 11, 12, 13, 14, 15, 16, 17, 18, 38, 39, 40, 41, 42, 43, 44, 45, 46, 47, 48, 49, 50, 51, 52, 53, 54] (by decide +kernel) (by decide +kernel)
set_option maxRecDepth 20000 in
theorem gX0_stationThatAnswers_X0_placesOn : GoodIn wsX0_stationThatAnswers (wsV RX0 138 RX0 yX0_placesOn wsX0_placesOn) := goodIn_app (goodIn_of _ (by decide +kernel)) ggX0_stationThatAnswers_X0_placesOn
set_option maxRecDepth 20000 in
theorem ggX0_stationThatAnswers_X0_waitingAt : GoodIn wsX0_stationThatAnswers wsX0_waitingAt := goodIn_r _ [22, 23, 24, 25, 26, 27, 12, 13, 5, 14, 38, 39, 40, 41, 42, 43, 44, 45, 46, 47, 48, 49, 50, 51, 52, 53, 54] (by decide +kernel) (by decide +kernel)
set_option maxRecDepth 20000 in
theorem gX0_stationThatAnswers_X0_waitingAt : GoodIn wsX0_stationThatAnswers (wsV RX0 80 RX0 yX0_waitingAt wsX0_waitingAt) := goodIn_app (goodIn_of _ (by decide +kernel)) ggX0_stationThatAnswers_X0_waitingAt
set_option maxRecDepth 20000 in
theorem ggX0_stationThatAnswers_X0_firstBerth : GoodIn wsX0_stationThatAnswers wsX0_firstBerth := goodIn_r _ [31, 32, 33, 34, 5, 35, 36, 37, 12, 13, 14, 38, 39, 40, 41, 42, 43, 44, 45, 46, 47, 48, 49, 50, 51, 52, 53, 54] (by decide +kernel) (by decide +kernel)
set_option maxRecDepth 20000 in
theorem gX0_stationThatAnswers_X0_firstBerth : GoodIn wsX0_stationThatAnswers (wsV RX0 76 RX0 yX0_firstBerth wsX0_firstBerth) := goodIn_app (goodIn_of _ (by decide +kernel)) ggX0_stationThatAnswers_X0_firstBerth
theorem dX0_stationThatAnswers_0 : decode cX0_stationThatAnswers 0 = .ok (.iconst (-1), 1) := by decide +kernel
theorem dX0_stationThatAnswers_1 : decode cX0_stationThatAnswers 1 = .ok (.istore_n 2, 1) := by decide +kernel
theorem dX0_stationThatAnswers_2 : decode cX0_stationThatAnswers 2 = .ok (.bipush 24, 2) := by decide +kernel
theorem dX0_stationThatAnswers_4 : decode cX0_stationThatAnswers 4 = .ok (.istore_n 3, 1) := by decide +kernel
theorem dX0_stationThatAnswers_5 : decode cX0_stationThatAnswers 5 = .ok (.iconst 0, 1) := by decide +kernel
theorem dX0_stationThatAnswers_6 : decode cX0_stationThatAnswers 6 = .ok (.istore 4, 2) := by decide +kernel
theorem dX0_stationThatAnswers_8 : decode cX0_stationThatAnswers 8 = .ok (.iload 4, 2) := by decide +kernel
theorem dX0_stationThatAnswers_10 : decode cX0_stationThatAnswers 10 = .ok (.aload_n 0, 1) := by decide +kernel
theorem dX0_stationThatAnswers_11 : decode cX0_stationThatAnswers 11 = .ok (.getfield 53, 3) := by decide +kernel
theorem dX0_stationThatAnswers_14 : decode cX0_stationThatAnswers 14 = .ok (.if_icmp .ge 56, 3) := by decide +kernel
theorem dX0_stationThatAnswers_17 : decode cX0_stationThatAnswers 17 = .ok (.aload_n 0, 1) := by decide +kernel
theorem dX0_stationThatAnswers_18 : decode cX0_stationThatAnswers 18 = .ok (.iload 4, 2) := by decide +kernel
theorem dX0_stationThatAnswers_20 : decode cX0_stationThatAnswers 20 = .ok (.iload_n 1, 1) := by decide +kernel
theorem dX0_stationThatAnswers_21 : decode cX0_stationThatAnswers 21 = .ok (.invokevirtual 138, 3) := by decide +kernel
theorem dX0_stationThatAnswers_24 : decode cX0_stationThatAnswers 24 = .ok (.istore 5, 2) := by decide +kernel
theorem dX0_stationThatAnswers_26 : decode cX0_stationThatAnswers 26 = .ok (.iload 4, 2) := by decide +kernel
theorem dX0_stationThatAnswers_28 : decode cX0_stationThatAnswers 28 = .ok (.iload_n 1, 1) := by decide +kernel
theorem dX0_stationThatAnswers_29 : decode cX0_stationThatAnswers 29 = .ok (.if_icmp .eq 35, 3) := by decide +kernel
theorem dX0_stationThatAnswers_32 : decode cX0_stationThatAnswers 32 = .ok (.iload 5, 2) := by decide +kernel
theorem dX0_stationThatAnswers_34 : decode cX0_stationThatAnswers 34 = .ok (.iload_n 3, 1) := by decide +kernel
theorem dX0_stationThatAnswers_35 : decode cX0_stationThatAnswers 35 = .ok (.if_icmp .ge 29, 3) := by decide +kernel
theorem dX0_stationThatAnswers_38 : decode cX0_stationThatAnswers 38 = .ok (.aload_n 0, 1) := by decide +kernel
theorem dX0_stationThatAnswers_39 : decode cX0_stationThatAnswers 39 = .ok (.iload 4, 2) := by decide +kernel
theorem dX0_stationThatAnswers_41 : decode cX0_stationThatAnswers 41 = .ok (.invokevirtual 80, 3) := by decide +kernel
theorem dX0_stationThatAnswers_44 : decode cX0_stationThatAnswers 44 = .ok (.ifCond .ne 20, 3) := by decide +kernel
theorem dX0_stationThatAnswers_47 : decode cX0_stationThatAnswers 47 = .ok (.aload_n 0, 1) := by decide +kernel
theorem dX0_stationThatAnswers_48 : decode cX0_stationThatAnswers 48 = .ok (.iload 4, 2) := by decide +kernel
theorem dX0_stationThatAnswers_50 : decode cX0_stationThatAnswers 50 = .ok (.iconst 1, 1) := by decide +kernel
theorem dX0_stationThatAnswers_51 : decode cX0_stationThatAnswers 51 = .ok (.invokevirtual 76, 3) := by decide +kernel
theorem dX0_stationThatAnswers_54 : decode cX0_stationThatAnswers 54 = .ok (.iconst (-1), 1) := by decide +kernel
theorem dX0_stationThatAnswers_55 : decode cX0_stationThatAnswers 55 = .ok (.if_icmp .eq 9, 3) := by decide +kernel
theorem dX0_stationThatAnswers_58 : decode cX0_stationThatAnswers 58 = .ok (.iload 4, 2) := by decide +kernel
theorem dX0_stationThatAnswers_60 : decode cX0_stationThatAnswers 60 = .ok (.istore_n 2, 1) := by decide +kernel
theorem dX0_stationThatAnswers_61 : decode cX0_stationThatAnswers 61 = .ok (.iload 5, 2) := by decide +kernel
theorem dX0_stationThatAnswers_63 : decode cX0_stationThatAnswers 63 = .ok (.istore_n 3, 1) := by decide +kernel
theorem dX0_stationThatAnswers_64 : decode cX0_stationThatAnswers 64 = .ok (.iinc 4 1, 3) := by decide +kernel
theorem dX0_stationThatAnswers_67 : decode cX0_stationThatAnswers 67 = .ok (.goto (-59), 3) := by decide +kernel
theorem dX0_stationThatAnswers_70 : decode cX0_stationThatAnswers 70 = .ok (.iload_n 2, 1) := by decide +kernel
theorem dX0_stationThatAnswers_71 : decode cX0_stationThatAnswers 71 = .ok (.ireturn, 1) := by decide +kernel
set_option maxRecDepth 20000 in
theorem ggX0_placesOn_X0_placeOf : GoodIn wsX0_placesOn wsX0_placeOf := goodIn_r _ [5, 6, 7, 8, 4, 9, 14, 15, 16, 17, 18, 19, 20, 21, 22, 23, 24, 25, 26, 27, 28, 29, 30] (by decide +kernel) (by decide +kernel)
set_option maxRecDepth 20000 in
theorem gX0_placesOn_X0_placeOf : GoodIn wsX0_placesOn (wsV RX0 110 RX0 yX0_placeOf wsX0_placeOf) := goodIn_app (goodIn_of _ (by decide +kernel)) ggX0_placesOn_X0_placeOf
set_option maxRecDepth 20000 in
theorem ggX0_placesOn_J9_floorMod_7cf53 : GoodIn wsX0_placesOn wsJ9_floorMod_7cf53 := goodIn_r _ [13] (by decide +kernel) (by decide +kernel)
set_option maxRecDepth 20000 in
theorem gX0_placesOn_J9_floorMod_7cf53 : GoodIn wsX0_placesOn (va_wsS RX0 141 yJ9_floorMod_7cf53 wsJ9_floorMod_7cf53) := goodIn_app (goodIn_of _ (by decide +kernel)) ggX0_placesOn_J9_floorMod_7cf53
theorem dX0_placesOn_0 : decode cX0_placesOn 0 = .ok (.aload_n 0, 1) := by decide +kernel
theorem dX0_placesOn_1 : decode cX0_placesOn 1 = .ok (.iload_n 2, 1) := by decide +kernel
theorem dX0_placesOn_2 : decode cX0_placesOn 2 = .ok (.invokevirtual 110, 3) := by decide +kernel
theorem dX0_placesOn_5 : decode cX0_placesOn 5 = .ok (.aload_n 0, 1) := by decide +kernel
theorem dX0_placesOn_6 : decode cX0_placesOn 6 = .ok (.iload_n 1, 1) := by decide +kernel
theorem dX0_placesOn_7 : decode cX0_placesOn 7 = .ok (.invokevirtual 110, 3) := by decide +kernel
theorem dX0_placesOn_10 : decode cX0_placesOn 10 = .ok (.isub, 1) := by decide +kernel
theorem dX0_placesOn_11 : decode cX0_placesOn 11 = .ok (.bipush 24, 2) := by decide +kernel
theorem dX0_placesOn_13 : decode cX0_placesOn 13 = .ok (.invokestatic 141, 3) := by decide +kernel
theorem dX0_placesOn_16 : decode cX0_placesOn 16 = .ok (.ireturn, 1) := by decide +kernel
set_option maxRecDepth 20000 in
theorem ggX0_placeOf_X0_read : GoodIn wsX0_placeOf wsX0_read := goodIn_r _ [5] (by decide +kernel) (by decide +kernel)
set_option maxRecDepth 20000 in
theorem gX0_placeOf_X0_read : GoodIn wsX0_placeOf (va_wsS RX0 100 yX0_read wsX0_read) := goodIn_app (goodIn_of _ (by decide +kernel)) ggX0_placeOf_X0_read
theorem dX0_placeOf_0 : decode cX0_placeOf 0 = .ok (.aload_n 0, 1) := by decide +kernel
theorem dX0_placeOf_1 : decode cX0_placeOf 1 = .ok (.getfield 22, 3) := by decide +kernel
theorem dX0_placeOf_4 : decode cX0_placeOf 4 = .ok (.iload_n 1, 1) := by decide +kernel
theorem dX0_placeOf_5 : decode cX0_placeOf 5 = .ok (.invokestatic 100, 3) := by decide +kernel
theorem dX0_placeOf_8 : decode cX0_placeOf 8 = .ok (.ireturn, 1) := by decide +kernel
set_option maxRecDepth 20000 in
theorem ggX0_waitingAt_X0_read : GoodIn wsX0_waitingAt wsX0_read := goodIn_r _ [9] (by decide +kernel) (by decide +kernel)
set_option maxRecDepth 20000 in
theorem gX0_waitingAt_X0_read : GoodIn wsX0_waitingAt (va_wsS RX0 100 yX0_read wsX0_read) := goodIn_app (goodIn_of _ (by decide +kernel)) ggX0_waitingAt_X0_read
theorem dX0_waitingAt_0 : decode cX0_waitingAt 0 = .ok (.iconst 0, 1) := by decide +kernel
theorem dX0_waitingAt_1 : decode cX0_waitingAt 1 = .ok (.aload_n 0, 1) := by decide +kernel
theorem dX0_waitingAt_2 : decode cX0_waitingAt 2 = .ok (.getfield 28, 3) := by decide +kernel
theorem dX0_waitingAt_5 : decode cX0_waitingAt 5 = .ok (.iload_n 1, 1) := by decide +kernel
theorem dX0_waitingAt_6 : decode cX0_waitingAt 6 = .ok (.invokestatic 100, 3) := by decide +kernel
theorem dX0_waitingAt_9 : decode cX0_waitingAt 9 = .ok (.invokestatic 146, 3) := by decide +kernel
theorem dX0_waitingAt_12 : decode cX0_waitingAt 12 = .ok (.ireturn, 1) := by decide +kernel
set_option maxRecDepth 20000 in
theorem ggX0_podAtPlace_X0_read : GoodIn wsX0_podAtPlace wsX0_read := goodIn_r _ [5] (by decide +kernel) (by decide +kernel)
set_option maxRecDepth 20000 in
theorem gX0_podAtPlace_X0_read : GoodIn wsX0_podAtPlace (va_wsS RX0 100 yX0_read wsX0_read) := goodIn_app (goodIn_of _ (by decide +kernel)) ggX0_podAtPlace_X0_read
theorem dX0_podAtPlace_0 : decode cX0_podAtPlace 0 = .ok (.aload_n 0, 1) := by decide +kernel
theorem dX0_podAtPlace_1 : decode cX0_podAtPlace 1 = .ok (.getfield 15, 3) := by decide +kernel
theorem dX0_podAtPlace_4 : decode cX0_podAtPlace 4 = .ok (.iload_n 1, 1) := by decide +kernel
theorem dX0_podAtPlace_5 : decode cX0_podAtPlace 5 = .ok (.invokestatic 100, 3) := by decide +kernel
theorem dX0_podAtPlace_8 : decode cX0_podAtPlace 8 = .ok (.ireturn, 1) := by decide +kernel
set_option maxRecDepth 20000 in
theorem ggX0_goalOf_X0_read : GoodIn wsX0_goalOf wsX0_read := goodIn_r _ [5] (by decide +kernel) (by decide +kernel)
set_option maxRecDepth 20000 in
theorem gX0_goalOf_X0_read : GoodIn wsX0_goalOf (va_wsS RX0 100 yX0_read wsX0_read) := goodIn_app (goodIn_of _ (by decide +kernel)) ggX0_goalOf_X0_read
theorem dX0_goalOf_0 : decode cX0_goalOf 0 = .ok (.aload_n 0, 1) := by decide +kernel
theorem dX0_goalOf_1 : decode cX0_goalOf 1 = .ok (.getfield 40, 3) := by decide +kernel
theorem dX0_goalOf_4 : decode cX0_goalOf 4 = .ok (.iload_n 1, 1) := by decide +kernel
theorem dX0_goalOf_5 : decode cX0_goalOf 5 = .ok (.invokestatic 100, 3) := by decide +kernel
theorem dX0_goalOf_8 : decode cX0_goalOf 8 = .ok (.ireturn, 1) := by decide +kernel
set_option maxRecDepth 20000 in
theorem ggX0_berthHolds_X0_read : GoodIn wsX0_berthHolds wsX0_read := goodIn_r _ [6] (by decide +kernel) (by decide +kernel)
set_option maxRecDepth 20000 in
theorem gX0_berthHolds_X0_read : GoodIn wsX0_berthHolds (va_wsS RX0 100 yX0_read wsX0_read) := goodIn_app (goodIn_of _ (by decide +kernel)) ggX0_berthHolds_X0_read
theorem dX0_berthHolds_0 : decode cX0_berthHolds 0 = .ok (.aload_n 0, 1) := by decide +kernel
theorem dX0_berthHolds_1 : decode cX0_berthHolds 1 = .ok (.getfield 19, 3) := by decide +kernel
theorem dX0_berthHolds_4 : decode cX0_berthHolds 4 = .ok (.iload_n 1, 1) := by decide +kernel
theorem dX0_berthHolds_5 : decode cX0_berthHolds 5 = .ok (.invokestatic 100, 3) := by decide +kernel
theorem dX0_berthHolds_8 : decode cX0_berthHolds 8 = .ok (.istore_n 2, 1) := by decide +kernel
theorem dX0_berthHolds_9 : decode cX0_berthHolds 9 = .ok (.iload_n 2, 1) := by decide +kernel
theorem dX0_berthHolds_10 : decode cX0_berthHolds 10 = .ok (.iconst (-1), 1) := by decide +kernel
theorem dX0_berthHolds_11 : decode cX0_berthHolds 11 = .ok (.if_icmp .ne 5, 3) := by decide +kernel
theorem dX0_berthHolds_14 : decode cX0_berthHolds 14 = .ok (.iconst 0, 1) := by decide +kernel
theorem dX0_berthHolds_15 : decode cX0_berthHolds 15 = .ok (.ireturn, 1) := by decide +kernel
theorem dX0_berthHolds_16 : decode cX0_berthHolds 16 = .ok (.aload_n 0, 1) := by decide +kernel
theorem dX0_berthHolds_17 : decode cX0_berthHolds 17 = .ok (.getfield 40, 3) := by decide +kernel
theorem dX0_berthHolds_20 : decode cX0_berthHolds 20 = .ok (.iload_n 2, 1) := by decide +kernel
theorem dX0_berthHolds_21 : decode cX0_berthHolds 21 = .ok (.invokestatic 100, 3) := by decide +kernel
theorem dX0_berthHolds_24 : decode cX0_berthHolds 24 = .ok (.iconst (-1), 1) := by decide +kernel
theorem dX0_berthHolds_25 : decode cX0_berthHolds 25 = .ok (.if_icmp .ne 7, 3) := by decide +kernel
theorem dX0_berthHolds_28 : decode cX0_berthHolds 28 = .ok (.iconst 1, 1) := by decide +kernel
theorem dX0_berthHolds_29 : decode cX0_berthHolds 29 = .ok (.goto 4, 3) := by decide +kernel
theorem dX0_berthHolds_32 : decode cX0_berthHolds 32 = .ok (.iconst 2, 1) := by decide +kernel
theorem dX0_berthHolds_33 : decode cX0_berthHolds 33 = .ok (.ireturn, 1) := by decide +kernel
set_option maxRecDepth 20000 in
theorem ggX0_firstBerth_X0_berthHolds : GoodIn wsX0_firstBerth wsX0_berthHolds := goodIn_r _ [5, 6, 7, 8, 9, 4, 10, 11, 12, 13, 14, 15, 16, 17, 18, 19, 20, 21, 22, 23, 24, 25, 26, 27] (by decide +kernel) (by decide +kernel)
set_option maxRecDepth 20000 in
theorem gX0_firstBerth_X0_berthHolds : GoodIn wsX0_firstBerth (wsV RX0 123 RX0 yX0_berthHolds wsX0_berthHolds) := goodIn_app (goodIn_of _ (by decide +kernel)) ggX0_firstBerth_X0_berthHolds
theorem dX0_firstBerth_0 : decode cX0_firstBerth 0 = .ok (.iload_n 1, 1) := by decide +kernel
theorem dX0_firstBerth_1 : decode cX0_firstBerth 1 = .ok (.iconst 3, 1) := by decide +kernel
theorem dX0_firstBerth_2 : decode cX0_firstBerth 2 = .ok (.imul, 1) := by decide +kernel
theorem dX0_firstBerth_3 : decode cX0_firstBerth 3 = .ok (.istore_n 3, 1) := by decide +kernel
theorem dX0_firstBerth_4 : decode cX0_firstBerth 4 = .ok (.iload_n 3, 1) := by decide +kernel
theorem dX0_firstBerth_5 : decode cX0_firstBerth 5 = .ok (.iload_n 1, 1) := by decide +kernel
theorem dX0_firstBerth_6 : decode cX0_firstBerth 6 = .ok (.iconst 1, 1) := by decide +kernel
theorem dX0_firstBerth_7 : decode cX0_firstBerth 7 = .ok (.iadd, 1) := by decide +kernel
theorem dX0_firstBerth_8 : decode cX0_firstBerth 8 = .ok (.iconst 3, 1) := by decide +kernel
theorem dX0_firstBerth_9 : decode cX0_firstBerth 9 = .ok (.imul, 1) := by decide +kernel
theorem dX0_firstBerth_10 : decode cX0_firstBerth 10 = .ok (.if_icmp .ge 20, 3) := by decide +kernel
theorem dX0_firstBerth_13 : decode cX0_firstBerth 13 = .ok (.aload_n 0, 1) := by decide +kernel
theorem dX0_firstBerth_14 : decode cX0_firstBerth 14 = .ok (.iload_n 3, 1) := by decide +kernel
theorem dX0_firstBerth_15 : decode cX0_firstBerth 15 = .ok (.invokevirtual 123, 3) := by decide +kernel
theorem dX0_firstBerth_18 : decode cX0_firstBerth 18 = .ok (.iload_n 2, 1) := by decide +kernel
theorem dX0_firstBerth_19 : decode cX0_firstBerth 19 = .ok (.if_icmp .ne 5, 3) := by decide +kernel
theorem dX0_firstBerth_22 : decode cX0_firstBerth 22 = .ok (.iload_n 3, 1) := by decide +kernel
theorem dX0_firstBerth_23 : decode cX0_firstBerth 23 = .ok (.ireturn, 1) := by decide +kernel
theorem dX0_firstBerth_24 : decode cX0_firstBerth 24 = .ok (.iinc 3 1, 3) := by decide +kernel
theorem dX0_firstBerth_27 : decode cX0_firstBerth 27 = .ok (.goto (-23), 3) := by decide +kernel
theorem dX0_firstBerth_30 : decode cX0_firstBerth 30 = .ok (.iconst (-1), 1) := by decide +kernel
theorem dX0_firstBerth_31 : decode cX0_firstBerth 31 = .ok (.ireturn, 1) := by decide +kernel
set_option maxRecDepth 20000 in
theorem ggX0_berthsThatHold_X0_berthHolds : GoodIn wsX0_berthsThatHold wsX0_berthHolds := goodIn_r _ [5, 6, 7, 8, 9, 4, 10, 11, 12, 13, 14, 15, 16, 17, 18, 19, 20, 21, 22, 23, 24, 25, 26, 27] (by decide +kernel) (by decide +kernel)
set_option maxRecDepth 20000 in
theorem gX0_berthsThatHold_X0_berthHolds : GoodIn wsX0_berthsThatHold (wsV RX0 123 RX0 yX0_berthHolds wsX0_berthHolds) := goodIn_app (goodIn_of _ (by decide +kernel)) ggX0_berthsThatHold_X0_berthHolds
theorem dX0_berthsThatHold_0 : decode cX0_berthsThatHold 0 = .ok (.iconst 0, 1) := by decide +kernel
theorem dX0_berthsThatHold_1 : decode cX0_berthsThatHold 1 = .ok (.istore_n 3, 1) := by decide +kernel
theorem dX0_berthsThatHold_2 : decode cX0_berthsThatHold 2 = .ok (.iload_n 1, 1) := by decide +kernel
theorem dX0_berthsThatHold_3 : decode cX0_berthsThatHold 3 = .ok (.iconst 3, 1) := by decide +kernel
theorem dX0_berthsThatHold_4 : decode cX0_berthsThatHold 4 = .ok (.imul, 1) := by decide +kernel
theorem dX0_berthsThatHold_5 : decode cX0_berthsThatHold 5 = .ok (.istore 4, 2) := by decide +kernel
theorem dX0_berthsThatHold_7 : decode cX0_berthsThatHold 7 = .ok (.iload 4, 2) := by decide +kernel
theorem dX0_berthsThatHold_9 : decode cX0_berthsThatHold 9 = .ok (.iload_n 1, 1) := by decide +kernel
theorem dX0_berthsThatHold_10 : decode cX0_berthsThatHold 10 = .ok (.iconst 1, 1) := by decide +kernel
theorem dX0_berthsThatHold_11 : decode cX0_berthsThatHold 11 = .ok (.iadd, 1) := by decide +kernel
theorem dX0_berthsThatHold_12 : decode cX0_berthsThatHold 12 = .ok (.iconst 3, 1) := by decide +kernel
theorem dX0_berthsThatHold_13 : decode cX0_berthsThatHold 13 = .ok (.imul, 1) := by decide +kernel
theorem dX0_berthsThatHold_14 : decode cX0_berthsThatHold 14 = .ok (.if_icmp .ge 22, 3) := by decide +kernel
theorem dX0_berthsThatHold_17 : decode cX0_berthsThatHold 17 = .ok (.aload_n 0, 1) := by decide +kernel
theorem dX0_berthsThatHold_18 : decode cX0_berthsThatHold 18 = .ok (.iload 4, 2) := by decide +kernel
theorem dX0_berthsThatHold_20 : decode cX0_berthsThatHold 20 = .ok (.invokevirtual 123, 3) := by decide +kernel
theorem dX0_berthsThatHold_23 : decode cX0_berthsThatHold 23 = .ok (.iload_n 2, 1) := by decide +kernel
theorem dX0_berthsThatHold_24 : decode cX0_berthsThatHold 24 = .ok (.if_icmp .ne 6, 3) := by decide +kernel
theorem dX0_berthsThatHold_27 : decode cX0_berthsThatHold 27 = .ok (.iinc 3 1, 3) := by decide +kernel
theorem dX0_berthsThatHold_30 : decode cX0_berthsThatHold 30 = .ok (.iinc 4 1, 3) := by decide +kernel
theorem dX0_berthsThatHold_33 : decode cX0_berthsThatHold 33 = .ok (.goto (-26), 3) := by decide +kernel
theorem dX0_berthsThatHold_36 : decode cX0_berthsThatHold 36 = .ok (.iload_n 3, 1) := by decide +kernel
theorem dX0_berthsThatHold_37 : decode cX0_berthsThatHold 37 = .ok (.ireturn, 1) := by decide +kernel
set_option maxRecDepth 20000 in
theorem ggX0_berthOf_X0_find : GoodIn wsX0_berthOf wsX0_find := goodIn_r _ [5] (by decide +kernel) (by decide +kernel)
set_option maxRecDepth 20000 in
theorem gX0_berthOf_X0_find : GoodIn wsX0_berthOf (va_wsS RX0 149 yX0_find wsX0_find) := goodIn_app (goodIn_of _ (by decide +kernel)) ggX0_berthOf_X0_find
theorem dX0_berthOf_0 : decode cX0_berthOf 0 = .ok (.aload_n 0, 1) := by decide +kernel
theorem dX0_berthOf_1 : decode cX0_berthOf 1 = .ok (.getfield 19, 3) := by decide +kernel
theorem dX0_berthOf_4 : decode cX0_berthOf 4 = .ok (.iload_n 1, 1) := by decide +kernel
theorem dX0_berthOf_5 : decode cX0_berthOf 5 = .ok (.invokestatic 149, 3) := by decide +kernel
theorem dX0_berthOf_8 : decode cX0_berthOf 8 = .ok (.ireturn, 1) := by decide +kernel
set_option maxRecDepth 20000 in
theorem ggX0_emptyPodsTo_X0_goalOf : GoodIn wsX0_emptyPodsTo wsX0_goalOf := goodIn_r _ [7, 8, 9, 10, 6, 11, 12, 13, 14, 15, 16, 17, 18, 19, 20, 21, 22, 23, 24, 25, 26, 27, 28] (by decide +kernel) (by decide +kernel)
set_option maxRecDepth 20000 in
theorem gX0_emptyPodsTo_X0_goalOf : GoodIn wsX0_emptyPodsTo (wsV RX0 116 RX0 yX0_goalOf wsX0_goalOf) := goodIn_app (goodIn_of _ (by decide +kernel)) ggX0_emptyPodsTo_X0_goalOf
set_option maxRecDepth 20000 in
theorem ggX0_emptyPodsTo_X0_read : GoodIn wsX0_emptyPodsTo wsX0_read := goodIn_r _ [11] (by decide +kernel) (by decide +kernel)
set_option maxRecDepth 20000 in
theorem gX0_emptyPodsTo_X0_read : GoodIn wsX0_emptyPodsTo (va_wsS RX0 100 yX0_read wsX0_read) := goodIn_app (goodIn_of _ (by decide +kernel)) ggX0_emptyPodsTo_X0_read
theorem dX0_emptyPodsTo_0 : decode cX0_emptyPodsTo 0 = .ok (.iconst 0, 1) := by decide +kernel
theorem dX0_emptyPodsTo_1 : decode cX0_emptyPodsTo 1 = .ok (.istore_n 2, 1) := by decide +kernel
theorem dX0_emptyPodsTo_2 : decode cX0_emptyPodsTo 2 = .ok (.iconst 0, 1) := by decide +kernel
theorem dX0_emptyPodsTo_3 : decode cX0_emptyPodsTo 3 = .ok (.istore_n 3, 1) := by decide +kernel
theorem dX0_emptyPodsTo_4 : decode cX0_emptyPodsTo 4 = .ok (.iload_n 3, 1) := by decide +kernel
theorem dX0_emptyPodsTo_5 : decode cX0_emptyPodsTo 5 = .ok (.aload_n 0, 1) := by decide +kernel
theorem dX0_emptyPodsTo_6 : decode cX0_emptyPodsTo 6 = .ok (.getfield 56, 3) := by decide +kernel
theorem dX0_emptyPodsTo_9 : decode cX0_emptyPodsTo 9 = .ok (.if_icmp .ge 33, 3) := by decide +kernel
theorem dX0_emptyPodsTo_12 : decode cX0_emptyPodsTo 12 = .ok (.aload_n 0, 1) := by decide +kernel
theorem dX0_emptyPodsTo_13 : decode cX0_emptyPodsTo 13 = .ok (.iload_n 3, 1) := by decide +kernel
theorem dX0_emptyPodsTo_14 : decode cX0_emptyPodsTo 14 = .ok (.invokevirtual 116, 3) := by decide +kernel
theorem dX0_emptyPodsTo_17 : decode cX0_emptyPodsTo 17 = .ok (.iload_n 1, 1) := by decide +kernel
theorem dX0_emptyPodsTo_18 : decode cX0_emptyPodsTo 18 = .ok (.if_icmp .ne 18, 3) := by decide +kernel
theorem dX0_emptyPodsTo_21 : decode cX0_emptyPodsTo 21 = .ok (.aload_n 0, 1) := by decide +kernel
theorem dX0_emptyPodsTo_22 : decode cX0_emptyPodsTo 22 = .ok (.getfield 43, 3) := by decide +kernel
theorem dX0_emptyPodsTo_25 : decode cX0_emptyPodsTo 25 = .ok (.iload_n 3, 1) := by decide +kernel
theorem dX0_emptyPodsTo_26 : decode cX0_emptyPodsTo 26 = .ok (.invokestatic 100, 3) := by decide +kernel
theorem dX0_emptyPodsTo_29 : decode cX0_emptyPodsTo 29 = .ok (.iconst (-1), 1) := by decide +kernel
theorem dX0_emptyPodsTo_30 : decode cX0_emptyPodsTo 30 = .ok (.if_icmp .ne 6, 3) := by decide +kernel
theorem dX0_emptyPodsTo_33 : decode cX0_emptyPodsTo 33 = .ok (.iinc 2 1, 3) := by decide +kernel
theorem dX0_emptyPodsTo_36 : decode cX0_emptyPodsTo 36 = .ok (.iinc 3 1, 3) := by decide +kernel
theorem dX0_emptyPodsTo_39 : decode cX0_emptyPodsTo 39 = .ok (.goto (-35), 3) := by decide +kernel
theorem dX0_emptyPodsTo_42 : decode cX0_emptyPodsTo 42 = .ok (.iload_n 2, 1) := by decide +kernel
theorem dX0_emptyPodsTo_43 : decode cX0_emptyPodsTo 43 = .ok (.ireturn, 1) := by decide +kernel
set_option maxRecDepth 20000 in
theorem ggX0_waitedBy_X0_read : GoodIn wsX0_waitedBy wsX0_read := goodIn_r _ [6] (by decide +kernel) (by decide +kernel)
set_option maxRecDepth 20000 in
theorem gX0_waitedBy_X0_read : GoodIn wsX0_waitedBy (va_wsS RX0 100 yX0_read wsX0_read) := goodIn_app (goodIn_of _ (by decide +kernel)) ggX0_waitedBy_X0_read
theorem dX0_waitedBy_0 : decode cX0_waitedBy 0 = .ok (.aload_n 0, 1) := by decide +kernel
theorem dX0_waitedBy_1 : decode cX0_waitedBy 1 = .ok (.getfield 49, 3) := by decide +kernel
theorem dX0_waitedBy_4 : decode cX0_waitedBy 4 = .ok (.aload_n 0, 1) := by decide +kernel
theorem dX0_waitedBy_5 : decode cX0_waitedBy 5 = .ok (.getfield 37, 3) := by decide +kernel
theorem dX0_waitedBy_8 : decode cX0_waitedBy 8 = .ok (.iload_n 1, 1) := by decide +kernel
theorem dX0_waitedBy_9 : decode cX0_waitedBy 9 = .ok (.bipush 9, 2) := by decide +kernel
theorem dX0_waitedBy_11 : decode cX0_waitedBy 11 = .ok (.imul, 1) := by decide +kernel
theorem dX0_waitedBy_12 : decode cX0_waitedBy 12 = .ok (.iload_n 2, 1) := by decide +kernel
theorem dX0_waitedBy_13 : decode cX0_waitedBy 13 = .ok (.iadd, 1) := by decide +kernel
theorem dX0_waitedBy_14 : decode cX0_waitedBy 14 = .ok (.invokestatic 100, 3) := by decide +kernel
theorem dX0_waitedBy_17 : decode cX0_waitedBy 17 = .ok (.isub, 1) := by decide +kernel
theorem dX0_waitedBy_18 : decode cX0_waitedBy 18 = .ok (.ireturn, 1) := by decide +kernel
set_option maxRecDepth 20000 in
theorem ggX0_waitedAt_X0_waitingAt : GoodIn wsX0_waitedAt wsX0_waitingAt := goodIn_r _ [5, 6, 7, 8, 9, 10, 11, 12, 4, 13, 20, 21, 22, 23, 24, 25, 26, 27, 28, 29, 30, 31, 32, 33, 34, 35, 36] (by decide +kernel) (by decide +kernel)
set_option maxRecDepth 20000 in
theorem gX0_waitedAt_X0_waitingAt : GoodIn wsX0_waitedAt (wsV RX0 80 RX0 yX0_waitingAt wsX0_waitingAt) := goodIn_app (goodIn_of _ (by decide +kernel)) ggX0_waitedAt_X0_waitingAt
set_option maxRecDepth 20000 in
theorem ggX0_waitedAt_X0_waitedBy : GoodIn wsX0_waitedAt wsX0_waitedBy := goodIn_r _ [17, 18, 19, 11, 12, 4, 13, 20, 21, 22, 23, 24, 25, 26, 27, 28, 29, 30, 31, 32, 33, 34, 35, 36] (by decide +kernel) (by decide +kernel)
set_option maxRecDepth 20000 in
theorem gX0_waitedAt_X0_waitedBy : GoodIn wsX0_waitedAt (wsV RX0 129 RX0 yX0_waitedBy wsX0_waitedBy) := goodIn_app (goodIn_of _ (by decide +kernel)) ggX0_waitedAt_X0_waitedBy
theorem dX0_waitedAt_0 : decode cX0_waitedAt 0 = .ok (.iconst 0, 1) := by decide +kernel
theorem dX0_waitedAt_1 : decode cX0_waitedAt 1 = .ok (.istore_n 2, 1) := by decide +kernel
theorem dX0_waitedAt_2 : decode cX0_waitedAt 2 = .ok (.aload_n 0, 1) := by decide +kernel
theorem dX0_waitedAt_3 : decode cX0_waitedAt 3 = .ok (.iload_n 1, 1) := by decide +kernel
theorem dX0_waitedAt_4 : decode cX0_waitedAt 4 = .ok (.invokevirtual 80, 3) := by decide +kernel
theorem dX0_waitedAt_7 : decode cX0_waitedAt 7 = .ok (.istore_n 3, 1) := by decide +kernel
theorem dX0_waitedAt_8 : decode cX0_waitedAt 8 = .ok (.iconst 0, 1) := by decide +kernel
theorem dX0_waitedAt_9 : decode cX0_waitedAt 9 = .ok (.istore 4, 2) := by decide +kernel
theorem dX0_waitedAt_11 : decode cX0_waitedAt 11 = .ok (.iload 4, 2) := by decide +kernel
theorem dX0_waitedAt_13 : decode cX0_waitedAt 13 = .ok (.iload_n 3, 1) := by decide +kernel
theorem dX0_waitedAt_14 : decode cX0_waitedAt 14 = .ok (.if_icmp .ge 19, 3) := by decide +kernel
theorem dX0_waitedAt_17 : decode cX0_waitedAt 17 = .ok (.iload_n 2, 1) := by decide +kernel
theorem dX0_waitedAt_18 : decode cX0_waitedAt 18 = .ok (.aload_n 0, 1) := by decide +kernel
theorem dX0_waitedAt_19 : decode cX0_waitedAt 19 = .ok (.iload_n 1, 1) := by decide +kernel
theorem dX0_waitedAt_20 : decode cX0_waitedAt 20 = .ok (.iload 4, 2) := by decide +kernel
theorem dX0_waitedAt_22 : decode cX0_waitedAt 22 = .ok (.invokevirtual 129, 3) := by decide +kernel
theorem dX0_waitedAt_25 : decode cX0_waitedAt 25 = .ok (.iadd, 1) := by decide +kernel
theorem dX0_waitedAt_26 : decode cX0_waitedAt 26 = .ok (.istore_n 2, 1) := by decide +kernel
theorem dX0_waitedAt_27 : decode cX0_waitedAt 27 = .ok (.iinc 4 1, 3) := by decide +kernel
theorem dX0_waitedAt_30 : decode cX0_waitedAt 30 = .ok (.goto (-19), 3) := by decide +kernel
theorem dX0_waitedAt_33 : decode cX0_waitedAt 33 = .ok (.iload_n 2, 1) := by decide +kernel
theorem dX0_waitedAt_34 : decode cX0_waitedAt 34 = .ok (.ireturn, 1) := by decide +kernel
set_option maxRecDepth 20000 in
theorem ggX0_waitedInAll_X0_waitedAt : GoodIn wsX0_waitedInAll wsX0_waitedAt := goodIn_r _ [6, 7, 8, 9, 5, 10, 11, 12, 13, 14, 15, 16, 17, 18, 19, 20, 21, 22, 23, 24, 25, 26, 27, 28, 29, 30, 31, 32, 33, 34, 35, 36, 37, 38, 39, 40, 41] (by decide +kernel) (by decide +kernel)
set_option maxRecDepth 20000 in
theorem gX0_waitedInAll_X0_waitedAt : GoodIn wsX0_waitedInAll (wsV RX0 152 RX0 yX0_waitedAt wsX0_waitedAt) := goodIn_app (goodIn_of _ (by decide +kernel)) ggX0_waitedInAll_X0_waitedAt
theorem dX0_waitedInAll_0 : decode cX0_waitedInAll 0 = .ok (.iconst 0, 1) := by decide +kernel
theorem dX0_waitedInAll_1 : decode cX0_waitedInAll 1 = .ok (.istore_n 1, 1) := by decide +kernel
theorem dX0_waitedInAll_2 : decode cX0_waitedInAll 2 = .ok (.iconst 0, 1) := by decide +kernel
theorem dX0_waitedInAll_3 : decode cX0_waitedInAll 3 = .ok (.istore_n 2, 1) := by decide +kernel
theorem dX0_waitedInAll_4 : decode cX0_waitedInAll 4 = .ok (.iload_n 2, 1) := by decide +kernel
theorem dX0_waitedInAll_5 : decode cX0_waitedInAll 5 = .ok (.aload_n 0, 1) := by decide +kernel
theorem dX0_waitedInAll_6 : decode cX0_waitedInAll 6 = .ok (.getfield 53, 3) := by decide +kernel
theorem dX0_waitedInAll_9 : decode cX0_waitedInAll 9 = .ok (.if_icmp .ge 17, 3) := by decide +kernel
theorem dX0_waitedInAll_12 : decode cX0_waitedInAll 12 = .ok (.iload_n 1, 1) := by decide +kernel
theorem dX0_waitedInAll_13 : decode cX0_waitedInAll 13 = .ok (.aload_n 0, 1) := by decide +kernel
theorem dX0_waitedInAll_14 : decode cX0_waitedInAll 14 = .ok (.iload_n 2, 1) := by decide +kernel
theorem dX0_waitedInAll_15 : decode cX0_waitedInAll 15 = .ok (.invokevirtual 152, 3) := by decide +kernel
theorem dX0_waitedInAll_18 : decode cX0_waitedInAll 18 = .ok (.iadd, 1) := by decide +kernel
theorem dX0_waitedInAll_19 : decode cX0_waitedInAll 19 = .ok (.istore_n 1, 1) := by decide +kernel
theorem dX0_waitedInAll_20 : decode cX0_waitedInAll 20 = .ok (.iinc 2 1, 3) := by decide +kernel
theorem dX0_waitedInAll_23 : decode cX0_waitedInAll 23 = .ok (.goto (-19), 3) := by decide +kernel
theorem dX0_waitedInAll_26 : decode cX0_waitedInAll 26 = .ok (.iload_n 1, 1) := by decide +kernel
theorem dX0_waitedInAll_27 : decode cX0_waitedInAll 27 = .ok (.ireturn, 1) := by decide +kernel
set_option maxRecDepth 20000 in
theorem ggX0_waitingInAll_X0_waitingAt : GoodIn wsX0_waitingInAll wsX0_waitingAt := goodIn_r _ [6, 7, 8, 9, 10, 11, 12, 13, 5, 14, 15, 16, 17, 18, 19, 20, 21, 22, 23, 24, 25, 26, 27, 28, 29, 30, 31] (by decide +kernel) (by decide +kernel)
set_option maxRecDepth 20000 in
theorem gX0_waitingInAll_X0_waitingAt : GoodIn wsX0_waitingInAll (wsV RX0 80 RX0 yX0_waitingAt wsX0_waitingAt) := goodIn_app (goodIn_of _ (by decide +kernel)) ggX0_waitingInAll_X0_waitingAt
theorem dX0_waitingInAll_0 : decode cX0_waitingInAll 0 = .ok (.iconst 0, 1) := by decide +kernel
theorem dX0_waitingInAll_1 : decode cX0_waitingInAll 1 = .ok (.istore_n 1, 1) := by decide +kernel
theorem dX0_waitingInAll_2 : decode cX0_waitingInAll 2 = .ok (.iconst 0, 1) := by decide +kernel
theorem dX0_waitingInAll_3 : decode cX0_waitingInAll 3 = .ok (.istore_n 2, 1) := by decide +kernel
theorem dX0_waitingInAll_4 : decode cX0_waitingInAll 4 = .ok (.iload_n 2, 1) := by decide +kernel
theorem dX0_waitingInAll_5 : decode cX0_waitingInAll 5 = .ok (.aload_n 0, 1) := by decide +kernel
theorem dX0_waitingInAll_6 : decode cX0_waitingInAll 6 = .ok (.getfield 53, 3) := by decide +kernel
theorem dX0_waitingInAll_9 : decode cX0_waitingInAll 9 = .ok (.if_icmp .ge 17, 3) := by decide +kernel
theorem dX0_waitingInAll_12 : decode cX0_waitingInAll 12 = .ok (.iload_n 1, 1) := by decide +kernel
theorem dX0_waitingInAll_13 : decode cX0_waitingInAll 13 = .ok (.aload_n 0, 1) := by decide +kernel
theorem dX0_waitingInAll_14 : decode cX0_waitingInAll 14 = .ok (.iload_n 2, 1) := by decide +kernel
theorem dX0_waitingInAll_15 : decode cX0_waitingInAll 15 = .ok (.invokevirtual 80, 3) := by decide +kernel
theorem dX0_waitingInAll_18 : decode cX0_waitingInAll 18 = .ok (.iadd, 1) := by decide +kernel
theorem dX0_waitingInAll_19 : decode cX0_waitingInAll 19 = .ok (.istore_n 1, 1) := by decide +kernel
theorem dX0_waitingInAll_20 : decode cX0_waitingInAll 20 = .ok (.iinc 2 1, 3) := by decide +kernel
theorem dX0_waitingInAll_23 : decode cX0_waitingInAll 23 = .ok (.goto (-19), 3) := by decide +kernel
theorem dX0_waitingInAll_26 : decode cX0_waitingInAll 26 = .ok (.iload_n 1, 1) := by decide +kernel
theorem dX0_waitingInAll_27 : decode cX0_waitingInAll 27 = .ok (.ireturn, 1) := by decide +kernel
set_option maxRecDepth 20000 in
theorem ggX0_arrivedInAll_X0_read : GoodIn wsX0_arrivedInAll wsX0_read := goodIn_r _ [6] (by decide +kernel) (by decide +kernel)
set_option maxRecDepth 20000 in
theorem gX0_arrivedInAll_X0_read : GoodIn wsX0_arrivedInAll (va_wsS RX0 100 yX0_read wsX0_read) := goodIn_app (goodIn_of _ (by decide +kernel)) ggX0_arrivedInAll_X0_read
theorem dX0_arrivedInAll_0 : decode cX0_arrivedInAll 0 = .ok (.iconst 0, 1) := by decide +kernel
theorem dX0_arrivedInAll_1 : decode cX0_arrivedInAll 1 = .ok (.istore_n 1, 1) := by decide +kernel
theorem dX0_arrivedInAll_2 : decode cX0_arrivedInAll 2 = .ok (.iconst 0, 1) := by decide +kernel
theorem dX0_arrivedInAll_3 : decode cX0_arrivedInAll 3 = .ok (.istore_n 2, 1) := by decide +kernel
theorem dX0_arrivedInAll_4 : decode cX0_arrivedInAll 4 = .ok (.iload_n 2, 1) := by decide +kernel
theorem dX0_arrivedInAll_5 : decode cX0_arrivedInAll 5 = .ok (.aload_n 0, 1) := by decide +kernel
theorem dX0_arrivedInAll_6 : decode cX0_arrivedInAll 6 = .ok (.getfield 53, 3) := by decide +kernel
theorem dX0_arrivedInAll_9 : decode cX0_arrivedInAll 9 = .ok (.if_icmp .ge 20, 3) := by decide +kernel
theorem dX0_arrivedInAll_12 : decode cX0_arrivedInAll 12 = .ok (.iload_n 1, 1) := by decide +kernel
theorem dX0_arrivedInAll_13 : decode cX0_arrivedInAll 13 = .ok (.aload_n 0, 1) := by decide +kernel
theorem dX0_arrivedInAll_14 : decode cX0_arrivedInAll 14 = .ok (.getfield 25, 3) := by decide +kernel
theorem dX0_arrivedInAll_17 : decode cX0_arrivedInAll 17 = .ok (.iload_n 2, 1) := by decide +kernel
theorem dX0_arrivedInAll_18 : decode cX0_arrivedInAll 18 = .ok (.invokestatic 100, 3) := by decide +kernel
theorem dX0_arrivedInAll_21 : decode cX0_arrivedInAll 21 = .ok (.iadd, 1) := by decide +kernel
theorem dX0_arrivedInAll_22 : decode cX0_arrivedInAll 22 = .ok (.istore_n 1, 1) := by decide +kernel
theorem dX0_arrivedInAll_23 : decode cX0_arrivedInAll 23 = .ok (.iinc 2 1, 3) := by decide +kernel
theorem dX0_arrivedInAll_26 : decode cX0_arrivedInAll 26 = .ok (.goto (-22), 3) := by decide +kernel
theorem dX0_arrivedInAll_29 : decode cX0_arrivedInAll 29 = .ok (.iload_n 1, 1) := by decide +kernel
theorem dX0_arrivedInAll_30 : decode cX0_arrivedInAll 30 = .ok (.ireturn, 1) := by decide +kernel
set_option maxRecDepth 20000 in
theorem ggX0_ridersInPods_X0_read : GoodIn wsX0_ridersInPods wsX0_read := goodIn_r _ [6] (by decide +kernel) (by decide +kernel)
set_option maxRecDepth 20000 in
theorem gX0_ridersInPods_X0_read : GoodIn wsX0_ridersInPods (va_wsS RX0 100 yX0_read wsX0_read) := goodIn_app (goodIn_of _ (by decide +kernel)) ggX0_ridersInPods_X0_read
theorem dX0_ridersInPods_0 : decode cX0_ridersInPods 0 = .ok (.iconst 0, 1) := by decide +kernel
theorem dX0_ridersInPods_1 : decode cX0_ridersInPods 1 = .ok (.istore_n 1, 1) := by decide +kernel
theorem dX0_ridersInPods_2 : decode cX0_ridersInPods 2 = .ok (.iconst 0, 1) := by decide +kernel
theorem dX0_ridersInPods_3 : decode cX0_ridersInPods 3 = .ok (.istore_n 2, 1) := by decide +kernel
theorem dX0_ridersInPods_4 : decode cX0_ridersInPods 4 = .ok (.iload_n 2, 1) := by decide +kernel
theorem dX0_ridersInPods_5 : decode cX0_ridersInPods 5 = .ok (.aload_n 0, 1) := by decide +kernel
theorem dX0_ridersInPods_6 : decode cX0_ridersInPods 6 = .ok (.getfield 56, 3) := by decide +kernel
theorem dX0_ridersInPods_9 : decode cX0_ridersInPods 9 = .ok (.if_icmp .ge 24, 3) := by decide +kernel
theorem dX0_ridersInPods_12 : decode cX0_ridersInPods 12 = .ok (.aload_n 0, 1) := by decide +kernel
theorem dX0_ridersInPods_13 : decode cX0_ridersInPods 13 = .ok (.getfield 43, 3) := by decide +kernel
theorem dX0_ridersInPods_16 : decode cX0_ridersInPods 16 = .ok (.iload_n 2, 1) := by decide +kernel
theorem dX0_ridersInPods_17 : decode cX0_ridersInPods 17 = .ok (.invokestatic 100, 3) := by decide +kernel
theorem dX0_ridersInPods_20 : decode cX0_ridersInPods 20 = .ok (.iconst (-1), 1) := by decide +kernel
theorem dX0_ridersInPods_21 : decode cX0_ridersInPods 21 = .ok (.if_icmp .eq 6, 3) := by decide +kernel
theorem dX0_ridersInPods_24 : decode cX0_ridersInPods 24 = .ok (.iinc 1 1, 3) := by decide +kernel
theorem dX0_ridersInPods_27 : decode cX0_ridersInPods 27 = .ok (.iinc 2 1, 3) := by decide +kernel
theorem dX0_ridersInPods_30 : decode cX0_ridersInPods 30 = .ok (.goto (-26), 3) := by decide +kernel
theorem dX0_ridersInPods_33 : decode cX0_ridersInPods 33 = .ok (.iload_n 1, 1) := by decide +kernel
theorem dX0_ridersInPods_34 : decode cX0_ridersInPods 34 = .ok (.ireturn, 1) := by decide +kernel
set_option maxRecDepth 20000 in
theorem ggX0_freeSlots_X0_podAtPlace : GoodIn wsX0_freeSlots wsX0_podAtPlace := goodIn_r _ [5, 6, 7, 8, 4, 9, 10, 11, 12, 13, 14, 15, 16, 17, 18, 19, 20, 21, 22, 23, 24, 25, 26] (by decide +kernel) (by decide +kernel)
set_option maxRecDepth 20000 in
theorem gX0_freeSlots_X0_podAtPlace : GoodIn wsX0_freeSlots (wsV RX0 113 RX0 yX0_podAtPlace wsX0_podAtPlace) := goodIn_app (goodIn_of _ (by decide +kernel)) ggX0_freeSlots_X0_podAtPlace
theorem dX0_freeSlots_0 : decode cX0_freeSlots 0 = .ok (.iconst 0, 1) := by decide +kernel
theorem dX0_freeSlots_1 : decode cX0_freeSlots 1 = .ok (.istore_n 1, 1) := by decide +kernel
theorem dX0_freeSlots_2 : decode cX0_freeSlots 2 = .ok (.iconst 0, 1) := by decide +kernel
theorem dX0_freeSlots_3 : decode cX0_freeSlots 3 = .ok (.istore_n 2, 1) := by decide +kernel
theorem dX0_freeSlots_4 : decode cX0_freeSlots 4 = .ok (.iload_n 2, 1) := by decide +kernel
theorem dX0_freeSlots_5 : decode cX0_freeSlots 5 = .ok (.bipush 24, 2) := by decide +kernel
theorem dX0_freeSlots_7 : decode cX0_freeSlots 7 = .ok (.if_icmp .ge 21, 3) := by decide +kernel
theorem dX0_freeSlots_10 : decode cX0_freeSlots 10 = .ok (.aload_n 0, 1) := by decide +kernel
theorem dX0_freeSlots_11 : decode cX0_freeSlots 11 = .ok (.iload_n 2, 1) := by decide +kernel
theorem dX0_freeSlots_12 : decode cX0_freeSlots 12 = .ok (.invokevirtual 113, 3) := by decide +kernel
theorem dX0_freeSlots_15 : decode cX0_freeSlots 15 = .ok (.iconst (-1), 1) := by decide +kernel
theorem dX0_freeSlots_16 : decode cX0_freeSlots 16 = .ok (.if_icmp .ne 6, 3) := by decide +kernel
theorem dX0_freeSlots_19 : decode cX0_freeSlots 19 = .ok (.iinc 1 1, 3) := by decide +kernel
theorem dX0_freeSlots_22 : decode cX0_freeSlots 22 = .ok (.iinc 2 1, 3) := by decide +kernel
theorem dX0_freeSlots_25 : decode cX0_freeSlots 25 = .ok (.goto (-21), 3) := by decide +kernel
theorem dX0_freeSlots_28 : decode cX0_freeSlots 28 = .ok (.iload_n 1, 1) := by decide +kernel
theorem dX0_freeSlots_29 : decode cX0_freeSlots 29 = .ok (.ireturn, 1) := by decide +kernel
set_option maxRecDepth 20000 in
theorem ggX0_tellPod_X0_berthOf : GoodIn wsX0_tellPod wsX0_berthOf := goodIn_r _ [8, 9, 10, 11, 7, 12, 21, 22, 23, 24, 25, 26, 27, 28, 29, 30, 31, 32, 33, 34, 35, 36, 37] (by decide +kernel) (by decide +kernel)
set_option maxRecDepth 20000 in
theorem gX0_tellPod_X0_berthOf : GoodIn wsX0_tellPod (wsV RX0 155 RX0 yX0_berthOf wsX0_berthOf) := goodIn_app (goodIn_of _ (by decide +kernel)) ggX0_tellPod_X0_berthOf
set_option maxRecDepth 20000 in
theorem ggX0_tellPod_X0_find : GoodIn wsX0_tellPod wsX0_find := goodIn_r _ [12] (by decide +kernel) (by decide +kernel)
set_option maxRecDepth 20000 in
theorem gX0_tellPod_X0_find : GoodIn wsX0_tellPod (va_wsS RX0 149 yX0_find wsX0_find) := goodIn_app (goodIn_of _ (by decide +kernel)) ggX0_tellPod_X0_find
set_option maxRecDepth 20000 in
theorem ggX0_tellPod_X0_goalOf : GoodIn wsX0_tellPod wsX0_goalOf := goodIn_r _ [16, 17, 18, 19, 7, 20, 21, 22, 23, 24, 25, 26, 27, 28, 29, 30, 31, 32, 33, 34, 35, 36, 37] (by decide +kernel) (by decide +kernel)
set_option maxRecDepth 20000 in
theorem gX0_tellPod_X0_goalOf : GoodIn wsX0_tellPod (wsV RX0 116 RX0 yX0_goalOf wsX0_goalOf) := goodIn_app (goodIn_of _ (by decide +kernel)) ggX0_tellPod_X0_goalOf
set_option maxRecDepth 20000 in
theorem ggX0_tellPod_X0_read : GoodIn wsX0_tellPod wsX0_read := goodIn_r _ [20] (by decide +kernel) (by decide +kernel)
set_option maxRecDepth 20000 in
theorem gX0_tellPod_X0_read : GoodIn wsX0_tellPod (va_wsS RX0 100 yX0_read wsX0_read) := goodIn_app (goodIn_of _ (by decide +kernel)) ggX0_tellPod_X0_read
theorem dX0_tellPod_0 : decode cX0_tellPod 0 = .ok (.aload_n 0, 1) := by decide +kernel
theorem dX0_tellPod_1 : decode cX0_tellPod 1 = .ok (.iload_n 1, 1) := by decide +kernel
theorem dX0_tellPod_2 : decode cX0_tellPod 2 = .ok (.invokevirtual 155, 3) := by decide +kernel
theorem dX0_tellPod_5 : decode cX0_tellPod 5 = .ok (.istore_n 3, 1) := by decide +kernel
theorem dX0_tellPod_6 : decode cX0_tellPod 6 = .ok (.iload_n 2, 1) := by decide +kernel
theorem dX0_tellPod_7 : decode cX0_tellPod 7 = .ok (.tableswitch 92 0 4 #[33, 42, 55, 68, 74], 33) := by decide +kernel
theorem dX0_tellPod_40 : decode cX0_tellPod 40 = .ok (.aload_n 0, 1) := by decide +kernel
theorem dX0_tellPod_41 : decode cX0_tellPod 41 = .ok (.getfield 15, 3) := by decide +kernel
theorem dX0_tellPod_44 : decode cX0_tellPod 44 = .ok (.iload_n 1, 1) := by decide +kernel
theorem dX0_tellPod_45 : decode cX0_tellPod 45 = .ok (.invokestatic 149, 3) := by decide +kernel
theorem dX0_tellPod_48 : decode cX0_tellPod 48 = .ok (.ireturn, 1) := by decide +kernel
theorem dX0_tellPod_49 : decode cX0_tellPod 49 = .ok (.iload_n 3, 1) := by decide +kernel
theorem dX0_tellPod_50 : decode cX0_tellPod 50 = .ok (.iconst (-1), 1) := by decide +kernel
theorem dX0_tellPod_51 : decode cX0_tellPod 51 = .ok (.if_icmp .ne 7, 3) := by decide +kernel
theorem dX0_tellPod_54 : decode cX0_tellPod 54 = .ok (.iconst (-1), 1) := by decide +kernel
theorem dX0_tellPod_55 : decode cX0_tellPod 55 = .ok (.goto 6, 3) := by decide +kernel
theorem dX0_tellPod_58 : decode cX0_tellPod 58 = .ok (.iload_n 3, 1) := by decide +kernel
theorem dX0_tellPod_59 : decode cX0_tellPod 59 = .ok (.iconst 3, 1) := by decide +kernel
theorem dX0_tellPod_60 : decode cX0_tellPod 60 = .ok (.idiv, 1) := by decide +kernel
theorem dX0_tellPod_61 : decode cX0_tellPod 61 = .ok (.ireturn, 1) := by decide +kernel
theorem dX0_tellPod_62 : decode cX0_tellPod 62 = .ok (.iload_n 3, 1) := by decide +kernel
theorem dX0_tellPod_63 : decode cX0_tellPod 63 = .ok (.iconst (-1), 1) := by decide +kernel
theorem dX0_tellPod_64 : decode cX0_tellPod 64 = .ok (.if_icmp .ne 7, 3) := by decide +kernel
theorem dX0_tellPod_67 : decode cX0_tellPod 67 = .ok (.iconst (-1), 1) := by decide +kernel
theorem dX0_tellPod_68 : decode cX0_tellPod 68 = .ok (.goto 6, 3) := by decide +kernel
theorem dX0_tellPod_71 : decode cX0_tellPod 71 = .ok (.iload_n 3, 1) := by decide +kernel
theorem dX0_tellPod_72 : decode cX0_tellPod 72 = .ok (.iconst 3, 1) := by decide +kernel
theorem dX0_tellPod_73 : decode cX0_tellPod 73 = .ok (.irem, 1) := by decide +kernel
theorem dX0_tellPod_74 : decode cX0_tellPod 74 = .ok (.ireturn, 1) := by decide +kernel
theorem dX0_tellPod_75 : decode cX0_tellPod 75 = .ok (.aload_n 0, 1) := by decide +kernel
theorem dX0_tellPod_76 : decode cX0_tellPod 76 = .ok (.iload_n 1, 1) := by decide +kernel
theorem dX0_tellPod_77 : decode cX0_tellPod 77 = .ok (.invokevirtual 116, 3) := by decide +kernel
theorem dX0_tellPod_80 : decode cX0_tellPod 80 = .ok (.ireturn, 1) := by decide +kernel
theorem dX0_tellPod_81 : decode cX0_tellPod 81 = .ok (.aload_n 0, 1) := by decide +kernel
theorem dX0_tellPod_82 : decode cX0_tellPod 82 = .ok (.getfield 43, 3) := by decide +kernel
theorem dX0_tellPod_85 : decode cX0_tellPod 85 = .ok (.iload_n 1, 1) := by decide +kernel
theorem dX0_tellPod_86 : decode cX0_tellPod 86 = .ok (.invokestatic 100, 3) := by decide +kernel
theorem dX0_tellPod_89 : decode cX0_tellPod 89 = .ok (.iconst (-1), 1) := by decide +kernel
theorem dX0_tellPod_90 : decode cX0_tellPod 90 = .ok (.if_icmp .ne 7, 3) := by decide +kernel
theorem dX0_tellPod_93 : decode cX0_tellPod 93 = .ok (.iconst 0, 1) := by decide +kernel
theorem dX0_tellPod_94 : decode cX0_tellPod 94 = .ok (.goto 4, 3) := by decide +kernel
theorem dX0_tellPod_97 : decode cX0_tellPod 97 = .ok (.iconst 1, 1) := by decide +kernel
theorem dX0_tellPod_98 : decode cX0_tellPod 98 = .ok (.ireturn, 1) := by decide +kernel
theorem dX0_tellPod_99 : decode cX0_tellPod 99 = .ok (.aload_n 0, 1) := by decide +kernel
theorem dX0_tellPod_100 : decode cX0_tellPod 100 = .ok (.getfield 46, 3) := by decide +kernel
theorem dX0_tellPod_103 : decode cX0_tellPod 103 = .ok (.iload_n 1, 1) := by decide +kernel
theorem dX0_tellPod_104 : decode cX0_tellPod 104 = .ok (.invokestatic 100, 3) := by decide +kernel
theorem dX0_tellPod_107 : decode cX0_tellPod 107 = .ok (.ireturn, 1) := by decide +kernel
set_option maxRecDepth 20000 in
theorem ggX0_tellStation_X0_placeOf : GoodIn wsX0_tellStation wsX0_placeOf := goodIn_r _ [6, 7, 8, 9, 5, 10, 50, 51, 52, 53, 54, 55, 56, 57, 58, 59, 60, 61, 62, 63, 64, 65, 66] (by decide +kernel) (by decide +kernel)
set_option maxRecDepth 20000 in
theorem gX0_tellStation_X0_placeOf : GoodIn wsX0_tellStation (wsV RX0 110 RX0 yX0_placeOf wsX0_placeOf) := goodIn_app (goodIn_of _ (by decide +kernel)) ggX0_tellStation_X0_placeOf
set_option maxRecDepth 20000 in
theorem ggX0_tellStation_X0_berthsThatHold : GoodIn wsX0_tellStation wsX0_berthsThatHold := goodIn_r _ [14, 15, 16, 17, 5, 18, 19, 20, 8, 9, 10, 50, 51, 52, 53, 54, 55, 56, 57, 58, 59, 60, 61, 62, 63, 64, 65, 66] (by decide +kernel) (by decide +kernel)
set_option maxRecDepth 20000 in
theorem gX0_tellStation_X0_berthsThatHold : GoodIn wsX0_tellStation (wsV RX0 158 RX0 yX0_berthsThatHold wsX0_berthsThatHold) := goodIn_app (goodIn_of _ (by decide +kernel)) ggX0_tellStation_X0_berthsThatHold
set_option maxRecDepth 20000 in
theorem ggX0_tellStation_X0_waitingAt : GoodIn wsX0_tellStation wsX0_waitingAt := goodIn_r _ [24, 25, 26, 27, 28, 29, 8, 9, 5, 10, 50, 51, 52, 53, 54, 55, 56, 57, 58, 59, 60, 61, 62, 63, 64, 65, 66] (by decide +kernel) (by decide +kernel)
set_option maxRecDepth 20000 in
theorem gX0_tellStation_X0_waitingAt : GoodIn wsX0_tellStation (wsV RX0 80 RX0 yX0_waitingAt wsX0_waitingAt) := goodIn_app (goodIn_of _ (by decide +kernel)) ggX0_tellStation_X0_waitingAt
set_option maxRecDepth 20000 in
theorem ggX0_tellStation_X0_emptyPodsTo : GoodIn wsX0_tellStation wsX0_emptyPodsTo := goodIn_r _ [33, 34, 35, 36, 37, 38, 5, 39, 20, 8, 9, 10, 50, 51, 52, 53, 54, 55, 56, 57, 58, 59, 60, 61, 62, 63, 64, 65, 66] (by decide +kernel) (by decide +kernel)
set_option maxRecDepth 20000 in
theorem gX0_tellStation_X0_emptyPodsTo : GoodIn wsX0_tellStation (wsV RX0 132 RX0 yX0_emptyPodsTo wsX0_emptyPodsTo) := goodIn_app (goodIn_of _ (by decide +kernel)) ggX0_tellStation_X0_emptyPodsTo
set_option maxRecDepth 20000 in
theorem ggX0_tellStation_X0_waitedAt : GoodIn wsX0_tellStation wsX0_waitedAt := goodIn_r _ [43, 21, 22, 23, 5, 24, 25, 26, 27, 28, 29, 8, 9, 10, 44, 45, 46, 47, 48, 49, 50, 51, 52, 53, 54, 55, 56, 57, 58, 59, 60, 61, 62, 63, 64, 65, 66] (by decide +kernel) (by decide +kernel)
set_option maxRecDepth 20000 in
theorem gX0_tellStation_X0_waitedAt : GoodIn wsX0_tellStation (wsV RX0 152 RX0 yX0_waitedAt wsX0_waitedAt) := goodIn_app (goodIn_of _ (by decide +kernel)) ggX0_tellStation_X0_waitedAt
set_option maxRecDepth 20000 in
theorem ggX0_tellStation_X0_read : GoodIn wsX0_tellStation wsX0_read := goodIn_r _ [10] (by decide +kernel) (by decide +kernel)
set_option maxRecDepth 20000 in
theorem gX0_tellStation_X0_read : GoodIn wsX0_tellStation (va_wsS RX0 100 yX0_read wsX0_read) := goodIn_app (goodIn_of _ (by decide +kernel)) ggX0_tellStation_X0_read
theorem dX0_tellStation_0 : decode cX0_tellStation 0 = .ok (.iload_n 2, 1) := by decide +kernel
theorem dX0_tellStation_1 : decode cX0_tellStation 1 = .ok (.tableswitch 79 0 5 #[39, 45, 54, 61, 67, 73], 39) := by decide +kernel
theorem dX0_tellStation_40 : decode cX0_tellStation 40 = .ok (.aload_n 0, 1) := by decide +kernel
theorem dX0_tellStation_41 : decode cX0_tellStation 41 = .ok (.iload_n 1, 1) := by decide +kernel
theorem dX0_tellStation_42 : decode cX0_tellStation 42 = .ok (.invokevirtual 110, 3) := by decide +kernel
theorem dX0_tellStation_45 : decode cX0_tellStation 45 = .ok (.ireturn, 1) := by decide +kernel
theorem dX0_tellStation_46 : decode cX0_tellStation 46 = .ok (.iconst 3, 1) := by decide +kernel
theorem dX0_tellStation_47 : decode cX0_tellStation 47 = .ok (.aload_n 0, 1) := by decide +kernel
theorem dX0_tellStation_48 : decode cX0_tellStation 48 = .ok (.iload_n 1, 1) := by decide +kernel
theorem dX0_tellStation_49 : decode cX0_tellStation 49 = .ok (.iconst 0, 1) := by decide +kernel
theorem dX0_tellStation_50 : decode cX0_tellStation 50 = .ok (.invokevirtual 158, 3) := by decide +kernel
theorem dX0_tellStation_53 : decode cX0_tellStation 53 = .ok (.isub, 1) := by decide +kernel
theorem dX0_tellStation_54 : decode cX0_tellStation 54 = .ok (.ireturn, 1) := by decide +kernel
theorem dX0_tellStation_55 : decode cX0_tellStation 55 = .ok (.aload_n 0, 1) := by decide +kernel
theorem dX0_tellStation_56 : decode cX0_tellStation 56 = .ok (.iload_n 1, 1) := by decide +kernel
theorem dX0_tellStation_57 : decode cX0_tellStation 57 = .ok (.iconst 1, 1) := by decide +kernel
theorem dX0_tellStation_58 : decode cX0_tellStation 58 = .ok (.invokevirtual 158, 3) := by decide +kernel
theorem dX0_tellStation_61 : decode cX0_tellStation 61 = .ok (.ireturn, 1) := by decide +kernel
theorem dX0_tellStation_62 : decode cX0_tellStation 62 = .ok (.aload_n 0, 1) := by decide +kernel
theorem dX0_tellStation_63 : decode cX0_tellStation 63 = .ok (.iload_n 1, 1) := by decide +kernel
theorem dX0_tellStation_64 : decode cX0_tellStation 64 = .ok (.invokevirtual 80, 3) := by decide +kernel
theorem dX0_tellStation_67 : decode cX0_tellStation 67 = .ok (.ireturn, 1) := by decide +kernel
theorem dX0_tellStation_68 : decode cX0_tellStation 68 = .ok (.aload_n 0, 1) := by decide +kernel
theorem dX0_tellStation_69 : decode cX0_tellStation 69 = .ok (.iload_n 1, 1) := by decide +kernel
theorem dX0_tellStation_70 : decode cX0_tellStation 70 = .ok (.invokevirtual 132, 3) := by decide +kernel
theorem dX0_tellStation_73 : decode cX0_tellStation 73 = .ok (.ireturn, 1) := by decide +kernel
theorem dX0_tellStation_74 : decode cX0_tellStation 74 = .ok (.aload_n 0, 1) := by decide +kernel
theorem dX0_tellStation_75 : decode cX0_tellStation 75 = .ok (.iload_n 1, 1) := by decide +kernel
theorem dX0_tellStation_76 : decode cX0_tellStation 76 = .ok (.invokevirtual 152, 3) := by decide +kernel
theorem dX0_tellStation_79 : decode cX0_tellStation 79 = .ok (.ireturn, 1) := by decide +kernel
theorem dX0_tellStation_80 : decode cX0_tellStation 80 = .ok (.aload_n 0, 1) := by decide +kernel
theorem dX0_tellStation_81 : decode cX0_tellStation 81 = .ok (.getfield 25, 3) := by decide +kernel
theorem dX0_tellStation_84 : decode cX0_tellStation 84 = .ok (.iload_n 1, 1) := by decide +kernel
theorem dX0_tellStation_85 : decode cX0_tellStation 85 = .ok (.invokestatic 100, 3) := by decide +kernel
theorem dX0_tellStation_88 : decode cX0_tellStation 88 = .ok (.ireturn, 1) := by decide +kernel
set_option maxRecDepth 20000 in
theorem ggX0_tellRider_X0_waitedBy : GoodIn wsX0_tellRider wsX0_waitedBy := goodIn_r _ [6, 7, 8, 9, 10, 5, 11, 12, 13, 14, 15, 16, 17, 18, 19, 20, 21, 22, 23, 24, 25, 26, 27, 28] (by decide +kernel) (by decide +kernel)
set_option maxRecDepth 20000 in
theorem gX0_tellRider_X0_waitedBy : GoodIn wsX0_tellRider (wsV RX0 129 RX0 yX0_waitedBy wsX0_waitedBy) := goodIn_app (goodIn_of _ (by decide +kernel)) ggX0_tellRider_X0_waitedBy
set_option maxRecDepth 20000 in
theorem ggX0_tellRider_X0_read : GoodIn wsX0_tellRider wsX0_read := goodIn_r _ [11] (by decide +kernel) (by decide +kernel)
set_option maxRecDepth 20000 in
theorem gX0_tellRider_X0_read : GoodIn wsX0_tellRider (va_wsS RX0 100 yX0_read wsX0_read) := goodIn_app (goodIn_of _ (by decide +kernel)) ggX0_tellRider_X0_read
theorem dX0_tellRider_0 : decode cX0_tellRider 0 = .ok (.bipush 10, 2) := by decide +kernel
theorem dX0_tellRider_2 : decode cX0_tellRider 2 = .ok (.aload_n 0, 1) := by decide +kernel
theorem dX0_tellRider_3 : decode cX0_tellRider 3 = .ok (.iload_n 1, 1) := by decide +kernel
theorem dX0_tellRider_4 : decode cX0_tellRider 4 = .ok (.iload_n 2, 1) := by decide +kernel
theorem dX0_tellRider_5 : decode cX0_tellRider 5 = .ok (.invokevirtual 129, 3) := by decide +kernel
theorem dX0_tellRider_8 : decode cX0_tellRider 8 = .ok (.imul, 1) := by decide +kernel
theorem dX0_tellRider_9 : decode cX0_tellRider 9 = .ok (.aload_n 0, 1) := by decide +kernel
theorem dX0_tellRider_10 : decode cX0_tellRider 10 = .ok (.getfield 34, 3) := by decide +kernel
theorem dX0_tellRider_13 : decode cX0_tellRider 13 = .ok (.iload_n 1, 1) := by decide +kernel
theorem dX0_tellRider_14 : decode cX0_tellRider 14 = .ok (.bipush 9, 2) := by decide +kernel
theorem dX0_tellRider_16 : decode cX0_tellRider 16 = .ok (.imul, 1) := by decide +kernel
theorem dX0_tellRider_17 : decode cX0_tellRider 17 = .ok (.iload_n 2, 1) := by decide +kernel
theorem dX0_tellRider_18 : decode cX0_tellRider 18 = .ok (.iadd, 1) := by decide +kernel
theorem dX0_tellRider_19 : decode cX0_tellRider 19 = .ok (.invokestatic 100, 3) := by decide +kernel
theorem dX0_tellRider_22 : decode cX0_tellRider 22 = .ok (.iadd, 1) := by decide +kernel
theorem dX0_tellRider_23 : decode cX0_tellRider 23 = .ok (.ireturn, 1) := by decide +kernel
set_option maxRecDepth 20000 in
theorem ggX0_tellCount_X0_waitingInAll : GoodIn wsX0_tellCount wsX0_waitingInAll := goodIn_r _ [10, 2, 11, 12, 13, 9, 14, 15, 16, 17, 18, 19, 20, 21, 22, 42, 43, 44, 45, 46, 47, 48, 49, 50, 51, 52, 53, 54, 55, 56, 57, 58] (by decide +kernel) (by decide +kernel)
set_option maxRecDepth 20000 in
theorem gX0_tellCount_X0_waitingInAll : GoodIn wsX0_tellCount (wsV RX0 161 RX0 yX0_waitingInAll wsX0_waitingInAll) := goodIn_app (goodIn_of _ (by decide +kernel)) ggX0_tellCount_X0_waitingInAll
set_option maxRecDepth 20000 in
theorem ggX0_tellCount_X0_ridersInPods : GoodIn wsX0_tellCount wsX0_ridersInPods := goodIn_r _ [26, 3, 27, 20, 21, 9, 22, 42, 43, 44, 45, 46, 47, 48, 49, 50, 51, 52, 53, 54, 55, 56, 57, 58] (by decide +kernel) (by decide +kernel)
set_option maxRecDepth 20000 in
theorem gX0_tellCount_X0_ridersInPods : GoodIn wsX0_tellCount (wsV RX0 165 RX0 yX0_ridersInPods wsX0_ridersInPods) := goodIn_app (goodIn_of _ (by decide +kernel)) ggX0_tellCount_X0_ridersInPods
set_option maxRecDepth 20000 in
theorem ggX0_tellCount_X0_arrivedInAll : GoodIn wsX0_tellCount wsX0_arrivedInAll := goodIn_r _ [31, 2, 32, 20, 21, 9, 22, 42, 43, 44, 45, 46, 47, 48, 49, 50, 51, 52, 53, 54, 55, 56, 57, 58] (by decide +kernel) (by decide +kernel)
set_option maxRecDepth 20000 in
theorem gX0_tellCount_X0_arrivedInAll : GoodIn wsX0_tellCount (wsV RX0 168 RX0 yX0_arrivedInAll wsX0_arrivedInAll) := goodIn_app (goodIn_of _ (by decide +kernel)) ggX0_tellCount_X0_arrivedInAll
set_option maxRecDepth 20000 in
theorem ggX0_tellCount_X0_freeSlots : GoodIn wsX0_tellCount wsX0_freeSlots := goodIn_r _ [36, 37, 38, 39, 9, 40, 41, 20, 21, 22, 42, 43, 44, 45, 46, 47, 48, 49, 50, 51, 52, 53, 54, 55, 56, 57, 58] (by decide +kernel) (by decide +kernel)
set_option maxRecDepth 20000 in
theorem gX0_tellCount_X0_freeSlots : GoodIn wsX0_tellCount (wsV RX0 171 RX0 yX0_freeSlots wsX0_freeSlots) := goodIn_app (goodIn_of _ (by decide +kernel)) ggX0_tellCount_X0_freeSlots
theorem dX0_tellCount_0 : decode cX0_tellCount 0 = .ok (.iload_n 1, 1) := by decide +kernel
theorem dX0_tellCount_1 : decode cX0_tellCount 1 = .ok (.tableswitch 87 0 7 #[47, 52, 57, 62, 67, 72, 77, 82], 47) := by decide +kernel
theorem dX0_tellCount_48 : decode cX0_tellCount 48 = .ok (.aload_n 0, 1) := by decide +kernel
theorem dX0_tellCount_49 : decode cX0_tellCount 49 = .ok (.getfield 49, 3) := by decide +kernel
theorem dX0_tellCount_52 : decode cX0_tellCount 52 = .ok (.ireturn, 1) := by decide +kernel
theorem dX0_tellCount_53 : decode cX0_tellCount 53 = .ok (.aload_n 0, 1) := by decide +kernel
theorem dX0_tellCount_54 : decode cX0_tellCount 54 = .ok (.getfield 53, 3) := by decide +kernel
theorem dX0_tellCount_57 : decode cX0_tellCount 57 = .ok (.ireturn, 1) := by decide +kernel
theorem dX0_tellCount_58 : decode cX0_tellCount 58 = .ok (.aload_n 0, 1) := by decide +kernel
theorem dX0_tellCount_59 : decode cX0_tellCount 59 = .ok (.getfield 56, 3) := by decide +kernel
theorem dX0_tellCount_62 : decode cX0_tellCount 62 = .ok (.ireturn, 1) := by decide +kernel
theorem dX0_tellCount_63 : decode cX0_tellCount 63 = .ok (.aload_n 0, 1) := by decide +kernel
theorem dX0_tellCount_64 : decode cX0_tellCount 64 = .ok (.invokevirtual 161, 3) := by decide +kernel
theorem dX0_tellCount_67 : decode cX0_tellCount 67 = .ok (.ireturn, 1) := by decide +kernel
theorem dX0_tellCount_68 : decode cX0_tellCount 68 = .ok (.aload_n 0, 1) := by decide +kernel
theorem dX0_tellCount_69 : decode cX0_tellCount 69 = .ok (.invokevirtual 165, 3) := by decide +kernel
theorem dX0_tellCount_72 : decode cX0_tellCount 72 = .ok (.ireturn, 1) := by decide +kernel
theorem dX0_tellCount_73 : decode cX0_tellCount 73 = .ok (.aload_n 0, 1) := by decide +kernel
theorem dX0_tellCount_74 : decode cX0_tellCount 74 = .ok (.invokevirtual 168, 3) := by decide +kernel
theorem dX0_tellCount_77 : decode cX0_tellCount 77 = .ok (.ireturn, 1) := by decide +kernel
theorem dX0_tellCount_78 : decode cX0_tellCount 78 = .ok (.aload_n 0, 1) := by decide +kernel
theorem dX0_tellCount_79 : decode cX0_tellCount 79 = .ok (.invokevirtual 171, 3) := by decide +kernel
theorem dX0_tellCount_82 : decode cX0_tellCount 82 = .ok (.ireturn, 1) := by decide +kernel
theorem dX0_tellCount_83 : decode cX0_tellCount 83 = .ok (.aload_n 0, 1) := by decide +kernel
theorem dX0_tellCount_84 : decode cX0_tellCount 84 = .ok (.getfield 62, 3) := by decide +kernel
theorem dX0_tellCount_87 : decode cX0_tellCount 87 = .ok (.ireturn, 1) := by decide +kernel
theorem dX0_tellCount_88 : decode cX0_tellCount 88 = .ok (.aload_n 0, 1) := by decide +kernel
theorem dX0_tellCount_89 : decode cX0_tellCount 89 = .ok (.getfield 65, 3) := by decide +kernel
theorem dX0_tellCount_92 : decode cX0_tellCount 92 = .ok (.ireturn, 1) := by decide +kernel
set_option maxRecDepth 20000 in
theorem ggX0_emptyRow_J7_fill_53178 : GoodIn wsX0_emptyRow wsJ7_fill_53178 := goodIn_r _ [9] (by decide +kernel) (by decide +kernel)
set_option maxRecDepth 20000 in
theorem gX0_emptyRow_J7_fill_53178 : GoodIn wsX0_emptyRow (va_wsS RX0 174 yJ7_fill_53178 wsJ7_fill_53178) := goodIn_app (goodIn_of _ (by decide +kernel)) ggX0_emptyRow_J7_fill_53178
theorem dX0_emptyRow_0 : decode cX0_emptyRow 0 = .ok (.iconst 0, 1) := by decide +kernel
theorem dX0_emptyRow_1 : decode cX0_emptyRow 1 = .ok (.iload_n 0, 1) := by decide +kernel
theorem dX0_emptyRow_2 : decode cX0_emptyRow 2 = .ok (.invokestatic 146, 3) := by decide +kernel
theorem dX0_emptyRow_5 : decode cX0_emptyRow 5 = .ok (.newarray .int, 2) := by decide +kernel
theorem dX0_emptyRow_7 : decode cX0_emptyRow 7 = .ok (.astore_n 1, 1) := by decide +kernel
theorem dX0_emptyRow_8 : decode cX0_emptyRow 8 = .ok (.aload_n 1, 1) := by decide +kernel
theorem dX0_emptyRow_9 : decode cX0_emptyRow 9 = .ok (.iconst (-1), 1) := by decide +kernel
theorem dX0_emptyRow_10 : decode cX0_emptyRow 10 = .ok (.invokestatic 174, 3) := by decide +kernel
theorem dX0_emptyRow_13 : decode cX0_emptyRow 13 = .ok (.aload_n 1, 1) := by decide +kernel
theorem dX0_emptyRow_14 : decode cX0_emptyRow 14 = .ok (.areturn, 1) := by decide +kernel
theorem dX0_read_0 : decode cX0_read 0 = .ok (.iload_n 1, 1) := by decide +kernel
theorem dX0_read_1 : decode cX0_read 1 = .ok (.ifCond .lt 15, 3) := by decide +kernel
theorem dX0_read_4 : decode cX0_read 4 = .ok (.iload_n 1, 1) := by decide +kernel
theorem dX0_read_5 : decode cX0_read 5 = .ok (.aload_n 0, 1) := by decide +kernel
theorem dX0_read_6 : decode cX0_read 6 = .ok (.arraylength, 1) := by decide +kernel
theorem dX0_read_7 : decode cX0_read 7 = .ok (.if_icmp .ge 9, 3) := by decide +kernel
theorem dX0_read_10 : decode cX0_read 10 = .ok (.aload_n 0, 1) := by decide +kernel
theorem dX0_read_11 : decode cX0_read 11 = .ok (.iload_n 1, 1) := by decide +kernel
theorem dX0_read_12 : decode cX0_read 12 = .ok (.iaload, 1) := by decide +kernel
theorem dX0_read_13 : decode cX0_read 13 = .ok (.goto 4, 3) := by decide +kernel
theorem dX0_read_16 : decode cX0_read 16 = .ok (.iconst (-1), 1) := by decide +kernel
theorem dX0_read_17 : decode cX0_read 17 = .ok (.ireturn, 1) := by decide +kernel
theorem dX0_write_0 : decode cX0_write 0 = .ok (.iload_n 1, 1) := by decide +kernel
theorem dX0_write_1 : decode cX0_write 1 = .ok (.ifCond .lt 13, 3) := by decide +kernel
theorem dX0_write_4 : decode cX0_write 4 = .ok (.iload_n 1, 1) := by decide +kernel
theorem dX0_write_5 : decode cX0_write 5 = .ok (.aload_n 0, 1) := by decide +kernel
theorem dX0_write_6 : decode cX0_write 6 = .ok (.arraylength, 1) := by decide +kernel
theorem dX0_write_7 : decode cX0_write 7 = .ok (.if_icmp .ge 7, 3) := by decide +kernel
theorem dX0_write_10 : decode cX0_write 10 = .ok (.aload_n 0, 1) := by decide +kernel
theorem dX0_write_11 : decode cX0_write 11 = .ok (.iload_n 1, 1) := by decide +kernel
theorem dX0_write_12 : decode cX0_write 12 = .ok (.iload_n 2, 1) := by decide +kernel
theorem dX0_write_13 : decode cX0_write 13 = .ok (.iastore, 1) := by decide +kernel
theorem dX0_write_14 : decode cX0_write 14 = .ok (.return_, 1) := by decide +kernel
theorem dX0_find_0 : decode cX0_find 0 = .ok (.iconst 0, 1) := by decide +kernel
theorem dX0_find_1 : decode cX0_find 1 = .ok (.istore_n 2, 1) := by decide +kernel
theorem dX0_find_2 : decode cX0_find 2 = .ok (.iload_n 2, 1) := by decide +kernel
theorem dX0_find_3 : decode cX0_find 3 = .ok (.aload_n 0, 1) := by decide +kernel
theorem dX0_find_4 : decode cX0_find 4 = .ok (.arraylength, 1) := by decide +kernel
theorem dX0_find_5 : decode cX0_find 5 = .ok (.if_icmp .ge 18, 3) := by decide +kernel
theorem dX0_find_8 : decode cX0_find 8 = .ok (.aload_n 0, 1) := by decide +kernel
theorem dX0_find_9 : decode cX0_find 9 = .ok (.iload_n 2, 1) := by decide +kernel
theorem dX0_find_10 : decode cX0_find 10 = .ok (.iaload, 1) := by decide +kernel
theorem dX0_find_11 : decode cX0_find 11 = .ok (.iload_n 1, 1) := by decide +kernel
theorem dX0_find_12 : decode cX0_find 12 = .ok (.if_icmp .ne 5, 3) := by decide +kernel
theorem dX0_find_15 : decode cX0_find 15 = .ok (.iload_n 2, 1) := by decide +kernel
theorem dX0_find_16 : decode cX0_find 16 = .ok (.ireturn, 1) := by decide +kernel
theorem dX0_find_17 : decode cX0_find 17 = .ok (.iinc 2 1, 3) := by decide +kernel
theorem dX0_find_20 : decode cX0_find 20 = .ok (.goto (-18), 3) := by decide +kernel
theorem dX0_find_23 : decode cX0_find 23 = .ok (.iconst (-1), 1) := by decide +kernel
theorem dX0_find_24 : decode cX0_find 24 = .ok (.ireturn, 1) := by decide +kernel
theorem dX0_copyRow_0 : decode cX0_copyRow 0 = .ok (.aload_n 0, 1) := by decide +kernel
theorem dX0_copyRow_1 : decode cX0_copyRow 1 = .ok (.iconst 0, 1) := by decide +kernel
theorem dX0_copyRow_2 : decode cX0_copyRow 2 = .ok (.aload_n 1, 1) := by decide +kernel
theorem dX0_copyRow_3 : decode cX0_copyRow 3 = .ok (.iconst 0, 1) := by decide +kernel
theorem dX0_copyRow_4 : decode cX0_copyRow 4 = .ok (.aload_n 0, 1) := by decide +kernel
theorem dX0_copyRow_5 : decode cX0_copyRow 5 = .ok (.arraylength, 1) := by decide +kernel
theorem dX0_copyRow_6 : decode cX0_copyRow 6 = .ok (.aload_n 1, 1) := by decide +kernel
theorem dX0_copyRow_7 : decode cX0_copyRow 7 = .ok (.arraylength, 1) := by decide +kernel
theorem dX0_copyRow_8 : decode cX0_copyRow 8 = .ok (.invokestatic 180, 3) := by decide +kernel
theorem dX0_copyRow_11 : decode cX0_copyRow 11 = .ok (.invokestatic 104, 3) := by decide +kernel
theorem dX0_copyRow_14 : decode cX0_copyRow 14 = .ok (.return_, 1) := by decide +kernel
theorem dJ9_floorMod_7cf53_0 : decode cJ9_floorMod_7cf53 0 = .ok (.iload_n 0, 1) := by decide +kernel
theorem dJ9_floorMod_7cf53_1 : decode cJ9_floorMod_7cf53 1 = .ok (.iload_n 1, 1) := by decide +kernel
theorem dJ9_floorMod_7cf53_2 : decode cJ9_floorMod_7cf53 2 = .ok (.irem, 1) := by decide +kernel
theorem dJ9_floorMod_7cf53_3 : decode cJ9_floorMod_7cf53 3 = .ok (.istore_n 2, 1) := by decide +kernel
theorem dJ9_floorMod_7cf53_4 : decode cJ9_floorMod_7cf53 4 = .ok (.iload_n 0, 1) := by decide +kernel
theorem dJ9_floorMod_7cf53_5 : decode cJ9_floorMod_7cf53 5 = .ok (.iload_n 1, 1) := by decide +kernel
theorem dJ9_floorMod_7cf53_6 : decode cJ9_floorMod_7cf53 6 = .ok (.ixor, 1) := by decide +kernel
theorem dJ9_floorMod_7cf53_7 : decode cJ9_floorMod_7cf53 7 = .ok (.ifCond .ge 11, 3) := by decide +kernel
theorem dJ9_floorMod_7cf53_10 : decode cJ9_floorMod_7cf53 10 = .ok (.iload_n 2, 1) := by decide +kernel
theorem dJ9_floorMod_7cf53_11 : decode cJ9_floorMod_7cf53 11 = .ok (.ifCond .eq 7, 3) := by decide +kernel
theorem dJ9_floorMod_7cf53_14 : decode cJ9_floorMod_7cf53 14 = .ok (.iload_n 2, 1) := by decide +kernel
theorem dJ9_floorMod_7cf53_15 : decode cJ9_floorMod_7cf53 15 = .ok (.iload_n 1, 1) := by decide +kernel
theorem dJ9_floorMod_7cf53_16 : decode cJ9_floorMod_7cf53 16 = .ok (.iadd, 1) := by decide +kernel
theorem dJ9_floorMod_7cf53_17 : decode cJ9_floorMod_7cf53 17 = .ok (.ireturn, 1) := by decide +kernel
theorem dJ9_floorMod_7cf53_18 : decode cJ9_floorMod_7cf53 18 = .ok (.iload_n 2, 1) := by decide +kernel
theorem dJ9_floorMod_7cf53_19 : decode cJ9_floorMod_7cf53 19 = .ok (.ireturn, 1) := by decide +kernel
theorem dJ9_max_7cf53_0 : decode cJ9_max_7cf53 0 = .ok (.iload_n 0, 1) := by decide +kernel
theorem dJ9_max_7cf53_1 : decode cJ9_max_7cf53 1 = .ok (.iload_n 1, 1) := by decide +kernel
theorem dJ9_max_7cf53_2 : decode cJ9_max_7cf53 2 = .ok (.if_icmp .lt 7, 3) := by decide +kernel
theorem dJ9_max_7cf53_5 : decode cJ9_max_7cf53 5 = .ok (.iload_n 0, 1) := by decide +kernel
theorem dJ9_max_7cf53_6 : decode cJ9_max_7cf53 6 = .ok (.goto 4, 3) := by decide +kernel
theorem dJ9_max_7cf53_9 : decode cJ9_max_7cf53 9 = .ok (.iload_n 1, 1) := by decide +kernel
theorem dJ9_max_7cf53_10 : decode cJ9_max_7cf53 10 = .ok (.ireturn, 1) := by decide +kernel
theorem dJ9_min_7cf53_0 : decode cJ9_min_7cf53 0 = .ok (.iload_n 0, 1) := by decide +kernel
theorem dJ9_min_7cf53_1 : decode cJ9_min_7cf53 1 = .ok (.iload_n 1, 1) := by decide +kernel
theorem dJ9_min_7cf53_2 : decode cJ9_min_7cf53 2 = .ok (.if_icmp .gt 7, 3) := by decide +kernel
theorem dJ9_min_7cf53_5 : decode cJ9_min_7cf53 5 = .ok (.iload_n 0, 1) := by decide +kernel
theorem dJ9_min_7cf53_6 : decode cJ9_min_7cf53 6 = .ok (.goto 4, 3) := by decide +kernel
theorem dJ9_min_7cf53_9 : decode cJ9_min_7cf53 9 = .ok (.iload_n 1, 1) := by decide +kernel
theorem dJ9_min_7cf53_10 : decode cJ9_min_7cf53 10 = .ok (.ireturn, 1) := by decide +kernel
theorem dJ7_fill_53178_0 : decode cJ7_fill_53178 0 = .ok (.iconst 0, 1) := by decide +kernel
theorem dJ7_fill_53178_1 : decode cJ7_fill_53178 1 = .ok (.istore_n 2, 1) := by decide +kernel
theorem dJ7_fill_53178_2 : decode cJ7_fill_53178 2 = .ok (.aload_n 0, 1) := by decide +kernel
theorem dJ7_fill_53178_3 : decode cJ7_fill_53178 3 = .ok (.arraylength, 1) := by decide +kernel
theorem dJ7_fill_53178_4 : decode cJ7_fill_53178 4 = .ok (.istore_n 3, 1) := by decide +kernel
theorem dJ7_fill_53178_5 : decode cJ7_fill_53178 5 = .ok (.iload_n 2, 1) := by decide +kernel
theorem dJ7_fill_53178_6 : decode cJ7_fill_53178 6 = .ok (.iload_n 3, 1) := by decide +kernel
theorem dJ7_fill_53178_7 : decode cJ7_fill_53178 7 = .ok (.if_icmp .ge 13, 3) := by decide +kernel
theorem dJ7_fill_53178_10 : decode cJ7_fill_53178 10 = .ok (.aload_n 0, 1) := by decide +kernel
theorem dJ7_fill_53178_11 : decode cJ7_fill_53178 11 = .ok (.iload_n 2, 1) := by decide +kernel
theorem dJ7_fill_53178_12 : decode cJ7_fill_53178 12 = .ok (.iload_n 1, 1) := by decide +kernel
theorem dJ7_fill_53178_13 : decode cJ7_fill_53178 13 = .ok (.iastore, 1) := by decide +kernel
theorem dJ7_fill_53178_14 : decode cJ7_fill_53178 14 = .ok (.iinc 2 1, 3) := by decide +kernel
theorem dJ7_fill_53178_17 : decode cJ7_fill_53178 17 = .ok (.goto (-12), 3) := by decide +kernel
theorem dJ7_fill_53178_20 : decode cJ7_fill_53178 20 = .ok (.return_, 1) := by decide +kernel
end
section
-- pure glue
def ob {α β : Type} (x : Option α) (k : α → Option β) : Option β := match x with | none => none | some v => k v
theorem ob_some {α β : Type} {x : Option α} {k : α → Option β} {r : β} (h : ob x k = some r) : ∃ v, x = some v ∧ k v = some r := by
  cases x with
  | none => cases h
  | some v => exact ⟨v, rfl, h⟩
theorem ob_v {α β : Type} {v : α} {k : α → Option β} : ob (some v) k = k v := rfl
def lt {α β : Type} (x : α) (k : α → β) : β := k x
theorem lt_ex {α β : Type} {x : α} {k : α → β} {r : β} (h : lt x k = r) : ∃ z, z = x ∧ k z = r := ⟨x, rfl, h⟩
theorem if_t {α : Type} {q : Prop} {dq : Decidable q} {a b r : α} (h : ite q a b = r) (hc : q) : a = r := (if_pos hc).symm.trans h
theorem if_f {α : Type} {q : Prop} {dq : Decidable q} {a b r : α} (h : ite q a b = r) (hc : ¬ q) : b = r := (if_neg hc).symm.trans h
theorem if_g {α : Type} {q : Prop} {dq : Decidable q} {b : Option α} {r : α} (h : ite q none b = some r) : ¬ q ∧ b = some r := by
  by_cases hc : q
  · rw [if_pos hc] at h; cases h
  · rw [if_neg hc] at h; exact ⟨hc, h⟩
theorem no_r {α : Type} {r : α} {P : Prop} (h : (none : Option α) = some r) : P := by cases h
theorem pr1 {α β : Type} {a a' : α} {b b' : β} (h : some (a, b) = some (a', b')) : a = a' := (Prod.mk.inj (Option.some.inj h)).1
theorem pr2 {α β : Type} {a a' : α} {b b' : β} (h : some (a, b) = some (a', b')) : b = b' := (Prod.mk.inj (Option.some.inj h)).2
def FU : Nat := 2000
-- the tables that every contract speaks of
abbrev zT (Z : Nat → ClassId) : List (ClassId × FieldType) := [(Z 0, .int), (Z 1, .object "PodGuidewayLaw$Pod"), (Z 2, .array .int), (Z 3, .array (.array .int))]
abbrev zK (D : va_G) (Z : Nat → ClassId) (U : State) : Prop := va_K D vwCl (zT Z) U
def zPre (D : va_G) (Z : Nat → ClassId) (w0 : va_W) (sz : Nat) : State → Prop := fun U => U.heap.size = sz ∧ va_P D vwCl w0 U.heap ∧ zK D Z U ∧ va_D (fun _ => True) w0
def zPost (D : va_G) (A : Nat → Prop) (w1 : va_W) : Unit → State → Prop := fun _ t => va_P D vwCl w1 t.heap ∧ va_D A w1
abbrev zQi (r : Int32) (sz : Nat) : Array Value → State → Outcome → State → Prop := va_Qi (fun (r' : Int32) (_ : Unit) => r' = r) (fun _ _ => True) (fun q => sz ≤ q)
abbrev zQz (r : Int32) (sz : Nat) : Array Value → State → Outcome → State → Prop := va_Qi (fun (r' : Int32) (_ : Unit) => r' = r ∧ narrow .boolean (.int r') = .int r') (fun _ _ => True) (fun q => sz ≤ q)
abbrev zQl (r : Int64) (sz : Nat) : Array Value → State → Outcome → State → Prop := va_Ql (fun (r' : Int64) (_ : Unit) => r' = r) (fun _ _ => True) (fun q => sz ≤ q)
abbrev zMv (D : va_G) (A : Nat → Prop) (w1 : va_W) : Array Value → State → Outcome → State → Prop := va_Qv (fun (_ : Unit) => True) (zPost D A w1) A
abbrev zMi (D : va_G) (A : Nat → Prop) (w1 : va_W) (r : Int32) : Array Value → State → Outcome → State → Prop := va_Qi (fun (r' : Int32) (_ : Unit) => r' = r) (zPost D A w1) A
abbrev zMl (D : va_G) (A : Nat → Prop) (w1 : va_W) (r : Int64) : Array Value → State → Outcome → State → Prop := va_Ql (fun (r' : Int64) (_ : Unit) => r' = r) (zPost D A w1) A
def ROi (l : Launch) (y : MethodName) (ws : List Cond) (rm : Room) (D : va_G) (Z : Nat → ClassId) (av : List Value) (w0 : va_W) (r : Int32) : Prop :=
  ∀ sz : Nat, Met l y ws rm (va_Pc av (zPre D Z w0 sz)) (zQi r sz) 0 0 (fun q => sz ≤ q)
def ROz (l : Launch) (y : MethodName) (ws : List Cond) (rm : Room) (D : va_G) (Z : Nat → ClassId) (av : List Value) (w0 : va_W) (r : Int32) : Prop :=
  ∀ sz : Nat, Met l y ws rm (va_Pc av (zPre D Z w0 sz)) (zQz r sz) 0 0 (fun q => sz ≤ q)
def ROl (l : Launch) (y : MethodName) (ws : List Cond) (rm : Room) (D : va_G) (Z : Nat → ClassId) (av : List Value) (w0 : va_W) (r : Int64) : Prop :=
  ∀ sz : Nat, Met l y ws rm (va_Pc av (zPre D Z w0 sz)) (zQl r sz) 0 0 (fun q => sz ≤ q)
def RWv (l : Launch) (y : MethodName) (ws : List Cond) (rm : Room) (D : va_G) (Z : Nat → ClassId) (av : List Value) (w0 w1 : va_W) (mc ms : Nat) : Prop :=
  ∀ sz : Nat, Met l y ws rm (va_Pc av (zPre D Z w0 sz)) (zMv D (va_A w0 sz) w1) mc ms (va_A w0 sz)
def RWi (l : Launch) (y : MethodName) (ws : List Cond) (rm : Room) (D : va_G) (Z : Nat → ClassId) (av : List Value) (w0 w1 : va_W) (r : Int32) (mc ms : Nat) : Prop :=
  ∀ sz : Nat, Met l y ws rm (va_Pc av (zPre D Z w0 sz)) (zMi D (va_A w0 sz) w1 r) mc ms (va_A w0 sz)
def RWl (l : Launch) (y : MethodName) (ws : List Cond) (rm : Room) (D : va_G) (Z : Nat → ClassId) (av : List Value) (w0 w1 : va_W) (r : Int64) (mc ms : Nat) : Prop :=
  ∀ sz : Nat, Met l y ws rm (va_Pc av (zPre D Z w0 sz)) (zMl D (va_A w0 sz) w1 r) mc ms (va_A w0 sz)
/-- what a body has at hand -/
def Cx (p : Program) (s : State) (m : MethodId) (args : Array Value) (meth : Method) (c : Code) (cc : ByteArray) (own nm : String) (nL : Nat) (ret : Option FieldType) (ws : List Cond) : Prop :=
  p.tables.exec = Jvm.exec ∧ c.code = cc ∧ meth.sig.returnType = ret ∧ c.maxLocals = nL ∧ s.vm.findClass own = some m.cls ∧ (∀ w ∈ ws, w.before args s = true) ∧ meth.locks = false ∧ meth.name = nm
theorem z_blind {D : va_G} {Z : Nat → ClassId} {av : List Value} {w0 : va_W} {sz : Nat} : FrameBlind (va_Pc av (zPre D Z w0 sz)) := fun a U g mk q => by
  obtain ⟨q0, q1, qP, qK, qD⟩ := q
  exact ⟨q0, q1, qP, va_K.moved (u := U) (U := U.calling g mk a) (Vm.Alike.refl U.vm) qK, qD⟩
theorem z_fm {α : Type} {ws w0 : List α} {is : List Nat} (h : is.map (fun i => ws[i]?) = w0.map some) : is.filterMap (fun i => ws[i]?) = w0 := by
  have h2 : (is.map (fun i => ws[i]?)).filterMap id = (w0.map some).filterMap id := by rw [h]
  rw [List.filterMap_map, List.filterMap_map] at h2
  simpa using h2
theorem Met.ofWF {l : Launch} {y : MethodName} {ws ws' : List Cond} {rm : Room} {Pc : Array Value → State → Prop} {Qc : Array Value → State → Outcome → State → Prop} {mc ms : Nat} {free : Addr → Prop} {cc : ByteArray} {maxL : Nat} {ret : Option FieldType}
    (hy : plainFor y = true) (hw : ws = Cond.code y cc maxL ret :: ws')
    (body : ∀ p e s m args below meth c s₁, BodyLoose p l y (headSpec ws rm) cc maxL ret e s m args below meth c s₁ → c.maxLocals = maxL → Pc args s →
      W p l e (headSpec ws rm).room s m args below meth c s.heap [] 0 0 (MQ below Qc args s mc ms free) (entryFrame m args maxL)) : Met l y ws rm Pc Qc mc ms free := by
  refine MetFree.of_bodySF (code := cc) (maxLocals := maxL) (ret := ret) hy ?_ ?_
  · intro args s m h hn
    obtain ⟨meth, c, h1, h2, h3, h4, h5, h6, -, -⟩ := Cond.code_spec hn (atoms_spec (ws := ws) h _ (by rw [hw]; exact List.mem_cons_self))
    exact ⟨meth, c, h1, h2, h3, h4, h5, h6⟩
  · intro p e s m args below meth c s₁ B hml hP _
    obtain ⟨t, a1, o, b1, b2, b3⟩ := body p e s m args below meth c s₁ B hml hP s₁ (by rw [B.state]; rfl) (Stand.of_body B)
    exact ⟨t, o, a1, b1, b2, b3⟩
section PGOPEN
variable {l : Launch} {y : MethodName} {ws ws' : List Cond} {rm : Room} {cc : ByteArray} {nL : Nat} {ret : Option FieldType} {av : List Value} {D : va_G} {Z : Nat → ClassId} {w0 w1 : va_W} {mc ms : Nat}
theorem z_open {B : State → Prop} {Qc : Array Value → State → Outcome → State → Prop} {free : Addr → Prop} (hy : plainFor y = true) (hw : ws = Cond.code y cc nL ret :: ws') (hn : (lg_sl av).length ≤ nL)
    (body : ∀ (p : Program) (e : Env) (s : State) (m : MethodId) (below : List Frame) (meth : Method) (c : Code), Cx p s m av.toArray meth c cc y.cls y.name nL ret ws → B s → ∀ ls : Array Slot, lv_has ls nL (lv_args 0 av) → W p l e rm s m av.toArray below meth c s.heap [] 0 0 (MQ below Qc av.toArray s mc ms free) (F0 m 0 ls [])) : Met l y ws rm (va_Pc av B) Qc mc ms free := by
  refine Met.ofWF (cc := cc) (maxL := nL) (ret := ret) hy hw ?_
  intro p e s m args below meth c s₁ Bd hml hv
  obtain ⟨rfl, hB⟩ := hv
  have hl := lv_entry av (n := nL) hn
  rw [lg_entry_eq]
  generalize (lg_sl av ++ List.replicate (nL - (lg_sl av).length) Slot.unset).toArray = ls at hl ⊢
  exact body p e s m below meth c ⟨Bd.exec, Bd.bytes, Bd.returns, hml, findClass_of_methodNamed Bd.named, atoms_spec (ws := ws) Bd.pre, Bd.notSynchronized, (name_of_methodNamed Bd.named Bd.method).1⟩ hB ls hl
abbrev zRO (l : Launch) (y : MethodName) (cc : ByteArray) (nL : Nat) (ret : Option FieldType) (ws : List Cond) (rm : Room) (D : va_G) (Z : Nat → ClassId) (av : List Value) (w0 : va_W) (Qc : Nat → Array Value → State → Outcome → State → Prop) : Prop :=
  ∀ (p : Program) (e : Env) (s : State) (m : MethodId) (below : List Frame) (meth : Method) (c : Code), Cx p s m av.toArray meth c cc y.cls y.name nL ret ws → (∀ q : Nat, s.heap.size ≤ q → (fun q : Nat => s.heap.size ≤ q) q) → va_P D vwCl w0 s.heap → zK D Z s → va_D (fun _ => True) w0 → va_S (fun q : Nat => s.heap.size ≤ q) s.heap s.heap [] → ∀ ls : Array Slot, lv_has ls nL (lv_args 0 av) → W p l e rm s m av.toArray below meth c s.heap [] 0 0 (MQ below (Qc s.heap.size) av.toArray s 0 0 (fun q => s.heap.size ≤ q)) (F0 m 0 ls [])
abbrev zRW (l : Launch) (y : MethodName) (cc : ByteArray) (nL : Nat) (ret : Option FieldType) (ws : List Cond) (rm : Room) (D : va_G) (Z : Nat → ClassId) (av : List Value) (w0 : va_W) (mc ms : Nat) (Qc : (Nat → Prop) → Array Value → State → Outcome → State → Prop) : Prop :=
  ∀ (p : Program) (e : Env) (s : State) (m : MethodId) (below : List Frame) (meth : Method) (c : Code) (A : Nat → Prop), Cx p s m av.toArray meth c cc y.cls y.name nL ret ws → (∀ q : Nat, s.heap.size ≤ q → A q) → va_P D vwCl w0 s.heap → zK D Z s → va_D A w0 → va_S A s.heap s.heap [] → ∀ ls : Array Slot, lv_has ls nL (lv_args 0 av) → W p l e rm s m av.toArray below meth c s.heap [] 0 0 (MQ below (Qc A) av.toArray s mc ms A) (F0 m 0 ls [])
theorem ROi.of {r : Int32} (hy : plainFor y = true) (hw : ws = Cond.code y cc nL ret :: ws') (hn : (lg_sl av).length ≤ nL) (body : zRO l y cc nL ret ws rm D Z av w0 (zQi r)) : ROi l y ws rm D Z av w0 r := fun sz => by
  refine z_open hy hw hn ?_
  intro p e s m below meth c C ⟨hsz, hP, hK, hD⟩ ls hl
  subst hsz
  exact body p e s m below meth c C (fun _ h => h) hP hK hD va_S.rf ls hl
theorem ROz.of {r : Int32} (hy : plainFor y = true) (hw : ws = Cond.code y cc nL ret :: ws') (hn : (lg_sl av).length ≤ nL) (body : zRO l y cc nL ret ws rm D Z av w0 (zQz r)) : ROz l y ws rm D Z av w0 r := fun sz => by
  refine z_open hy hw hn ?_
  intro p e s m below meth c C ⟨hsz, hP, hK, hD⟩ ls hl
  subst hsz
  exact body p e s m below meth c C (fun _ h => h) hP hK hD va_S.rf ls hl
theorem ROl.of {r : Int64} (hy : plainFor y = true) (hw : ws = Cond.code y cc nL ret :: ws') (hn : (lg_sl av).length ≤ nL) (body : zRO l y cc nL ret ws rm D Z av w0 (zQl r)) : ROl l y ws rm D Z av w0 r := fun sz => by
  refine z_open hy hw hn ?_
  intro p e s m below meth c C ⟨hsz, hP, hK, hD⟩ ls hl
  subst hsz
  exact body p e s m below meth c C (fun _ h => h) hP hK hD va_S.rf ls hl
theorem RWv.of (hy : plainFor y = true) (hw : ws = Cond.code y cc nL ret :: ws') (hn : (lg_sl av).length ≤ nL) (body : zRW l y cc nL ret ws rm D Z av w0 mc ms (fun A => zMv D A w1)) : RWv l y ws rm D Z av w0 w1 mc ms := fun sz => by
  refine z_open hy hw hn ?_
  intro p e s m below meth c C ⟨hsz, hP, hK, hD⟩ ls hl
  subst hsz
  exact body p e s m below meth c (va_A w0 s.heap.size) C (fun _ h => Or.inr h) hP hK hD.self va_S.rf ls hl
theorem RWi.of {r : Int32} (hy : plainFor y = true) (hw : ws = Cond.code y cc nL ret :: ws') (hn : (lg_sl av).length ≤ nL) (body : zRW l y cc nL ret ws rm D Z av w0 mc ms (fun A => zMi D A w1 r)) : RWi l y ws rm D Z av w0 w1 r mc ms := fun sz => by
  refine z_open hy hw hn ?_
  intro p e s m below meth c C ⟨hsz, hP, hK, hD⟩ ls hl
  subst hsz
  exact body p e s m below meth c (va_A w0 s.heap.size) C (fun _ h => Or.inr h) hP hK hD.self va_S.rf ls hl
theorem RWl.of {r : Int64} (hy : plainFor y = true) (hw : ws = Cond.code y cc nL ret :: ws') (hn : (lg_sl av).length ≤ nL) (body : zRW l y cc nL ret ws rm D Z av w0 mc ms (fun A => zMl D A w1 r)) : RWl l y ws rm D Z av w0 w1 r mc ms := fun sz => by
  refine z_open hy hw hn ?_
  intro p e s m below meth c C ⟨hsz, hP, hK, hD⟩ ls hl
  subst hsz
  exact body p e s m below meth c (va_A w0 s.heap.size) C (fun _ h => Or.inr h) hP hK hD.self va_S.rf ls hl
end PGOPEN
section PGRET
variable {p : Program} {l : Launch} {e : Env} {R : Room} {s : State} {m : MethodId} {args : Array Value} {below : List Frame} {meth : Method} {c : Code} {H : Heap} {locs : List Loc} {cells slots : Nat} {Q : State → Prop} {cc : ByteArray} {pc : Nat} {ls : Array Slot} {D : va_G} {w w1 : va_W} {A : Nat → Prop} {mc ms : Nat}
theorem zr_i {v r : Int32} (hx : p.tables.exec = Jvm.exec) (hb : c.code = cc) (hr : meth.sig.returnType = some .int) (hlk : meth.locks = false) (hS : va_S (fun q : Nat => s.heap.size ≤ q) s.heap H locs) (hv : v = r) (hdg : decode cc pc = .ok (.ireturn, 1)) : W p l e R s m args below meth c H locs 0 0 (MQ below (zQi r s.heap.size) args s 0 0 (fun q => s.heap.size ≤ q)) (F0 m pc ls [.int v]) := by
  subst hv
  exact W.iret hx hb hr (fun t ht hW => ⟨⟨v, (), rfl, rfl, trivial⟩, hS.F ht⟩) hS.2.2 hdg hlk
theorem zr_z {v r : Int32} (hx : p.tables.exec = Jvm.exec) (hb : c.code = cc) (hr : meth.sig.returnType = some .boolean) (hlk : meth.locks = false) (hS : va_S (fun q : Nat => s.heap.size ≤ q) s.heap H locs) (hv : v = r) (hn : narrow .boolean (.int v) = .int v) (hdg : decode cc pc = .ok (.ireturn, 1)) : W p l e R s m args below meth c H locs 0 0 (MQ below (zQz r s.heap.size) args s 0 0 (fun q => s.heap.size ≤ q)) (F0 m pc ls [.int v]) := by
  subst hv
  exact W.zret hx hb hr hn (fun t ht hW => ⟨⟨v, (), rfl, ⟨rfl, hn⟩, trivial⟩, hS.F ht⟩) hS.2.2 hdg hlk
theorem zr_l {v r : Int64} (hx : p.tables.exec = Jvm.exec) (hb : c.code = cc) (hr : meth.sig.returnType = some .long) (hlk : meth.locks = false) (hS : va_S (fun q : Nat => s.heap.size ≤ q) s.heap H locs) (hv : v = r) (hdg : decode cc pc = .ok (.lreturn, 1)) : W p l e R s m args below meth c H locs 0 0 (MQ below (zQl r s.heap.size) args s 0 0 (fun q => s.heap.size ≤ q)) (F0 m pc ls [.long v]) := by
  subst hv
  exact W.lret hx hb hr (fun t ht hW => ⟨⟨v, (), rfl, rfl, trivial⟩, hS.F ht⟩) hS.2.2 hdg hlk
theorem zw_v (hx : p.tables.exec = Jvm.exec) (hb : c.code = cc) (hr : meth.sig.returnType = none) (hlk : meth.locks = false) (hP : va_P D vwCl w H) (hD : va_D A w) (hS : va_S A s.heap H locs) (hw : w = w1) (h1 : cells ≤ mc) (h2 : slots ≤ ms) (hdg : decode cc pc = .ok (.return_, 1)) : W p l e R s m args below meth c H locs cells slots (MQ below (zMv D A w1) args s mc ms A) (F0 m pc ls []) := by
  subst hw
  refine W.widen h1 h2 ?_
  exact W.vret hx hb hr (fun t ht hW => ⟨⟨(), rfl, trivial, by rw [ht]; exact hP, hD⟩, hS.F ht⟩) hS.2.2 hdg hlk
theorem zw_i {v r : Int32} (hx : p.tables.exec = Jvm.exec) (hb : c.code = cc) (hr : meth.sig.returnType = some .int) (hlk : meth.locks = false) (hP : va_P D vwCl w H) (hD : va_D A w) (hS : va_S A s.heap H locs) (hw : w = w1) (hv : v = r) (h1 : cells ≤ mc) (h2 : slots ≤ ms) (hdg : decode cc pc = .ok (.ireturn, 1)) : W p l e R s m args below meth c H locs cells slots (MQ below (zMi D A w1 r) args s mc ms A) (F0 m pc ls [.int v]) := by
  subst hw
  subst hv
  refine W.widen h1 h2 ?_
  exact W.iret hx hb hr (fun t ht hW => ⟨⟨v, (), rfl, rfl, by rw [ht]; exact hP, hD⟩, hS.F ht⟩) hS.2.2 hdg hlk
theorem zw_l {v r : Int64} (hx : p.tables.exec = Jvm.exec) (hb : c.code = cc) (hr : meth.sig.returnType = some .long) (hlk : meth.locks = false) (hP : va_P D vwCl w H) (hD : va_D A w) (hS : va_S A s.heap H locs) (hw : w = w1) (hv : v = r) (h1 : cells ≤ mc) (h2 : slots ≤ ms) (hdg : decode cc pc = .ok (.lreturn, 1)) : W p l e R s m args below meth c H locs cells slots (MQ below (zMl D A w1 r) args s mc ms A) (F0 m pc ls [.long v]) := by
  subst hw
  subst hv
  refine W.widen h1 h2 ?_
  exact W.lret hx hb hr (fun t ht hW => ⟨⟨v, (), rfl, rfl, by rw [ht]; exact hP, hD⟩, hS.F ht⟩) hS.2.2 hdg hlk
end PGRET
section PGCALL
variable {p : Program} {l : Launch} {e : Env} {R : Room} {s : State} {m : MethodId} {args : Array Value} {below : List Frame} {meth : Method} {c : Code} {H : Heap} {locs : List Loc} {cells slots : Nat} {Q : State → Prop} {cc : ByteArray} {pc : Nat} {ls : Array Slot} {D : va_G} {Z : Nat → ClassId} {w w0 w1 wr w2 : va_W} {A A0 : Nat → Prop} {H0 : Heap} {mc ms nL n index maxL : Nat} {a : Array Value}
variable {y : MethodName} {bytes : ByteArray} {ret : Option FieldType} {wsy ws' Ts : List Cond} {rm : Room} {own C host : String} {b : Addr} {As rest st0 : List Value} {Qc : Array Value → State → Outcome → State → Prop} {free : Addr → Prop}
theorem z_pre {av : List Value} (hK : zK D Z s) (hP : va_P D vwCl w0 H) (hD : va_D A w0) : ∀ U : State, U.heap = H → s.WarmedH U.vm → va_Pc av (zPre D Z w0 H.size) av.toArray U :=
  fun U hU hW => ⟨rfl, by rw [hU], by rw [hU]; exact hP, va_K.moved hW.alike hK, hD.weaken (fun _ _ _ _ => trivial)⟩
theorem z_VD {Qd : Nat → Array Value → State → Outcome → State → Prop} {fd : Nat → Addr → Prop} {q0 ci : Nat} {fs : List Value} {q : vw_C} (S : CallFix p m c cc nL s args Ts own) (hM : ∀ sz : Nat, Met l y wsy rm (va_Pc (.ref b :: As) (zPre D Z w0 sz)) (Qd sz) mc ms (fd sz)) (hg : GoodIn Ts (wsV own index C y wsy)) (hw : wsy = Cond.code y bytes maxL ret :: ws') (hrc : rm.cells = mc) (hrs : rm.slots = ms)
    (hd : y.cls = C ∧ y.cls ≠ "java/lang/invoke/MethodHandle" ∧ y.cls ≠ "java/lang/invoke/VarHandle" ∧ (parseMethodDescriptor y.desc).map (fun d => d.parameters.length) = some n) (hR : rm.frames + 1 ≤ R.frames ∧ 8 + (maxL + 11) + rm.locals ≤ R.locals)
    (hK : zK D Z s) (hP : va_P D vwCl w0 H) (hD : va_D A w0) (hr : w0[q0]? = some (b, .inr (ci, fs))) (hc : vwCl[ci]? = some q) (hq : q.1 = C) (hn : As.length = n) (hsz : ls.size = nL) (hst : st0 = As.reverse ++ .ref b :: rest) (hroom : (rest.map fun v => v.category).sum ≤ 8) (hdg : decode cc pc = .ok (.invokevirtual index, 3)) (hf : cells + mc ≤ R.cells ∧ slots + ms ≤ R.slots) :
    va_Run p l e R s m args below meth c H locs cells slots mc ms (F0 m pc ls st0) rest (Qd H.size (Value.ref b :: As).toArray) (fd H.size) := by
  subst hq
  exact va_runV S (hM H.size) (cwV n S.2.2.2.2 hg hw hrc hrs hd hR) ⟨z_blind, va_recv hK hP hc hr, z_pre hK hP hD⟩ rfl hn hsz hst (lv_room hroom) hdg hf
/-- a static method -/
theorem z_SD {Qd : Nat → Array Value → State → Outcome → State → Prop} {fd : Nat → Addr → Prop} (S : CallFix p m c cc nL s args Ts own) (hM : ∀ sz : Nat, Met l y wsy rm (va_Pc As (zPre D Z w0 sz)) (Qd sz) mc ms (fd sz)) (hg : GoodIn Ts (va_wsS own index y wsy)) (hw : wsy = Cond.code y bytes maxL ret :: ws') (hrc : rm.cells = mc) (hrs : rm.slots = ms)
    (hd : y.cls ≠ "java/lang/invoke/MethodHandle" ∧ y.cls ≠ "java/lang/invoke/VarHandle" ∧ (parseMethodDescriptor y.desc).map (fun d => d.parameters.length) = some n) (hR : rm.frames + 1 ≤ R.frames ∧ 8 + (maxL + 11) + rm.locals ≤ R.locals)
    (hK : zK D Z s) (hP : va_P D vwCl w0 H) (hD : va_D A w0) (hn : As.length = n) (hsz : ls.size = nL) (hst : st0 = As.reverse ++ rest) (hroom : (rest.map fun v => v.category).sum ≤ 8) (hdg : decode cc pc = .ok (.invokestatic index, 3)) (hf : cells + mc ≤ R.cells ∧ slots + ms ≤ R.slots) :
    va_Run p l e R s m args below meth c H locs cells slots mc ms (F0 m pc ls st0) rest (Qd H.size As.toArray) (fd H.size) :=
  va_runS S (hM H.size) (va_cwS n S.2.2.2.2 hg hw hrc hrs hd hR) ⟨z_blind, z_pre hK hP hD⟩ rfl hn hsz hst (lv_room hroom) hdg hf
/-- behind a call that reads alone: the world is as it was -/
theorem zc_i {r : Int32} (hr : va_Run p l e R s m args below meth c H locs cells slots 0 0 (F0 m pc ls st0) rest (zQi r H.size a) (fun q => H.size ≤ q)) (hP : va_P D vwCl w H) (hS : va_S A H0 H locs) (hA : ∀ q, H0.size ≤ q → A q)
    (kk : ∀ (H1 : Heap) (locs1 : List Loc), va_P D vwCl w H1 → va_S A H0 H1 locs1 → W p l e R s m args below meth c H1 locs1 cells slots Q (F0 m (pc + 3) ls (.int r :: rest))) : W p l e R s m args below meth c H locs cells slots Q (F0 m pc ls st0) := by
  refine va_calli hr hS (fun q h1 h2 => absurd h2 (Nat.not_le.mpr h1)) (fun q h => hA q (Nat.le_trans hS.1 h)) (fun r' u t H1 locs1 _ _ hp _ _ hk hS1 => ?_)
  subst hp
  exact kk H1 locs1 (hP.kept (fun k q hq => hk q.1 (hP k q hq).lt (Nat.not_le.mpr (hP k q hq).lt))) hS1
theorem zc_z {r : Int32} (hr : va_Run p l e R s m args below meth c H locs cells slots 0 0 (F0 m pc ls st0) rest (zQz r H.size a) (fun q => H.size ≤ q)) (hP : va_P D vwCl w H) (hS : va_S A H0 H locs) (hA : ∀ q, H0.size ≤ q → A q)
    (kk : ∀ (H1 : Heap) (locs1 : List Loc), narrow .boolean (.int r) = .int r → va_P D vwCl w H1 → va_S A H0 H1 locs1 → W p l e R s m args below meth c H1 locs1 cells slots Q (F0 m (pc + 3) ls (.int r :: rest))) : W p l e R s m args below meth c H locs cells slots Q (F0 m pc ls st0) := by
  refine va_calli hr hS (fun q h1 h2 => absurd h2 (Nat.not_le.mpr h1)) (fun q h => hA q (Nat.le_trans hS.1 h)) (fun r' u t H1 locs1 _ _ hp _ _ hk hS1 => ?_)
  obtain ⟨hp, hn⟩ := hp
  subst hp
  exact kk H1 locs1 hn (hP.kept (fun k q hq => hk q.1 (hP k q hq).lt (Nat.not_le.mpr (hP k q hq).lt))) hS1
theorem zc_l {r : Int64} (hr : va_Run p l e R s m args below meth c H locs cells slots 0 0 (F0 m pc ls st0) rest (zQl r H.size a) (fun q => H.size ≤ q)) (hP : va_P D vwCl w H) (hS : va_S A H0 H locs) (hA : ∀ q, H0.size ≤ q → A q)
    (kk : ∀ (H1 : Heap) (locs1 : List Loc), va_P D vwCl w H1 → va_S A H0 H1 locs1 → W p l e R s m args below meth c H1 locs1 cells slots Q (F0 m (pc + 3) ls (.long r :: rest))) : W p l e R s m args below meth c H locs cells slots Q (F0 m pc ls st0) := by
  refine va_calll hr hS (fun q h1 h2 => absurd h2 (Nat.not_le.mpr h1)) (fun q h => hA q (Nat.le_trans hS.1 h)) (fun r' u t H1 locs1 _ _ hp _ _ hk hS1 => ?_)
  subst hp
  exact kk H1 locs1 (hP.kept (fun k q hq => hk q.1 (hP k q hq).lt (Nat.not_le.mpr (hP k q hq).lt))) hS1
/-- how a callee's world lies in the caller's: its cells at the places isC, the others at isR, the new list put together in the order perm -/
def zIn (w w0 w1 w2 wr : va_W) (isC isR perm : List Nat) : Prop := isC.map (fun i => w[i]?) = w0.map some ∧ isR.map (fun i => w[i]?) = wr.map some ∧ va_nd isR = true ∧ va_nd isC = true ∧ (∀ i ∈ isR, i ∉ isC) ∧ perm.map (fun i => (wr ++ w1)[i]?) = w2.map some ∧ va_nd perm = true
theorem z_back {isC isR perm : List Nat} {H1 : Heap} (hI : zIn w w0 w1 w2 wr isC isR perm) (hP : va_P D vwCl w H) (hD : va_D A w) (hF : ∀ q, va_A w0 H.size q → A q) (hk : ∀ q : Nat, q < H.size → ¬ va_A w0 H.size q → H1[q]? = H[q]?) (h1 : va_P D vwCl w1 H1) (h2 : va_D (va_A w0 H.size) w1) : va_P D vwCl w2 H1 ∧ va_D A w2 := by
  obtain ⟨iC, iR, nR, -, dis, pe, np⟩ := hI
  obtain ⟨j1, j2⟩ := va_join hP hD isC isR iC iR nR dis hk hF h1 h2
  exact ⟨j1.sub perm (z_fm pe), j2.sub perm np pe⟩
theorem z_free {isC isR perm : List Nat} (hI : zIn w w0 w1 w2 wr isC isR perm) (hD : va_D A w) (hS : va_S A H0 H locs) (hA : ∀ q, H0.size ≤ q → A q) : ∀ q, va_A w0 H.size q → A q := va_free hD hS hA isC hI.1
theorem zc_mv {isC isR perm : List Nat} (hI : zIn w w0 w1 w2 wr isC isR perm) (hr : va_Run p l e R s m args below meth c H locs cells slots mc ms (F0 m pc ls st0) rest (zMv D (va_A w0 H.size) w1 a) (va_A w0 H.size)) (hP : va_P D vwCl w H) (hD : va_D A w) (hS : va_S A H0 H locs) (hA : ∀ q, H0.size ≤ q → A q)
    (kk : ∀ (H1 : Heap) (locs1 : List Loc), va_P D vwCl w2 H1 → va_D A w2 → va_S A H0 H1 locs1 → W p l e R s m args below meth c H1 locs1 (cells + mc) (slots + ms) Q (F0 m (pc + 3) ls rest)) : W p l e R s m args below meth c H locs cells slots Q (F0 m pc ls st0) := by
  have hF := z_free hI hD hS hA
  refine va_callv hr hS (fun q _ h => hF q h) hF (fun u t H1 locs1 ht _ _ hB _ hk hS1 => ?_)
  obtain ⟨hP1, hD1⟩ := hB
  rw [ht] at hP1
  obtain ⟨j1, j2⟩ := z_back hI hP hD hF hk hP1 hD1
  exact kk H1 locs1 j1 j2 hS1
theorem zc_mi {r : Int32} {isC isR perm : List Nat} (hI : zIn w w0 w1 w2 wr isC isR perm) (hr : va_Run p l e R s m args below meth c H locs cells slots mc ms (F0 m pc ls st0) rest (zMi D (va_A w0 H.size) w1 r a) (va_A w0 H.size)) (hP : va_P D vwCl w H) (hD : va_D A w) (hS : va_S A H0 H locs) (hA : ∀ q, H0.size ≤ q → A q)
    (kk : ∀ (H1 : Heap) (locs1 : List Loc), va_P D vwCl w2 H1 → va_D A w2 → va_S A H0 H1 locs1 → W p l e R s m args below meth c H1 locs1 (cells + mc) (slots + ms) Q (F0 m (pc + 3) ls (.int r :: rest))) : W p l e R s m args below meth c H locs cells slots Q (F0 m pc ls st0) := by
  have hF := z_free hI hD hS hA
  refine va_calli hr hS (fun q _ h => hF q h) hF (fun r' u t H1 locs1 ht _ hp hB _ hk hS1 => ?_)
  subst hp
  obtain ⟨hP1, hD1⟩ := hB
  rw [ht] at hP1
  obtain ⟨j1, j2⟩ := z_back hI hP hD hF hk hP1 hD1
  exact kk H1 locs1 j1 j2 hS1
theorem zc_ml {r : Int64} {isC isR perm : List Nat} (hI : zIn w w0 w1 w2 wr isC isR perm) (hr : va_Run p l e R s m args below meth c H locs cells slots mc ms (F0 m pc ls st0) rest (zMl D (va_A w0 H.size) w1 r a) (va_A w0 H.size)) (hP : va_P D vwCl w H) (hD : va_D A w) (hS : va_S A H0 H locs) (hA : ∀ q, H0.size ≤ q → A q)
    (kk : ∀ (H1 : Heap) (locs1 : List Loc), va_P D vwCl w2 H1 → va_D A w2 → va_S A H0 H1 locs1 → W p l e R s m args below meth c H1 locs1 (cells + mc) (slots + ms) Q (F0 m (pc + 3) ls (.long r :: rest))) : W p l e R s m args below meth c H locs cells slots Q (F0 m pc ls st0) := by
  have hF := z_free hI hD hS hA
  refine va_calll hr hS (fun q _ h => hF q h) hF (fun r' u t H1 locs1 ht _ hp hB _ hk hS1 => ?_)
  subst hp
  obtain ⟨hP1, hD1⟩ := hB
  rw [ht] at hP1
  obtain ⟨j1, j2⟩ := z_back hI hP hD hF hk hP1 hD1
  exact kk H1 locs1 j1 j2 hS1
end PGCALL
section PGCALL2
variable {p : Program} {l : Launch} {e : Env} {R : Room} {s : State} {m : MethodId} {args : Array Value} {below : List Frame} {meth : Method} {c : Code} {H : Heap} {locs : List Loc} {cells slots : Nat} {Q : State → Prop} {pc : Nat} {ls : Array Slot} {D : va_G} {w w0 w1 : va_W} {A : Nat → Prop} {H0 : Heap} {mc ms : Nat} {a : Array Value} {rest st0 : List Value}
/-- the callee's world is the caller's whole world -/
theorem zc_mv0 (hr : va_Run p l e R s m args below meth c H locs cells slots mc ms (F0 m pc ls st0) rest (zMv D (va_A w0 H.size) w1 a) (va_A w0 H.size)) (hD : va_D A w0) (hS : va_S A H0 H locs) (hA : ∀ q, H0.size ≤ q → A q)
    (kk : ∀ (H1 : Heap) (locs1 : List Loc), va_P D vwCl w1 H1 → va_D A w1 → va_S A H0 H1 locs1 → W p l e R s m args below meth c H1 locs1 (cells + mc) (slots + ms) Q (F0 m (pc + 3) ls rest)) : W p l e R s m args below meth c H locs cells slots Q (F0 m pc ls st0) := by
  have hF : ∀ q, va_A w0 H.size q → A q := fun q h => h.elim (fun ⟨k, e, h⟩ => hD.2 k (q, e) h) (fun h => hA q (Nat.le_trans hS.1 h))
  refine va_callv hr hS (fun q _ h => hF q h) hF (fun u t H1 locs1 ht _ _ hB _ hk hS1 => ?_)
  obtain ⟨hP1, hD1⟩ := hB
  rw [ht] at hP1
  exact kk H1 locs1 hP1 (hD1.weaken (fun _ q _ h => hF q.1 h)) hS1
theorem zc_mi0 {r : Int32} (hr : va_Run p l e R s m args below meth c H locs cells slots mc ms (F0 m pc ls st0) rest (zMi D (va_A w0 H.size) w1 r a) (va_A w0 H.size)) (hD : va_D A w0) (hS : va_S A H0 H locs) (hA : ∀ q, H0.size ≤ q → A q)
    (kk : ∀ (H1 : Heap) (locs1 : List Loc), va_P D vwCl w1 H1 → va_D A w1 → va_S A H0 H1 locs1 → W p l e R s m args below meth c H1 locs1 (cells + mc) (slots + ms) Q (F0 m (pc + 3) ls (.int r :: rest))) : W p l e R s m args below meth c H locs cells slots Q (F0 m pc ls st0) := by
  have hF : ∀ q, va_A w0 H.size q → A q := fun q h => h.elim (fun ⟨k, e, h⟩ => hD.2 k (q, e) h) (fun h => hA q (Nat.le_trans hS.1 h))
  refine va_calli hr hS (fun q _ h => hF q h) hF (fun r' u t H1 locs1 ht _ hp hB _ hk hS1 => ?_)
  subst hp
  obtain ⟨hP1, hD1⟩ := hB
  rw [ht] at hP1
  exact kk H1 locs1 hP1 (hD1.weaken (fun _ q _ h => hF q.1 h)) hS1
theorem zc_ml0 {r : Int64} (hr : va_Run p l e R s m args below meth c H locs cells slots mc ms (F0 m pc ls st0) rest (zMl D (va_A w0 H.size) w1 r a) (va_A w0 H.size)) (hD : va_D A w0) (hS : va_S A H0 H locs) (hA : ∀ q, H0.size ≤ q → A q)
    (kk : ∀ (H1 : Heap) (locs1 : List Loc), va_P D vwCl w1 H1 → va_D A w1 → va_S A H0 H1 locs1 → W p l e R s m args below meth c H1 locs1 (cells + mc) (slots + ms) Q (F0 m (pc + 3) ls (.long r :: rest))) : W p l e R s m args below meth c H locs cells slots Q (F0 m pc ls st0) := by
  have hF : ∀ q, va_A w0 H.size q → A q := fun q h => h.elim (fun ⟨k, e, h⟩ => hD.2 k (q, e) h) (fun h => hA q (Nat.le_trans hS.1 h))
  refine va_calll hr hS (fun q _ h => hF q h) hF (fun r' u t H1 locs1 ht _ hp hB _ hk hS1 => ?_)
  subst hp
  obtain ⟨hP1, hD1⟩ := hB
  rw [ht] at hP1
  exact kk H1 locs1 hP1 (hD1.weaken (fun _ q _ h => hF q.1 h)) hS1
/-- one cell of the world is the callee's -/
theorem zc_mv1 {k b : Nat} {e0 e1 : va_E} (hk0 : w[k]? = some (b, e0)) (hr : va_Run p l e R s m args below meth c H locs cells slots mc ms (F0 m pc ls st0) rest (zMv D (va_A [(b, e0)] H.size) [(b, e1)] a) (va_A [(b, e0)] H.size)) (hP : va_P D vwCl w H) (hD : va_D A w) (hS : va_S A H0 H locs) (hA : ∀ q, H0.size ≤ q → A q)
    (kk : ∀ (H1 : Heap) (locs1 : List Loc), va_P D vwCl (w.set k (b, e1)) H1 → va_D A (w.set k (b, e1)) → va_S A H0 H1 locs1 → W p l e R s m args below meth c H1 locs1 (cells + mc) (slots + ms) Q (F0 m (pc + 3) ls rest)) : W p l e R s m args below meth c H locs cells slots Q (F0 m pc ls st0) := by
  have hF : ∀ q, va_A [(b, e0)] H.size q → A q := va_free hD hS hA [k] (by simp [hk0])
  refine va_callv hr hS (fun q _ h => hF q h) hF (fun u t H1 locs1 ht _ _ hB _ hk hS1 => ?_)
  obtain ⟨hP1, -⟩ := hB
  rw [ht] at hP1
  refine kk H1 locs1 (fun j q hq => ?_) (hD.set hk0) hS1
  have hlen := (List.getElem?_eq_some_iff.mp hk0).1
  by_cases hj : j = k
  · subst hj
    rw [List.getElem?_set_self hlen] at hq
    cases hq
    exact hP1 0 _ rfl
  · rw [List.getElem?_set_ne (Ne.symm hj)] at hq
    have hlt := (hP j q hq).lt
    refine (hP j q hq).kept (hk q.1 hlt (fun h => ?_))
    rcases h with ⟨i, e, h⟩ | h
    · cases i with
      | zero => rw [List.getElem?_cons_zero] at h; exact hj (hD.1 j k q (b, e0) hq hk0 (congrArg Prod.fst (Option.some.inj h)).symm)
      | succ i => simp at h
    · exact absurd h (Nat.not_le.mpr hlt)
/-- two cells are the callee's; it changes the second -/
theorem zc_mv2 {k0 k b0 b : Nat} {f0 e0 e1 : va_E} (hk00 : w[k0]? = some (b0, f0)) (hk0 : w[k]? = some (b, e0)) (hr : va_Run p l e R s m args below meth c H locs cells slots mc ms (F0 m pc ls st0) rest (zMv D (va_A [(b0, f0), (b, e0)] H.size) [(b0, f0), (b, e1)] a) (va_A [(b0, f0), (b, e0)] H.size)) (hP : va_P D vwCl w H) (hD : va_D A w) (hS : va_S A H0 H locs) (hA : ∀ q, H0.size ≤ q → A q)
    (kk : ∀ (H1 : Heap) (locs1 : List Loc), va_P D vwCl (w.set k (b, e1)) H1 → va_D A (w.set k (b, e1)) → va_S A H0 H1 locs1 → W p l e R s m args below meth c H1 locs1 (cells + mc) (slots + ms) Q (F0 m (pc + 3) ls rest)) : W p l e R s m args below meth c H locs cells slots Q (F0 m pc ls st0) := by
  have hF : ∀ q, va_A [(b0, f0), (b, e0)] H.size q → A q := va_free hD hS hA [k0, k] (by simp [hk0, hk00])
  refine va_callv hr hS (fun q _ h => hF q h) hF (fun u t H1 locs1 ht _ _ hB _ hk hS1 => ?_)
  obtain ⟨hP1, -⟩ := hB
  rw [ht] at hP1
  refine kk H1 locs1 (fun j q hq => ?_) (hD.set hk0) hS1
  have hlen := (List.getElem?_eq_some_iff.mp hk0).1
  by_cases hj : j = k
  · subst hj
    rw [List.getElem?_set_self hlen] at hq
    cases hq
    exact hP1 1 _ rfl
  · rw [List.getElem?_set_ne (Ne.symm hj)] at hq
    have hlt := (hP j q hq).lt
    by_cases hj0 : j = k0
    · subst hj0
      have e9 : q = (b0, f0) := Option.some.inj (hq.symm.trans hk00)
      subst e9
      exact hP1 0 _ rfl
    · refine (hP j q hq).kept (hk q.1 hlt (fun h => ?_))
      rcases h with ⟨i, e, h⟩ | h
      · match i, h with
        | 0, h => exact hj0 (hD.1 j k0 q (b0, f0) hq hk00 (congrArg Prod.fst (Option.some.inj h)).symm)
        | 1, h => exact hj (hD.1 j k q (b, e0) hq hk0 (congrArg Prod.fst (Option.some.inj h)).symm)
        | i + 2, h => simp at h
      · exact absurd h (Nat.not_le.mpr hlt)
end PGCALL2
-- the ring: its six numbers, its eleven rows
abbrev RS : Type := (Nat → Int32) × (Nat → Nat → Int32)
def sI (S : RS) (k : Nat) (x : Int32) : RS := (va_up S.1 k x, S.2)
def sR (S : RS) (k : Nat) (f : Nat → Int32) : RS := (S.1, va_up S.2 k f)
def rwl (Z : Nat → ClassId) (a : Nat → Nat) (S : RS) : va_W := [(a 0, .inr (0, [.int (S.1 0), .int (S.1 1), .int (S.1 2), .int (S.1 3), .int (S.1 4), .int (S.1 5), .ref (a 1), .ref (a 2), .ref (a 3), .ref (a 4), .ref (a 5), .ref (a 6), .ref (a 7), .ref (a 8), .ref (a 9), .ref (a 10), .ref (a 11)])),
  (a 1, .inl (Z 0, 24, .inl (S.2 0))), (a 2, .inl (Z 0, 18, .inl (S.2 1))), (a 3, .inl (Z 0, 6, .inl (S.2 2))), (a 4, .inl (Z 0, 6, .inl (S.2 3))), (a 5, .inl (Z 0, 6, .inl (S.2 4))), (a 6, .inl (Z 0, 54, .inl (S.2 5))), (a 7, .inl (Z 0, 54, .inl (S.2 6))), (a 8, .inl (Z 0, 54, .inl (S.2 7))), (a 9, .inl (Z 0, 12, .inl (S.2 8))), (a 10, .inl (Z 0, 12, .inl (S.2 9))), (a 11, .inl (Z 0, 12, .inl (S.2 10)))]
-- more glue
def ob2 {α β γ : Type} (x : Option (α × β)) (k : α → β → Option γ) : Option γ := match x with | none => none | some v => k v.1 v.2
theorem ob2_some {α β γ : Type} {x : Option (α × β)} {k : α → β → Option γ} {r : γ} (h : ob2 x k = some r) : ∃ a b, x = some (a, b) ∧ k a b = some r := by
  cases x with
  | none => cases h
  | some v => exact ⟨v.1, v.2, rfl, h⟩
theorem vp_in_lit {i : Int32} {n : Nat} (h : ¬ (i < 0 ∨ n ≤ i.toNatClampNeg)) : vp_in i n := h
abbrev cpbad (sp dp n : Int32) (n0 n1 : Nat) : Prop := sp < 0 ∨ dp < 0 ∨ n < 0 ∨ n0 < sp.toNatClampNeg + n.toNatClampNeg ∨ n1 < dp.toNatClampNeg + n.toNatClampNeg
theorem cp_1 {sp dp n : Int32} {n0 n1 : Nat} (h : ¬ cpbad sp dp n n0 n1) : ¬ sp < 0 := fun q => h (Or.inl q)
theorem cp_2 {sp dp n : Int32} {n0 n1 : Nat} (h : ¬ cpbad sp dp n n0 n1) : ¬ dp < 0 := fun q => h (Or.inr (Or.inl q))
theorem cp_3 {sp dp n : Int32} {n0 n1 : Nat} (h : ¬ cpbad sp dp n n0 n1) : ¬ n < 0 := fun q => h (Or.inr (Or.inr (Or.inl q)))
theorem cp_4 {sp dp n : Int32} {n0 n1 : Nat} (h : ¬ cpbad sp dp n n0 n1) : sp.toNatClampNeg + n.toNatClampNeg ≤ n0 := Nat.not_lt.mp fun q => h (Or.inr (Or.inr (Or.inr (Or.inl q))))
theorem cp_5 {sp dp n : Int32} {n0 n1 : Nat} (h : ¬ cpbad sp dp n n0 n1) : dp.toNatClampNeg + n.toNatClampNeg ≤ n1 := Nat.not_lt.mp fun q => h (Or.inr (Or.inr (Or.inr (Or.inr q))))
theorem i32_ne {x : Int32} {k : Int32} {j : Int} (h : ¬ x = k) (hk : k.toInt = j) : x.toInt ≠ j := fun q => h (Int32.toInt_inj.mp (q.trans hk.symm))
theorem sw_out5 {x : Int32} (h0 : ¬ x = 0) (h1 : ¬ x = 1) (h2 : ¬ x = 2) (h3 : ¬ x = 3) (h4 : ¬ x = 4) : x.toInt < 0 ∨ 4 < x.toInt := by
  have e0 := i32_ne (j := 0) h0 (by decide)
  have e1 := i32_ne (j := 1) h1 (by decide)
  have e2 := i32_ne (j := 2) h2 (by decide)
  have e3 := i32_ne (j := 3) h3 (by decide)
  have e4 := i32_ne (j := 4) h4 (by decide)
  omega
theorem sw_out6 {x : Int32} (h0 : ¬ x = 0) (h1 : ¬ x = 1) (h2 : ¬ x = 2) (h3 : ¬ x = 3) (h4 : ¬ x = 4) (h5 : ¬ x = 5) : x.toInt < 0 ∨ 5 < x.toInt := by
  have e5 := i32_ne (j := 5) h5 (by decide)
  rcases sw_out5 h0 h1 h2 h3 h4 with q | q <;> omega
theorem sw_out8 {x : Int32} (h0 : ¬ x = 0) (h1 : ¬ x = 1) (h2 : ¬ x = 2) (h3 : ¬ x = 3) (h4 : ¬ x = 4) (h5 : ¬ x = 5) (h6 : ¬ x = 6) (h7 : ¬ x = 7) : x.toInt < 0 ∨ 7 < x.toInt := by
  have e6 := i32_ne (j := 6) h6 (by decide)
  have e7 := i32_ne (j := 7) h7 (by decide)
  rcases sw_out6 h0 h1 h2 h3 h4 h5 with q | q <;> omega
section PGNEW
variable {p : Program} {l : Launch} {e : Env} {R : Room} {s : State} {m : MethodId} {args : Array Value} {below : List Frame} {meth : Method} {c : Code} {H : Heap} {locs : List Loc} {cells slots : Nat} {Q : State → Prop} {cc : ByteArray} {pc : Nat} {ls : Array Slot} {rest : List Value} {D : va_G} {Z : Nat → ClassId} {A : Nat → Prop} {ws : va_W} {H0 : Heap}
/-- a new row of ints: of the kind that is known already -/
theorem z_newa {N1 : Nat} {n : Int32} (hx : p.tables.exec = Jvm.exec) (hb : c.code = cc) (harr : (Cond.arrayClass .int).before args s = true) (hK : zK D Z s) (hP : va_P D vwCl ws H) (hD : va_D A ws) (hS : va_S A H0 H locs) (hA : ∀ q, H0.size ≤ q → A q)
    (hn : ¬ n < 0) (hN : n.toNatClampNeg = N1) (hbytes : N1 * 4 ≤ 536870912) (hcells : cells + 1 ≤ R.cells) (hslots : slots + N1 ≤ R.slots) (hdg : decode cc pc = .ok (.newarray .int, 2))
    (kk : ∀ (q : Nat) (H1 : Heap), va_P D vwCl (ws ++ [(q, .inl (Z 0, N1, .inl (fun _ => 0)))]) H1 → va_D A (ws ++ [(q, .inl (Z 0, N1, .inl (fun _ => 0)))]) → va_S A H0 H1 locs → W p l e R s m args below meth c H1 locs (cells + 1) (slots + N1) Q (F0 m (pc + 2) ls (.ref q :: rest))) : W p l e R s m args below meth c H locs cells slots Q (F0 m pc ls (.int n :: rest)) := by
  refine va_newa (atype := .int) (ty := .int) (N' := N1) (a0 := (N1, .inl (fun _ => 0))) hx hb harr rfl hK hP hD hS hA (fun _ => rfl) hn hN hbytes hcells hslots hdg (fun q cA H1 hK1 hP1 hD1 hS1 => ?_)
  have e1 : s.vm.findClass ("[" ++ FieldType.int.toString) = some cA := (hK1.2 4 (cA, .int) rfl).2
  have e2 : s.vm.findClass ("[" ++ FieldType.int.toString) = some (Z 0) := (hK.2 0 (Z 0, .int) rfl).2
  have e3 : cA = Z 0 := Option.some.inj (e1.symm.trans e2)
  subst e3
  exact kk q H1 hP1 hD1 hS1
end PGNEW
end
section
def f_J9_floorMod_7cf53   (p0 : Int32) (p1 : Int32) : Option (Int32) :=
  if p1 = 0 then none else
  if 0 ≤ (p0 ^^^ p1) then
    some (p0 - p0 / p1 * p1)
  else
    if (p0 - p0 / p1 * p1) = 0 then
      some (p0 - p0 / p1 * p1)
    else
      some ((p0 - p0 / p1 * p1) + p1)
abbrev rm_J9_floorMod_7cf53 : Room := { frames := 0, cells := 0, slots := 0, locals := 0 }
theorem hds_J9_floorMod_7cf53 : yJ9_floorMod_7cf53.cls ≠ "java/lang/invoke/MethodHandle" ∧ yJ9_floorMod_7cf53.cls ≠ "java/lang/invoke/VarHandle" ∧ (parseMethodDescriptor yJ9_floorMod_7cf53.desc).map (fun d => d.parameters.length) = some 2 := by decide +kernel
set_option maxHeartbeats 4000000 in
set_option maxRecDepth 100000 in
theorem m_J9_floorMod_7cf53 (l : Launch) (D : va_G) (Z : Nat → ClassId)   (p0 : Int32) (p1 : Int32) (r : Int32) (hf : f_J9_floorMod_7cf53 p0 p1 = some r) : ROi l yJ9_floorMod_7cf53 wsJ9_floorMod_7cf53 rm_J9_floorMod_7cf53 D Z [.int p0, .int p1] ([] : va_W) r := by
  refine ROi.of (cc := cJ9_floorMod_7cf53) (nL := 3) (ret := (some .int)) (by decide +kernel) rfl (Nat.le_of_ble_eq_true rfl) ?_
  intro p e s m below meth c hC hA hP hK hD hS ls hl
  obtain ⟨hx, hb, hr, hml, hown, hts, hlk, -⟩ := hC
  have hown : s.vm.findClass RJ9 = some m.cls := hown
  have hl : lv_has ls 3 [(0, .int p0), (1, .int p1)] := hl
  unfold f_J9_floorMod_7cf53 at hf
  refine lv_iload_n hx hb dJ9_floorMod_7cf53_0 rfl (lv_at hl 0 rfl) ?_
  refine lv_iload_n hx hb dJ9_floorMod_7cf53_1 rfl (lv_at hl 1 rfl) ?_
  obtain ⟨hne, hf⟩ := if_g hf
  refine lv_irem hx hb dJ9_floorMod_7cf53_2 hne ?_
  refine lv_istore_n (lv' := [(2, .int (p0 - p0 / p1 * p1)), (0, .int p0), (1, .int p1)]) hx hb dJ9_floorMod_7cf53_3 rfl hl (by decide) rfl (fun ls hl => ?_)
  refine lv_iload_n hx hb dJ9_floorMod_7cf53_4 rfl (lv_at hl 1 rfl) ?_
  refine lv_iload_n hx hb dJ9_floorMod_7cf53_5 rfl (lv_at hl 2 rfl) ?_
  refine lv_ixor hx hb dJ9_floorMod_7cf53_6 ?_
  refine lv_if_ge (tgt := 18) hx hb dJ9_floorMod_7cf53_7 (by decide) (fun c1 => ?_) (fun c1 => ?_)
  · have hf := if_t hf c1
    refine lv_iload_n hx hb dJ9_floorMod_7cf53_18 rfl (lv_at hl 0 rfl) ?_
    exact zr_i hx hb hr hlk hS (Option.some.inj hf) dJ9_floorMod_7cf53_19
  · have hf := if_f hf c1
    refine lv_iload_n hx hb dJ9_floorMod_7cf53_10 rfl (lv_at hl 0 rfl) ?_
    refine lv_if_eq (tgt := 18) hx hb dJ9_floorMod_7cf53_11 (by decide) (fun c2 => ?_) (fun c2 => ?_)
    · have hf := if_t hf c2
      refine lv_iload_n hx hb dJ9_floorMod_7cf53_18 rfl (lv_at hl 0 rfl) ?_
      exact zr_i hx hb hr hlk hS (Option.some.inj hf) dJ9_floorMod_7cf53_19
    · have hf := if_f hf c2
      refine lv_iload_n hx hb dJ9_floorMod_7cf53_14 rfl (lv_at hl 0 rfl) ?_
      refine lv_iload_n hx hb dJ9_floorMod_7cf53_15 rfl (lv_at hl 2 rfl) ?_
      refine lv_iadd hx hb dJ9_floorMod_7cf53_16 ?_
      exact zr_i hx hb hr hlk hS (Option.some.inj hf) dJ9_floorMod_7cf53_17
def f_X0_read (wn : Nat) (f : (Nat → Int32)) (p1 : Int32) : Option (Int32) :=
  if p1 < 0 then
    some (-1)
  else
    if (nI wn) ≤ p1 then
      some (-1)
    else
      if p1 < 0 ∨ wn ≤ p1.toNatClampNeg then none else
      some (f p1.toNatClampNeg)
abbrev rm_X0_read : Room := { frames := 0, cells := 0, slots := 0, locals := 0 }
theorem hds_X0_read : yX0_read.cls ≠ "java/lang/invoke/MethodHandle" ∧ yX0_read.cls ≠ "java/lang/invoke/VarHandle" ∧ (parseMethodDescriptor yX0_read.desc).map (fun d => d.parameters.length) = some 2 := by decide +kernel
set_option maxHeartbeats 4000000 in
set_option maxRecDepth 100000 in
theorem m_X0_read (l : Launch) (D : va_G) (Z : Nat → ClassId) (q wn : Nat) (f : (Nat → Int32)) (p1 : Int32) (r : Int32) (hf : f_X0_read wn f p1 = some r) : ROi l yX0_read wsX0_read rm_X0_read D Z [.ref q, .int p1] [(q, .inl (Z 0, wn, .inl f))] r := by
  refine ROi.of (cc := cX0_read) (nL := 2) (ret := (some .int)) (by decide +kernel) rfl (Nat.le_of_ble_eq_true rfl) ?_
  intro p e s m below meth c hC hA hP hK hD hS ls hl
  obtain ⟨hx, hb, hr, hml, hown, hts, hlk, -⟩ := hC
  have hown : s.vm.findClass RX0 = some m.cls := hown
  have hl : lv_has ls 2 [(0, .ref q), (1, .int p1)] := hl
  unfold f_X0_read at hf
  refine lv_iload_n hx hb dX0_read_0 rfl (lv_at hl 1 rfl) ?_
  refine lv_if_lt (tgt := 16) hx hb dX0_read_1 (by decide) (fun c1 => ?_) (fun c1 => ?_)
  · have hf := if_t hf c1
    refine lv_iconst (v := (-1)) hx hb dX0_read_16 (by decide) ?_
    exact zr_i hx hb hr hlk hS (Option.some.inj hf) dX0_read_17
  · have hf := if_f hf c1
    refine lv_iload_n hx hb dX0_read_4 rfl (lv_at hl 1 rfl) ?_
    refine lv_aload_n hx hb dX0_read_5 rfl (lv_at hl 0 rfl) ?_
    refine va_alen (v := (nI wn)) hx hb hK hP 0 0 rfl rfl rfl dX0_read_6 ?_
    refine lv_icmp_ge (tgt := 16) hx hb dX0_read_7 (by decide) (fun c2 => ?_) (fun c2 => ?_)
    · have hf := if_t hf c2
      refine lv_iconst (v := (-1)) hx hb dX0_read_16 (by decide) ?_
      exact zr_i hx hb hr hlk hS (Option.some.inj hf) dX0_read_17
    · have hf := if_f hf c2
      refine lv_aload_n hx hb dX0_read_10 rfl (lv_at hl 0 rfl) ?_
      refine lv_iload_n hx hb dX0_read_11 rfl (lv_at hl 1 rfl) ?_
      obtain ⟨hg3, hf⟩ := if_g hf
      refine va_iald hx hb hK hP 0 0 rfl rfl hg3 dX0_read_12 ?_
      refine lv_goto (tgt := 17) hx hb dX0_read_13 (by decide) ?_
      exact zr_i hx hb hr hlk hS (Option.some.inj hf) dX0_read_17
def f_X0_write (wn : Nat) (f : (Nat → Int32)) (p1 : Int32) (p2 : Int32) : Option ((Nat → Int32)) :=
  if p1 < 0 then
    some f
  else
    if (nI wn) ≤ p1 then
      some f
    else
      if p1 < 0 ∨ wn ≤ p1.toNatClampNeg then none else
      lt (upd f p1.toNatClampNeg p2) fun (f4 : Nat → Int32) =>
      some f4
abbrev rm_X0_write : Room := { frames := 0, cells := 0, slots := 0, locals := 0 }
theorem hds_X0_write : yX0_write.cls ≠ "java/lang/invoke/MethodHandle" ∧ yX0_write.cls ≠ "java/lang/invoke/VarHandle" ∧ (parseMethodDescriptor yX0_write.desc).map (fun d => d.parameters.length) = some 3 := by decide +kernel
set_option maxHeartbeats 4000000 in
set_option maxRecDepth 100000 in
theorem m_X0_write (l : Launch) (D : va_G) (Z : Nat → ClassId) (q wn : Nat) (f : (Nat → Int32)) (p1 : Int32) (p2 : Int32) (f' : (Nat → Int32)) (hf : f_X0_write wn f p1 p2 = some f') : RWv l yX0_write wsX0_write rm_X0_write D Z [.ref q, .int p1, .int p2] [(q, .inl (Z 0, wn, .inl f))] [(q, .inl (Z 0, wn, .inl (f')))] 0 0 := by
  refine RWv.of (cc := cX0_write) (nL := 3) (ret := none) (by decide +kernel) rfl (Nat.le_of_ble_eq_true rfl) ?_
  intro p e s m below meth c A hC hA hP hK hD hS ls hl
  obtain ⟨hx, hb, hr, hml, hown, hts, hlk, -⟩ := hC
  have hown : s.vm.findClass RX0 = some m.cls := hown
  have hl : lv_has ls 3 [(0, .ref q), (1, .int p1), (2, .int p2)] := hl
  unfold f_X0_write at hf
  refine lv_iload_n hx hb dX0_write_0 rfl (lv_at hl 1 rfl) ?_
  refine lv_if_lt (tgt := 14) hx hb dX0_write_1 (by decide) (fun c1 => ?_) (fun c1 => ?_)
  · have hf := if_t hf c1
    exact zw_v hx hb hr hlk hP hD hS (congrArg (fun z => ([(q, .inl (Z 0, wn, .inl z))] : va_W)) (Option.some.inj hf)) (Nat.le_of_ble_eq_true rfl) (Nat.le_of_ble_eq_true rfl) dX0_write_14
  · have hf := if_f hf c1
    refine lv_iload_n hx hb dX0_write_4 rfl (lv_at hl 1 rfl) ?_
    refine lv_aload_n hx hb dX0_write_5 rfl (lv_at hl 0 rfl) ?_
    refine va_alen (v := (nI wn)) hx hb hK hP 0 0 rfl rfl rfl dX0_write_6 ?_
    refine lv_icmp_ge (tgt := 14) hx hb dX0_write_7 (by decide) (fun c2 => ?_) (fun c2 => ?_)
    · have hf := if_t hf c2
      exact zw_v hx hb hr hlk hP hD hS (congrArg (fun z => ([(q, .inl (Z 0, wn, .inl z))] : va_W)) (Option.some.inj hf)) (Nat.le_of_ble_eq_true rfl) (Nat.le_of_ble_eq_true rfl) dX0_write_14
    · have hf := if_f hf c2
      refine lv_aload_n hx hb dX0_write_10 rfl (lv_at hl 0 rfl) ?_
      refine lv_iload_n hx hb dX0_write_11 rfl (lv_at hl 1 rfl) ?_
      refine lv_iload_n hx hb dX0_write_12 rfl (lv_at hl 2 rfl) ?_
      obtain ⟨hg3, hf⟩ := if_g hf
      refine va_iast hx hb hK hP hD hS 0 0 rfl rfl hg3 dX0_write_13 (fun H locs hP hD hS => ?_)
      obtain ⟨f4, ef4, hf⟩ := lt_ex hf
      have hP : va_P D vwCl [(q, .inl (Z 0, wn, .inl f4))] H := by rw [ef4]; exact hP
      have hD : va_D A [(q, .inl (Z 0, wn, .inl f4))] := by rw [ef4]; exact hD
      exact zw_v hx hb hr hlk hP hD hS (congrArg (fun z => ([(q, .inl (Z 0, wn, .inl z))] : va_W)) (Option.some.inj hf)) (Nat.le_of_ble_eq_true rfl) (Nat.le_of_ble_eq_true rfl) dX0_write_14
def f_X0_find_L2  (wn : Nat) (f : (Nat → Int32)) : Nat → Int32 → Int32 → Option (Int32)
  | 0, _, _ => none
  | n + 1, x1, x2 =>
    if (nI wn) ≤ x2 then
      some (-1)
    else
      if x2 < 0 ∨ wn ≤ x2.toNatClampNeg then none else
      if (f x2.toNatClampNeg) = x1 then
        some x2
      else
        f_X0_find_L2 wn f n x1 (x2 + 1)
def f_X0_find (wn : Nat) (f : (Nat → Int32)) (p1 : Int32) : Option (Int32) :=
  f_X0_find_L2 wn f FU p1 0
abbrev rm_X0_find : Room := { frames := 0, cells := 0, slots := 0, locals := 0 }
theorem hds_X0_find : yX0_find.cls ≠ "java/lang/invoke/MethodHandle" ∧ yX0_find.cls ≠ "java/lang/invoke/VarHandle" ∧ (parseMethodDescriptor yX0_find.desc).map (fun d => d.parameters.length) = some 2 := by decide +kernel
set_option maxHeartbeats 4000000 in
set_option maxRecDepth 100000 in
theorem m_X0_find (l : Launch) (D : va_G) (Z : Nat → ClassId) (q wn : Nat) (f : (Nat → Int32)) (p1 : Int32) (r : Int32) (hf : f_X0_find wn f p1 = some r) : ROi l yX0_find wsX0_find rm_X0_find D Z [.ref q, .int p1] [(q, .inl (Z 0, wn, .inl f))] r := by
  refine ROi.of (cc := cX0_find) (nL := 3) (ret := (some .int)) (by decide +kernel) rfl (Nat.le_of_ble_eq_true rfl) ?_
  intro p e s m below meth c hC hA hP hK hD hS ls hl
  obtain ⟨hx, hb, hr, hml, hown, hts, hlk, -⟩ := hC
  have hown : s.vm.findClass RX0 = some m.cls := hown
  have hl : lv_has ls 3 [(0, .ref q), (1, .int p1)] := hl
  have L2 : ∀ (n : Nat) (x1 : Int32) (x2 : Int32) (H : Heap) (locs : List Loc), va_P D vwCl [(q, .inl (Z 0, wn, .inl f))] H → va_S (fun q : Nat => s.heap.size ≤ q) s.heap H locs → ∀ ls : Array Slot, lv_has ls 3 [(0, .ref q), (1, .int x1), (2, .int x2)] → f_X0_find_L2 wn f n x1 x2 = some r → W p l e rm_X0_find s m ([.ref q, .int p1] : List Value).toArray below meth c H locs 0 0 (MQ below (zQi r s.heap.size) ([.ref q, .int p1] : List Value).toArray s 0 0 (fun q => s.heap.size ≤ q)) (F0 m 2 ls []) := by
    intro n
    induction n with
    | zero =>
      intro x1 x2 H locs hP hS ls hl hf
      exact no_r hf
    | succ n ih =>
      intro x1 x2 H locs hP hS ls hl hf
      rw [f_X0_find_L2] at hf
      refine lv_iload_n hx hb dX0_find_2 rfl (lv_at hl 2 rfl) ?_
      refine lv_aload_n hx hb dX0_find_3 rfl (lv_at hl 0 rfl) ?_
      refine va_alen (v := (nI wn)) hx hb hK hP 0 0 rfl rfl rfl dX0_find_4 ?_
      refine lv_icmp_ge (tgt := 23) hx hb dX0_find_5 (by decide) (fun c1 => ?_) (fun c1 => ?_)
      · have hf := if_t hf c1
        refine lv_iconst (v := (-1)) hx hb dX0_find_23 (by decide) ?_
        exact zr_i hx hb hr hlk hS (Option.some.inj hf) dX0_find_24
      · have hf := if_f hf c1
        refine lv_aload_n hx hb dX0_find_8 rfl (lv_at hl 0 rfl) ?_
        refine lv_iload_n hx hb dX0_find_9 rfl (lv_at hl 2 rfl) ?_
        obtain ⟨hg2, hf⟩ := if_g hf
        refine va_iald hx hb hK hP 0 0 rfl rfl hg2 dX0_find_10 ?_
        refine lv_iload_n hx hb dX0_find_11 rfl (lv_at hl 1 rfl) ?_
        refine lv_icmp_ne (tgt := 17) hx hb dX0_find_12 (by decide) (fun c3 => ?_) (fun c3 => ?_)
        · have hf := if_f hf c3
          refine lv_iinc (v := (x2 + 1)) (lv' := [(2, .int (x2 + 1)), (0, .ref q), (1, .int x1)]) hx hb dX0_find_17 hl (k := 2) rfl rfl (by decide) rfl (fun ls hl => ?_)
          refine lv_goto (tgt := 2) hx hb dX0_find_20 (by decide) ?_
          exact ih x1 (x2 + 1) _ _ hP hS ls (lv_sub hl [1, 2, 0] rfl) hf
        · have hf := if_t hf c3
          refine lv_iload_n hx hb dX0_find_15 rfl (lv_at hl 2 rfl) ?_
          exact zr_i hx hb hr hlk hS (Option.some.inj hf) dX0_find_16
  unfold f_X0_find at hf
  refine lv_iconst (v := 0) hx hb dX0_find_0 (by decide) ?_
  refine lv_istore_n (lv' := [(2, .int 0), (0, .ref q), (1, .int p1)]) hx hb dX0_find_1 rfl hl (by decide) rfl (fun ls hl => ?_)
  exact L2 FU p1 0 _ _ hP hS ls (lv_sub hl [1, 2, 0] rfl) hf
def f_X0_copyRow (wn wn2 : Nat) (f : (Nat → Int32)) (g : (Nat → Int32))  : Option ((Nat → Int32)) :=
  if cpbad 0 0 (if (nI wn2) < (nI wn) then (nI wn2) else (nI wn)) wn wn2 then none else
  lt (va_cpy f g (0 : Int32).toNatClampNeg (0 : Int32).toNatClampNeg (if (nI wn2) < (nI wn) then (nI wn2) else (nI wn)).toNatClampNeg) fun (g1 : Nat → Int32) =>
  some g1
abbrev rm_X0_copyRow : Room := { frames := 1, cells := 0, slots := 0, locals := 80 }
theorem hds_X0_copyRow : yX0_copyRow.cls ≠ "java/lang/invoke/MethodHandle" ∧ yX0_copyRow.cls ≠ "java/lang/invoke/VarHandle" ∧ (parseMethodDescriptor yX0_copyRow.desc).map (fun d => d.parameters.length) = some 2 := by decide +kernel
set_option maxHeartbeats 4000000 in
set_option maxRecDepth 100000 in
theorem m_X0_copyRow (l : Launch) (D : va_G) (Z : Nat → ClassId) (q wn q2 wn2 : Nat) (f : (Nat → Int32)) (g : (Nat → Int32))  (g' : (Nat → Int32)) (hf : f_X0_copyRow wn wn2 f g = some g') : RWv l yX0_copyRow wsX0_copyRow rm_X0_copyRow D Z [.ref q, .ref q2] [(q, .inl (Z 0, wn, .inl f)), (q2, .inl (Z 0, wn2, .inl g))] [(q, .inl (Z 0, wn, .inl f)), (q2, .inl (Z 0, wn2, .inl (g')))] 0 0 := by
  refine RWv.of (cc := cX0_copyRow) (nL := 2) (ret := none) (by decide +kernel) rfl (Nat.le_of_ble_eq_true rfl) ?_
  intro p e s m below meth c A hC hA hP hK hD hS ls hl
  obtain ⟨hx, hb, hr, hml, hown, hts, hlk, -⟩ := hC
  have hown : s.vm.findClass RX0 = some m.cls := hown
  have hl : lv_has ls 2 [(0, .ref q), (1, .ref q2)] := hl
  unfold f_X0_copyRow at hf
  refine lv_aload_n hx hb dX0_copyRow_0 rfl (lv_at hl 0 rfl) ?_
  refine lv_iconst (v := 0) hx hb dX0_copyRow_1 (by decide) ?_
  refine lv_aload_n hx hb dX0_copyRow_2 rfl (lv_at hl 1 rfl) ?_
  refine lv_iconst (v := 0) hx hb dX0_copyRow_3 (by decide) ?_
  refine lv_aload_n hx hb dX0_copyRow_4 rfl (lv_at hl 0 rfl) ?_
  refine va_alen (v := (nI wn)) hx hb hK hP 0 0 rfl rfl rfl dX0_copyRow_5 ?_
  refine lv_aload_n hx hb dX0_copyRow_6 rfl (lv_at hl 1 rfl) ?_
  refine va_alen (v := (nI wn2)) hx hb hK hP 1 0 rfl rfl rfl dX0_copyRow_7 ?_
  refine va_mmin hx hb (hml.trans hl.1.symm) hown (hts (.methodLink RX0 180 Lib.Math.min.name) (List.mem_of_getElem? (i := 1) rfl)) (hts (.static Lib.Math.min.name) (List.mem_of_getElem? (i := 2) rfl)) (hts (.initialized "java/lang/Math") (List.mem_of_getElem? (i := 3) rfl)) (hts (.code Lib.Math.min.name Lib.Math.min.code 2 (some .int)) (List.mem_of_getElem? (i := 4) rfl)) (Nat.le_of_ble_eq_true rfl) (Nat.le_of_ble_eq_true rfl) (Nat.zero_le _) (Nat.zero_le _) dX0_copyRow_8 ?_
  obtain ⟨hcp, hf⟩ := if_g hf
  refine va_copyi (sp := 0) (dp := 0) (n := (if (nI wn2) < (nI wn) then (nI wn2) else (nI wn))) hx hb (hml.trans hl.1.symm) hown (hts (.methodLink RX0 104 arraycopyName) (List.mem_of_getElem? (i := 5) rfl)) (hts (.native arraycopyName) (List.mem_of_getElem? (i := 6) rfl)) (hts (.static arraycopyName) (List.mem_of_getElem? (i := 7) rfl)) (hts (.initialized "java/lang/System") (List.mem_of_getElem? (i := 8) rfl)) hK hP hD hS 0 1 0 0 rfl rfl rfl rfl rfl (cp_1 hcp) (cp_2 hcp) (cp_3 hcp) (cp_4 hcp) (cp_5 hcp) (fun _ _ => rfl) (Nat.le_of_ble_eq_true rfl) (by decide) dX0_copyRow_11 (fun H locs hP hD hS => ?_)
  obtain ⟨g1, eg1, hf⟩ := lt_ex hf
  have hP : va_P D vwCl [(q, .inl (Z 0, wn, .inl f)), (q2, .inl (Z 0, wn2, .inl g1))] H := by rw [eg1]; exact hP
  have hD : va_D A [(q, .inl (Z 0, wn, .inl f)), (q2, .inl (Z 0, wn2, .inl g1))] := by rw [eg1]; exact hD
  exact zw_v hx hb hr hlk hP hD hS (congrArg (fun z => ([(q, .inl (Z 0, wn, .inl f)), (q2, .inl (Z 0, wn2, .inl z))] : va_W)) (Option.some.inj hf)) (Nat.le_of_ble_eq_true rfl) (Nat.le_of_ble_eq_true rfl) dX0_copyRow_14
def f_X0_placeOf  (S : RS) (p1 : Int32) : Option (Int32) :=
  ob (f_X0_read 6 (S.2 2) p1) fun v2 =>
  some v2
abbrev rm_X0_placeOf : Room := { frames := 1, cells := 0, slots := 0, locals := 21 }
theorem hdv_X0_placeOf : yX0_placeOf.cls = RX0 ∧ yX0_placeOf.cls ≠ "java/lang/invoke/MethodHandle" ∧ yX0_placeOf.cls ≠ "java/lang/invoke/VarHandle" ∧ (parseMethodDescriptor yX0_placeOf.desc).map (fun d => d.parameters.length) = some 1 := by decide +kernel
set_option maxHeartbeats 4000000 in
set_option maxRecDepth 100000 in
theorem m_X0_placeOf (l : Launch) (D : va_G) (Z : Nat → ClassId) (a : Nat → Nat) (S : RS) (p1 : Int32) (r : Int32) (hf : f_X0_placeOf S p1 = some r) : ROi l yX0_placeOf wsX0_placeOf rm_X0_placeOf D Z [.ref (a 0), .int p1] (rwl Z a S) r := by
  refine ROi.of (cc := cX0_placeOf) (nL := 2) (ret := (some .int)) (by decide +kernel) rfl (Nat.le_of_ble_eq_true rfl) ?_
  intro p e s m below meth c hC hA hP hK hD hS ls hl
  obtain ⟨hx, hb, hr, hml, hown, hts, hlk, -⟩ := hC
  have hown : s.vm.findClass RX0 = some m.cls := hown
  have hin : ∀ w ∈ wsX00, w ∈ wsX0_placeOf := fun w h => List.mem_cons_of_mem _ (List.mem_append_right _ h)
  have hl : lv_has ls 2 [(0, .ref (a 0)), (1, .int p1)] := hl
  unfold f_X0_placeOf at hf
  refine lv_aload_n hx hb dX0_placeOf_0 rfl (lv_at hl 0 rfl) ?_
  refine va_get (D := D) (ci := 0) (v := .ref (a 3)) (C := RX0) (T := TX0) (N := 17) hx hb hts hin hown hK hP 0 rfl rfl 8 (by decide) (hts (.fieldLink RX0 22 "PodGuideway$Ring" "stationPlace" "[I") (List.mem_of_getElem? (i := 1) rfl)) (fun _ h9 => h9) rfl dX0_placeOf_1 ?_
  refine lv_iload_n hx hb dX0_placeOf_4 rfl (lv_at hl 1 rfl) ?_
  obtain ⟨v2, hv1, hf⟩ := ob_some hf
  refine zc_i (z_SD (As := [.ref (a 3), .int p1]) (rest := []) ⟨hx, hb, hml, hown, hts⟩ (m_X0_read l D Z (a 3) 6 (S.2 2) p1 v2 hv1) gX0_placeOf_X0_read rfl rfl rfl hds_X0_read ⟨Nat.le_of_ble_eq_true rfl, Nat.le_of_ble_eq_true rfl⟩ hK (hP.sub (ws' := [((a 3), .inl (Z 0, 6, .inl (S.2 2)))]) [3] rfl) (hD.sub (ws' := [((a 3), .inl (Z 0, 6, .inl (S.2 2)))]) [3] (by decide) rfl) rfl hl.1 rfl (Nat.le_of_ble_eq_true rfl) dX0_placeOf_5 ⟨Nat.le_of_ble_eq_true rfl, Nat.le_of_ble_eq_true rfl⟩) hP hS hA (fun H locs hP hS => ?_)
  exact zr_i hx hb hr hlk hS (Option.some.inj hf) dX0_placeOf_8
def f_X0_waitingAt  (S : RS) (p1 : Int32) : Option (Int32) :=
  ob (f_X0_read 6 (S.2 4) p1) fun v2 =>
  some (if 0 < v2 then v2 else 0)
abbrev rm_X0_waitingAt : Room := { frames := 1, cells := 0, slots := 0, locals := 24 }
theorem hdv_X0_waitingAt : yX0_waitingAt.cls = RX0 ∧ yX0_waitingAt.cls ≠ "java/lang/invoke/MethodHandle" ∧ yX0_waitingAt.cls ≠ "java/lang/invoke/VarHandle" ∧ (parseMethodDescriptor yX0_waitingAt.desc).map (fun d => d.parameters.length) = some 1 := by decide +kernel
set_option maxHeartbeats 4000000 in
set_option maxRecDepth 100000 in
theorem m_X0_waitingAt (l : Launch) (D : va_G) (Z : Nat → ClassId) (a : Nat → Nat) (S : RS) (p1 : Int32) (r : Int32) (hf : f_X0_waitingAt S p1 = some r) : ROi l yX0_waitingAt wsX0_waitingAt rm_X0_waitingAt D Z [.ref (a 0), .int p1] (rwl Z a S) r := by
  refine ROi.of (cc := cX0_waitingAt) (nL := 2) (ret := (some .int)) (by decide +kernel) rfl (Nat.le_of_ble_eq_true rfl) ?_
  intro p e s m below meth c hC hA hP hK hD hS ls hl
  obtain ⟨hx, hb, hr, hml, hown, hts, hlk, -⟩ := hC
  have hown : s.vm.findClass RX0 = some m.cls := hown
  have hin : ∀ w ∈ wsX00, w ∈ wsX0_waitingAt := fun w h => List.mem_cons_of_mem _ (List.mem_append_right _ h)
  have hl : lv_has ls 2 [(0, .ref (a 0)), (1, .int p1)] := hl
  unfold f_X0_waitingAt at hf
  refine lv_iconst (v := 0) hx hb dX0_waitingAt_0 (by decide) ?_
  refine lv_aload_n hx hb dX0_waitingAt_1 rfl (lv_at hl 0 rfl) ?_
  refine va_get (D := D) (ci := 0) (v := .ref (a 5)) (C := RX0) (T := TX0) (N := 17) hx hb hts hin hown hK hP 0 rfl rfl 10 (by decide) (hts (.fieldLink RX0 28 "PodGuideway$Ring" "stationWaiting" "[I") (List.mem_of_getElem? (i := 1) rfl)) (fun _ h9 => h9) rfl dX0_waitingAt_2 ?_
  refine lv_iload_n hx hb dX0_waitingAt_5 rfl (lv_at hl 1 rfl) ?_
  obtain ⟨v2, hv1, hf⟩ := ob_some hf
  refine zc_i (z_SD (As := [.ref (a 5), .int p1]) (rest := [.int 0]) ⟨hx, hb, hml, hown, hts⟩ (m_X0_read l D Z (a 5) 6 (S.2 4) p1 v2 hv1) gX0_waitingAt_X0_read rfl rfl rfl hds_X0_read ⟨Nat.le_of_ble_eq_true rfl, Nat.le_of_ble_eq_true rfl⟩ hK (hP.sub (ws' := [((a 5), .inl (Z 0, 6, .inl (S.2 4)))]) [5] rfl) (hD.sub (ws' := [((a 5), .inl (Z 0, 6, .inl (S.2 4)))]) [5] (by decide) rfl) rfl hl.1 rfl (Nat.le_of_ble_eq_true rfl) dX0_waitingAt_6 ⟨Nat.le_of_ble_eq_true rfl, Nat.le_of_ble_eq_true rfl⟩) hP hS hA (fun H locs hP hS => ?_)
  refine va_mmax hx hb (hml.trans hl.1.symm) hown (hts (.methodLink RX0 146 Lib.Math.max.name) (List.mem_of_getElem? (i := 2) rfl)) (hts (.static Lib.Math.max.name) (List.mem_of_getElem? (i := 3) rfl)) (hts (.initialized "java/lang/Math") (List.mem_of_getElem? (i := 4) rfl)) (hts (.code Lib.Math.max.name Lib.Math.max.code 2 (some .int)) (List.mem_of_getElem? (i := 5) rfl)) (Nat.le_of_ble_eq_true rfl) (Nat.le_of_ble_eq_true rfl) (Nat.zero_le _) (Nat.zero_le _) dX0_waitingAt_9 ?_
  exact zr_i hx hb hr hlk hS (Option.some.inj hf) dX0_waitingAt_12
def f_X0_podAtPlace  (S : RS) (p1 : Int32) : Option (Int32) :=
  ob (f_X0_read 24 (S.2 0) p1) fun v2 =>
  some v2
abbrev rm_X0_podAtPlace : Room := { frames := 1, cells := 0, slots := 0, locals := 21 }
theorem hdv_X0_podAtPlace : yX0_podAtPlace.cls = RX0 ∧ yX0_podAtPlace.cls ≠ "java/lang/invoke/MethodHandle" ∧ yX0_podAtPlace.cls ≠ "java/lang/invoke/VarHandle" ∧ (parseMethodDescriptor yX0_podAtPlace.desc).map (fun d => d.parameters.length) = some 1 := by decide +kernel
set_option maxHeartbeats 4000000 in
set_option maxRecDepth 100000 in
theorem m_X0_podAtPlace (l : Launch) (D : va_G) (Z : Nat → ClassId) (a : Nat → Nat) (S : RS) (p1 : Int32) (r : Int32) (hf : f_X0_podAtPlace S p1 = some r) : ROi l yX0_podAtPlace wsX0_podAtPlace rm_X0_podAtPlace D Z [.ref (a 0), .int p1] (rwl Z a S) r := by
  refine ROi.of (cc := cX0_podAtPlace) (nL := 2) (ret := (some .int)) (by decide +kernel) rfl (Nat.le_of_ble_eq_true rfl) ?_
  intro p e s m below meth c hC hA hP hK hD hS ls hl
  obtain ⟨hx, hb, hr, hml, hown, hts, hlk, -⟩ := hC
  have hown : s.vm.findClass RX0 = some m.cls := hown
  have hin : ∀ w ∈ wsX00, w ∈ wsX0_podAtPlace := fun w h => List.mem_cons_of_mem _ (List.mem_append_right _ h)
  have hl : lv_has ls 2 [(0, .ref (a 0)), (1, .int p1)] := hl
  unfold f_X0_podAtPlace at hf
  refine lv_aload_n hx hb dX0_podAtPlace_0 rfl (lv_at hl 0 rfl) ?_
  refine va_get (D := D) (ci := 0) (v := .ref (a 1)) (C := RX0) (T := TX0) (N := 17) hx hb hts hin hown hK hP 0 rfl rfl 6 (by decide) (hts (.fieldLink RX0 15 "PodGuideway$Ring" "podInSlot" "[I") (List.mem_of_getElem? (i := 1) rfl)) (fun _ h9 => h9) rfl dX0_podAtPlace_1 ?_
  refine lv_iload_n hx hb dX0_podAtPlace_4 rfl (lv_at hl 1 rfl) ?_
  obtain ⟨v2, hv1, hf⟩ := ob_some hf
  refine zc_i (z_SD (As := [.ref (a 1), .int p1]) (rest := []) ⟨hx, hb, hml, hown, hts⟩ (m_X0_read l D Z (a 1) 24 (S.2 0) p1 v2 hv1) gX0_podAtPlace_X0_read rfl rfl rfl hds_X0_read ⟨Nat.le_of_ble_eq_true rfl, Nat.le_of_ble_eq_true rfl⟩ hK (hP.sub (ws' := [((a 1), .inl (Z 0, 24, .inl (S.2 0)))]) [1] rfl) (hD.sub (ws' := [((a 1), .inl (Z 0, 24, .inl (S.2 0)))]) [1] (by decide) rfl) rfl hl.1 rfl (Nat.le_of_ble_eq_true rfl) dX0_podAtPlace_5 ⟨Nat.le_of_ble_eq_true rfl, Nat.le_of_ble_eq_true rfl⟩) hP hS hA (fun H locs hP hS => ?_)
  exact zr_i hx hb hr hlk hS (Option.some.inj hf) dX0_podAtPlace_8
def f_X0_goalOf  (S : RS) (p1 : Int32) : Option (Int32) :=
  ob (f_X0_read 12 (S.2 8) p1) fun v2 =>
  some v2
abbrev rm_X0_goalOf : Room := { frames := 1, cells := 0, slots := 0, locals := 21 }
theorem hdv_X0_goalOf : yX0_goalOf.cls = RX0 ∧ yX0_goalOf.cls ≠ "java/lang/invoke/MethodHandle" ∧ yX0_goalOf.cls ≠ "java/lang/invoke/VarHandle" ∧ (parseMethodDescriptor yX0_goalOf.desc).map (fun d => d.parameters.length) = some 1 := by decide +kernel
set_option maxHeartbeats 4000000 in
set_option maxRecDepth 100000 in
theorem m_X0_goalOf (l : Launch) (D : va_G) (Z : Nat → ClassId) (a : Nat → Nat) (S : RS) (p1 : Int32) (r : Int32) (hf : f_X0_goalOf S p1 = some r) : ROi l yX0_goalOf wsX0_goalOf rm_X0_goalOf D Z [.ref (a 0), .int p1] (rwl Z a S) r := by
  refine ROi.of (cc := cX0_goalOf) (nL := 2) (ret := (some .int)) (by decide +kernel) rfl (Nat.le_of_ble_eq_true rfl) ?_
  intro p e s m below meth c hC hA hP hK hD hS ls hl
  obtain ⟨hx, hb, hr, hml, hown, hts, hlk, -⟩ := hC
  have hown : s.vm.findClass RX0 = some m.cls := hown
  have hin : ∀ w ∈ wsX00, w ∈ wsX0_goalOf := fun w h => List.mem_cons_of_mem _ (List.mem_append_right _ h)
  have hl : lv_has ls 2 [(0, .ref (a 0)), (1, .int p1)] := hl
  unfold f_X0_goalOf at hf
  refine lv_aload_n hx hb dX0_goalOf_0 rfl (lv_at hl 0 rfl) ?_
  refine va_get (D := D) (ci := 0) (v := .ref (a 9)) (C := RX0) (T := TX0) (N := 17) hx hb hts hin hown hK hP 0 rfl rfl 14 (by decide) (hts (.fieldLink RX0 40 "PodGuideway$Ring" "podGoal" "[I") (List.mem_of_getElem? (i := 1) rfl)) (fun _ h9 => h9) rfl dX0_goalOf_1 ?_
  refine lv_iload_n hx hb dX0_goalOf_4 rfl (lv_at hl 1 rfl) ?_
  obtain ⟨v2, hv1, hf⟩ := ob_some hf
  refine zc_i (z_SD (As := [.ref (a 9), .int p1]) (rest := []) ⟨hx, hb, hml, hown, hts⟩ (m_X0_read l D Z (a 9) 12 (S.2 8) p1 v2 hv1) gX0_goalOf_X0_read rfl rfl rfl hds_X0_read ⟨Nat.le_of_ble_eq_true rfl, Nat.le_of_ble_eq_true rfl⟩ hK (hP.sub (ws' := [((a 9), .inl (Z 0, 12, .inl (S.2 8)))]) [9] rfl) (hD.sub (ws' := [((a 9), .inl (Z 0, 12, .inl (S.2 8)))]) [9] (by decide) rfl) rfl hl.1 rfl (Nat.le_of_ble_eq_true rfl) dX0_goalOf_5 ⟨Nat.le_of_ble_eq_true rfl, Nat.le_of_ble_eq_true rfl⟩) hP hS hA (fun H locs hP hS => ?_)
  exact zr_i hx hb hr hlk hS (Option.some.inj hf) dX0_goalOf_8
def f_X0_berthHolds  (S : RS) (p1 : Int32) : Option (Int32) :=
  ob (f_X0_read 18 (S.2 1) p1) fun v2 =>
  if v2 = (-1) then
    some 0
  else
    ob (f_X0_read 12 (S.2 8) v2) fun v5 =>
    if v5 = (-1) then
      some 1
    else
      some 2
abbrev rm_X0_berthHolds : Room := { frames := 1, cells := 0, slots := 0, locals := 21 }
theorem hdv_X0_berthHolds : yX0_berthHolds.cls = RX0 ∧ yX0_berthHolds.cls ≠ "java/lang/invoke/MethodHandle" ∧ yX0_berthHolds.cls ≠ "java/lang/invoke/VarHandle" ∧ (parseMethodDescriptor yX0_berthHolds.desc).map (fun d => d.parameters.length) = some 1 := by decide +kernel
set_option maxHeartbeats 4000000 in
set_option maxRecDepth 100000 in
theorem m_X0_berthHolds (l : Launch) (D : va_G) (Z : Nat → ClassId) (a : Nat → Nat) (S : RS) (p1 : Int32) (r : Int32) (hf : f_X0_berthHolds S p1 = some r) : ROi l yX0_berthHolds wsX0_berthHolds rm_X0_berthHolds D Z [.ref (a 0), .int p1] (rwl Z a S) r := by
  refine ROi.of (cc := cX0_berthHolds) (nL := 3) (ret := (some .int)) (by decide +kernel) rfl (Nat.le_of_ble_eq_true rfl) ?_
  intro p e s m below meth c hC hA hP hK hD hS ls hl
  obtain ⟨hx, hb, hr, hml, hown, hts, hlk, -⟩ := hC
  have hown : s.vm.findClass RX0 = some m.cls := hown
  have hin : ∀ w ∈ wsX00, w ∈ wsX0_berthHolds := fun w h => List.mem_cons_of_mem _ (List.mem_append_right _ h)
  have hl : lv_has ls 3 [(0, .ref (a 0)), (1, .int p1)] := hl
  unfold f_X0_berthHolds at hf
  refine lv_aload_n hx hb dX0_berthHolds_0 rfl (lv_at hl 0 rfl) ?_
  refine va_get (D := D) (ci := 0) (v := .ref (a 2)) (C := RX0) (T := TX0) (N := 17) hx hb hts hin hown hK hP 0 rfl rfl 7 (by decide) (hts (.fieldLink RX0 19 "PodGuideway$Ring" "podInBerth" "[I") (List.mem_of_getElem? (i := 1) rfl)) (fun _ h9 => h9) rfl dX0_berthHolds_1 ?_
  refine lv_iload_n hx hb dX0_berthHolds_4 rfl (lv_at hl 1 rfl) ?_
  obtain ⟨v2, hv1, hf⟩ := ob_some hf
  refine zc_i (z_SD (As := [.ref (a 2), .int p1]) (rest := []) ⟨hx, hb, hml, hown, hts⟩ (m_X0_read l D Z (a 2) 18 (S.2 1) p1 v2 hv1) gX0_berthHolds_X0_read rfl rfl rfl hds_X0_read ⟨Nat.le_of_ble_eq_true rfl, Nat.le_of_ble_eq_true rfl⟩ hK (hP.sub (ws' := [((a 2), .inl (Z 0, 18, .inl (S.2 1)))]) [2] rfl) (hD.sub (ws' := [((a 2), .inl (Z 0, 18, .inl (S.2 1)))]) [2] (by decide) rfl) rfl hl.1 rfl (Nat.le_of_ble_eq_true rfl) dX0_berthHolds_5 ⟨Nat.le_of_ble_eq_true rfl, Nat.le_of_ble_eq_true rfl⟩) hP hS hA (fun H locs hP hS => ?_)
  refine lv_istore_n (lv' := [(2, .int v2), (0, .ref (a 0)), (1, .int p1)]) hx hb dX0_berthHolds_8 rfl hl (by decide) rfl (fun ls hl => ?_)
  refine lv_iload_n hx hb dX0_berthHolds_9 rfl (lv_at hl 0 rfl) ?_
  refine lv_iconst (v := (-1)) hx hb dX0_berthHolds_10 (by decide) ?_
  refine lv_icmp_ne (tgt := 16) hx hb dX0_berthHolds_11 (by decide) (fun c3 => ?_) (fun c3 => ?_)
  · have hf := if_f hf c3
    refine lv_aload_n hx hb dX0_berthHolds_16 rfl (lv_at hl 1 rfl) ?_
    refine va_get (D := D) (ci := 0) (v := .ref (a 9)) (C := RX0) (T := TX0) (N := 17) hx hb hts hin hown hK hP 0 rfl rfl 14 (by decide) (hts (.fieldLink RX0 40 "PodGuideway$Ring" "podGoal" "[I") (List.mem_of_getElem? (i := 2) rfl)) (fun _ h9 => h9) rfl dX0_berthHolds_17 ?_
    refine lv_iload_n hx hb dX0_berthHolds_20 rfl (lv_at hl 0 rfl) ?_
    obtain ⟨v5, hv4, hf⟩ := ob_some hf
    refine zc_i (z_SD (As := [.ref (a 9), .int v2]) (rest := []) ⟨hx, hb, hml, hown, hts⟩ (m_X0_read l D Z (a 9) 12 (S.2 8) v2 v5 hv4) gX0_berthHolds_X0_read rfl rfl rfl hds_X0_read ⟨Nat.le_of_ble_eq_true rfl, Nat.le_of_ble_eq_true rfl⟩ hK (hP.sub (ws' := [((a 9), .inl (Z 0, 12, .inl (S.2 8)))]) [9] rfl) (hD.sub (ws' := [((a 9), .inl (Z 0, 12, .inl (S.2 8)))]) [9] (by decide) rfl) rfl hl.1 rfl (Nat.le_of_ble_eq_true rfl) dX0_berthHolds_21 ⟨Nat.le_of_ble_eq_true rfl, Nat.le_of_ble_eq_true rfl⟩) hP hS hA (fun H locs hP hS => ?_)
    refine lv_iconst (v := (-1)) hx hb dX0_berthHolds_24 (by decide) ?_
    refine lv_icmp_ne (tgt := 32) hx hb dX0_berthHolds_25 (by decide) (fun c6 => ?_) (fun c6 => ?_)
    · have hf := if_f hf c6
      refine lv_iconst (v := 2) hx hb dX0_berthHolds_32 (by decide) ?_
      exact zr_i hx hb hr hlk hS (Option.some.inj hf) dX0_berthHolds_33
    · have hf := if_t hf c6
      refine lv_iconst (v := 1) hx hb dX0_berthHolds_28 (by decide) ?_
      refine lv_goto (tgt := 33) hx hb dX0_berthHolds_29 (by decide) ?_
      exact zr_i hx hb hr hlk hS (Option.some.inj hf) dX0_berthHolds_33
  · have hf := if_t hf c3
    refine lv_iconst (v := 0) hx hb dX0_berthHolds_14 (by decide) ?_
    exact zr_i hx hb hr hlk hS (Option.some.inj hf) dX0_berthHolds_15
def f_X0_firstBerth_L4  (S : RS) : Nat → Int32 → Int32 → Int32 → Option (Int32)
  | 0, _, _, _ => none
  | n + 1, x1, x2, x3 =>
    if ((x1 + 1) * 3) ≤ x3 then
      some (-1)
    else
      ob (f_X0_berthHolds S x3) fun v3 =>
      if v3 = x2 then
        some x3
      else
        f_X0_firstBerth_L4 S n x1 x2 (x3 + 1)
def f_X0_firstBerth  (S : RS) (p1 : Int32) (p2 : Int32) : Option (Int32) :=
  f_X0_firstBerth_L4 S FU p1 p2 (p1 * 3)
abbrev rm_X0_firstBerth : Room := { frames := 2, cells := 0, slots := 0, locals := 43 }
theorem hdv_X0_firstBerth : yX0_firstBerth.cls = RX0 ∧ yX0_firstBerth.cls ≠ "java/lang/invoke/MethodHandle" ∧ yX0_firstBerth.cls ≠ "java/lang/invoke/VarHandle" ∧ (parseMethodDescriptor yX0_firstBerth.desc).map (fun d => d.parameters.length) = some 2 := by decide +kernel
set_option maxHeartbeats 4000000 in
set_option maxRecDepth 100000 in
theorem m_X0_firstBerth (l : Launch) (D : va_G) (Z : Nat → ClassId) (a : Nat → Nat) (S : RS) (p1 : Int32) (p2 : Int32) (r : Int32) (hf : f_X0_firstBerth S p1 p2 = some r) : ROi l yX0_firstBerth wsX0_firstBerth rm_X0_firstBerth D Z [.ref (a 0), .int p1, .int p2] (rwl Z a S) r := by
  refine ROi.of (cc := cX0_firstBerth) (nL := 4) (ret := (some .int)) (by decide +kernel) rfl (Nat.le_of_ble_eq_true rfl) ?_
  intro p e s m below meth c hC hA hP hK hD hS ls hl
  obtain ⟨hx, hb, hr, hml, hown, hts, hlk, -⟩ := hC
  have hown : s.vm.findClass RX0 = some m.cls := hown
  have hl : lv_has ls 4 [(0, .ref (a 0)), (1, .int p1), (2, .int p2)] := hl
  have L4 : ∀ (n : Nat) (x1 : Int32) (x2 : Int32) (x3 : Int32) (H : Heap) (locs : List Loc), va_P D vwCl (rwl Z a S) H → va_S (fun q : Nat => s.heap.size ≤ q) s.heap H locs → ∀ ls : Array Slot, lv_has ls 4 [(0, .ref (a 0)), (1, .int x1), (2, .int x2), (3, .int x3)] → f_X0_firstBerth_L4 S n x1 x2 x3 = some r → W p l e rm_X0_firstBerth s m ([.ref (a 0), .int p1, .int p2] : List Value).toArray below meth c H locs 0 0 (MQ below (zQi r s.heap.size) ([.ref (a 0), .int p1, .int p2] : List Value).toArray s 0 0 (fun q => s.heap.size ≤ q)) (F0 m 4 ls []) := by
    intro n
    induction n with
    | zero =>
      intro x1 x2 x3 H locs hP hS ls hl hf
      exact no_r hf
    | succ n ih =>
      intro x1 x2 x3 H locs hP hS ls hl hf
      rw [f_X0_firstBerth_L4] at hf
      refine lv_iload_n hx hb dX0_firstBerth_4 rfl (lv_at hl 3 rfl) ?_
      refine lv_iload_n hx hb dX0_firstBerth_5 rfl (lv_at hl 1 rfl) ?_
      refine lv_iconst (v := 1) hx hb dX0_firstBerth_6 (by decide) ?_
      refine lv_iadd hx hb dX0_firstBerth_7 ?_
      refine lv_iconst (v := 3) hx hb dX0_firstBerth_8 (by decide) ?_
      refine lv_imul hx hb dX0_firstBerth_9 ?_
      refine lv_icmp_ge (tgt := 30) hx hb dX0_firstBerth_10 (by decide) (fun c1 => ?_) (fun c1 => ?_)
      · have hf := if_t hf c1
        refine lv_iconst (v := (-1)) hx hb dX0_firstBerth_30 (by decide) ?_
        exact zr_i hx hb hr hlk hS (Option.some.inj hf) dX0_firstBerth_31
      · have hf := if_f hf c1
        refine lv_aload_n hx hb dX0_firstBerth_13 rfl (lv_at hl 0 rfl) ?_
        refine lv_iload_n hx hb dX0_firstBerth_14 rfl (lv_at hl 3 rfl) ?_
        obtain ⟨v3, hv2, hf⟩ := ob_some hf
        refine zc_i (z_VD (As := [.int x3]) (rest := []) (q0 := 0) (ci := 0) ⟨hx, hb, hml, hown, hts⟩ (m_X0_berthHolds l D Z a S x3 v3 hv2) gX0_firstBerth_X0_berthHolds rfl rfl rfl hdv_X0_berthHolds ⟨Nat.le_of_ble_eq_true rfl, Nat.le_of_ble_eq_true rfl⟩ hK hP hD rfl rfl rfl rfl hl.1 rfl (Nat.le_of_ble_eq_true rfl) dX0_firstBerth_15 ⟨Nat.le_of_ble_eq_true rfl, Nat.le_of_ble_eq_true rfl⟩) hP hS hA (fun H locs hP hS => ?_)
        refine lv_iload_n hx hb dX0_firstBerth_18 rfl (lv_at hl 2 rfl) ?_
        refine lv_icmp_ne (tgt := 24) hx hb dX0_firstBerth_19 (by decide) (fun c4 => ?_) (fun c4 => ?_)
        · have hf := if_f hf c4
          refine lv_iinc (v := (x3 + 1)) (lv' := [(3, .int (x3 + 1)), (0, .ref (a 0)), (1, .int x1), (2, .int x2)]) hx hb dX0_firstBerth_24 hl (k := 3) rfl rfl (by decide) rfl (fun ls hl => ?_)
          refine lv_goto (tgt := 4) hx hb dX0_firstBerth_27 (by decide) ?_
          exact ih x1 x2 (x3 + 1) _ _ hP hS ls (lv_sub hl [1, 2, 3, 0] rfl) hf
        · have hf := if_t hf c4
          refine lv_iload_n hx hb dX0_firstBerth_22 rfl (lv_at hl 3 rfl) ?_
          exact zr_i hx hb hr hlk hS (Option.some.inj hf) dX0_firstBerth_23
  unfold f_X0_firstBerth at hf
  refine lv_iload_n hx hb dX0_firstBerth_0 rfl (lv_at hl 1 rfl) ?_
  refine lv_iconst (v := 3) hx hb dX0_firstBerth_1 (by decide) ?_
  refine lv_imul hx hb dX0_firstBerth_2 ?_
  refine lv_istore_n (lv' := [(3, .int (p1 * 3)), (0, .ref (a 0)), (1, .int p1), (2, .int p2)]) hx hb dX0_firstBerth_3 rfl hl (by decide) rfl (fun ls hl => ?_)
  exact L4 FU p1 p2 (p1 * 3) _ _ hP hS ls (lv_sub hl [1, 2, 3, 0] rfl) hf
def f_X0_berthsThatHold_L7  (S : RS) : Nat → Int32 → Int32 → Int32 → Int32 → Option (Int32)
  | 0, _, _, _, _ => none
  | n + 1, x1, x2, x3, x4 =>
    if ((x1 + 1) * 3) ≤ x4 then
      some x3
    else
      ob (f_X0_berthHolds S x4) fun v3 =>
      if v3 = x2 then
        f_X0_berthsThatHold_L7 S n x1 x2 (x3 + 1) (x4 + 1)
      else
        f_X0_berthsThatHold_L7 S n x1 x2 x3 (x4 + 1)
def f_X0_berthsThatHold  (S : RS) (p1 : Int32) (p2 : Int32) : Option (Int32) :=
  f_X0_berthsThatHold_L7 S FU p1 p2 0 (p1 * 3)
abbrev rm_X0_berthsThatHold : Room := { frames := 2, cells := 0, slots := 0, locals := 43 }
theorem hdv_X0_berthsThatHold : yX0_berthsThatHold.cls = RX0 ∧ yX0_berthsThatHold.cls ≠ "java/lang/invoke/MethodHandle" ∧ yX0_berthsThatHold.cls ≠ "java/lang/invoke/VarHandle" ∧ (parseMethodDescriptor yX0_berthsThatHold.desc).map (fun d => d.parameters.length) = some 2 := by decide +kernel
set_option maxHeartbeats 4000000 in
set_option maxRecDepth 100000 in
theorem m_X0_berthsThatHold (l : Launch) (D : va_G) (Z : Nat → ClassId) (a : Nat → Nat) (S : RS) (p1 : Int32) (p2 : Int32) (r : Int32) (hf : f_X0_berthsThatHold S p1 p2 = some r) : ROi l yX0_berthsThatHold wsX0_berthsThatHold rm_X0_berthsThatHold D Z [.ref (a 0), .int p1, .int p2] (rwl Z a S) r := by
  refine ROi.of (cc := cX0_berthsThatHold) (nL := 5) (ret := (some .int)) (by decide +kernel) rfl (Nat.le_of_ble_eq_true rfl) ?_
  intro p e s m below meth c hC hA hP hK hD hS ls hl
  obtain ⟨hx, hb, hr, hml, hown, hts, hlk, -⟩ := hC
  have hown : s.vm.findClass RX0 = some m.cls := hown
  have hl : lv_has ls 5 [(0, .ref (a 0)), (1, .int p1), (2, .int p2)] := hl
  have L7 : ∀ (n : Nat) (x1 : Int32) (x2 : Int32) (x3 : Int32) (x4 : Int32) (H : Heap) (locs : List Loc), va_P D vwCl (rwl Z a S) H → va_S (fun q : Nat => s.heap.size ≤ q) s.heap H locs → ∀ ls : Array Slot, lv_has ls 5 [(0, .ref (a 0)), (1, .int x1), (2, .int x2), (3, .int x3), (4, .int x4)] → f_X0_berthsThatHold_L7 S n x1 x2 x3 x4 = some r → W p l e rm_X0_berthsThatHold s m ([.ref (a 0), .int p1, .int p2] : List Value).toArray below meth c H locs 0 0 (MQ below (zQi r s.heap.size) ([.ref (a 0), .int p1, .int p2] : List Value).toArray s 0 0 (fun q => s.heap.size ≤ q)) (F0 m 7 ls []) := by
    intro n
    induction n with
    | zero =>
      intro x1 x2 x3 x4 H locs hP hS ls hl hf
      exact no_r hf
    | succ n ih =>
      intro x1 x2 x3 x4 H locs hP hS ls hl hf
      rw [f_X0_berthsThatHold_L7] at hf
      refine lv_iload hx hb dX0_berthsThatHold_7 (lv_at hl 4 rfl) ?_
      refine lv_iload_n hx hb dX0_berthsThatHold_9 rfl (lv_at hl 1 rfl) ?_
      refine lv_iconst (v := 1) hx hb dX0_berthsThatHold_10 (by decide) ?_
      refine lv_iadd hx hb dX0_berthsThatHold_11 ?_
      refine lv_iconst (v := 3) hx hb dX0_berthsThatHold_12 (by decide) ?_
      refine lv_imul hx hb dX0_berthsThatHold_13 ?_
      refine lv_icmp_ge (tgt := 36) hx hb dX0_berthsThatHold_14 (by decide) (fun c1 => ?_) (fun c1 => ?_)
      · have hf := if_t hf c1
        refine lv_iload_n hx hb dX0_berthsThatHold_36 rfl (lv_at hl 3 rfl) ?_
        exact zr_i hx hb hr hlk hS (Option.some.inj hf) dX0_berthsThatHold_37
      · have hf := if_f hf c1
        refine lv_aload_n hx hb dX0_berthsThatHold_17 rfl (lv_at hl 0 rfl) ?_
        refine lv_iload hx hb dX0_berthsThatHold_18 (lv_at hl 4 rfl) ?_
        obtain ⟨v3, hv2, hf⟩ := ob_some hf
        refine zc_i (z_VD (As := [.int x4]) (rest := []) (q0 := 0) (ci := 0) ⟨hx, hb, hml, hown, hts⟩ (m_X0_berthHolds l D Z a S x4 v3 hv2) gX0_berthsThatHold_X0_berthHolds rfl rfl rfl hdv_X0_berthHolds ⟨Nat.le_of_ble_eq_true rfl, Nat.le_of_ble_eq_true rfl⟩ hK hP hD rfl rfl rfl rfl hl.1 rfl (Nat.le_of_ble_eq_true rfl) dX0_berthsThatHold_20 ⟨Nat.le_of_ble_eq_true rfl, Nat.le_of_ble_eq_true rfl⟩) hP hS hA (fun H locs hP hS => ?_)
        refine lv_iload_n hx hb dX0_berthsThatHold_23 rfl (lv_at hl 2 rfl) ?_
        refine lv_icmp_ne (tgt := 30) hx hb dX0_berthsThatHold_24 (by decide) (fun c4 => ?_) (fun c4 => ?_)
        · have hf := if_f hf c4
          refine lv_iinc (v := (x4 + 1)) (lv' := [(4, .int (x4 + 1)), (0, .ref (a 0)), (1, .int x1), (2, .int x2), (3, .int x3)]) hx hb dX0_berthsThatHold_30 hl (k := 4) rfl rfl (by decide) rfl (fun ls hl => ?_)
          refine lv_goto (tgt := 7) hx hb dX0_berthsThatHold_33 (by decide) ?_
          exact ih x1 x2 x3 (x4 + 1) _ _ hP hS ls (lv_sub hl [1, 2, 3, 4, 0] rfl) hf
        · have hf := if_t hf c4
          refine lv_iinc (v := (x3 + 1)) (lv' := [(3, .int (x3 + 1)), (0, .ref (a 0)), (1, .int x1), (2, .int x2), (4, .int x4)]) hx hb dX0_berthsThatHold_27 hl (k := 3) rfl rfl (by decide) rfl (fun ls hl => ?_)
          refine lv_iinc (v := (x4 + 1)) (lv' := [(4, .int (x4 + 1)), (3, .int (x3 + 1)), (0, .ref (a 0)), (1, .int x1), (2, .int x2)]) hx hb dX0_berthsThatHold_30 hl (k := 4) rfl rfl (by decide) rfl (fun ls hl => ?_)
          refine lv_goto (tgt := 7) hx hb dX0_berthsThatHold_33 (by decide) ?_
          exact ih x1 x2 (x3 + 1) (x4 + 1) _ _ hP hS ls (lv_sub hl [2, 3, 4, 1, 0] rfl) hf
  unfold f_X0_berthsThatHold at hf
  refine lv_iconst (v := 0) hx hb dX0_berthsThatHold_0 (by decide) ?_
  refine lv_istore_n (lv' := [(3, .int 0), (0, .ref (a 0)), (1, .int p1), (2, .int p2)]) hx hb dX0_berthsThatHold_1 rfl hl (by decide) rfl (fun ls hl => ?_)
  refine lv_iload_n hx hb dX0_berthsThatHold_2 rfl (lv_at hl 2 rfl) ?_
  refine lv_iconst (v := 3) hx hb dX0_berthsThatHold_3 (by decide) ?_
  refine lv_imul hx hb dX0_berthsThatHold_4 ?_
  refine lv_istore (lv' := [(4, .int (p1 * 3)), (3, .int 0), (0, .ref (a 0)), (1, .int p1), (2, .int p2)]) hx hb dX0_berthsThatHold_5 hl (by decide) rfl (fun ls hl => ?_)
  exact L7 FU p1 p2 0 (p1 * 3) _ _ hP hS ls (lv_sub hl [2, 3, 4, 1, 0] rfl) hf
def f_X0_berthOf  (S : RS) (p1 : Int32) : Option (Int32) :=
  ob (f_X0_find 18 (S.2 1) p1) fun v2 =>
  some v2
abbrev rm_X0_berthOf : Room := { frames := 1, cells := 0, slots := 0, locals := 22 }
theorem hdv_X0_berthOf : yX0_berthOf.cls = RX0 ∧ yX0_berthOf.cls ≠ "java/lang/invoke/MethodHandle" ∧ yX0_berthOf.cls ≠ "java/lang/invoke/VarHandle" ∧ (parseMethodDescriptor yX0_berthOf.desc).map (fun d => d.parameters.length) = some 1 := by decide +kernel
set_option maxHeartbeats 4000000 in
set_option maxRecDepth 100000 in
theorem m_X0_berthOf (l : Launch) (D : va_G) (Z : Nat → ClassId) (a : Nat → Nat) (S : RS) (p1 : Int32) (r : Int32) (hf : f_X0_berthOf S p1 = some r) : ROi l yX0_berthOf wsX0_berthOf rm_X0_berthOf D Z [.ref (a 0), .int p1] (rwl Z a S) r := by
  refine ROi.of (cc := cX0_berthOf) (nL := 2) (ret := (some .int)) (by decide +kernel) rfl (Nat.le_of_ble_eq_true rfl) ?_
  intro p e s m below meth c hC hA hP hK hD hS ls hl
  obtain ⟨hx, hb, hr, hml, hown, hts, hlk, -⟩ := hC
  have hown : s.vm.findClass RX0 = some m.cls := hown
  have hin : ∀ w ∈ wsX00, w ∈ wsX0_berthOf := fun w h => List.mem_cons_of_mem _ (List.mem_append_right _ h)
  have hl : lv_has ls 2 [(0, .ref (a 0)), (1, .int p1)] := hl
  unfold f_X0_berthOf at hf
  refine lv_aload_n hx hb dX0_berthOf_0 rfl (lv_at hl 0 rfl) ?_
  refine va_get (D := D) (ci := 0) (v := .ref (a 2)) (C := RX0) (T := TX0) (N := 17) hx hb hts hin hown hK hP 0 rfl rfl 7 (by decide) (hts (.fieldLink RX0 19 "PodGuideway$Ring" "podInBerth" "[I") (List.mem_of_getElem? (i := 1) rfl)) (fun _ h9 => h9) rfl dX0_berthOf_1 ?_
  refine lv_iload_n hx hb dX0_berthOf_4 rfl (lv_at hl 1 rfl) ?_
  obtain ⟨v2, hv1, hf⟩ := ob_some hf
  refine zc_i (z_SD (As := [.ref (a 2), .int p1]) (rest := []) ⟨hx, hb, hml, hown, hts⟩ (m_X0_find l D Z (a 2) 18 (S.2 1) p1 v2 hv1) gX0_berthOf_X0_find rfl rfl rfl hds_X0_find ⟨Nat.le_of_ble_eq_true rfl, Nat.le_of_ble_eq_true rfl⟩ hK (hP.sub (ws' := [((a 2), .inl (Z 0, 18, .inl (S.2 1)))]) [2] rfl) (hD.sub (ws' := [((a 2), .inl (Z 0, 18, .inl (S.2 1)))]) [2] (by decide) rfl) rfl hl.1 rfl (Nat.le_of_ble_eq_true rfl) dX0_berthOf_5 ⟨Nat.le_of_ble_eq_true rfl, Nat.le_of_ble_eq_true rfl⟩) hP hS hA (fun H locs hP hS => ?_)
  exact zr_i hx hb hr hlk hS (Option.some.inj hf) dX0_berthOf_8
def f_X0_emptyPodsTo_L4  (S : RS) : Nat → Int32 → Int32 → Int32 → Option (Int32)
  | 0, _, _, _ => none
  | n + 1, x1, x2, x3 =>
    if (S.1 2) ≤ x3 then
      some x2
    else
      ob (f_X0_goalOf S x3) fun v3 =>
      if v3 = x1 then
        ob (f_X0_read 12 (S.2 9) x3) fun v6 =>
        if v6 = (-1) then
          f_X0_emptyPodsTo_L4 S n x1 (x2 + 1) (x3 + 1)
        else
          f_X0_emptyPodsTo_L4 S n x1 x2 (x3 + 1)
      else
        f_X0_emptyPodsTo_L4 S n x1 x2 (x3 + 1)
def f_X0_emptyPodsTo  (S : RS) (p1 : Int32) : Option (Int32) :=
  f_X0_emptyPodsTo_L4 S FU p1 0 0
abbrev rm_X0_emptyPodsTo : Room := { frames := 2, cells := 0, slots := 0, locals := 42 }
theorem hdv_X0_emptyPodsTo : yX0_emptyPodsTo.cls = RX0 ∧ yX0_emptyPodsTo.cls ≠ "java/lang/invoke/MethodHandle" ∧ yX0_emptyPodsTo.cls ≠ "java/lang/invoke/VarHandle" ∧ (parseMethodDescriptor yX0_emptyPodsTo.desc).map (fun d => d.parameters.length) = some 1 := by decide +kernel
set_option maxHeartbeats 4000000 in
set_option maxRecDepth 100000 in
theorem m_X0_emptyPodsTo (l : Launch) (D : va_G) (Z : Nat → ClassId) (a : Nat → Nat) (S : RS) (p1 : Int32) (r : Int32) (hf : f_X0_emptyPodsTo S p1 = some r) : ROi l yX0_emptyPodsTo wsX0_emptyPodsTo rm_X0_emptyPodsTo D Z [.ref (a 0), .int p1] (rwl Z a S) r := by
  refine ROi.of (cc := cX0_emptyPodsTo) (nL := 4) (ret := (some .int)) (by decide +kernel) rfl (Nat.le_of_ble_eq_true rfl) ?_
  intro p e s m below meth c hC hA hP hK hD hS ls hl
  obtain ⟨hx, hb, hr, hml, hown, hts, hlk, -⟩ := hC
  have hown : s.vm.findClass RX0 = some m.cls := hown
  have hin : ∀ w ∈ wsX00, w ∈ wsX0_emptyPodsTo := fun w h => List.mem_cons_of_mem _ (List.mem_append_right _ h)
  have hl : lv_has ls 4 [(0, .ref (a 0)), (1, .int p1)] := hl
  have L4 : ∀ (n : Nat) (x1 : Int32) (x2 : Int32) (x3 : Int32) (H : Heap) (locs : List Loc), va_P D vwCl (rwl Z a S) H → va_S (fun q : Nat => s.heap.size ≤ q) s.heap H locs → ∀ ls : Array Slot, lv_has ls 4 [(0, .ref (a 0)), (1, .int x1), (2, .int x2), (3, .int x3)] → f_X0_emptyPodsTo_L4 S n x1 x2 x3 = some r → W p l e rm_X0_emptyPodsTo s m ([.ref (a 0), .int p1] : List Value).toArray below meth c H locs 0 0 (MQ below (zQi r s.heap.size) ([.ref (a 0), .int p1] : List Value).toArray s 0 0 (fun q => s.heap.size ≤ q)) (F0 m 4 ls []) := by
    intro n
    induction n with
    | zero =>
      intro x1 x2 x3 H locs hP hS ls hl hf
      exact no_r hf
    | succ n ih =>
      intro x1 x2 x3 H locs hP hS ls hl hf
      rw [f_X0_emptyPodsTo_L4] at hf
      refine lv_iload_n hx hb dX0_emptyPodsTo_4 rfl (lv_at hl 3 rfl) ?_
      refine lv_aload_n hx hb dX0_emptyPodsTo_5 rfl (lv_at hl 0 rfl) ?_
      refine va_get (D := D) (ci := 0) (v := .int (S.1 2)) (C := RX0) (T := TX0) (N := 17) hx hb hts hin hown hK hP 0 rfl rfl 2 (by decide) (hts (.fieldLink RX0 56 "PodGuideway$Ring" "pods" "I") (List.mem_of_getElem? (i := 1) rfl)) (fun _ h9 => h9) rfl dX0_emptyPodsTo_6 ?_
      refine lv_icmp_ge (tgt := 42) hx hb dX0_emptyPodsTo_9 (by decide) (fun c1 => ?_) (fun c1 => ?_)
      · have hf := if_t hf c1
        refine lv_iload_n hx hb dX0_emptyPodsTo_42 rfl (lv_at hl 2 rfl) ?_
        exact zr_i hx hb hr hlk hS (Option.some.inj hf) dX0_emptyPodsTo_43
      · have hf := if_f hf c1
        refine lv_aload_n hx hb dX0_emptyPodsTo_12 rfl (lv_at hl 0 rfl) ?_
        refine lv_iload_n hx hb dX0_emptyPodsTo_13 rfl (lv_at hl 3 rfl) ?_
        obtain ⟨v3, hv2, hf⟩ := ob_some hf
        refine zc_i (z_VD (As := [.int x3]) (rest := []) (q0 := 0) (ci := 0) ⟨hx, hb, hml, hown, hts⟩ (m_X0_goalOf l D Z a S x3 v3 hv2) gX0_emptyPodsTo_X0_goalOf rfl rfl rfl hdv_X0_goalOf ⟨Nat.le_of_ble_eq_true rfl, Nat.le_of_ble_eq_true rfl⟩ hK hP hD rfl rfl rfl rfl hl.1 rfl (Nat.le_of_ble_eq_true rfl) dX0_emptyPodsTo_14 ⟨Nat.le_of_ble_eq_true rfl, Nat.le_of_ble_eq_true rfl⟩) hP hS hA (fun H locs hP hS => ?_)
        refine lv_iload_n hx hb dX0_emptyPodsTo_17 rfl (lv_at hl 1 rfl) ?_
        refine lv_icmp_ne (tgt := 36) hx hb dX0_emptyPodsTo_18 (by decide) (fun c4 => ?_) (fun c4 => ?_)
        · have hf := if_f hf c4
          refine lv_iinc (v := (x3 + 1)) (lv' := [(3, .int (x3 + 1)), (0, .ref (a 0)), (1, .int x1), (2, .int x2)]) hx hb dX0_emptyPodsTo_36 hl (k := 3) rfl rfl (by decide) rfl (fun ls hl => ?_)
          refine lv_goto (tgt := 4) hx hb dX0_emptyPodsTo_39 (by decide) ?_
          exact ih x1 x2 (x3 + 1) _ _ hP hS ls (lv_sub hl [1, 2, 3, 0] rfl) hf
        · have hf := if_t hf c4
          refine lv_aload_n hx hb dX0_emptyPodsTo_21 rfl (lv_at hl 0 rfl) ?_
          refine va_get (D := D) (ci := 0) (v := .ref (a 10)) (C := RX0) (T := TX0) (N := 17) hx hb hts hin hown hK hP 0 rfl rfl 15 (by decide) (hts (.fieldLink RX0 43 "PodGuideway$Ring" "podRider" "[I") (List.mem_of_getElem? (i := 2) rfl)) (fun _ h9 => h9) rfl dX0_emptyPodsTo_22 ?_
          refine lv_iload_n hx hb dX0_emptyPodsTo_25 rfl (lv_at hl 3 rfl) ?_
          obtain ⟨v6, hv5, hf⟩ := ob_some hf
          refine zc_i (z_SD (As := [.ref (a 10), .int x3]) (rest := []) ⟨hx, hb, hml, hown, hts⟩ (m_X0_read l D Z (a 10) 12 (S.2 9) x3 v6 hv5) gX0_emptyPodsTo_X0_read rfl rfl rfl hds_X0_read ⟨Nat.le_of_ble_eq_true rfl, Nat.le_of_ble_eq_true rfl⟩ hK (hP.sub (ws' := [((a 10), .inl (Z 0, 12, .inl (S.2 9)))]) [10] rfl) (hD.sub (ws' := [((a 10), .inl (Z 0, 12, .inl (S.2 9)))]) [10] (by decide) rfl) rfl hl.1 rfl (Nat.le_of_ble_eq_true rfl) dX0_emptyPodsTo_26 ⟨Nat.le_of_ble_eq_true rfl, Nat.le_of_ble_eq_true rfl⟩) hP hS hA (fun H locs hP hS => ?_)
          refine lv_iconst (v := (-1)) hx hb dX0_emptyPodsTo_29 (by decide) ?_
          refine lv_icmp_ne (tgt := 36) hx hb dX0_emptyPodsTo_30 (by decide) (fun c7 => ?_) (fun c7 => ?_)
          · have hf := if_f hf c7
            refine lv_iinc (v := (x3 + 1)) (lv' := [(3, .int (x3 + 1)), (0, .ref (a 0)), (1, .int x1), (2, .int x2)]) hx hb dX0_emptyPodsTo_36 hl (k := 3) rfl rfl (by decide) rfl (fun ls hl => ?_)
            refine lv_goto (tgt := 4) hx hb dX0_emptyPodsTo_39 (by decide) ?_
            exact ih x1 x2 (x3 + 1) _ _ hP hS ls (lv_sub hl [1, 2, 3, 0] rfl) hf
          · have hf := if_t hf c7
            refine lv_iinc (v := (x2 + 1)) (lv' := [(2, .int (x2 + 1)), (0, .ref (a 0)), (1, .int x1), (3, .int x3)]) hx hb dX0_emptyPodsTo_33 hl (k := 2) rfl rfl (by decide) rfl (fun ls hl => ?_)
            refine lv_iinc (v := (x3 + 1)) (lv' := [(3, .int (x3 + 1)), (2, .int (x2 + 1)), (0, .ref (a 0)), (1, .int x1)]) hx hb dX0_emptyPodsTo_36 hl (k := 3) rfl rfl (by decide) rfl (fun ls hl => ?_)
            refine lv_goto (tgt := 4) hx hb dX0_emptyPodsTo_39 (by decide) ?_
            exact ih x1 (x2 + 1) (x3 + 1) _ _ hP hS ls (lv_sub hl [2, 3, 1, 0] rfl) hf
  unfold f_X0_emptyPodsTo at hf
  refine lv_iconst (v := 0) hx hb dX0_emptyPodsTo_0 (by decide) ?_
  refine lv_istore_n (lv' := [(2, .int 0), (0, .ref (a 0)), (1, .int p1)]) hx hb dX0_emptyPodsTo_1 rfl hl (by decide) rfl (fun ls hl => ?_)
  refine lv_iconst (v := 0) hx hb dX0_emptyPodsTo_2 (by decide) ?_
  refine lv_istore_n (lv' := [(3, .int 0), (2, .int 0), (0, .ref (a 0)), (1, .int p1)]) hx hb dX0_emptyPodsTo_3 rfl hl (by decide) rfl (fun ls hl => ?_)
  exact L4 FU p1 0 0 _ _ hP hS ls (lv_sub hl [2, 3, 1, 0] rfl) hf
def f_X0_setGoal  (S : RS) (p1 : Int32) (p2 : Int32) : Option (RS) :=
  ob (f_X0_write 12 (S.2 8) p1 p2) fun f2 =>
  lt (sR S 8 f2) fun (S3 : RS) =>
  some S3
abbrev rm_X0_setGoal : Room := { frames := 1, cells := 0, slots := 0, locals := 22 }
theorem hdv_X0_setGoal : yX0_setGoal.cls = RX0 ∧ yX0_setGoal.cls ≠ "java/lang/invoke/MethodHandle" ∧ yX0_setGoal.cls ≠ "java/lang/invoke/VarHandle" ∧ (parseMethodDescriptor yX0_setGoal.desc).map (fun d => d.parameters.length) = some 2 := by decide +kernel
set_option maxHeartbeats 4000000 in
set_option maxRecDepth 100000 in
theorem m_X0_setGoal (l : Launch) (D : va_G) (Z : Nat → ClassId) (a : Nat → Nat) (S : RS) (p1 : Int32) (p2 : Int32) (S' : RS) (hf : f_X0_setGoal S p1 p2 = some S') : RWv l yX0_setGoal wsX0_setGoal rm_X0_setGoal D Z [.ref (a 0), .int p1, .int p2] (rwl Z a S) (rwl Z a S') 0 0 := by
  refine RWv.of (cc := cX0_setGoal) (nL := 3) (ret := none) (by decide +kernel) rfl (Nat.le_of_ble_eq_true rfl) ?_
  intro p e s m below meth c A hC hA hP hK hD hS ls hl
  obtain ⟨hx, hb, hr, hml, hown, hts, hlk, -⟩ := hC
  have hown : s.vm.findClass RX0 = some m.cls := hown
  have hin : ∀ w ∈ wsX00, w ∈ wsX0_setGoal := fun w h => List.mem_cons_of_mem _ (List.mem_append_right _ h)
  have hl : lv_has ls 3 [(0, .ref (a 0)), (1, .int p1), (2, .int p2)] := hl
  unfold f_X0_setGoal at hf
  refine lv_aload_n hx hb dX0_setGoal_0 rfl (lv_at hl 0 rfl) ?_
  refine va_get (D := D) (ci := 0) (v := .ref (a 9)) (C := RX0) (T := TX0) (N := 17) hx hb hts hin hown hK hP 0 rfl rfl 14 (by decide) (hts (.fieldLink RX0 40 "PodGuideway$Ring" "podGoal" "[I") (List.mem_of_getElem? (i := 1) rfl)) (fun _ h9 => h9) rfl dX0_setGoal_1 ?_
  refine lv_iload_n hx hb dX0_setGoal_4 rfl (lv_at hl 1 rfl) ?_
  refine lv_iload_n hx hb dX0_setGoal_5 rfl (lv_at hl 2 rfl) ?_
  obtain ⟨f2, hv1, hf⟩ := ob_some hf
  refine zc_mv1 (k := 9) (e1 := .inl (Z 0, 12, .inl f2)) rfl (z_SD (As := [.ref (a 9), .int p1, .int p2]) (rest := []) ⟨hx, hb, hml, hown, hts⟩ (m_X0_write l D Z (a 9) 12 (S.2 8) p1 p2 f2 hv1) gX0_setGoal_X0_write rfl rfl rfl hds_X0_write ⟨Nat.le_of_ble_eq_true rfl, Nat.le_of_ble_eq_true rfl⟩ hK (hP.sub (ws' := [((a 9), .inl (Z 0, 12, .inl (S.2 8)))]) [9] rfl) (hD.sub (ws' := [((a 9), .inl (Z 0, 12, .inl (S.2 8)))]) [9] (by decide) rfl) rfl hl.1 rfl (Nat.le_of_ble_eq_true rfl) dX0_setGoal_6 ⟨Nat.le_of_ble_eq_true rfl, Nat.le_of_ble_eq_true rfl⟩) hP hD hS hA (fun H locs hP hD hS => ?_)
  obtain ⟨S3, eS3, hf⟩ := lt_ex hf
  have hP : va_P D vwCl (rwl Z a S3) H := by rw [eS3]; exact hP
  have hD : va_D A (rwl Z a S3) := by rw [eS3]; exact hD
  exact zw_v hx hb hr hlk hP hD hS (congrArg (fun z => ((rwl Z a z) : va_W)) (Option.some.inj hf)) (Nat.le_of_ble_eq_true rfl) (Nat.le_of_ble_eq_true rfl) dX0_setGoal_9
def f_X0_stationAtPlace_L2  (S : RS) : Nat → Int32 → Int32 → Option (Int32)
  | 0, _, _ => none
  | n + 1, x1, x2 =>
    if (S.1 1) ≤ x2 then
      some (-1)
    else
      ob (f_X0_placeOf S x2) fun v3 =>
      if v3 = x1 then
        some x2
      else
        f_X0_stationAtPlace_L2 S n x1 (x2 + 1)
def f_X0_stationAtPlace  (S : RS) (p1 : Int32) : Option (Int32) :=
  f_X0_stationAtPlace_L2 S FU p1 0
abbrev rm_X0_stationAtPlace : Room := { frames := 2, cells := 0, slots := 0, locals := 42 }
theorem hdv_X0_stationAtPlace : yX0_stationAtPlace.cls = RX0 ∧ yX0_stationAtPlace.cls ≠ "java/lang/invoke/MethodHandle" ∧ yX0_stationAtPlace.cls ≠ "java/lang/invoke/VarHandle" ∧ (parseMethodDescriptor yX0_stationAtPlace.desc).map (fun d => d.parameters.length) = some 1 := by decide +kernel
set_option maxHeartbeats 4000000 in
set_option maxRecDepth 100000 in
theorem m_X0_stationAtPlace (l : Launch) (D : va_G) (Z : Nat → ClassId) (a : Nat → Nat) (S : RS) (p1 : Int32) (r : Int32) (hf : f_X0_stationAtPlace S p1 = some r) : ROi l yX0_stationAtPlace wsX0_stationAtPlace rm_X0_stationAtPlace D Z [.ref (a 0), .int p1] (rwl Z a S) r := by
  refine ROi.of (cc := cX0_stationAtPlace) (nL := 3) (ret := (some .int)) (by decide +kernel) rfl (Nat.le_of_ble_eq_true rfl) ?_
  intro p e s m below meth c hC hA hP hK hD hS ls hl
  obtain ⟨hx, hb, hr, hml, hown, hts, hlk, -⟩ := hC
  have hown : s.vm.findClass RX0 = some m.cls := hown
  have hin : ∀ w ∈ wsX00, w ∈ wsX0_stationAtPlace := fun w h => List.mem_cons_of_mem _ (List.mem_append_right _ h)
  have hl : lv_has ls 3 [(0, .ref (a 0)), (1, .int p1)] := hl
  have L2 : ∀ (n : Nat) (x1 : Int32) (x2 : Int32) (H : Heap) (locs : List Loc), va_P D vwCl (rwl Z a S) H → va_S (fun q : Nat => s.heap.size ≤ q) s.heap H locs → ∀ ls : Array Slot, lv_has ls 3 [(0, .ref (a 0)), (1, .int x1), (2, .int x2)] → f_X0_stationAtPlace_L2 S n x1 x2 = some r → W p l e rm_X0_stationAtPlace s m ([.ref (a 0), .int p1] : List Value).toArray below meth c H locs 0 0 (MQ below (zQi r s.heap.size) ([.ref (a 0), .int p1] : List Value).toArray s 0 0 (fun q => s.heap.size ≤ q)) (F0 m 2 ls []) := by
    intro n
    induction n with
    | zero =>
      intro x1 x2 H locs hP hS ls hl hf
      exact no_r hf
    | succ n ih =>
      intro x1 x2 H locs hP hS ls hl hf
      rw [f_X0_stationAtPlace_L2] at hf
      refine lv_iload_n hx hb dX0_stationAtPlace_2 rfl (lv_at hl 2 rfl) ?_
      refine lv_aload_n hx hb dX0_stationAtPlace_3 rfl (lv_at hl 0 rfl) ?_
      refine va_get (D := D) (ci := 0) (v := .int (S.1 1)) (C := RX0) (T := TX0) (N := 17) hx hb hts hin hown hK hP 0 rfl rfl 1 (by decide) (hts (.fieldLink RX0 53 "PodGuideway$Ring" "stations" "I") (List.mem_of_getElem? (i := 1) rfl)) (fun _ h9 => h9) rfl dX0_stationAtPlace_4 ?_
      refine lv_icmp_ge (tgt := 27) hx hb dX0_stationAtPlace_7 (by decide) (fun c1 => ?_) (fun c1 => ?_)
      · have hf := if_t hf c1
        refine lv_iconst (v := (-1)) hx hb dX0_stationAtPlace_27 (by decide) ?_
        exact zr_i hx hb hr hlk hS (Option.some.inj hf) dX0_stationAtPlace_28
      · have hf := if_f hf c1
        refine lv_aload_n hx hb dX0_stationAtPlace_10 rfl (lv_at hl 0 rfl) ?_
        refine lv_iload_n hx hb dX0_stationAtPlace_11 rfl (lv_at hl 2 rfl) ?_
        obtain ⟨v3, hv2, hf⟩ := ob_some hf
        refine zc_i (z_VD (As := [.int x2]) (rest := []) (q0 := 0) (ci := 0) ⟨hx, hb, hml, hown, hts⟩ (m_X0_placeOf l D Z a S x2 v3 hv2) gX0_stationAtPlace_X0_placeOf rfl rfl rfl hdv_X0_placeOf ⟨Nat.le_of_ble_eq_true rfl, Nat.le_of_ble_eq_true rfl⟩ hK hP hD rfl rfl rfl rfl hl.1 rfl (Nat.le_of_ble_eq_true rfl) dX0_stationAtPlace_12 ⟨Nat.le_of_ble_eq_true rfl, Nat.le_of_ble_eq_true rfl⟩) hP hS hA (fun H locs hP hS => ?_)
        refine lv_iload_n hx hb dX0_stationAtPlace_15 rfl (lv_at hl 1 rfl) ?_
        refine lv_icmp_ne (tgt := 21) hx hb dX0_stationAtPlace_16 (by decide) (fun c4 => ?_) (fun c4 => ?_)
        · have hf := if_f hf c4
          refine lv_iinc (v := (x2 + 1)) (lv' := [(2, .int (x2 + 1)), (0, .ref (a 0)), (1, .int x1)]) hx hb dX0_stationAtPlace_21 hl (k := 2) rfl rfl (by decide) rfl (fun ls hl => ?_)
          refine lv_goto (tgt := 2) hx hb dX0_stationAtPlace_24 (by decide) ?_
          exact ih x1 (x2 + 1) _ _ hP hS ls (lv_sub hl [1, 2, 0] rfl) hf
        · have hf := if_t hf c4
          refine lv_iload_n hx hb dX0_stationAtPlace_19 rfl (lv_at hl 2 rfl) ?_
          exact zr_i hx hb hr hlk hS (Option.some.inj hf) dX0_stationAtPlace_20
  unfold f_X0_stationAtPlace at hf
  refine lv_iconst (v := 0) hx hb dX0_stationAtPlace_0 (by decide) ?_
  refine lv_istore_n (lv' := [(2, .int 0), (0, .ref (a 0)), (1, .int p1)]) hx hb dX0_stationAtPlace_1 rfl hl (by decide) rfl (fun ls hl => ?_)
  exact L2 FU p1 0 _ _ hP hS ls (lv_sub hl [1, 2, 0] rfl) hf
def f_X0_placesOn  (S : RS) (p1 : Int32) (p2 : Int32) : Option (Int32) :=
  ob (f_X0_placeOf S p2) fun v2 =>
  ob (f_X0_placeOf S p1) fun v4 =>
  ob (f_J9_floorMod_7cf53 (v2 - v4) 24) fun v6 =>
  some v6
abbrev rm_X0_placesOn : Room := { frames := 2, cells := 0, slots := 0, locals := 42 }
theorem hdv_X0_placesOn : yX0_placesOn.cls = RX0 ∧ yX0_placesOn.cls ≠ "java/lang/invoke/MethodHandle" ∧ yX0_placesOn.cls ≠ "java/lang/invoke/VarHandle" ∧ (parseMethodDescriptor yX0_placesOn.desc).map (fun d => d.parameters.length) = some 2 := by decide +kernel
set_option maxHeartbeats 4000000 in
set_option maxRecDepth 100000 in
theorem m_X0_placesOn (l : Launch) (D : va_G) (Z : Nat → ClassId) (a : Nat → Nat) (S : RS) (p1 : Int32) (p2 : Int32) (r : Int32) (hf : f_X0_placesOn S p1 p2 = some r) : ROi l yX0_placesOn wsX0_placesOn rm_X0_placesOn D Z [.ref (a 0), .int p1, .int p2] (rwl Z a S) r := by
  refine ROi.of (cc := cX0_placesOn) (nL := 3) (ret := (some .int)) (by decide +kernel) rfl (Nat.le_of_ble_eq_true rfl) ?_
  intro p e s m below meth c hC hA hP hK hD hS ls hl
  obtain ⟨hx, hb, hr, hml, hown, hts, hlk, -⟩ := hC
  have hown : s.vm.findClass RX0 = some m.cls := hown
  have hl : lv_has ls 3 [(0, .ref (a 0)), (1, .int p1), (2, .int p2)] := hl
  unfold f_X0_placesOn at hf
  refine lv_aload_n hx hb dX0_placesOn_0 rfl (lv_at hl 0 rfl) ?_
  refine lv_iload_n hx hb dX0_placesOn_1 rfl (lv_at hl 2 rfl) ?_
  obtain ⟨v2, hv1, hf⟩ := ob_some hf
  refine zc_i (z_VD (As := [.int p2]) (rest := []) (q0 := 0) (ci := 0) ⟨hx, hb, hml, hown, hts⟩ (m_X0_placeOf l D Z a S p2 v2 hv1) gX0_placesOn_X0_placeOf rfl rfl rfl hdv_X0_placeOf ⟨Nat.le_of_ble_eq_true rfl, Nat.le_of_ble_eq_true rfl⟩ hK hP hD rfl rfl rfl rfl hl.1 rfl (Nat.le_of_ble_eq_true rfl) dX0_placesOn_2 ⟨Nat.le_of_ble_eq_true rfl, Nat.le_of_ble_eq_true rfl⟩) hP hS hA (fun H locs hP hS => ?_)
  refine lv_aload_n hx hb dX0_placesOn_5 rfl (lv_at hl 0 rfl) ?_
  refine lv_iload_n hx hb dX0_placesOn_6 rfl (lv_at hl 1 rfl) ?_
  obtain ⟨v4, hv3, hf⟩ := ob_some hf
  refine zc_i (z_VD (As := [.int p1]) (rest := [.int v2]) (q0 := 0) (ci := 0) ⟨hx, hb, hml, hown, hts⟩ (m_X0_placeOf l D Z a S p1 v4 hv3) gX0_placesOn_X0_placeOf rfl rfl rfl hdv_X0_placeOf ⟨Nat.le_of_ble_eq_true rfl, Nat.le_of_ble_eq_true rfl⟩ hK hP hD rfl rfl rfl rfl hl.1 rfl (Nat.le_of_ble_eq_true rfl) dX0_placesOn_7 ⟨Nat.le_of_ble_eq_true rfl, Nat.le_of_ble_eq_true rfl⟩) hP hS hA (fun H locs hP hS => ?_)
  refine lv_isub hx hb dX0_placesOn_10 ?_
  refine lv_bipush (v := 24) hx hb dX0_placesOn_11 (by decide) ?_
  obtain ⟨v6, hv5, hf⟩ := ob_some hf
  refine zc_i (z_SD (As := [.int (v2 - v4), .int 24]) (rest := []) ⟨hx, hb, hml, hown, hts⟩ (m_J9_floorMod_7cf53 l D Z (v2 - v4) 24 v6 hv5) gX0_placesOn_J9_floorMod_7cf53 rfl rfl rfl hds_J9_floorMod_7cf53 ⟨Nat.le_of_ble_eq_true rfl, Nat.le_of_ble_eq_true rfl⟩ hK (hP.sub (ws' := []) [] rfl) (hD.sub (ws' := []) [] (by decide) rfl) rfl hl.1 rfl (Nat.le_of_ble_eq_true rfl) dX0_placesOn_13 ⟨Nat.le_of_ble_eq_true rfl, Nat.le_of_ble_eq_true rfl⟩) hP hS hA (fun H locs hP hS => ?_)
  exact zr_i hx hb hr hlk hS (Option.some.inj hf) dX0_placesOn_16
def f_X0_stationThatAnswers_L8  (S : RS) : Nat → Int32 → Int32 → Int32 → Int32 → Option (Int32)
  | 0, _, _, _, _ => none
  | n + 1, x1, x2, x3, x4 =>
    if (S.1 1) ≤ x4 then
      some x2
    else
      ob (f_X0_placesOn S x4 x1) fun v3 =>
      if x4 = x1 then
        f_X0_stationThatAnswers_L8 S n x1 x2 x3 (x4 + 1)
      else
        if x3 ≤ v3 then
          f_X0_stationThatAnswers_L8 S n x1 x2 x3 (x4 + 1)
        else
          ob (f_X0_waitingAt S x4) fun v7 =>
          if v7 = 0 then
            ob (f_X0_firstBerth S x4 1) fun v10 =>
            if v10 = (-1) then
              f_X0_stationThatAnswers_L8 S n x1 x2 x3 (x4 + 1)
            else
              f_X0_stationThatAnswers_L8 S n x1 x4 v3 (x4 + 1)
          else
            f_X0_stationThatAnswers_L8 S n x1 x2 x3 (x4 + 1)
def f_X0_stationThatAnswers  (S : RS) (p1 : Int32) : Option (Int32) :=
  f_X0_stationThatAnswers_L8 S FU p1 (-1) 24 0
abbrev rm_X0_stationThatAnswers : Room := { frames := 3, cells := 0, slots := 0, locals := 66 }
theorem hdv_X0_stationThatAnswers : yX0_stationThatAnswers.cls = RX0 ∧ yX0_stationThatAnswers.cls ≠ "java/lang/invoke/MethodHandle" ∧ yX0_stationThatAnswers.cls ≠ "java/lang/invoke/VarHandle" ∧ (parseMethodDescriptor yX0_stationThatAnswers.desc).map (fun d => d.parameters.length) = some 1 := by decide +kernel
set_option maxHeartbeats 4000000 in
set_option maxRecDepth 100000 in
theorem m_X0_stationThatAnswers (l : Launch) (D : va_G) (Z : Nat → ClassId) (a : Nat → Nat) (S : RS) (p1 : Int32) (r : Int32) (hf : f_X0_stationThatAnswers S p1 = some r) : ROi l yX0_stationThatAnswers wsX0_stationThatAnswers rm_X0_stationThatAnswers D Z [.ref (a 0), .int p1] (rwl Z a S) r := by
  refine ROi.of (cc := cX0_stationThatAnswers) (nL := 6) (ret := (some .int)) (by decide +kernel) rfl (Nat.le_of_ble_eq_true rfl) ?_
  intro p e s m below meth c hC hA hP hK hD hS ls hl
  obtain ⟨hx, hb, hr, hml, hown, hts, hlk, -⟩ := hC
  have hown : s.vm.findClass RX0 = some m.cls := hown
  have hin : ∀ w ∈ wsX00, w ∈ wsX0_stationThatAnswers := fun w h => List.mem_cons_of_mem _ (List.mem_append_right _ h)
  have hl : lv_has ls 6 [(0, .ref (a 0)), (1, .int p1)] := hl
  have L8 : ∀ (n : Nat) (x1 : Int32) (x2 : Int32) (x3 : Int32) (x4 : Int32) (H : Heap) (locs : List Loc), va_P D vwCl (rwl Z a S) H → va_S (fun q : Nat => s.heap.size ≤ q) s.heap H locs → ∀ ls : Array Slot, lv_has ls 6 [(0, .ref (a 0)), (1, .int x1), (2, .int x2), (3, .int x3), (4, .int x4)] → f_X0_stationThatAnswers_L8 S n x1 x2 x3 x4 = some r → W p l e rm_X0_stationThatAnswers s m ([.ref (a 0), .int p1] : List Value).toArray below meth c H locs 0 0 (MQ below (zQi r s.heap.size) ([.ref (a 0), .int p1] : List Value).toArray s 0 0 (fun q => s.heap.size ≤ q)) (F0 m 8 ls []) := by
    intro n
    induction n with
    | zero =>
      intro x1 x2 x3 x4 H locs hP hS ls hl hf
      exact no_r hf
    | succ n ih =>
      intro x1 x2 x3 x4 H locs hP hS ls hl hf
      rw [f_X0_stationThatAnswers_L8] at hf
      refine lv_iload hx hb dX0_stationThatAnswers_8 (lv_at hl 4 rfl) ?_
      refine lv_aload_n hx hb dX0_stationThatAnswers_10 rfl (lv_at hl 0 rfl) ?_
      refine va_get (D := D) (ci := 0) (v := .int (S.1 1)) (C := RX0) (T := TX0) (N := 17) hx hb hts hin hown hK hP 0 rfl rfl 1 (by decide) (hts (.fieldLink RX0 53 "PodGuideway$Ring" "stations" "I") (List.mem_of_getElem? (i := 1) rfl)) (fun _ h9 => h9) rfl dX0_stationThatAnswers_11 ?_
      refine lv_icmp_ge (tgt := 70) hx hb dX0_stationThatAnswers_14 (by decide) (fun c1 => ?_) (fun c1 => ?_)
      · have hf := if_t hf c1
        refine lv_iload_n hx hb dX0_stationThatAnswers_70 rfl (lv_at hl 2 rfl) ?_
        exact zr_i hx hb hr hlk hS (Option.some.inj hf) dX0_stationThatAnswers_71
      · have hf := if_f hf c1
        refine lv_aload_n hx hb dX0_stationThatAnswers_17 rfl (lv_at hl 0 rfl) ?_
        refine lv_iload hx hb dX0_stationThatAnswers_18 (lv_at hl 4 rfl) ?_
        refine lv_iload_n hx hb dX0_stationThatAnswers_20 rfl (lv_at hl 1 rfl) ?_
        obtain ⟨v3, hv2, hf⟩ := ob_some hf
        refine zc_i (z_VD (As := [.int x4, .int x1]) (rest := []) (q0 := 0) (ci := 0) ⟨hx, hb, hml, hown, hts⟩ (m_X0_placesOn l D Z a S x4 x1 v3 hv2) gX0_stationThatAnswers_X0_placesOn rfl rfl rfl hdv_X0_placesOn ⟨Nat.le_of_ble_eq_true rfl, Nat.le_of_ble_eq_true rfl⟩ hK hP hD rfl rfl rfl rfl hl.1 rfl (Nat.le_of_ble_eq_true rfl) dX0_stationThatAnswers_21 ⟨Nat.le_of_ble_eq_true rfl, Nat.le_of_ble_eq_true rfl⟩) hP hS hA (fun H locs hP hS => ?_)
        refine lv_istore (lv' := [(5, .int v3), (0, .ref (a 0)), (1, .int x1), (2, .int x2), (3, .int x3), (4, .int x4)]) hx hb dX0_stationThatAnswers_24 hl (by decide) rfl (fun ls hl => ?_)
        refine lv_iload hx hb dX0_stationThatAnswers_26 (lv_at hl 5 rfl) ?_
        refine lv_iload_n hx hb dX0_stationThatAnswers_28 rfl (lv_at hl 2 rfl) ?_
        refine lv_icmp_eq (tgt := 64) hx hb dX0_stationThatAnswers_29 (by decide) (fun c4 => ?_) (fun c4 => ?_)
        · have hf := if_t hf c4
          refine lv_iinc (v := (x4 + 1)) (lv' := [(4, .int (x4 + 1)), (5, .int v3), (0, .ref (a 0)), (1, .int x1), (2, .int x2), (3, .int x3)]) hx hb dX0_stationThatAnswers_64 hl (k := 5) rfl rfl (by decide) rfl (fun ls hl => ?_)
          refine lv_goto (tgt := 8) hx hb dX0_stationThatAnswers_67 (by decide) ?_
          exact ih x1 x2 x3 (x4 + 1) _ _ hP hS ls (lv_sub hl [2, 3, 4, 5, 0] rfl) hf
        · have hf := if_f hf c4
          refine lv_iload hx hb dX0_stationThatAnswers_32 (lv_at hl 0 rfl) ?_
          refine lv_iload_n hx hb dX0_stationThatAnswers_34 rfl (lv_at hl 4 rfl) ?_
          refine lv_icmp_ge (tgt := 64) hx hb dX0_stationThatAnswers_35 (by decide) (fun c5 => ?_) (fun c5 => ?_)
          · have hf := if_t hf c5
            refine lv_iinc (v := (x4 + 1)) (lv' := [(4, .int (x4 + 1)), (5, .int v3), (0, .ref (a 0)), (1, .int x1), (2, .int x2), (3, .int x3)]) hx hb dX0_stationThatAnswers_64 hl (k := 5) rfl rfl (by decide) rfl (fun ls hl => ?_)
            refine lv_goto (tgt := 8) hx hb dX0_stationThatAnswers_67 (by decide) ?_
            exact ih x1 x2 x3 (x4 + 1) _ _ hP hS ls (lv_sub hl [2, 3, 4, 5, 0] rfl) hf
          · have hf := if_f hf c5
            refine lv_aload_n hx hb dX0_stationThatAnswers_38 rfl (lv_at hl 1 rfl) ?_
            refine lv_iload hx hb dX0_stationThatAnswers_39 (lv_at hl 5 rfl) ?_
            obtain ⟨v7, hv6, hf⟩ := ob_some hf
            refine zc_i (z_VD (As := [.int x4]) (rest := []) (q0 := 0) (ci := 0) ⟨hx, hb, hml, hown, hts⟩ (m_X0_waitingAt l D Z a S x4 v7 hv6) gX0_stationThatAnswers_X0_waitingAt rfl rfl rfl hdv_X0_waitingAt ⟨Nat.le_of_ble_eq_true rfl, Nat.le_of_ble_eq_true rfl⟩ hK hP hD rfl rfl rfl rfl hl.1 rfl (Nat.le_of_ble_eq_true rfl) dX0_stationThatAnswers_41 ⟨Nat.le_of_ble_eq_true rfl, Nat.le_of_ble_eq_true rfl⟩) hP hS hA (fun H locs hP hS => ?_)
            refine lv_if_ne (tgt := 64) hx hb dX0_stationThatAnswers_44 (by decide) (fun c8 => ?_) (fun c8 => ?_)
            · have hf := if_f hf c8
              refine lv_iinc (v := (x4 + 1)) (lv' := [(4, .int (x4 + 1)), (5, .int v3), (0, .ref (a 0)), (1, .int x1), (2, .int x2), (3, .int x3)]) hx hb dX0_stationThatAnswers_64 hl (k := 5) rfl rfl (by decide) rfl (fun ls hl => ?_)
              refine lv_goto (tgt := 8) hx hb dX0_stationThatAnswers_67 (by decide) ?_
              exact ih x1 x2 x3 (x4 + 1) _ _ hP hS ls (lv_sub hl [2, 3, 4, 5, 0] rfl) hf
            · have hf := if_t hf c8
              refine lv_aload_n hx hb dX0_stationThatAnswers_47 rfl (lv_at hl 1 rfl) ?_
              refine lv_iload hx hb dX0_stationThatAnswers_48 (lv_at hl 5 rfl) ?_
              refine lv_iconst (v := 1) hx hb dX0_stationThatAnswers_50 (by decide) ?_
              obtain ⟨v10, hv9, hf⟩ := ob_some hf
              refine zc_i (z_VD (As := [.int x4, .int 1]) (rest := []) (q0 := 0) (ci := 0) ⟨hx, hb, hml, hown, hts⟩ (m_X0_firstBerth l D Z a S x4 1 v10 hv9) gX0_stationThatAnswers_X0_firstBerth rfl rfl rfl hdv_X0_firstBerth ⟨Nat.le_of_ble_eq_true rfl, Nat.le_of_ble_eq_true rfl⟩ hK hP hD rfl rfl rfl rfl hl.1 rfl (Nat.le_of_ble_eq_true rfl) dX0_stationThatAnswers_51 ⟨Nat.le_of_ble_eq_true rfl, Nat.le_of_ble_eq_true rfl⟩) hP hS hA (fun H locs hP hS => ?_)
              refine lv_iconst (v := (-1)) hx hb dX0_stationThatAnswers_54 (by decide) ?_
              refine lv_icmp_eq (tgt := 64) hx hb dX0_stationThatAnswers_55 (by decide) (fun c11 => ?_) (fun c11 => ?_)
              · have hf := if_t hf c11
                refine lv_iinc (v := (x4 + 1)) (lv' := [(4, .int (x4 + 1)), (5, .int v3), (0, .ref (a 0)), (1, .int x1), (2, .int x2), (3, .int x3)]) hx hb dX0_stationThatAnswers_64 hl (k := 5) rfl rfl (by decide) rfl (fun ls hl => ?_)
                refine lv_goto (tgt := 8) hx hb dX0_stationThatAnswers_67 (by decide) ?_
                exact ih x1 x2 x3 (x4 + 1) _ _ hP hS ls (lv_sub hl [2, 3, 4, 5, 0] rfl) hf
              · have hf := if_f hf c11
                refine lv_iload hx hb dX0_stationThatAnswers_58 (lv_at hl 5 rfl) ?_
                refine lv_istore_n (lv' := [(2, .int x4), (5, .int v3), (0, .ref (a 0)), (1, .int x1), (3, .int x3), (4, .int x4)]) hx hb dX0_stationThatAnswers_60 rfl hl (by decide) rfl (fun ls hl => ?_)
                refine lv_iload hx hb dX0_stationThatAnswers_61 (lv_at hl 1 rfl) ?_
                refine lv_istore_n (lv' := [(3, .int v3), (2, .int x4), (5, .int v3), (0, .ref (a 0)), (1, .int x1), (4, .int x4)]) hx hb dX0_stationThatAnswers_63 rfl hl (by decide) rfl (fun ls hl => ?_)
                refine lv_iinc (v := (x4 + 1)) (lv' := [(4, .int (x4 + 1)), (3, .int v3), (2, .int x4), (5, .int v3), (0, .ref (a 0)), (1, .int x1)]) hx hb dX0_stationThatAnswers_64 hl (k := 5) rfl rfl (by decide) rfl (fun ls hl => ?_)
                refine lv_goto (tgt := 8) hx hb dX0_stationThatAnswers_67 (by decide) ?_
                exact ih x1 x4 v3 (x4 + 1) _ _ hP hS ls (lv_sub hl [4, 5, 2, 1, 0] rfl) hf
  unfold f_X0_stationThatAnswers at hf
  refine lv_iconst (v := (-1)) hx hb dX0_stationThatAnswers_0 (by decide) ?_
  refine lv_istore_n (lv' := [(2, .int (-1)), (0, .ref (a 0)), (1, .int p1)]) hx hb dX0_stationThatAnswers_1 rfl hl (by decide) rfl (fun ls hl => ?_)
  refine lv_bipush (v := 24) hx hb dX0_stationThatAnswers_2 (by decide) ?_
  refine lv_istore_n (lv' := [(3, .int 24), (2, .int (-1)), (0, .ref (a 0)), (1, .int p1)]) hx hb dX0_stationThatAnswers_4 rfl hl (by decide) rfl (fun ls hl => ?_)
  refine lv_iconst (v := 0) hx hb dX0_stationThatAnswers_5 (by decide) ?_
  refine lv_istore (lv' := [(4, .int 0), (3, .int 24), (2, .int (-1)), (0, .ref (a 0)), (1, .int p1)]) hx hb dX0_stationThatAnswers_6 hl (by decide) rfl (fun ls hl => ?_)
  exact L8 FU p1 (-1) 24 0 _ _ hP hS ls (lv_sub hl [3, 4, 2, 1, 0] rfl) hf
def f_X0_waitedBy  (S : RS) (p1 : Int32) (p2 : Int32) : Option (Int32) :=
  ob (f_X0_read 54 (S.2 7) ((p1 * 9) + p2)) fun v2 =>
  some ((S.1 0) - v2)
abbrev rm_X0_waitedBy : Room := { frames := 1, cells := 0, slots := 0, locals := 21 }
theorem hdv_X0_waitedBy : yX0_waitedBy.cls = RX0 ∧ yX0_waitedBy.cls ≠ "java/lang/invoke/MethodHandle" ∧ yX0_waitedBy.cls ≠ "java/lang/invoke/VarHandle" ∧ (parseMethodDescriptor yX0_waitedBy.desc).map (fun d => d.parameters.length) = some 2 := by decide +kernel
set_option maxHeartbeats 4000000 in
set_option maxRecDepth 100000 in
theorem m_X0_waitedBy (l : Launch) (D : va_G) (Z : Nat → ClassId) (a : Nat → Nat) (S : RS) (p1 : Int32) (p2 : Int32) (r : Int32) (hf : f_X0_waitedBy S p1 p2 = some r) : ROi l yX0_waitedBy wsX0_waitedBy rm_X0_waitedBy D Z [.ref (a 0), .int p1, .int p2] (rwl Z a S) r := by
  refine ROi.of (cc := cX0_waitedBy) (nL := 3) (ret := (some .int)) (by decide +kernel) rfl (Nat.le_of_ble_eq_true rfl) ?_
  intro p e s m below meth c hC hA hP hK hD hS ls hl
  obtain ⟨hx, hb, hr, hml, hown, hts, hlk, -⟩ := hC
  have hown : s.vm.findClass RX0 = some m.cls := hown
  have hin : ∀ w ∈ wsX00, w ∈ wsX0_waitedBy := fun w h => List.mem_cons_of_mem _ (List.mem_append_right _ h)
  have hl : lv_has ls 3 [(0, .ref (a 0)), (1, .int p1), (2, .int p2)] := hl
  unfold f_X0_waitedBy at hf
  refine lv_aload_n hx hb dX0_waitedBy_0 rfl (lv_at hl 0 rfl) ?_
  refine va_get (D := D) (ci := 0) (v := .int (S.1 0)) (C := RX0) (T := TX0) (N := 17) hx hb hts hin hown hK hP 0 rfl rfl 0 (by decide) (hts (.fieldLink RX0 49 "PodGuideway$Ring" "minute" "I") (List.mem_of_getElem? (i := 1) rfl)) (fun _ h9 => h9) rfl dX0_waitedBy_1 ?_
  refine lv_aload_n hx hb dX0_waitedBy_4 rfl (lv_at hl 0 rfl) ?_
  refine va_get (D := D) (ci := 0) (v := .ref (a 8)) (C := RX0) (T := TX0) (N := 17) hx hb hts hin hown hK hP 0 rfl rfl 13 (by decide) (hts (.fieldLink RX0 37 "PodGuideway$Ring" "riderCame" "[I") (List.mem_of_getElem? (i := 2) rfl)) (fun _ h9 => h9) rfl dX0_waitedBy_5 ?_
  refine lv_iload_n hx hb dX0_waitedBy_8 rfl (lv_at hl 1 rfl) ?_
  refine lv_bipush (v := 9) hx hb dX0_waitedBy_9 (by decide) ?_
  refine lv_imul hx hb dX0_waitedBy_11 ?_
  refine lv_iload_n hx hb dX0_waitedBy_12 rfl (lv_at hl 2 rfl) ?_
  refine lv_iadd hx hb dX0_waitedBy_13 ?_
  obtain ⟨v2, hv1, hf⟩ := ob_some hf
  refine zc_i (z_SD (As := [.ref (a 8), .int ((p1 * 9) + p2)]) (rest := [.int (S.1 0)]) ⟨hx, hb, hml, hown, hts⟩ (m_X0_read l D Z (a 8) 54 (S.2 7) ((p1 * 9) + p2) v2 hv1) gX0_waitedBy_X0_read rfl rfl rfl hds_X0_read ⟨Nat.le_of_ble_eq_true rfl, Nat.le_of_ble_eq_true rfl⟩ hK (hP.sub (ws' := [((a 8), .inl (Z 0, 54, .inl (S.2 7)))]) [8] rfl) (hD.sub (ws' := [((a 8), .inl (Z 0, 54, .inl (S.2 7)))]) [8] (by decide) rfl) rfl hl.1 rfl (Nat.le_of_ble_eq_true rfl) dX0_waitedBy_14 ⟨Nat.le_of_ble_eq_true rfl, Nat.le_of_ble_eq_true rfl⟩) hP hS hA (fun H locs hP hS => ?_)
  refine lv_isub hx hb dX0_waitedBy_17 ?_
  exact zr_i hx hb hr hlk hS (Option.some.inj hf) dX0_waitedBy_18
def f_X0_waitedAt_L11  (S : RS) : Nat → Int32 → Int32 → Int32 → Int32 → Option (Int32)
  | 0, _, _, _, _ => none
  | n + 1, x1, x2, x3, x4 =>
    if x3 ≤ x4 then
      some x2
    else
      ob (f_X0_waitedBy S x1 x4) fun v5 =>
      f_X0_waitedAt_L11 S n x1 (x2 + v5) x3 (x4 + 1)
def f_X0_waitedAt  (S : RS) (p1 : Int32) : Option (Int32) :=
  ob (f_X0_waitingAt S p1) fun v2 =>
  f_X0_waitedAt_L11 S FU p1 0 v2 0
abbrev rm_X0_waitedAt : Room := { frames := 2, cells := 0, slots := 0, locals := 45 }
theorem hdv_X0_waitedAt : yX0_waitedAt.cls = RX0 ∧ yX0_waitedAt.cls ≠ "java/lang/invoke/MethodHandle" ∧ yX0_waitedAt.cls ≠ "java/lang/invoke/VarHandle" ∧ (parseMethodDescriptor yX0_waitedAt.desc).map (fun d => d.parameters.length) = some 1 := by decide +kernel
set_option maxHeartbeats 4000000 in
set_option maxRecDepth 100000 in
theorem m_X0_waitedAt (l : Launch) (D : va_G) (Z : Nat → ClassId) (a : Nat → Nat) (S : RS) (p1 : Int32) (r : Int32) (hf : f_X0_waitedAt S p1 = some r) : ROi l yX0_waitedAt wsX0_waitedAt rm_X0_waitedAt D Z [.ref (a 0), .int p1] (rwl Z a S) r := by
  refine ROi.of (cc := cX0_waitedAt) (nL := 5) (ret := (some .int)) (by decide +kernel) rfl (Nat.le_of_ble_eq_true rfl) ?_
  intro p e s m below meth c hC hA hP hK hD hS ls hl
  obtain ⟨hx, hb, hr, hml, hown, hts, hlk, -⟩ := hC
  have hown : s.vm.findClass RX0 = some m.cls := hown
  have hl : lv_has ls 5 [(0, .ref (a 0)), (1, .int p1)] := hl
  have L11 : ∀ (n : Nat) (x1 : Int32) (x2 : Int32) (x3 : Int32) (x4 : Int32) (H : Heap) (locs : List Loc), va_P D vwCl (rwl Z a S) H → va_S (fun q : Nat => s.heap.size ≤ q) s.heap H locs → ∀ ls : Array Slot, lv_has ls 5 [(0, .ref (a 0)), (1, .int x1), (2, .int x2), (3, .int x3), (4, .int x4)] → f_X0_waitedAt_L11 S n x1 x2 x3 x4 = some r → W p l e rm_X0_waitedAt s m ([.ref (a 0), .int p1] : List Value).toArray below meth c H locs 0 0 (MQ below (zQi r s.heap.size) ([.ref (a 0), .int p1] : List Value).toArray s 0 0 (fun q => s.heap.size ≤ q)) (F0 m 11 ls []) := by
    intro n
    induction n with
    | zero =>
      intro x1 x2 x3 x4 H locs hP hS ls hl hf
      exact no_r hf
    | succ n ih =>
      intro x1 x2 x3 x4 H locs hP hS ls hl hf
      rw [f_X0_waitedAt_L11] at hf
      refine lv_iload hx hb dX0_waitedAt_11 (lv_at hl 4 rfl) ?_
      refine lv_iload_n hx hb dX0_waitedAt_13 rfl (lv_at hl 3 rfl) ?_
      refine lv_icmp_ge (tgt := 33) hx hb dX0_waitedAt_14 (by decide) (fun c3 => ?_) (fun c3 => ?_)
      · have hf := if_t hf c3
        refine lv_iload_n hx hb dX0_waitedAt_33 rfl (lv_at hl 2 rfl) ?_
        exact zr_i hx hb hr hlk hS (Option.some.inj hf) dX0_waitedAt_34
      · have hf := if_f hf c3
        refine lv_iload_n hx hb dX0_waitedAt_17 rfl (lv_at hl 2 rfl) ?_
        refine lv_aload_n hx hb dX0_waitedAt_18 rfl (lv_at hl 0 rfl) ?_
        refine lv_iload_n hx hb dX0_waitedAt_19 rfl (lv_at hl 1 rfl) ?_
        refine lv_iload hx hb dX0_waitedAt_20 (lv_at hl 4 rfl) ?_
        obtain ⟨v5, hv4, hf⟩ := ob_some hf
        refine zc_i (z_VD (As := [.int x1, .int x4]) (rest := [.int x2]) (q0 := 0) (ci := 0) ⟨hx, hb, hml, hown, hts⟩ (m_X0_waitedBy l D Z a S x1 x4 v5 hv4) gX0_waitedAt_X0_waitedBy rfl rfl rfl hdv_X0_waitedBy ⟨Nat.le_of_ble_eq_true rfl, Nat.le_of_ble_eq_true rfl⟩ hK hP hD rfl rfl rfl rfl hl.1 rfl (Nat.le_of_ble_eq_true rfl) dX0_waitedAt_22 ⟨Nat.le_of_ble_eq_true rfl, Nat.le_of_ble_eq_true rfl⟩) hP hS hA (fun H locs hP hS => ?_)
        refine lv_iadd hx hb dX0_waitedAt_25 ?_
        refine lv_istore_n (lv' := [(2, .int (x2 + v5)), (0, .ref (a 0)), (1, .int x1), (3, .int x3), (4, .int x4)]) hx hb dX0_waitedAt_26 rfl hl (by decide) rfl (fun ls hl => ?_)
        refine lv_iinc (v := (x4 + 1)) (lv' := [(4, .int (x4 + 1)), (2, .int (x2 + v5)), (0, .ref (a 0)), (1, .int x1), (3, .int x3)]) hx hb dX0_waitedAt_27 hl (k := 4) rfl rfl (by decide) rfl (fun ls hl => ?_)
        refine lv_goto (tgt := 11) hx hb dX0_waitedAt_30 (by decide) ?_
        exact ih x1 (x2 + v5) x3 (x4 + 1) _ _ hP hS ls (lv_sub hl [2, 3, 1, 4, 0] rfl) hf
  unfold f_X0_waitedAt at hf
  refine lv_iconst (v := 0) hx hb dX0_waitedAt_0 (by decide) ?_
  refine lv_istore_n (lv' := [(2, .int 0), (0, .ref (a 0)), (1, .int p1)]) hx hb dX0_waitedAt_1 rfl hl (by decide) rfl (fun ls hl => ?_)
  refine lv_aload_n hx hb dX0_waitedAt_2 rfl (lv_at hl 1 rfl) ?_
  refine lv_iload_n hx hb dX0_waitedAt_3 rfl (lv_at hl 2 rfl) ?_
  obtain ⟨v2, hv1, hf⟩ := ob_some hf
  refine zc_i (z_VD (As := [.int p1]) (rest := []) (q0 := 0) (ci := 0) ⟨hx, hb, hml, hown, hts⟩ (m_X0_waitingAt l D Z a S p1 v2 hv1) gX0_waitedAt_X0_waitingAt rfl rfl rfl hdv_X0_waitingAt ⟨Nat.le_of_ble_eq_true rfl, Nat.le_of_ble_eq_true rfl⟩ hK hP hD rfl rfl rfl rfl hl.1 rfl (Nat.le_of_ble_eq_true rfl) dX0_waitedAt_4 ⟨Nat.le_of_ble_eq_true rfl, Nat.le_of_ble_eq_true rfl⟩) hP hS hA (fun H locs hP hS => ?_)
  refine lv_istore_n (lv' := [(3, .int v2), (2, .int 0), (0, .ref (a 0)), (1, .int p1)]) hx hb dX0_waitedAt_7 rfl hl (by decide) rfl (fun ls hl => ?_)
  refine lv_iconst (v := 0) hx hb dX0_waitedAt_8 (by decide) ?_
  refine lv_istore (lv' := [(4, .int 0), (3, .int v2), (2, .int 0), (0, .ref (a 0)), (1, .int p1)]) hx hb dX0_waitedAt_9 hl (by decide) rfl (fun ls hl => ?_)
  exact L11 FU p1 0 v2 0 _ _ hP hS ls (lv_sub hl [3, 4, 2, 1, 0] rfl) hf
def f_X0_waitedInAll_L4  (S : RS) : Nat → Int32 → Int32 → Option (Int32)
  | 0, _, _ => none
  | n + 1, x1, x2 =>
    if (S.1 1) ≤ x2 then
      some x1
    else
      ob (f_X0_waitedAt S x2) fun v3 =>
      f_X0_waitedInAll_L4 S n (x1 + v3) (x2 + 1)
def f_X0_waitedInAll  (S : RS)  : Option (Int32) :=
  f_X0_waitedInAll_L4 S FU 0 0
abbrev rm_X0_waitedInAll : Room := { frames := 3, cells := 0, slots := 0, locals := 69 }
theorem hdv_X0_waitedInAll : yX0_waitedInAll.cls = RX0 ∧ yX0_waitedInAll.cls ≠ "java/lang/invoke/MethodHandle" ∧ yX0_waitedInAll.cls ≠ "java/lang/invoke/VarHandle" ∧ (parseMethodDescriptor yX0_waitedInAll.desc).map (fun d => d.parameters.length) = some 0 := by decide +kernel
set_option maxHeartbeats 4000000 in
set_option maxRecDepth 100000 in
theorem m_X0_waitedInAll (l : Launch) (D : va_G) (Z : Nat → ClassId) (a : Nat → Nat) (S : RS)  (r : Int32) (hf : f_X0_waitedInAll S = some r) : ROi l yX0_waitedInAll wsX0_waitedInAll rm_X0_waitedInAll D Z [.ref (a 0)] (rwl Z a S) r := by
  refine ROi.of (cc := cX0_waitedInAll) (nL := 3) (ret := (some .int)) (by decide +kernel) rfl (Nat.le_of_ble_eq_true rfl) ?_
  intro p e s m below meth c hC hA hP hK hD hS ls hl
  obtain ⟨hx, hb, hr, hml, hown, hts, hlk, -⟩ := hC
  have hown : s.vm.findClass RX0 = some m.cls := hown
  have hin : ∀ w ∈ wsX00, w ∈ wsX0_waitedInAll := fun w h => List.mem_cons_of_mem _ (List.mem_append_right _ h)
  have hl : lv_has ls 3 [(0, .ref (a 0))] := hl
  have L4 : ∀ (n : Nat) (x1 : Int32) (x2 : Int32) (H : Heap) (locs : List Loc), va_P D vwCl (rwl Z a S) H → va_S (fun q : Nat => s.heap.size ≤ q) s.heap H locs → ∀ ls : Array Slot, lv_has ls 3 [(0, .ref (a 0)), (1, .int x1), (2, .int x2)] → f_X0_waitedInAll_L4 S n x1 x2 = some r → W p l e rm_X0_waitedInAll s m ([.ref (a 0)] : List Value).toArray below meth c H locs 0 0 (MQ below (zQi r s.heap.size) ([.ref (a 0)] : List Value).toArray s 0 0 (fun q => s.heap.size ≤ q)) (F0 m 4 ls []) := by
    intro n
    induction n with
    | zero =>
      intro x1 x2 H locs hP hS ls hl hf
      exact no_r hf
    | succ n ih =>
      intro x1 x2 H locs hP hS ls hl hf
      rw [f_X0_waitedInAll_L4] at hf
      refine lv_iload_n hx hb dX0_waitedInAll_4 rfl (lv_at hl 2 rfl) ?_
      refine lv_aload_n hx hb dX0_waitedInAll_5 rfl (lv_at hl 0 rfl) ?_
      refine va_get (D := D) (ci := 0) (v := .int (S.1 1)) (C := RX0) (T := TX0) (N := 17) hx hb hts hin hown hK hP 0 rfl rfl 1 (by decide) (hts (.fieldLink RX0 53 "PodGuideway$Ring" "stations" "I") (List.mem_of_getElem? (i := 1) rfl)) (fun _ h9 => h9) rfl dX0_waitedInAll_6 ?_
      refine lv_icmp_ge (tgt := 26) hx hb dX0_waitedInAll_9 (by decide) (fun c1 => ?_) (fun c1 => ?_)
      · have hf := if_t hf c1
        refine lv_iload_n hx hb dX0_waitedInAll_26 rfl (lv_at hl 1 rfl) ?_
        exact zr_i hx hb hr hlk hS (Option.some.inj hf) dX0_waitedInAll_27
      · have hf := if_f hf c1
        refine lv_iload_n hx hb dX0_waitedInAll_12 rfl (lv_at hl 1 rfl) ?_
        refine lv_aload_n hx hb dX0_waitedInAll_13 rfl (lv_at hl 0 rfl) ?_
        refine lv_iload_n hx hb dX0_waitedInAll_14 rfl (lv_at hl 2 rfl) ?_
        obtain ⟨v3, hv2, hf⟩ := ob_some hf
        refine zc_i (z_VD (As := [.int x2]) (rest := [.int x1]) (q0 := 0) (ci := 0) ⟨hx, hb, hml, hown, hts⟩ (m_X0_waitedAt l D Z a S x2 v3 hv2) gX0_waitedInAll_X0_waitedAt rfl rfl rfl hdv_X0_waitedAt ⟨Nat.le_of_ble_eq_true rfl, Nat.le_of_ble_eq_true rfl⟩ hK hP hD rfl rfl rfl rfl hl.1 rfl (Nat.le_of_ble_eq_true rfl) dX0_waitedInAll_15 ⟨Nat.le_of_ble_eq_true rfl, Nat.le_of_ble_eq_true rfl⟩) hP hS hA (fun H locs hP hS => ?_)
        refine lv_iadd hx hb dX0_waitedInAll_18 ?_
        refine lv_istore_n (lv' := [(1, .int (x1 + v3)), (0, .ref (a 0)), (2, .int x2)]) hx hb dX0_waitedInAll_19 rfl hl (by decide) rfl (fun ls hl => ?_)
        refine lv_iinc (v := (x2 + 1)) (lv' := [(2, .int (x2 + 1)), (1, .int (x1 + v3)), (0, .ref (a 0))]) hx hb dX0_waitedInAll_20 hl (k := 2) rfl rfl (by decide) rfl (fun ls hl => ?_)
        refine lv_goto (tgt := 4) hx hb dX0_waitedInAll_23 (by decide) ?_
        exact ih (x1 + v3) (x2 + 1) _ _ hP hS ls (lv_sub hl [2, 1, 0] rfl) hf
  unfold f_X0_waitedInAll at hf
  refine lv_iconst (v := 0) hx hb dX0_waitedInAll_0 (by decide) ?_
  refine lv_istore_n (lv' := [(1, .int 0), (0, .ref (a 0))]) hx hb dX0_waitedInAll_1 rfl hl (by decide) rfl (fun ls hl => ?_)
  refine lv_iconst (v := 0) hx hb dX0_waitedInAll_2 (by decide) ?_
  refine lv_istore_n (lv' := [(2, .int 0), (1, .int 0), (0, .ref (a 0))]) hx hb dX0_waitedInAll_3 rfl hl (by decide) rfl (fun ls hl => ?_)
  exact L4 FU 0 0 _ _ hP hS ls (lv_sub hl [2, 1, 0] rfl) hf
def f_X0_waitingInAll_L4  (S : RS) : Nat → Int32 → Int32 → Option (Int32)
  | 0, _, _ => none
  | n + 1, x1, x2 =>
    if (S.1 1) ≤ x2 then
      some x1
    else
      ob (f_X0_waitingAt S x2) fun v3 =>
      f_X0_waitingInAll_L4 S n (x1 + v3) (x2 + 1)
def f_X0_waitingInAll  (S : RS)  : Option (Int32) :=
  f_X0_waitingInAll_L4 S FU 0 0
abbrev rm_X0_waitingInAll : Room := { frames := 2, cells := 0, slots := 0, locals := 45 }
theorem hdv_X0_waitingInAll : yX0_waitingInAll.cls = RX0 ∧ yX0_waitingInAll.cls ≠ "java/lang/invoke/MethodHandle" ∧ yX0_waitingInAll.cls ≠ "java/lang/invoke/VarHandle" ∧ (parseMethodDescriptor yX0_waitingInAll.desc).map (fun d => d.parameters.length) = some 0 := by decide +kernel
set_option maxHeartbeats 4000000 in
set_option maxRecDepth 100000 in
theorem m_X0_waitingInAll (l : Launch) (D : va_G) (Z : Nat → ClassId) (a : Nat → Nat) (S : RS)  (r : Int32) (hf : f_X0_waitingInAll S = some r) : ROi l yX0_waitingInAll wsX0_waitingInAll rm_X0_waitingInAll D Z [.ref (a 0)] (rwl Z a S) r := by
  refine ROi.of (cc := cX0_waitingInAll) (nL := 3) (ret := (some .int)) (by decide +kernel) rfl (Nat.le_of_ble_eq_true rfl) ?_
  intro p e s m below meth c hC hA hP hK hD hS ls hl
  obtain ⟨hx, hb, hr, hml, hown, hts, hlk, -⟩ := hC
  have hown : s.vm.findClass RX0 = some m.cls := hown
  have hin : ∀ w ∈ wsX00, w ∈ wsX0_waitingInAll := fun w h => List.mem_cons_of_mem _ (List.mem_append_right _ h)
  have hl : lv_has ls 3 [(0, .ref (a 0))] := hl
  have L4 : ∀ (n : Nat) (x1 : Int32) (x2 : Int32) (H : Heap) (locs : List Loc), va_P D vwCl (rwl Z a S) H → va_S (fun q : Nat => s.heap.size ≤ q) s.heap H locs → ∀ ls : Array Slot, lv_has ls 3 [(0, .ref (a 0)), (1, .int x1), (2, .int x2)] → f_X0_waitingInAll_L4 S n x1 x2 = some r → W p l e rm_X0_waitingInAll s m ([.ref (a 0)] : List Value).toArray below meth c H locs 0 0 (MQ below (zQi r s.heap.size) ([.ref (a 0)] : List Value).toArray s 0 0 (fun q => s.heap.size ≤ q)) (F0 m 4 ls []) := by
    intro n
    induction n with
    | zero =>
      intro x1 x2 H locs hP hS ls hl hf
      exact no_r hf
    | succ n ih =>
      intro x1 x2 H locs hP hS ls hl hf
      rw [f_X0_waitingInAll_L4] at hf
      refine lv_iload_n hx hb dX0_waitingInAll_4 rfl (lv_at hl 2 rfl) ?_
      refine lv_aload_n hx hb dX0_waitingInAll_5 rfl (lv_at hl 0 rfl) ?_
      refine va_get (D := D) (ci := 0) (v := .int (S.1 1)) (C := RX0) (T := TX0) (N := 17) hx hb hts hin hown hK hP 0 rfl rfl 1 (by decide) (hts (.fieldLink RX0 53 "PodGuideway$Ring" "stations" "I") (List.mem_of_getElem? (i := 1) rfl)) (fun _ h9 => h9) rfl dX0_waitingInAll_6 ?_
      refine lv_icmp_ge (tgt := 26) hx hb dX0_waitingInAll_9 (by decide) (fun c1 => ?_) (fun c1 => ?_)
      · have hf := if_t hf c1
        refine lv_iload_n hx hb dX0_waitingInAll_26 rfl (lv_at hl 1 rfl) ?_
        exact zr_i hx hb hr hlk hS (Option.some.inj hf) dX0_waitingInAll_27
      · have hf := if_f hf c1
        refine lv_iload_n hx hb dX0_waitingInAll_12 rfl (lv_at hl 1 rfl) ?_
        refine lv_aload_n hx hb dX0_waitingInAll_13 rfl (lv_at hl 0 rfl) ?_
        refine lv_iload_n hx hb dX0_waitingInAll_14 rfl (lv_at hl 2 rfl) ?_
        obtain ⟨v3, hv2, hf⟩ := ob_some hf
        refine zc_i (z_VD (As := [.int x2]) (rest := [.int x1]) (q0 := 0) (ci := 0) ⟨hx, hb, hml, hown, hts⟩ (m_X0_waitingAt l D Z a S x2 v3 hv2) gX0_waitingInAll_X0_waitingAt rfl rfl rfl hdv_X0_waitingAt ⟨Nat.le_of_ble_eq_true rfl, Nat.le_of_ble_eq_true rfl⟩ hK hP hD rfl rfl rfl rfl hl.1 rfl (Nat.le_of_ble_eq_true rfl) dX0_waitingInAll_15 ⟨Nat.le_of_ble_eq_true rfl, Nat.le_of_ble_eq_true rfl⟩) hP hS hA (fun H locs hP hS => ?_)
        refine lv_iadd hx hb dX0_waitingInAll_18 ?_
        refine lv_istore_n (lv' := [(1, .int (x1 + v3)), (0, .ref (a 0)), (2, .int x2)]) hx hb dX0_waitingInAll_19 rfl hl (by decide) rfl (fun ls hl => ?_)
        refine lv_iinc (v := (x2 + 1)) (lv' := [(2, .int (x2 + 1)), (1, .int (x1 + v3)), (0, .ref (a 0))]) hx hb dX0_waitingInAll_20 hl (k := 2) rfl rfl (by decide) rfl (fun ls hl => ?_)
        refine lv_goto (tgt := 4) hx hb dX0_waitingInAll_23 (by decide) ?_
        exact ih (x1 + v3) (x2 + 1) _ _ hP hS ls (lv_sub hl [2, 1, 0] rfl) hf
  unfold f_X0_waitingInAll at hf
  refine lv_iconst (v := 0) hx hb dX0_waitingInAll_0 (by decide) ?_
  refine lv_istore_n (lv' := [(1, .int 0), (0, .ref (a 0))]) hx hb dX0_waitingInAll_1 rfl hl (by decide) rfl (fun ls hl => ?_)
  refine lv_iconst (v := 0) hx hb dX0_waitingInAll_2 (by decide) ?_
  refine lv_istore_n (lv' := [(2, .int 0), (1, .int 0), (0, .ref (a 0))]) hx hb dX0_waitingInAll_3 rfl hl (by decide) rfl (fun ls hl => ?_)
  exact L4 FU 0 0 _ _ hP hS ls (lv_sub hl [2, 1, 0] rfl) hf
def f_X0_arrivedInAll_L4  (S : RS) : Nat → Int32 → Int32 → Option (Int32)
  | 0, _, _ => none
  | n + 1, x1, x2 =>
    if (S.1 1) ≤ x2 then
      some x1
    else
      ob (f_X0_read 6 (S.2 3) x2) fun v3 =>
      f_X0_arrivedInAll_L4 S n (x1 + v3) (x2 + 1)
def f_X0_arrivedInAll  (S : RS)  : Option (Int32) :=
  f_X0_arrivedInAll_L4 S FU 0 0
abbrev rm_X0_arrivedInAll : Room := { frames := 1, cells := 0, slots := 0, locals := 21 }
theorem hdv_X0_arrivedInAll : yX0_arrivedInAll.cls = RX0 ∧ yX0_arrivedInAll.cls ≠ "java/lang/invoke/MethodHandle" ∧ yX0_arrivedInAll.cls ≠ "java/lang/invoke/VarHandle" ∧ (parseMethodDescriptor yX0_arrivedInAll.desc).map (fun d => d.parameters.length) = some 0 := by decide +kernel
set_option maxHeartbeats 4000000 in
set_option maxRecDepth 100000 in
theorem m_X0_arrivedInAll (l : Launch) (D : va_G) (Z : Nat → ClassId) (a : Nat → Nat) (S : RS)  (r : Int32) (hf : f_X0_arrivedInAll S = some r) : ROi l yX0_arrivedInAll wsX0_arrivedInAll rm_X0_arrivedInAll D Z [.ref (a 0)] (rwl Z a S) r := by
  refine ROi.of (cc := cX0_arrivedInAll) (nL := 3) (ret := (some .int)) (by decide +kernel) rfl (Nat.le_of_ble_eq_true rfl) ?_
  intro p e s m below meth c hC hA hP hK hD hS ls hl
  obtain ⟨hx, hb, hr, hml, hown, hts, hlk, -⟩ := hC
  have hown : s.vm.findClass RX0 = some m.cls := hown
  have hin : ∀ w ∈ wsX00, w ∈ wsX0_arrivedInAll := fun w h => List.mem_cons_of_mem _ (List.mem_append_right _ h)
  have hl : lv_has ls 3 [(0, .ref (a 0))] := hl
  have L4 : ∀ (n : Nat) (x1 : Int32) (x2 : Int32) (H : Heap) (locs : List Loc), va_P D vwCl (rwl Z a S) H → va_S (fun q : Nat => s.heap.size ≤ q) s.heap H locs → ∀ ls : Array Slot, lv_has ls 3 [(0, .ref (a 0)), (1, .int x1), (2, .int x2)] → f_X0_arrivedInAll_L4 S n x1 x2 = some r → W p l e rm_X0_arrivedInAll s m ([.ref (a 0)] : List Value).toArray below meth c H locs 0 0 (MQ below (zQi r s.heap.size) ([.ref (a 0)] : List Value).toArray s 0 0 (fun q => s.heap.size ≤ q)) (F0 m 4 ls []) := by
    intro n
    induction n with
    | zero =>
      intro x1 x2 H locs hP hS ls hl hf
      exact no_r hf
    | succ n ih =>
      intro x1 x2 H locs hP hS ls hl hf
      rw [f_X0_arrivedInAll_L4] at hf
      refine lv_iload_n hx hb dX0_arrivedInAll_4 rfl (lv_at hl 2 rfl) ?_
      refine lv_aload_n hx hb dX0_arrivedInAll_5 rfl (lv_at hl 0 rfl) ?_
      refine va_get (D := D) (ci := 0) (v := .int (S.1 1)) (C := RX0) (T := TX0) (N := 17) hx hb hts hin hown hK hP 0 rfl rfl 1 (by decide) (hts (.fieldLink RX0 53 "PodGuideway$Ring" "stations" "I") (List.mem_of_getElem? (i := 1) rfl)) (fun _ h9 => h9) rfl dX0_arrivedInAll_6 ?_
      refine lv_icmp_ge (tgt := 29) hx hb dX0_arrivedInAll_9 (by decide) (fun c1 => ?_) (fun c1 => ?_)
      · have hf := if_t hf c1
        refine lv_iload_n hx hb dX0_arrivedInAll_29 rfl (lv_at hl 1 rfl) ?_
        exact zr_i hx hb hr hlk hS (Option.some.inj hf) dX0_arrivedInAll_30
      · have hf := if_f hf c1
        refine lv_iload_n hx hb dX0_arrivedInAll_12 rfl (lv_at hl 1 rfl) ?_
        refine lv_aload_n hx hb dX0_arrivedInAll_13 rfl (lv_at hl 0 rfl) ?_
        refine va_get (D := D) (ci := 0) (v := .ref (a 4)) (C := RX0) (T := TX0) (N := 17) hx hb hts hin hown hK hP 0 rfl rfl 9 (by decide) (hts (.fieldLink RX0 25 "PodGuideway$Ring" "stationArrived" "[I") (List.mem_of_getElem? (i := 2) rfl)) (fun _ h9 => h9) rfl dX0_arrivedInAll_14 ?_
        refine lv_iload_n hx hb dX0_arrivedInAll_17 rfl (lv_at hl 2 rfl) ?_
        obtain ⟨v3, hv2, hf⟩ := ob_some hf
        refine zc_i (z_SD (As := [.ref (a 4), .int x2]) (rest := [.int x1]) ⟨hx, hb, hml, hown, hts⟩ (m_X0_read l D Z (a 4) 6 (S.2 3) x2 v3 hv2) gX0_arrivedInAll_X0_read rfl rfl rfl hds_X0_read ⟨Nat.le_of_ble_eq_true rfl, Nat.le_of_ble_eq_true rfl⟩ hK (hP.sub (ws' := [((a 4), .inl (Z 0, 6, .inl (S.2 3)))]) [4] rfl) (hD.sub (ws' := [((a 4), .inl (Z 0, 6, .inl (S.2 3)))]) [4] (by decide) rfl) rfl hl.1 rfl (Nat.le_of_ble_eq_true rfl) dX0_arrivedInAll_18 ⟨Nat.le_of_ble_eq_true rfl, Nat.le_of_ble_eq_true rfl⟩) hP hS hA (fun H locs hP hS => ?_)
        refine lv_iadd hx hb dX0_arrivedInAll_21 ?_
        refine lv_istore_n (lv' := [(1, .int (x1 + v3)), (0, .ref (a 0)), (2, .int x2)]) hx hb dX0_arrivedInAll_22 rfl hl (by decide) rfl (fun ls hl => ?_)
        refine lv_iinc (v := (x2 + 1)) (lv' := [(2, .int (x2 + 1)), (1, .int (x1 + v3)), (0, .ref (a 0))]) hx hb dX0_arrivedInAll_23 hl (k := 2) rfl rfl (by decide) rfl (fun ls hl => ?_)
        refine lv_goto (tgt := 4) hx hb dX0_arrivedInAll_26 (by decide) ?_
        exact ih (x1 + v3) (x2 + 1) _ _ hP hS ls (lv_sub hl [2, 1, 0] rfl) hf
  unfold f_X0_arrivedInAll at hf
  refine lv_iconst (v := 0) hx hb dX0_arrivedInAll_0 (by decide) ?_
  refine lv_istore_n (lv' := [(1, .int 0), (0, .ref (a 0))]) hx hb dX0_arrivedInAll_1 rfl hl (by decide) rfl (fun ls hl => ?_)
  refine lv_iconst (v := 0) hx hb dX0_arrivedInAll_2 (by decide) ?_
  refine lv_istore_n (lv' := [(2, .int 0), (1, .int 0), (0, .ref (a 0))]) hx hb dX0_arrivedInAll_3 rfl hl (by decide) rfl (fun ls hl => ?_)
  exact L4 FU 0 0 _ _ hP hS ls (lv_sub hl [2, 1, 0] rfl) hf
def f_X0_ridersInPods_L4  (S : RS) : Nat → Int32 → Int32 → Option (Int32)
  | 0, _, _ => none
  | n + 1, x1, x2 =>
    if (S.1 2) ≤ x2 then
      some x1
    else
      ob (f_X0_read 12 (S.2 9) x2) fun v3 =>
      if v3 = (-1) then
        f_X0_ridersInPods_L4 S n x1 (x2 + 1)
      else
        f_X0_ridersInPods_L4 S n (x1 + 1) (x2 + 1)
def f_X0_ridersInPods  (S : RS)  : Option (Int32) :=
  f_X0_ridersInPods_L4 S FU 0 0
abbrev rm_X0_ridersInPods : Room := { frames := 1, cells := 0, slots := 0, locals := 21 }
theorem hdv_X0_ridersInPods : yX0_ridersInPods.cls = RX0 ∧ yX0_ridersInPods.cls ≠ "java/lang/invoke/MethodHandle" ∧ yX0_ridersInPods.cls ≠ "java/lang/invoke/VarHandle" ∧ (parseMethodDescriptor yX0_ridersInPods.desc).map (fun d => d.parameters.length) = some 0 := by decide +kernel
set_option maxHeartbeats 4000000 in
set_option maxRecDepth 100000 in
theorem m_X0_ridersInPods (l : Launch) (D : va_G) (Z : Nat → ClassId) (a : Nat → Nat) (S : RS)  (r : Int32) (hf : f_X0_ridersInPods S = some r) : ROi l yX0_ridersInPods wsX0_ridersInPods rm_X0_ridersInPods D Z [.ref (a 0)] (rwl Z a S) r := by
  refine ROi.of (cc := cX0_ridersInPods) (nL := 3) (ret := (some .int)) (by decide +kernel) rfl (Nat.le_of_ble_eq_true rfl) ?_
  intro p e s m below meth c hC hA hP hK hD hS ls hl
  obtain ⟨hx, hb, hr, hml, hown, hts, hlk, -⟩ := hC
  have hown : s.vm.findClass RX0 = some m.cls := hown
  have hin : ∀ w ∈ wsX00, w ∈ wsX0_ridersInPods := fun w h => List.mem_cons_of_mem _ (List.mem_append_right _ h)
  have hl : lv_has ls 3 [(0, .ref (a 0))] := hl
  have L4 : ∀ (n : Nat) (x1 : Int32) (x2 : Int32) (H : Heap) (locs : List Loc), va_P D vwCl (rwl Z a S) H → va_S (fun q : Nat => s.heap.size ≤ q) s.heap H locs → ∀ ls : Array Slot, lv_has ls 3 [(0, .ref (a 0)), (1, .int x1), (2, .int x2)] → f_X0_ridersInPods_L4 S n x1 x2 = some r → W p l e rm_X0_ridersInPods s m ([.ref (a 0)] : List Value).toArray below meth c H locs 0 0 (MQ below (zQi r s.heap.size) ([.ref (a 0)] : List Value).toArray s 0 0 (fun q => s.heap.size ≤ q)) (F0 m 4 ls []) := by
    intro n
    induction n with
    | zero =>
      intro x1 x2 H locs hP hS ls hl hf
      exact no_r hf
    | succ n ih =>
      intro x1 x2 H locs hP hS ls hl hf
      rw [f_X0_ridersInPods_L4] at hf
      refine lv_iload_n hx hb dX0_ridersInPods_4 rfl (lv_at hl 2 rfl) ?_
      refine lv_aload_n hx hb dX0_ridersInPods_5 rfl (lv_at hl 0 rfl) ?_
      refine va_get (D := D) (ci := 0) (v := .int (S.1 2)) (C := RX0) (T := TX0) (N := 17) hx hb hts hin hown hK hP 0 rfl rfl 2 (by decide) (hts (.fieldLink RX0 56 "PodGuideway$Ring" "pods" "I") (List.mem_of_getElem? (i := 1) rfl)) (fun _ h9 => h9) rfl dX0_ridersInPods_6 ?_
      refine lv_icmp_ge (tgt := 33) hx hb dX0_ridersInPods_9 (by decide) (fun c1 => ?_) (fun c1 => ?_)
      · have hf := if_t hf c1
        refine lv_iload_n hx hb dX0_ridersInPods_33 rfl (lv_at hl 1 rfl) ?_
        exact zr_i hx hb hr hlk hS (Option.some.inj hf) dX0_ridersInPods_34
      · have hf := if_f hf c1
        refine lv_aload_n hx hb dX0_ridersInPods_12 rfl (lv_at hl 0 rfl) ?_
        refine va_get (D := D) (ci := 0) (v := .ref (a 10)) (C := RX0) (T := TX0) (N := 17) hx hb hts hin hown hK hP 0 rfl rfl 15 (by decide) (hts (.fieldLink RX0 43 "PodGuideway$Ring" "podRider" "[I") (List.mem_of_getElem? (i := 2) rfl)) (fun _ h9 => h9) rfl dX0_ridersInPods_13 ?_
        refine lv_iload_n hx hb dX0_ridersInPods_16 rfl (lv_at hl 2 rfl) ?_
        obtain ⟨v3, hv2, hf⟩ := ob_some hf
        refine zc_i (z_SD (As := [.ref (a 10), .int x2]) (rest := []) ⟨hx, hb, hml, hown, hts⟩ (m_X0_read l D Z (a 10) 12 (S.2 9) x2 v3 hv2) gX0_ridersInPods_X0_read rfl rfl rfl hds_X0_read ⟨Nat.le_of_ble_eq_true rfl, Nat.le_of_ble_eq_true rfl⟩ hK (hP.sub (ws' := [((a 10), .inl (Z 0, 12, .inl (S.2 9)))]) [10] rfl) (hD.sub (ws' := [((a 10), .inl (Z 0, 12, .inl (S.2 9)))]) [10] (by decide) rfl) rfl hl.1 rfl (Nat.le_of_ble_eq_true rfl) dX0_ridersInPods_17 ⟨Nat.le_of_ble_eq_true rfl, Nat.le_of_ble_eq_true rfl⟩) hP hS hA (fun H locs hP hS => ?_)
        refine lv_iconst (v := (-1)) hx hb dX0_ridersInPods_20 (by decide) ?_
        refine lv_icmp_eq (tgt := 27) hx hb dX0_ridersInPods_21 (by decide) (fun c4 => ?_) (fun c4 => ?_)
        · have hf := if_t hf c4
          refine lv_iinc (v := (x2 + 1)) (lv' := [(2, .int (x2 + 1)), (0, .ref (a 0)), (1, .int x1)]) hx hb dX0_ridersInPods_27 hl (k := 2) rfl rfl (by decide) rfl (fun ls hl => ?_)
          refine lv_goto (tgt := 4) hx hb dX0_ridersInPods_30 (by decide) ?_
          exact ih x1 (x2 + 1) _ _ hP hS ls (lv_sub hl [1, 2, 0] rfl) hf
        · have hf := if_f hf c4
          refine lv_iinc (v := (x1 + 1)) (lv' := [(1, .int (x1 + 1)), (0, .ref (a 0)), (2, .int x2)]) hx hb dX0_ridersInPods_24 hl (k := 1) rfl rfl (by decide) rfl (fun ls hl => ?_)
          refine lv_iinc (v := (x2 + 1)) (lv' := [(2, .int (x2 + 1)), (1, .int (x1 + 1)), (0, .ref (a 0))]) hx hb dX0_ridersInPods_27 hl (k := 2) rfl rfl (by decide) rfl (fun ls hl => ?_)
          refine lv_goto (tgt := 4) hx hb dX0_ridersInPods_30 (by decide) ?_
          exact ih (x1 + 1) (x2 + 1) _ _ hP hS ls (lv_sub hl [2, 1, 0] rfl) hf
  unfold f_X0_ridersInPods at hf
  refine lv_iconst (v := 0) hx hb dX0_ridersInPods_0 (by decide) ?_
  refine lv_istore_n (lv' := [(1, .int 0), (0, .ref (a 0))]) hx hb dX0_ridersInPods_1 rfl hl (by decide) rfl (fun ls hl => ?_)
  refine lv_iconst (v := 0) hx hb dX0_ridersInPods_2 (by decide) ?_
  refine lv_istore_n (lv' := [(2, .int 0), (1, .int 0), (0, .ref (a 0))]) hx hb dX0_ridersInPods_3 rfl hl (by decide) rfl (fun ls hl => ?_)
  exact L4 FU 0 0 _ _ hP hS ls (lv_sub hl [2, 1, 0] rfl) hf
def f_X0_freeSlots_L4  (S : RS) : Nat → Int32 → Int32 → Option (Int32)
  | 0, _, _ => none
  | n + 1, x1, x2 =>
    if 24 ≤ x2 then
      some x1
    else
      ob (f_X0_podAtPlace S x2) fun v3 =>
      if v3 = (-1) then
        f_X0_freeSlots_L4 S n (x1 + 1) (x2 + 1)
      else
        f_X0_freeSlots_L4 S n x1 (x2 + 1)
def f_X0_freeSlots  (S : RS)  : Option (Int32) :=
  f_X0_freeSlots_L4 S FU 0 0
abbrev rm_X0_freeSlots : Room := { frames := 2, cells := 0, slots := 0, locals := 42 }
theorem hdv_X0_freeSlots : yX0_freeSlots.cls = RX0 ∧ yX0_freeSlots.cls ≠ "java/lang/invoke/MethodHandle" ∧ yX0_freeSlots.cls ≠ "java/lang/invoke/VarHandle" ∧ (parseMethodDescriptor yX0_freeSlots.desc).map (fun d => d.parameters.length) = some 0 := by decide +kernel
set_option maxHeartbeats 4000000 in
set_option maxRecDepth 100000 in
theorem m_X0_freeSlots (l : Launch) (D : va_G) (Z : Nat → ClassId) (a : Nat → Nat) (S : RS)  (r : Int32) (hf : f_X0_freeSlots S = some r) : ROi l yX0_freeSlots wsX0_freeSlots rm_X0_freeSlots D Z [.ref (a 0)] (rwl Z a S) r := by
  refine ROi.of (cc := cX0_freeSlots) (nL := 3) (ret := (some .int)) (by decide +kernel) rfl (Nat.le_of_ble_eq_true rfl) ?_
  intro p e s m below meth c hC hA hP hK hD hS ls hl
  obtain ⟨hx, hb, hr, hml, hown, hts, hlk, -⟩ := hC
  have hown : s.vm.findClass RX0 = some m.cls := hown
  have hl : lv_has ls 3 [(0, .ref (a 0))] := hl
  have L4 : ∀ (n : Nat) (x1 : Int32) (x2 : Int32) (H : Heap) (locs : List Loc), va_P D vwCl (rwl Z a S) H → va_S (fun q : Nat => s.heap.size ≤ q) s.heap H locs → ∀ ls : Array Slot, lv_has ls 3 [(0, .ref (a 0)), (1, .int x1), (2, .int x2)] → f_X0_freeSlots_L4 S n x1 x2 = some r → W p l e rm_X0_freeSlots s m ([.ref (a 0)] : List Value).toArray below meth c H locs 0 0 (MQ below (zQi r s.heap.size) ([.ref (a 0)] : List Value).toArray s 0 0 (fun q => s.heap.size ≤ q)) (F0 m 4 ls []) := by
    intro n
    induction n with
    | zero =>
      intro x1 x2 H locs hP hS ls hl hf
      exact no_r hf
    | succ n ih =>
      intro x1 x2 H locs hP hS ls hl hf
      rw [f_X0_freeSlots_L4] at hf
      refine lv_iload_n hx hb dX0_freeSlots_4 rfl (lv_at hl 2 rfl) ?_
      refine lv_bipush (v := 24) hx hb dX0_freeSlots_5 (by decide) ?_
      refine lv_icmp_ge (tgt := 28) hx hb dX0_freeSlots_7 (by decide) (fun c1 => ?_) (fun c1 => ?_)
      · have hf := if_t hf c1
        refine lv_iload_n hx hb dX0_freeSlots_28 rfl (lv_at hl 1 rfl) ?_
        exact zr_i hx hb hr hlk hS (Option.some.inj hf) dX0_freeSlots_29
      · have hf := if_f hf c1
        refine lv_aload_n hx hb dX0_freeSlots_10 rfl (lv_at hl 0 rfl) ?_
        refine lv_iload_n hx hb dX0_freeSlots_11 rfl (lv_at hl 2 rfl) ?_
        obtain ⟨v3, hv2, hf⟩ := ob_some hf
        refine zc_i (z_VD (As := [.int x2]) (rest := []) (q0 := 0) (ci := 0) ⟨hx, hb, hml, hown, hts⟩ (m_X0_podAtPlace l D Z a S x2 v3 hv2) gX0_freeSlots_X0_podAtPlace rfl rfl rfl hdv_X0_podAtPlace ⟨Nat.le_of_ble_eq_true rfl, Nat.le_of_ble_eq_true rfl⟩ hK hP hD rfl rfl rfl rfl hl.1 rfl (Nat.le_of_ble_eq_true rfl) dX0_freeSlots_12 ⟨Nat.le_of_ble_eq_true rfl, Nat.le_of_ble_eq_true rfl⟩) hP hS hA (fun H locs hP hS => ?_)
        refine lv_iconst (v := (-1)) hx hb dX0_freeSlots_15 (by decide) ?_
        refine lv_icmp_ne (tgt := 22) hx hb dX0_freeSlots_16 (by decide) (fun c4 => ?_) (fun c4 => ?_)
        · have hf := if_f hf c4
          refine lv_iinc (v := (x2 + 1)) (lv' := [(2, .int (x2 + 1)), (0, .ref (a 0)), (1, .int x1)]) hx hb dX0_freeSlots_22 hl (k := 2) rfl rfl (by decide) rfl (fun ls hl => ?_)
          refine lv_goto (tgt := 4) hx hb dX0_freeSlots_25 (by decide) ?_
          exact ih x1 (x2 + 1) _ _ hP hS ls (lv_sub hl [1, 2, 0] rfl) hf
        · have hf := if_t hf c4
          refine lv_iinc (v := (x1 + 1)) (lv' := [(1, .int (x1 + 1)), (0, .ref (a 0)), (2, .int x2)]) hx hb dX0_freeSlots_19 hl (k := 1) rfl rfl (by decide) rfl (fun ls hl => ?_)
          refine lv_iinc (v := (x2 + 1)) (lv' := [(2, .int (x2 + 1)), (1, .int (x1 + 1)), (0, .ref (a 0))]) hx hb dX0_freeSlots_22 hl (k := 2) rfl rfl (by decide) rfl (fun ls hl => ?_)
          refine lv_goto (tgt := 4) hx hb dX0_freeSlots_25 (by decide) ?_
          exact ih (x1 + 1) (x2 + 1) _ _ hP hS ls (lv_sub hl [2, 1, 0] rfl) hf
  unfold f_X0_freeSlots at hf
  refine lv_iconst (v := 0) hx hb dX0_freeSlots_0 (by decide) ?_
  refine lv_istore_n (lv' := [(1, .int 0), (0, .ref (a 0))]) hx hb dX0_freeSlots_1 rfl hl (by decide) rfl (fun ls hl => ?_)
  refine lv_iconst (v := 0) hx hb dX0_freeSlots_2 (by decide) ?_
  refine lv_istore_n (lv' := [(2, .int 0), (1, .int 0), (0, .ref (a 0))]) hx hb dX0_freeSlots_3 rfl hl (by decide) rfl (fun ls hl => ?_)
  exact L4 FU 0 0 _ _ hP hS ls (lv_sub hl [2, 1, 0] rfl) hf
def f_X0_tellPod  (S : RS) (p1 : Int32) (p2 : Int32) : Option (Int32) :=
  ob (f_X0_berthOf S p1) fun v2 =>
  if p2 = 0 then
    ob (f_X0_find 24 (S.2 0) p1) fun v5 =>
    some v5
  else if p2 = 1 then
    if v2 = (-1) then
      some (-1)
    else
      some (v2 / 3)
  else if p2 = 2 then
    if v2 = (-1) then
      some (-1)
    else
      some (v2 - v2 / 3 * 3)
  else if p2 = 3 then
    ob (f_X0_goalOf S p1) fun v12 =>
    some v12
  else if p2 = 4 then
    ob (f_X0_read 12 (S.2 9) p1) fun v15 =>
    if v15 = (-1) then
      some 0
    else
      some 1
  else 
    ob (f_X0_read 12 (S.2 10) p1) fun v18 =>
    some v18
abbrev rm_X0_tellPod : Room := { frames := 2, cells := 0, slots := 0, locals := 43 }
theorem hdv_X0_tellPod : yX0_tellPod.cls = RX0 ∧ yX0_tellPod.cls ≠ "java/lang/invoke/MethodHandle" ∧ yX0_tellPod.cls ≠ "java/lang/invoke/VarHandle" ∧ (parseMethodDescriptor yX0_tellPod.desc).map (fun d => d.parameters.length) = some 2 := by decide +kernel
set_option maxHeartbeats 4000000 in
set_option maxRecDepth 100000 in
theorem m_X0_tellPod (l : Launch) (D : va_G) (Z : Nat → ClassId) (a : Nat → Nat) (S : RS) (p1 : Int32) (p2 : Int32) (r : Int32) (hf : f_X0_tellPod S p1 p2 = some r) : ROi l yX0_tellPod wsX0_tellPod rm_X0_tellPod D Z [.ref (a 0), .int p1, .int p2] (rwl Z a S) r := by
  refine ROi.of (cc := cX0_tellPod) (nL := 4) (ret := (some .int)) (by decide +kernel) rfl (Nat.le_of_ble_eq_true rfl) ?_
  intro p e s m below meth c hC hA hP hK hD hS ls hl
  obtain ⟨hx, hb, hr, hml, hown, hts, hlk, -⟩ := hC
  have hown : s.vm.findClass RX0 = some m.cls := hown
  have hin : ∀ w ∈ wsX00, w ∈ wsX0_tellPod := fun w h => List.mem_cons_of_mem _ (List.mem_append_right _ h)
  have hl : lv_has ls 4 [(0, .ref (a 0)), (1, .int p1), (2, .int p2)] := hl
  unfold f_X0_tellPod at hf
  refine lv_aload_n hx hb dX0_tellPod_0 rfl (lv_at hl 0 rfl) ?_
  refine lv_iload_n hx hb dX0_tellPod_1 rfl (lv_at hl 1 rfl) ?_
  obtain ⟨v2, hv1, hf⟩ := ob_some hf
  refine zc_i (z_VD (As := [.int p1]) (rest := []) (q0 := 0) (ci := 0) ⟨hx, hb, hml, hown, hts⟩ (m_X0_berthOf l D Z a S p1 v2 hv1) gX0_tellPod_X0_berthOf rfl rfl rfl hdv_X0_berthOf ⟨Nat.le_of_ble_eq_true rfl, Nat.le_of_ble_eq_true rfl⟩ hK hP hD rfl rfl rfl rfl hl.1 rfl (Nat.le_of_ble_eq_true rfl) dX0_tellPod_2 ⟨Nat.le_of_ble_eq_true rfl, Nat.le_of_ble_eq_true rfl⟩) hP hS hA (fun H locs hP hS => ?_)
  refine lv_istore_n (lv' := [(3, .int v2), (0, .ref (a 0)), (1, .int p1), (2, .int p2)]) hx hb dX0_tellPod_5 rfl hl (by decide) rfl (fun ls hl => ?_)
  refine lv_iload_n hx hb dX0_tellPod_6 rfl (lv_at hl 3 rfl) ?_
  by_cases c3 : p2 = 0
  · have hf := if_t hf c3
    refine lv_tableIn (tgt := 40) (off := 33) hx hb dX0_tellPod_7 (by rw [c3]; decide) (by rw [c3]; decide) (by rw [c3]; rfl) (by decide) ?_
    refine lv_aload_n hx hb dX0_tellPod_40 rfl (lv_at hl 1 rfl) ?_
    refine va_get (D := D) (ci := 0) (v := .ref (a 1)) (C := RX0) (T := TX0) (N := 17) hx hb hts hin hown hK hP 0 rfl rfl 6 (by decide) (hts (.fieldLink RX0 15 "PodGuideway$Ring" "podInSlot" "[I") (List.mem_of_getElem? (i := 1) rfl)) (fun _ h9 => h9) rfl dX0_tellPod_41 ?_
    refine lv_iload_n hx hb dX0_tellPod_44 rfl (lv_at hl 2 rfl) ?_
    obtain ⟨v5, hv4, hf⟩ := ob_some hf
    refine zc_i (z_SD (As := [.ref (a 1), .int p1]) (rest := []) ⟨hx, hb, hml, hown, hts⟩ (m_X0_find l D Z (a 1) 24 (S.2 0) p1 v5 hv4) gX0_tellPod_X0_find rfl rfl rfl hds_X0_find ⟨Nat.le_of_ble_eq_true rfl, Nat.le_of_ble_eq_true rfl⟩ hK (hP.sub (ws' := [((a 1), .inl (Z 0, 24, .inl (S.2 0)))]) [1] rfl) (hD.sub (ws' := [((a 1), .inl (Z 0, 24, .inl (S.2 0)))]) [1] (by decide) rfl) rfl hl.1 rfl (Nat.le_of_ble_eq_true rfl) dX0_tellPod_45 ⟨Nat.le_of_ble_eq_true rfl, Nat.le_of_ble_eq_true rfl⟩) hP hS hA (fun H locs hP hS => ?_)
    exact zr_i hx hb hr hlk hS (Option.some.inj hf) dX0_tellPod_48
  have hf := if_f hf c3
  by_cases c6 : p2 = 1
  · have hf := if_t hf c6
    refine lv_tableIn (tgt := 49) (off := 42) hx hb dX0_tellPod_7 (by rw [c6]; decide) (by rw [c6]; decide) (by rw [c6]; rfl) (by decide) ?_
    refine lv_iload_n hx hb dX0_tellPod_49 rfl (lv_at hl 0 rfl) ?_
    refine lv_iconst (v := (-1)) hx hb dX0_tellPod_50 (by decide) ?_
    refine lv_icmp_ne (tgt := 58) hx hb dX0_tellPod_51 (by decide) (fun c7 => ?_) (fun c7 => ?_)
    · have hf := if_f hf c7
      refine lv_iload_n hx hb dX0_tellPod_58 rfl (lv_at hl 0 rfl) ?_
      refine lv_iconst (v := 3) hx hb dX0_tellPod_59 (by decide) ?_
      refine lv_idiv hx hb dX0_tellPod_60 (by decide) ?_
      exact zr_i hx hb hr hlk hS (Option.some.inj hf) dX0_tellPod_61
    · have hf := if_t hf c7
      refine lv_iconst (v := (-1)) hx hb dX0_tellPod_54 (by decide) ?_
      refine lv_goto (tgt := 61) hx hb dX0_tellPod_55 (by decide) ?_
      exact zr_i hx hb hr hlk hS (Option.some.inj hf) dX0_tellPod_61
  have hf := if_f hf c6
  by_cases c8 : p2 = 2
  · have hf := if_t hf c8
    refine lv_tableIn (tgt := 62) (off := 55) hx hb dX0_tellPod_7 (by rw [c8]; decide) (by rw [c8]; decide) (by rw [c8]; rfl) (by decide) ?_
    refine lv_iload_n hx hb dX0_tellPod_62 rfl (lv_at hl 0 rfl) ?_
    refine lv_iconst (v := (-1)) hx hb dX0_tellPod_63 (by decide) ?_
    refine lv_icmp_ne (tgt := 71) hx hb dX0_tellPod_64 (by decide) (fun c9 => ?_) (fun c9 => ?_)
    · have hf := if_f hf c9
      refine lv_iload_n hx hb dX0_tellPod_71 rfl (lv_at hl 0 rfl) ?_
      refine lv_iconst (v := 3) hx hb dX0_tellPod_72 (by decide) ?_
      refine lv_irem hx hb dX0_tellPod_73 (by decide) ?_
      exact zr_i hx hb hr hlk hS (Option.some.inj hf) dX0_tellPod_74
    · have hf := if_t hf c9
      refine lv_iconst (v := (-1)) hx hb dX0_tellPod_67 (by decide) ?_
      refine lv_goto (tgt := 74) hx hb dX0_tellPod_68 (by decide) ?_
      exact zr_i hx hb hr hlk hS (Option.some.inj hf) dX0_tellPod_74
  have hf := if_f hf c8
  by_cases c10 : p2 = 3
  · have hf := if_t hf c10
    refine lv_tableIn (tgt := 75) (off := 68) hx hb dX0_tellPod_7 (by rw [c10]; decide) (by rw [c10]; decide) (by rw [c10]; rfl) (by decide) ?_
    refine lv_aload_n hx hb dX0_tellPod_75 rfl (lv_at hl 1 rfl) ?_
    refine lv_iload_n hx hb dX0_tellPod_76 rfl (lv_at hl 2 rfl) ?_
    obtain ⟨v12, hv11, hf⟩ := ob_some hf
    refine zc_i (z_VD (As := [.int p1]) (rest := []) (q0 := 0) (ci := 0) ⟨hx, hb, hml, hown, hts⟩ (m_X0_goalOf l D Z a S p1 v12 hv11) gX0_tellPod_X0_goalOf rfl rfl rfl hdv_X0_goalOf ⟨Nat.le_of_ble_eq_true rfl, Nat.le_of_ble_eq_true rfl⟩ hK hP hD rfl rfl rfl rfl hl.1 rfl (Nat.le_of_ble_eq_true rfl) dX0_tellPod_77 ⟨Nat.le_of_ble_eq_true rfl, Nat.le_of_ble_eq_true rfl⟩) hP hS hA (fun H locs hP hS => ?_)
    exact zr_i hx hb hr hlk hS (Option.some.inj hf) dX0_tellPod_80
  have hf := if_f hf c10
  by_cases c13 : p2 = 4
  · have hf := if_t hf c13
    refine lv_tableIn (tgt := 81) (off := 74) hx hb dX0_tellPod_7 (by rw [c13]; decide) (by rw [c13]; decide) (by rw [c13]; rfl) (by decide) ?_
    refine lv_aload_n hx hb dX0_tellPod_81 rfl (lv_at hl 1 rfl) ?_
    refine va_get (D := D) (ci := 0) (v := .ref (a 10)) (C := RX0) (T := TX0) (N := 17) hx hb hts hin hown hK hP 0 rfl rfl 15 (by decide) (hts (.fieldLink RX0 43 "PodGuideway$Ring" "podRider" "[I") (List.mem_of_getElem? (i := 2) rfl)) (fun _ h9 => h9) rfl dX0_tellPod_82 ?_
    refine lv_iload_n hx hb dX0_tellPod_85 rfl (lv_at hl 2 rfl) ?_
    obtain ⟨v15, hv14, hf⟩ := ob_some hf
    refine zc_i (z_SD (As := [.ref (a 10), .int p1]) (rest := []) ⟨hx, hb, hml, hown, hts⟩ (m_X0_read l D Z (a 10) 12 (S.2 9) p1 v15 hv14) gX0_tellPod_X0_read rfl rfl rfl hds_X0_read ⟨Nat.le_of_ble_eq_true rfl, Nat.le_of_ble_eq_true rfl⟩ hK (hP.sub (ws' := [((a 10), .inl (Z 0, 12, .inl (S.2 9)))]) [10] rfl) (hD.sub (ws' := [((a 10), .inl (Z 0, 12, .inl (S.2 9)))]) [10] (by decide) rfl) rfl hl.1 rfl (Nat.le_of_ble_eq_true rfl) dX0_tellPod_86 ⟨Nat.le_of_ble_eq_true rfl, Nat.le_of_ble_eq_true rfl⟩) hP hS hA (fun H locs hP hS => ?_)
    refine lv_iconst (v := (-1)) hx hb dX0_tellPod_89 (by decide) ?_
    refine lv_icmp_ne (tgt := 97) hx hb dX0_tellPod_90 (by decide) (fun c16 => ?_) (fun c16 => ?_)
    · have hf := if_f hf c16
      refine lv_iconst (v := 1) hx hb dX0_tellPod_97 (by decide) ?_
      exact zr_i hx hb hr hlk hS (Option.some.inj hf) dX0_tellPod_98
    · have hf := if_t hf c16
      refine lv_iconst (v := 0) hx hb dX0_tellPod_93 (by decide) ?_
      refine lv_goto (tgt := 98) hx hb dX0_tellPod_94 (by decide) ?_
      exact zr_i hx hb hr hlk hS (Option.some.inj hf) dX0_tellPod_98
  have hf := if_f hf c13
  refine lv_tableOut (tgt := 99) hx hb dX0_tellPod_7 (sw_out5 c3 c6 c8 c10 c13) (by decide) ?_
  refine lv_aload_n hx hb dX0_tellPod_99 rfl (lv_at hl 1 rfl) ?_
  refine va_get (D := D) (ci := 0) (v := .ref (a 11)) (C := RX0) (T := TX0) (N := 17) hx hb hts hin hown hK hP 0 rfl rfl 16 (by decide) (hts (.fieldLink RX0 46 "PodGuideway$Ring" "podBarred" "[I") (List.mem_of_getElem? (i := 3) rfl)) (fun _ h9 => h9) rfl dX0_tellPod_100 ?_
  refine lv_iload_n hx hb dX0_tellPod_103 rfl (lv_at hl 2 rfl) ?_
  obtain ⟨v18, hv17, hf⟩ := ob_some hf
  refine zc_i (z_SD (As := [.ref (a 11), .int p1]) (rest := []) ⟨hx, hb, hml, hown, hts⟩ (m_X0_read l D Z (a 11) 12 (S.2 10) p1 v18 hv17) gX0_tellPod_X0_read rfl rfl rfl hds_X0_read ⟨Nat.le_of_ble_eq_true rfl, Nat.le_of_ble_eq_true rfl⟩ hK (hP.sub (ws' := [((a 11), .inl (Z 0, 12, .inl (S.2 10)))]) [11] rfl) (hD.sub (ws' := [((a 11), .inl (Z 0, 12, .inl (S.2 10)))]) [11] (by decide) rfl) rfl hl.1 rfl (Nat.le_of_ble_eq_true rfl) dX0_tellPod_104 ⟨Nat.le_of_ble_eq_true rfl, Nat.le_of_ble_eq_true rfl⟩) hP hS hA (fun H locs hP hS => ?_)
  exact zr_i hx hb hr hlk hS (Option.some.inj hf) dX0_tellPod_107
def f_X0_tellStation  (S : RS) (p1 : Int32) (p2 : Int32) : Option (Int32) :=
  if p2 = 0 then
    ob (f_X0_placeOf S p1) fun v3 =>
    some v3
  else if p2 = 1 then
    ob (f_X0_berthsThatHold S p1 0) fun v6 =>
    some (3 - v6)
  else if p2 = 2 then
    ob (f_X0_berthsThatHold S p1 1) fun v9 =>
    some v9
  else if p2 = 3 then
    ob (f_X0_waitingAt S p1) fun v12 =>
    some v12
  else if p2 = 4 then
    ob (f_X0_emptyPodsTo S p1) fun v15 =>
    some v15
  else if p2 = 5 then
    ob (f_X0_waitedAt S p1) fun v18 =>
    some v18
  else 
    ob (f_X0_read 6 (S.2 3) p1) fun v20 =>
    some v20
abbrev rm_X0_tellStation : Room := { frames := 3, cells := 0, slots := 0, locals := 69 }
theorem hdv_X0_tellStation : yX0_tellStation.cls = RX0 ∧ yX0_tellStation.cls ≠ "java/lang/invoke/MethodHandle" ∧ yX0_tellStation.cls ≠ "java/lang/invoke/VarHandle" ∧ (parseMethodDescriptor yX0_tellStation.desc).map (fun d => d.parameters.length) = some 2 := by decide +kernel
set_option maxHeartbeats 4000000 in
set_option maxRecDepth 100000 in
theorem m_X0_tellStation (l : Launch) (D : va_G) (Z : Nat → ClassId) (a : Nat → Nat) (S : RS) (p1 : Int32) (p2 : Int32) (r : Int32) (hf : f_X0_tellStation S p1 p2 = some r) : ROi l yX0_tellStation wsX0_tellStation rm_X0_tellStation D Z [.ref (a 0), .int p1, .int p2] (rwl Z a S) r := by
  refine ROi.of (cc := cX0_tellStation) (nL := 3) (ret := (some .int)) (by decide +kernel) rfl (Nat.le_of_ble_eq_true rfl) ?_
  intro p e s m below meth c hC hA hP hK hD hS ls hl
  obtain ⟨hx, hb, hr, hml, hown, hts, hlk, -⟩ := hC
  have hown : s.vm.findClass RX0 = some m.cls := hown
  have hin : ∀ w ∈ wsX00, w ∈ wsX0_tellStation := fun w h => List.mem_cons_of_mem _ (List.mem_append_right _ h)
  have hl : lv_has ls 3 [(0, .ref (a 0)), (1, .int p1), (2, .int p2)] := hl
  unfold f_X0_tellStation at hf
  refine lv_iload_n hx hb dX0_tellStation_0 rfl (lv_at hl 2 rfl) ?_
  by_cases c1 : p2 = 0
  · have hf := if_t hf c1
    refine lv_tableIn (tgt := 40) (off := 39) hx hb dX0_tellStation_1 (by rw [c1]; decide) (by rw [c1]; decide) (by rw [c1]; rfl) (by decide) ?_
    refine lv_aload_n hx hb dX0_tellStation_40 rfl (lv_at hl 0 rfl) ?_
    refine lv_iload_n hx hb dX0_tellStation_41 rfl (lv_at hl 1 rfl) ?_
    obtain ⟨v3, hv2, hf⟩ := ob_some hf
    refine zc_i (z_VD (As := [.int p1]) (rest := []) (q0 := 0) (ci := 0) ⟨hx, hb, hml, hown, hts⟩ (m_X0_placeOf l D Z a S p1 v3 hv2) gX0_tellStation_X0_placeOf rfl rfl rfl hdv_X0_placeOf ⟨Nat.le_of_ble_eq_true rfl, Nat.le_of_ble_eq_true rfl⟩ hK hP hD rfl rfl rfl rfl hl.1 rfl (Nat.le_of_ble_eq_true rfl) dX0_tellStation_42 ⟨Nat.le_of_ble_eq_true rfl, Nat.le_of_ble_eq_true rfl⟩) hP hS hA (fun H locs hP hS => ?_)
    exact zr_i hx hb hr hlk hS (Option.some.inj hf) dX0_tellStation_45
  have hf := if_f hf c1
  by_cases c4 : p2 = 1
  · have hf := if_t hf c4
    refine lv_tableIn (tgt := 46) (off := 45) hx hb dX0_tellStation_1 (by rw [c4]; decide) (by rw [c4]; decide) (by rw [c4]; rfl) (by decide) ?_
    refine lv_iconst (v := 3) hx hb dX0_tellStation_46 (by decide) ?_
    refine lv_aload_n hx hb dX0_tellStation_47 rfl (lv_at hl 0 rfl) ?_
    refine lv_iload_n hx hb dX0_tellStation_48 rfl (lv_at hl 1 rfl) ?_
    refine lv_iconst (v := 0) hx hb dX0_tellStation_49 (by decide) ?_
    obtain ⟨v6, hv5, hf⟩ := ob_some hf
    refine zc_i (z_VD (As := [.int p1, .int 0]) (rest := [.int 3]) (q0 := 0) (ci := 0) ⟨hx, hb, hml, hown, hts⟩ (m_X0_berthsThatHold l D Z a S p1 0 v6 hv5) gX0_tellStation_X0_berthsThatHold rfl rfl rfl hdv_X0_berthsThatHold ⟨Nat.le_of_ble_eq_true rfl, Nat.le_of_ble_eq_true rfl⟩ hK hP hD rfl rfl rfl rfl hl.1 rfl (Nat.le_of_ble_eq_true rfl) dX0_tellStation_50 ⟨Nat.le_of_ble_eq_true rfl, Nat.le_of_ble_eq_true rfl⟩) hP hS hA (fun H locs hP hS => ?_)
    refine lv_isub hx hb dX0_tellStation_53 ?_
    exact zr_i hx hb hr hlk hS (Option.some.inj hf) dX0_tellStation_54
  have hf := if_f hf c4
  by_cases c7 : p2 = 2
  · have hf := if_t hf c7
    refine lv_tableIn (tgt := 55) (off := 54) hx hb dX0_tellStation_1 (by rw [c7]; decide) (by rw [c7]; decide) (by rw [c7]; rfl) (by decide) ?_
    refine lv_aload_n hx hb dX0_tellStation_55 rfl (lv_at hl 0 rfl) ?_
    refine lv_iload_n hx hb dX0_tellStation_56 rfl (lv_at hl 1 rfl) ?_
    refine lv_iconst (v := 1) hx hb dX0_tellStation_57 (by decide) ?_
    obtain ⟨v9, hv8, hf⟩ := ob_some hf
    refine zc_i (z_VD (As := [.int p1, .int 1]) (rest := []) (q0 := 0) (ci := 0) ⟨hx, hb, hml, hown, hts⟩ (m_X0_berthsThatHold l D Z a S p1 1 v9 hv8) gX0_tellStation_X0_berthsThatHold rfl rfl rfl hdv_X0_berthsThatHold ⟨Nat.le_of_ble_eq_true rfl, Nat.le_of_ble_eq_true rfl⟩ hK hP hD rfl rfl rfl rfl hl.1 rfl (Nat.le_of_ble_eq_true rfl) dX0_tellStation_58 ⟨Nat.le_of_ble_eq_true rfl, Nat.le_of_ble_eq_true rfl⟩) hP hS hA (fun H locs hP hS => ?_)
    exact zr_i hx hb hr hlk hS (Option.some.inj hf) dX0_tellStation_61
  have hf := if_f hf c7
  by_cases c10 : p2 = 3
  · have hf := if_t hf c10
    refine lv_tableIn (tgt := 62) (off := 61) hx hb dX0_tellStation_1 (by rw [c10]; decide) (by rw [c10]; decide) (by rw [c10]; rfl) (by decide) ?_
    refine lv_aload_n hx hb dX0_tellStation_62 rfl (lv_at hl 0 rfl) ?_
    refine lv_iload_n hx hb dX0_tellStation_63 rfl (lv_at hl 1 rfl) ?_
    obtain ⟨v12, hv11, hf⟩ := ob_some hf
    refine zc_i (z_VD (As := [.int p1]) (rest := []) (q0 := 0) (ci := 0) ⟨hx, hb, hml, hown, hts⟩ (m_X0_waitingAt l D Z a S p1 v12 hv11) gX0_tellStation_X0_waitingAt rfl rfl rfl hdv_X0_waitingAt ⟨Nat.le_of_ble_eq_true rfl, Nat.le_of_ble_eq_true rfl⟩ hK hP hD rfl rfl rfl rfl hl.1 rfl (Nat.le_of_ble_eq_true rfl) dX0_tellStation_64 ⟨Nat.le_of_ble_eq_true rfl, Nat.le_of_ble_eq_true rfl⟩) hP hS hA (fun H locs hP hS => ?_)
    exact zr_i hx hb hr hlk hS (Option.some.inj hf) dX0_tellStation_67
  have hf := if_f hf c10
  by_cases c13 : p2 = 4
  · have hf := if_t hf c13
    refine lv_tableIn (tgt := 68) (off := 67) hx hb dX0_tellStation_1 (by rw [c13]; decide) (by rw [c13]; decide) (by rw [c13]; rfl) (by decide) ?_
    refine lv_aload_n hx hb dX0_tellStation_68 rfl (lv_at hl 0 rfl) ?_
    refine lv_iload_n hx hb dX0_tellStation_69 rfl (lv_at hl 1 rfl) ?_
    obtain ⟨v15, hv14, hf⟩ := ob_some hf
    refine zc_i (z_VD (As := [.int p1]) (rest := []) (q0 := 0) (ci := 0) ⟨hx, hb, hml, hown, hts⟩ (m_X0_emptyPodsTo l D Z a S p1 v15 hv14) gX0_tellStation_X0_emptyPodsTo rfl rfl rfl hdv_X0_emptyPodsTo ⟨Nat.le_of_ble_eq_true rfl, Nat.le_of_ble_eq_true rfl⟩ hK hP hD rfl rfl rfl rfl hl.1 rfl (Nat.le_of_ble_eq_true rfl) dX0_tellStation_70 ⟨Nat.le_of_ble_eq_true rfl, Nat.le_of_ble_eq_true rfl⟩) hP hS hA (fun H locs hP hS => ?_)
    exact zr_i hx hb hr hlk hS (Option.some.inj hf) dX0_tellStation_73
  have hf := if_f hf c13
  by_cases c16 : p2 = 5
  · have hf := if_t hf c16
    refine lv_tableIn (tgt := 74) (off := 73) hx hb dX0_tellStation_1 (by rw [c16]; decide) (by rw [c16]; decide) (by rw [c16]; rfl) (by decide) ?_
    refine lv_aload_n hx hb dX0_tellStation_74 rfl (lv_at hl 0 rfl) ?_
    refine lv_iload_n hx hb dX0_tellStation_75 rfl (lv_at hl 1 rfl) ?_
    obtain ⟨v18, hv17, hf⟩ := ob_some hf
    refine zc_i (z_VD (As := [.int p1]) (rest := []) (q0 := 0) (ci := 0) ⟨hx, hb, hml, hown, hts⟩ (m_X0_waitedAt l D Z a S p1 v18 hv17) gX0_tellStation_X0_waitedAt rfl rfl rfl hdv_X0_waitedAt ⟨Nat.le_of_ble_eq_true rfl, Nat.le_of_ble_eq_true rfl⟩ hK hP hD rfl rfl rfl rfl hl.1 rfl (Nat.le_of_ble_eq_true rfl) dX0_tellStation_76 ⟨Nat.le_of_ble_eq_true rfl, Nat.le_of_ble_eq_true rfl⟩) hP hS hA (fun H locs hP hS => ?_)
    exact zr_i hx hb hr hlk hS (Option.some.inj hf) dX0_tellStation_79
  have hf := if_f hf c16
  refine lv_tableOut (tgt := 80) hx hb dX0_tellStation_1 (sw_out6 c1 c4 c7 c10 c13 c16) (by decide) ?_
  refine lv_aload_n hx hb dX0_tellStation_80 rfl (lv_at hl 0 rfl) ?_
  refine va_get (D := D) (ci := 0) (v := .ref (a 4)) (C := RX0) (T := TX0) (N := 17) hx hb hts hin hown hK hP 0 rfl rfl 9 (by decide) (hts (.fieldLink RX0 25 "PodGuideway$Ring" "stationArrived" "[I") (List.mem_of_getElem? (i := 1) rfl)) (fun _ h9 => h9) rfl dX0_tellStation_81 ?_
  refine lv_iload_n hx hb dX0_tellStation_84 rfl (lv_at hl 1 rfl) ?_
  obtain ⟨v20, hv19, hf⟩ := ob_some hf
  refine zc_i (z_SD (As := [.ref (a 4), .int p1]) (rest := []) ⟨hx, hb, hml, hown, hts⟩ (m_X0_read l D Z (a 4) 6 (S.2 3) p1 v20 hv19) gX0_tellStation_X0_read rfl rfl rfl hds_X0_read ⟨Nat.le_of_ble_eq_true rfl, Nat.le_of_ble_eq_true rfl⟩ hK (hP.sub (ws' := [((a 4), .inl (Z 0, 6, .inl (S.2 3)))]) [4] rfl) (hD.sub (ws' := [((a 4), .inl (Z 0, 6, .inl (S.2 3)))]) [4] (by decide) rfl) rfl hl.1 rfl (Nat.le_of_ble_eq_true rfl) dX0_tellStation_85 ⟨Nat.le_of_ble_eq_true rfl, Nat.le_of_ble_eq_true rfl⟩) hP hS hA (fun H locs hP hS => ?_)
  exact zr_i hx hb hr hlk hS (Option.some.inj hf) dX0_tellStation_88
def f_X0_tellRider  (S : RS) (p1 : Int32) (p2 : Int32) : Option (Int32) :=
  ob (f_X0_waitedBy S p1 p2) fun v2 =>
  ob (f_X0_read 54 (S.2 6) ((p1 * 9) + p2)) fun v4 =>
  some ((10 * v2) + v4)
abbrev rm_X0_tellRider : Room := { frames := 2, cells := 0, slots := 0, locals := 43 }
theorem hdv_X0_tellRider : yX0_tellRider.cls = RX0 ∧ yX0_tellRider.cls ≠ "java/lang/invoke/MethodHandle" ∧ yX0_tellRider.cls ≠ "java/lang/invoke/VarHandle" ∧ (parseMethodDescriptor yX0_tellRider.desc).map (fun d => d.parameters.length) = some 2 := by decide +kernel
set_option maxHeartbeats 4000000 in
set_option maxRecDepth 100000 in
theorem m_X0_tellRider (l : Launch) (D : va_G) (Z : Nat → ClassId) (a : Nat → Nat) (S : RS) (p1 : Int32) (p2 : Int32) (r : Int32) (hf : f_X0_tellRider S p1 p2 = some r) : ROi l yX0_tellRider wsX0_tellRider rm_X0_tellRider D Z [.ref (a 0), .int p1, .int p2] (rwl Z a S) r := by
  refine ROi.of (cc := cX0_tellRider) (nL := 3) (ret := (some .int)) (by decide +kernel) rfl (Nat.le_of_ble_eq_true rfl) ?_
  intro p e s m below meth c hC hA hP hK hD hS ls hl
  obtain ⟨hx, hb, hr, hml, hown, hts, hlk, -⟩ := hC
  have hown : s.vm.findClass RX0 = some m.cls := hown
  have hin : ∀ w ∈ wsX00, w ∈ wsX0_tellRider := fun w h => List.mem_cons_of_mem _ (List.mem_append_right _ h)
  have hl : lv_has ls 3 [(0, .ref (a 0)), (1, .int p1), (2, .int p2)] := hl
  unfold f_X0_tellRider at hf
  refine lv_bipush (v := 10) hx hb dX0_tellRider_0 (by decide) ?_
  refine lv_aload_n hx hb dX0_tellRider_2 rfl (lv_at hl 0 rfl) ?_
  refine lv_iload_n hx hb dX0_tellRider_3 rfl (lv_at hl 1 rfl) ?_
  refine lv_iload_n hx hb dX0_tellRider_4 rfl (lv_at hl 2 rfl) ?_
  obtain ⟨v2, hv1, hf⟩ := ob_some hf
  refine zc_i (z_VD (As := [.int p1, .int p2]) (rest := [.int 10]) (q0 := 0) (ci := 0) ⟨hx, hb, hml, hown, hts⟩ (m_X0_waitedBy l D Z a S p1 p2 v2 hv1) gX0_tellRider_X0_waitedBy rfl rfl rfl hdv_X0_waitedBy ⟨Nat.le_of_ble_eq_true rfl, Nat.le_of_ble_eq_true rfl⟩ hK hP hD rfl rfl rfl rfl hl.1 rfl (Nat.le_of_ble_eq_true rfl) dX0_tellRider_5 ⟨Nat.le_of_ble_eq_true rfl, Nat.le_of_ble_eq_true rfl⟩) hP hS hA (fun H locs hP hS => ?_)
  refine lv_imul hx hb dX0_tellRider_8 ?_
  refine lv_aload_n hx hb dX0_tellRider_9 rfl (lv_at hl 0 rfl) ?_
  refine va_get (D := D) (ci := 0) (v := .ref (a 7)) (C := RX0) (T := TX0) (N := 17) hx hb hts hin hown hK hP 0 rfl rfl 12 (by decide) (hts (.fieldLink RX0 34 "PodGuideway$Ring" "riderGoal" "[I") (List.mem_of_getElem? (i := 1) rfl)) (fun _ h9 => h9) rfl dX0_tellRider_10 ?_
  refine lv_iload_n hx hb dX0_tellRider_13 rfl (lv_at hl 1 rfl) ?_
  refine lv_bipush (v := 9) hx hb dX0_tellRider_14 (by decide) ?_
  refine lv_imul hx hb dX0_tellRider_16 ?_
  refine lv_iload_n hx hb dX0_tellRider_17 rfl (lv_at hl 2 rfl) ?_
  refine lv_iadd hx hb dX0_tellRider_18 ?_
  obtain ⟨v4, hv3, hf⟩ := ob_some hf
  refine zc_i (z_SD (As := [.ref (a 7), .int ((p1 * 9) + p2)]) (rest := [.int (10 * v2)]) ⟨hx, hb, hml, hown, hts⟩ (m_X0_read l D Z (a 7) 54 (S.2 6) ((p1 * 9) + p2) v4 hv3) gX0_tellRider_X0_read rfl rfl rfl hds_X0_read ⟨Nat.le_of_ble_eq_true rfl, Nat.le_of_ble_eq_true rfl⟩ hK (hP.sub (ws' := [((a 7), .inl (Z 0, 54, .inl (S.2 6)))]) [7] rfl) (hD.sub (ws' := [((a 7), .inl (Z 0, 54, .inl (S.2 6)))]) [7] (by decide) rfl) rfl hl.1 rfl (Nat.le_of_ble_eq_true rfl) dX0_tellRider_19 ⟨Nat.le_of_ble_eq_true rfl, Nat.le_of_ble_eq_true rfl⟩) hP hS hA (fun H locs hP hS => ?_)
  refine lv_iadd hx hb dX0_tellRider_22 ?_
  exact zr_i hx hb hr hlk hS (Option.some.inj hf) dX0_tellRider_23
def f_X0_tellCount  (S : RS) (p1 : Int32) : Option (Int32) :=
  if p1 = 0 then
    some (S.1 0)
  else if p1 = 1 then
    some (S.1 1)
  else if p1 = 2 then
    some (S.1 2)
  else if p1 = 3 then
    ob (f_X0_waitingInAll S) fun v6 =>
    some v6
  else if p1 = 4 then
    ob (f_X0_ridersInPods S) fun v9 =>
    some v9
  else if p1 = 5 then
    ob (f_X0_arrivedInAll S) fun v12 =>
    some v12
  else if p1 = 6 then
    ob (f_X0_freeSlots S) fun v15 =>
    some v15
  else if p1 = 7 then
    some (S.1 4)
  else 
    some (S.1 5)
abbrev rm_X0_tellCount : Room := { frames := 3, cells := 0, slots := 0, locals := 67 }
theorem hdv_X0_tellCount : yX0_tellCount.cls = RX0 ∧ yX0_tellCount.cls ≠ "java/lang/invoke/MethodHandle" ∧ yX0_tellCount.cls ≠ "java/lang/invoke/VarHandle" ∧ (parseMethodDescriptor yX0_tellCount.desc).map (fun d => d.parameters.length) = some 1 := by decide +kernel
set_option maxHeartbeats 4000000 in
set_option maxRecDepth 100000 in
theorem m_X0_tellCount (l : Launch) (D : va_G) (Z : Nat → ClassId) (a : Nat → Nat) (S : RS) (p1 : Int32) (r : Int32) (hf : f_X0_tellCount S p1 = some r) : ROi l yX0_tellCount wsX0_tellCount rm_X0_tellCount D Z [.ref (a 0), .int p1] (rwl Z a S) r := by
  refine ROi.of (cc := cX0_tellCount) (nL := 2) (ret := (some .int)) (by decide +kernel) rfl (Nat.le_of_ble_eq_true rfl) ?_
  intro p e s m below meth c hC hA hP hK hD hS ls hl
  obtain ⟨hx, hb, hr, hml, hown, hts, hlk, -⟩ := hC
  have hown : s.vm.findClass RX0 = some m.cls := hown
  have hin : ∀ w ∈ wsX00, w ∈ wsX0_tellCount := fun w h => List.mem_cons_of_mem _ (List.mem_append_right _ h)
  have hl : lv_has ls 2 [(0, .ref (a 0)), (1, .int p1)] := hl
  unfold f_X0_tellCount at hf
  refine lv_iload_n hx hb dX0_tellCount_0 rfl (lv_at hl 1 rfl) ?_
  by_cases c1 : p1 = 0
  · have hf := if_t hf c1
    refine lv_tableIn (tgt := 48) (off := 47) hx hb dX0_tellCount_1 (by rw [c1]; decide) (by rw [c1]; decide) (by rw [c1]; rfl) (by decide) ?_
    refine lv_aload_n hx hb dX0_tellCount_48 rfl (lv_at hl 0 rfl) ?_
    refine va_get (D := D) (ci := 0) (v := .int (S.1 0)) (C := RX0) (T := TX0) (N := 17) hx hb hts hin hown hK hP 0 rfl rfl 0 (by decide) (hts (.fieldLink RX0 49 "PodGuideway$Ring" "minute" "I") (List.mem_of_getElem? (i := 1) rfl)) (fun _ h9 => h9) rfl dX0_tellCount_49 ?_
    exact zr_i hx hb hr hlk hS (Option.some.inj hf) dX0_tellCount_52
  have hf := if_f hf c1
  by_cases c2 : p1 = 1
  · have hf := if_t hf c2
    refine lv_tableIn (tgt := 53) (off := 52) hx hb dX0_tellCount_1 (by rw [c2]; decide) (by rw [c2]; decide) (by rw [c2]; rfl) (by decide) ?_
    refine lv_aload_n hx hb dX0_tellCount_53 rfl (lv_at hl 0 rfl) ?_
    refine va_get (D := D) (ci := 0) (v := .int (S.1 1)) (C := RX0) (T := TX0) (N := 17) hx hb hts hin hown hK hP 0 rfl rfl 1 (by decide) (hts (.fieldLink RX0 53 "PodGuideway$Ring" "stations" "I") (List.mem_of_getElem? (i := 2) rfl)) (fun _ h9 => h9) rfl dX0_tellCount_54 ?_
    exact zr_i hx hb hr hlk hS (Option.some.inj hf) dX0_tellCount_57
  have hf := if_f hf c2
  by_cases c3 : p1 = 2
  · have hf := if_t hf c3
    refine lv_tableIn (tgt := 58) (off := 57) hx hb dX0_tellCount_1 (by rw [c3]; decide) (by rw [c3]; decide) (by rw [c3]; rfl) (by decide) ?_
    refine lv_aload_n hx hb dX0_tellCount_58 rfl (lv_at hl 0 rfl) ?_
    refine va_get (D := D) (ci := 0) (v := .int (S.1 2)) (C := RX0) (T := TX0) (N := 17) hx hb hts hin hown hK hP 0 rfl rfl 2 (by decide) (hts (.fieldLink RX0 56 "PodGuideway$Ring" "pods" "I") (List.mem_of_getElem? (i := 3) rfl)) (fun _ h9 => h9) rfl dX0_tellCount_59 ?_
    exact zr_i hx hb hr hlk hS (Option.some.inj hf) dX0_tellCount_62
  have hf := if_f hf c3
  by_cases c4 : p1 = 3
  · have hf := if_t hf c4
    refine lv_tableIn (tgt := 63) (off := 62) hx hb dX0_tellCount_1 (by rw [c4]; decide) (by rw [c4]; decide) (by rw [c4]; rfl) (by decide) ?_
    refine lv_aload_n hx hb dX0_tellCount_63 rfl (lv_at hl 0 rfl) ?_
    obtain ⟨v6, hv5, hf⟩ := ob_some hf
    refine zc_i (z_VD (As := []) (rest := []) (q0 := 0) (ci := 0) ⟨hx, hb, hml, hown, hts⟩ (m_X0_waitingInAll l D Z a S v6 hv5) gX0_tellCount_X0_waitingInAll rfl rfl rfl hdv_X0_waitingInAll ⟨Nat.le_of_ble_eq_true rfl, Nat.le_of_ble_eq_true rfl⟩ hK hP hD rfl rfl rfl rfl hl.1 rfl (Nat.le_of_ble_eq_true rfl) dX0_tellCount_64 ⟨Nat.le_of_ble_eq_true rfl, Nat.le_of_ble_eq_true rfl⟩) hP hS hA (fun H locs hP hS => ?_)
    exact zr_i hx hb hr hlk hS (Option.some.inj hf) dX0_tellCount_67
  have hf := if_f hf c4
  by_cases c7 : p1 = 4
  · have hf := if_t hf c7
    refine lv_tableIn (tgt := 68) (off := 67) hx hb dX0_tellCount_1 (by rw [c7]; decide) (by rw [c7]; decide) (by rw [c7]; rfl) (by decide) ?_
    refine lv_aload_n hx hb dX0_tellCount_68 rfl (lv_at hl 0 rfl) ?_
    obtain ⟨v9, hv8, hf⟩ := ob_some hf
    refine zc_i (z_VD (As := []) (rest := []) (q0 := 0) (ci := 0) ⟨hx, hb, hml, hown, hts⟩ (m_X0_ridersInPods l D Z a S v9 hv8) gX0_tellCount_X0_ridersInPods rfl rfl rfl hdv_X0_ridersInPods ⟨Nat.le_of_ble_eq_true rfl, Nat.le_of_ble_eq_true rfl⟩ hK hP hD rfl rfl rfl rfl hl.1 rfl (Nat.le_of_ble_eq_true rfl) dX0_tellCount_69 ⟨Nat.le_of_ble_eq_true rfl, Nat.le_of_ble_eq_true rfl⟩) hP hS hA (fun H locs hP hS => ?_)
    exact zr_i hx hb hr hlk hS (Option.some.inj hf) dX0_tellCount_72
  have hf := if_f hf c7
  by_cases c10 : p1 = 5
  · have hf := if_t hf c10
    refine lv_tableIn (tgt := 73) (off := 72) hx hb dX0_tellCount_1 (by rw [c10]; decide) (by rw [c10]; decide) (by rw [c10]; rfl) (by decide) ?_
    refine lv_aload_n hx hb dX0_tellCount_73 rfl (lv_at hl 0 rfl) ?_
    obtain ⟨v12, hv11, hf⟩ := ob_some hf
    refine zc_i (z_VD (As := []) (rest := []) (q0 := 0) (ci := 0) ⟨hx, hb, hml, hown, hts⟩ (m_X0_arrivedInAll l D Z a S v12 hv11) gX0_tellCount_X0_arrivedInAll rfl rfl rfl hdv_X0_arrivedInAll ⟨Nat.le_of_ble_eq_true rfl, Nat.le_of_ble_eq_true rfl⟩ hK hP hD rfl rfl rfl rfl hl.1 rfl (Nat.le_of_ble_eq_true rfl) dX0_tellCount_74 ⟨Nat.le_of_ble_eq_true rfl, Nat.le_of_ble_eq_true rfl⟩) hP hS hA (fun H locs hP hS => ?_)
    exact zr_i hx hb hr hlk hS (Option.some.inj hf) dX0_tellCount_77
  have hf := if_f hf c10
  by_cases c13 : p1 = 6
  · have hf := if_t hf c13
    refine lv_tableIn (tgt := 78) (off := 77) hx hb dX0_tellCount_1 (by rw [c13]; decide) (by rw [c13]; decide) (by rw [c13]; rfl) (by decide) ?_
    refine lv_aload_n hx hb dX0_tellCount_78 rfl (lv_at hl 0 rfl) ?_
    obtain ⟨v15, hv14, hf⟩ := ob_some hf
    refine zc_i (z_VD (As := []) (rest := []) (q0 := 0) (ci := 0) ⟨hx, hb, hml, hown, hts⟩ (m_X0_freeSlots l D Z a S v15 hv14) gX0_tellCount_X0_freeSlots rfl rfl rfl hdv_X0_freeSlots ⟨Nat.le_of_ble_eq_true rfl, Nat.le_of_ble_eq_true rfl⟩ hK hP hD rfl rfl rfl rfl hl.1 rfl (Nat.le_of_ble_eq_true rfl) dX0_tellCount_79 ⟨Nat.le_of_ble_eq_true rfl, Nat.le_of_ble_eq_true rfl⟩) hP hS hA (fun H locs hP hS => ?_)
    exact zr_i hx hb hr hlk hS (Option.some.inj hf) dX0_tellCount_82
  have hf := if_f hf c13
  by_cases c16 : p1 = 7
  · have hf := if_t hf c16
    refine lv_tableIn (tgt := 83) (off := 82) hx hb dX0_tellCount_1 (by rw [c16]; decide) (by rw [c16]; decide) (by rw [c16]; rfl) (by decide) ?_
    refine lv_aload_n hx hb dX0_tellCount_83 rfl (lv_at hl 0 rfl) ?_
    refine va_get (D := D) (ci := 0) (v := .int (S.1 4)) (C := RX0) (T := TX0) (N := 17) hx hb hts hin hown hK hP 0 rfl rfl 4 (by decide) (hts (.fieldLink RX0 62 "PodGuideway$Ring" "callsAnswered" "I") (List.mem_of_getElem? (i := 4) rfl)) (fun _ h9 => h9) rfl dX0_tellCount_84 ?_
    exact zr_i hx hb hr hlk hS (Option.some.inj hf) dX0_tellCount_87
  have hf := if_f hf c16
  refine lv_tableOut (tgt := 88) hx hb dX0_tellCount_1 (sw_out8 c1 c2 c3 c4 c7 c10 c13 c16) (by decide) ?_
  refine lv_aload_n hx hb dX0_tellCount_88 rfl (lv_at hl 0 rfl) ?_
  refine va_get (D := D) (ci := 0) (v := .int (S.1 5)) (C := RX0) (T := TX0) (N := 17) hx hb hts hin hown hK hP 0 rfl rfl 5 (by decide) (hts (.fieldLink RX0 65 "PodGuideway$Ring" "waitedBeforeBoarding" "I") (List.mem_of_getElem? (i := 5) rfl)) (fun _ h9 => h9) rfl dX0_tellCount_89 ?_
  exact zr_i hx hb hr hlk hS (Option.some.inj hf) dX0_tellCount_92
def f_X0_addStation  (S : RS) (p1 : Int32) : Option (Int32 × RS) :=
  ob (f_X0_write 6 (S.2 2) (S.1 1) p1) fun f2 =>
  lt (sR S 2 f2) fun (S3 : RS) =>
  lt (sI S3 1 ((S3.1 1) + 1)) fun (S4 : RS) =>
  some ((S.1 1), S4)
abbrev rm_X0_addStation : Room := { frames := 1, cells := 0, slots := 0, locals := 22 }
theorem hdv_X0_addStation : yX0_addStation.cls = RX0 ∧ yX0_addStation.cls ≠ "java/lang/invoke/MethodHandle" ∧ yX0_addStation.cls ≠ "java/lang/invoke/VarHandle" ∧ (parseMethodDescriptor yX0_addStation.desc).map (fun d => d.parameters.length) = some 1 := by decide +kernel
set_option maxHeartbeats 4000000 in
set_option maxRecDepth 100000 in
theorem m_X0_addStation (l : Launch) (D : va_G) (Z : Nat → ClassId) (a : Nat → Nat) (S : RS) (p1 : Int32) (S' : RS) (r : Int32) (hf : f_X0_addStation S p1 = some (r, S')) : RWi l yX0_addStation wsX0_addStation rm_X0_addStation D Z [.ref (a 0), .int p1] (rwl Z a S) (rwl Z a S') r 0 0 := by
  refine RWi.of (cc := cX0_addStation) (nL := 3) (ret := (some .int)) (by decide +kernel) rfl (Nat.le_of_ble_eq_true rfl) ?_
  intro p e s m below meth c A hC hA hP hK hD hS ls hl
  obtain ⟨hx, hb, hr, hml, hown, hts, hlk, -⟩ := hC
  have hown : s.vm.findClass RX0 = some m.cls := hown
  have hin : ∀ w ∈ wsX00, w ∈ wsX0_addStation := fun w h => List.mem_cons_of_mem _ (List.mem_append_right _ h)
  have hl : lv_has ls 3 [(0, .ref (a 0)), (1, .int p1)] := hl
  unfold f_X0_addStation at hf
  refine lv_aload_n hx hb dX0_addStation_0 rfl (lv_at hl 0 rfl) ?_
  refine va_get (D := D) (ci := 0) (v := .int (S.1 1)) (C := RX0) (T := TX0) (N := 17) hx hb hts hin hown hK hP 0 rfl rfl 1 (by decide) (hts (.fieldLink RX0 53 "PodGuideway$Ring" "stations" "I") (List.mem_of_getElem? (i := 1) rfl)) (fun _ h9 => h9) rfl dX0_addStation_1 ?_
  refine lv_istore_n (lv' := [(2, .int (S.1 1)), (0, .ref (a 0)), (1, .int p1)]) hx hb dX0_addStation_4 rfl hl (by decide) rfl (fun ls hl => ?_)
  refine lv_aload_n hx hb dX0_addStation_5 rfl (lv_at hl 1 rfl) ?_
  refine va_get (D := D) (ci := 0) (v := .ref (a 3)) (C := RX0) (T := TX0) (N := 17) hx hb hts hin hown hK hP 0 rfl rfl 8 (by decide) (hts (.fieldLink RX0 22 "PodGuideway$Ring" "stationPlace" "[I") (List.mem_of_getElem? (i := 2) rfl)) (fun _ h9 => h9) rfl dX0_addStation_6 ?_
  refine lv_iload_n hx hb dX0_addStation_9 rfl (lv_at hl 0 rfl) ?_
  refine lv_iload_n hx hb dX0_addStation_10 rfl (lv_at hl 2 rfl) ?_
  obtain ⟨f2, hv1, hf⟩ := ob_some hf
  refine zc_mv1 (k := 3) (e1 := .inl (Z 0, 6, .inl f2)) rfl (z_SD (As := [.ref (a 3), .int (S.1 1), .int p1]) (rest := []) ⟨hx, hb, hml, hown, hts⟩ (m_X0_write l D Z (a 3) 6 (S.2 2) (S.1 1) p1 f2 hv1) gX0_addStation_X0_write rfl rfl rfl hds_X0_write ⟨Nat.le_of_ble_eq_true rfl, Nat.le_of_ble_eq_true rfl⟩ hK (hP.sub (ws' := [((a 3), .inl (Z 0, 6, .inl (S.2 2)))]) [3] rfl) (hD.sub (ws' := [((a 3), .inl (Z 0, 6, .inl (S.2 2)))]) [3] (by decide) rfl) rfl hl.1 rfl (Nat.le_of_ble_eq_true rfl) dX0_addStation_11 ⟨Nat.le_of_ble_eq_true rfl, Nat.le_of_ble_eq_true rfl⟩) hP hD hS hA (fun H locs hP hD hS => ?_)
  obtain ⟨S3, eS3, hf⟩ := lt_ex hf
  have hP : va_P D vwCl (rwl Z a S3) H := by rw [eS3]; exact hP
  have hD : va_D A (rwl Z a S3) := by rw [eS3]; exact hD
  refine lv_aload_n hx hb dX0_addStation_14 rfl (lv_at hl 1 rfl) ?_
  refine lv_dup hx hb dX0_addStation_15 rfl ?_
  refine va_get (D := D) (ci := 0) (v := .int (S3.1 1)) (C := RX0) (T := TX0) (N := 17) hx hb hts hin hown hK hP 0 rfl rfl 1 (by decide) (hts (.fieldLink RX0 53 "PodGuideway$Ring" "stations" "I") (List.mem_of_getElem? (i := 1) rfl)) (fun _ h9 => h9) rfl dX0_addStation_16 ?_
  refine lv_iconst (v := 1) hx hb dX0_addStation_19 (by decide) ?_
  refine lv_iadd hx hb dX0_addStation_20 ?_
  refine va_put (D := D) (ci := 0) (v := .int ((S3.1 1) + 1)) (ty := .int) (C := RX0) (T := TX0) (N := 17) hx hb hts hin tyX0 tyX0_ok nmX0 hown hK hP hD hS 0 rfl rfl 1 (by decide) (hts (.fieldLink RX0 53 "PodGuideway$Ring" "stations" "I") (List.mem_of_getElem? (i := 1) rfl)) (fun _ h9 => h9) rfl (by decide +kernel) rfl rfl (Nat.le_of_ble_eq_true rfl) dX0_addStation_21 (fun H locs hP hD hS => ?_)
  obtain ⟨S4, eS4, hf⟩ := lt_ex hf
  have hP : va_P D vwCl (rwl Z a S4) H := by rw [eS4]; exact hP
  have hD : va_D A (rwl Z a S4) := by rw [eS4]; exact hD
  refine lv_iload_n hx hb dX0_addStation_24 rfl (lv_at hl 0 rfl) ?_
  exact zw_i hx hb hr hlk hP hD hS (congrArg (fun z => ((rwl Z a z) : va_W)) (pr2 hf)) (pr1 hf) (Nat.le_of_ble_eq_true rfl) (Nat.le_of_ble_eq_true rfl) dX0_addStation_25
def f_X0_addPod  (S : RS) (p1 : Int32) : Option (Int32 × RS) :=
  ob (f_X0_firstBerth S p1 0) fun v2 =>
  ob (f_X0_write 18 (S.2 1) v2 (S.1 2)) fun f4 =>
  lt (sR S 1 f4) fun (S5 : RS) =>
  lt (sI S5 2 ((S5.1 2) + 1)) fun (S6 : RS) =>
  some ((S.1 2), S6)
abbrev rm_X0_addPod : Room := { frames := 3, cells := 0, slots := 0, locals := 66 }
theorem hdv_X0_addPod : yX0_addPod.cls = RX0 ∧ yX0_addPod.cls ≠ "java/lang/invoke/MethodHandle" ∧ yX0_addPod.cls ≠ "java/lang/invoke/VarHandle" ∧ (parseMethodDescriptor yX0_addPod.desc).map (fun d => d.parameters.length) = some 1 := by decide +kernel
set_option maxHeartbeats 4000000 in
set_option maxRecDepth 100000 in
theorem m_X0_addPod (l : Launch) (D : va_G) (Z : Nat → ClassId) (a : Nat → Nat) (S : RS) (p1 : Int32) (S' : RS) (r : Int32) (hf : f_X0_addPod S p1 = some (r, S')) : RWi l yX0_addPod wsX0_addPod rm_X0_addPod D Z [.ref (a 0), .int p1] (rwl Z a S) (rwl Z a S') r 0 0 := by
  refine RWi.of (cc := cX0_addPod) (nL := 3) (ret := (some .int)) (by decide +kernel) rfl (Nat.le_of_ble_eq_true rfl) ?_
  intro p e s m below meth c A hC hA hP hK hD hS ls hl
  obtain ⟨hx, hb, hr, hml, hown, hts, hlk, -⟩ := hC
  have hown : s.vm.findClass RX0 = some m.cls := hown
  have hin : ∀ w ∈ wsX00, w ∈ wsX0_addPod := fun w h => List.mem_cons_of_mem _ (List.mem_append_right _ h)
  have hl : lv_has ls 3 [(0, .ref (a 0)), (1, .int p1)] := hl
  unfold f_X0_addPod at hf
  refine lv_aload_n hx hb dX0_addPod_0 rfl (lv_at hl 0 rfl) ?_
  refine va_get (D := D) (ci := 0) (v := .int (S.1 2)) (C := RX0) (T := TX0) (N := 17) hx hb hts hin hown hK hP 0 rfl rfl 2 (by decide) (hts (.fieldLink RX0 56 "PodGuideway$Ring" "pods" "I") (List.mem_of_getElem? (i := 1) rfl)) (fun _ h9 => h9) rfl dX0_addPod_1 ?_
  refine lv_istore_n (lv' := [(2, .int (S.1 2)), (0, .ref (a 0)), (1, .int p1)]) hx hb dX0_addPod_4 rfl hl (by decide) rfl (fun ls hl => ?_)
  refine lv_aload_n hx hb dX0_addPod_5 rfl (lv_at hl 1 rfl) ?_
  refine va_get (D := D) (ci := 0) (v := .ref (a 2)) (C := RX0) (T := TX0) (N := 17) hx hb hts hin hown hK hP 0 rfl rfl 7 (by decide) (hts (.fieldLink RX0 19 "PodGuideway$Ring" "podInBerth" "[I") (List.mem_of_getElem? (i := 2) rfl)) (fun _ h9 => h9) rfl dX0_addPod_6 ?_
  refine lv_aload_n hx hb dX0_addPod_9 rfl (lv_at hl 1 rfl) ?_
  refine lv_iload_n hx hb dX0_addPod_10 rfl (lv_at hl 2 rfl) ?_
  refine lv_iconst (v := 0) hx hb dX0_addPod_11 (by decide) ?_
  obtain ⟨v2, hv1, hf⟩ := ob_some hf
  refine zc_i (z_VD (As := [.int p1, .int 0]) (rest := [.ref (a 2)]) (q0 := 0) (ci := 0) ⟨hx, hb, hml, hown, hts⟩ (m_X0_firstBerth l D Z a S p1 0 v2 hv1) gX0_addPod_X0_firstBerth rfl rfl rfl hdv_X0_firstBerth ⟨Nat.le_of_ble_eq_true rfl, Nat.le_of_ble_eq_true rfl⟩ hK hP hD rfl rfl rfl rfl hl.1 rfl (Nat.le_of_ble_eq_true rfl) dX0_addPod_12 ⟨Nat.le_of_ble_eq_true rfl, Nat.le_of_ble_eq_true rfl⟩) hP hS hA (fun H locs hP hS => ?_)
  refine lv_iload_n hx hb dX0_addPod_15 rfl (lv_at hl 0 rfl) ?_
  obtain ⟨f4, hv3, hf⟩ := ob_some hf
  refine zc_mv1 (k := 2) (e1 := .inl (Z 0, 18, .inl f4)) rfl (z_SD (As := [.ref (a 2), .int v2, .int (S.1 2)]) (rest := []) ⟨hx, hb, hml, hown, hts⟩ (m_X0_write l D Z (a 2) 18 (S.2 1) v2 (S.1 2) f4 hv3) gX0_addPod_X0_write rfl rfl rfl hds_X0_write ⟨Nat.le_of_ble_eq_true rfl, Nat.le_of_ble_eq_true rfl⟩ hK (hP.sub (ws' := [((a 2), .inl (Z 0, 18, .inl (S.2 1)))]) [2] rfl) (hD.sub (ws' := [((a 2), .inl (Z 0, 18, .inl (S.2 1)))]) [2] (by decide) rfl) rfl hl.1 rfl (Nat.le_of_ble_eq_true rfl) dX0_addPod_16 ⟨Nat.le_of_ble_eq_true rfl, Nat.le_of_ble_eq_true rfl⟩) hP hD hS hA (fun H locs hP hD hS => ?_)
  obtain ⟨S5, eS5, hf⟩ := lt_ex hf
  have hP : va_P D vwCl (rwl Z a S5) H := by rw [eS5]; exact hP
  have hD : va_D A (rwl Z a S5) := by rw [eS5]; exact hD
  refine lv_aload_n hx hb dX0_addPod_19 rfl (lv_at hl 1 rfl) ?_
  refine lv_dup hx hb dX0_addPod_20 rfl ?_
  refine va_get (D := D) (ci := 0) (v := .int (S5.1 2)) (C := RX0) (T := TX0) (N := 17) hx hb hts hin hown hK hP 0 rfl rfl 2 (by decide) (hts (.fieldLink RX0 56 "PodGuideway$Ring" "pods" "I") (List.mem_of_getElem? (i := 1) rfl)) (fun _ h9 => h9) rfl dX0_addPod_21 ?_
  refine lv_iconst (v := 1) hx hb dX0_addPod_24 (by decide) ?_
  refine lv_iadd hx hb dX0_addPod_25 ?_
  refine va_put (D := D) (ci := 0) (v := .int ((S5.1 2) + 1)) (ty := .int) (C := RX0) (T := TX0) (N := 17) hx hb hts hin tyX0 tyX0_ok nmX0 hown hK hP hD hS 0 rfl rfl 2 (by decide) (hts (.fieldLink RX0 56 "PodGuideway$Ring" "pods" "I") (List.mem_of_getElem? (i := 1) rfl)) (fun _ h9 => h9) rfl (by decide +kernel) rfl rfl (Nat.le_of_ble_eq_true rfl) dX0_addPod_26 (fun H locs hP hD hS => ?_)
  obtain ⟨S6, eS6, hf⟩ := lt_ex hf
  have hP : va_P D vwCl (rwl Z a S6) H := by rw [eS6]; exact hP
  have hD : va_D A (rwl Z a S6) := by rw [eS6]; exact hD
  refine lv_iload_n hx hb dX0_addPod_29 rfl (lv_at hl 0 rfl) ?_
  exact zw_i hx hb hr hlk hP hD hS (congrArg (fun z => ((rwl Z a z) : va_W)) (pr2 hf)) (pr1 hf) (Nat.le_of_ble_eq_true rfl) (Nat.le_of_ble_eq_true rfl) dX0_addPod_30
def f_X0_addRider  (S : RS) (p1 : Int32) (p2 : Int32) : Option (Int32 × RS) :=
  ob (f_X0_waitingAt S p1) fun v2 =>
  ob (f_X0_write 54 (S.2 5) ((p1 * 9) + v2) (S.1 3)) fun f4 =>
  lt (sR S 5 f4) fun (S5 : RS) =>
  ob (f_X0_write 54 (S5.2 6) ((p1 * 9) + v2) p2) fun f7 =>
  lt (sR S5 6 f7) fun (S8 : RS) =>
  ob (f_X0_write 54 (S8.2 7) ((p1 * 9) + v2) (S8.1 0)) fun f10 =>
  lt (sR S8 7 f10) fun (S11 : RS) =>
  ob (f_X0_waitingAt S11 p1) fun v13 =>
  ob (f_X0_write 6 (S11.2 4) p1 (v13 + 1)) fun f15 =>
  lt (sR S11 4 f15) fun (S16 : RS) =>
  lt (sI S16 3 ((S16.1 3) + 1)) fun (S17 : RS) =>
  some ((S.1 3), S17)
abbrev rm_X0_addRider : Room := { frames := 2, cells := 0, slots := 0, locals := 45 }
theorem hdv_X0_addRider : yX0_addRider.cls = RX0 ∧ yX0_addRider.cls ≠ "java/lang/invoke/MethodHandle" ∧ yX0_addRider.cls ≠ "java/lang/invoke/VarHandle" ∧ (parseMethodDescriptor yX0_addRider.desc).map (fun d => d.parameters.length) = some 2 := by decide +kernel
set_option maxHeartbeats 4000000 in
set_option maxRecDepth 100000 in
theorem m_X0_addRider (l : Launch) (D : va_G) (Z : Nat → ClassId) (a : Nat → Nat) (S : RS) (p1 : Int32) (p2 : Int32) (S' : RS) (r : Int32) (hf : f_X0_addRider S p1 p2 = some (r, S')) : RWi l yX0_addRider wsX0_addRider rm_X0_addRider D Z [.ref (a 0), .int p1, .int p2] (rwl Z a S) (rwl Z a S') r 0 0 := by
  refine RWi.of (cc := cX0_addRider) (nL := 5) (ret := (some .int)) (by decide +kernel) rfl (Nat.le_of_ble_eq_true rfl) ?_
  intro p e s m below meth c A hC hA hP hK hD hS ls hl
  obtain ⟨hx, hb, hr, hml, hown, hts, hlk, -⟩ := hC
  have hown : s.vm.findClass RX0 = some m.cls := hown
  have hin : ∀ w ∈ wsX00, w ∈ wsX0_addRider := fun w h => List.mem_cons_of_mem _ (List.mem_append_right _ h)
  have hl : lv_has ls 5 [(0, .ref (a 0)), (1, .int p1), (2, .int p2)] := hl
  unfold f_X0_addRider at hf
  refine lv_aload_n hx hb dX0_addRider_0 rfl (lv_at hl 0 rfl) ?_
  refine va_get (D := D) (ci := 0) (v := .int (S.1 3)) (C := RX0) (T := TX0) (N := 17) hx hb hts hin hown hK hP 0 rfl rfl 3 (by decide) (hts (.fieldLink RX0 59 "PodGuideway$Ring" "ridersInAll" "I") (List.mem_of_getElem? (i := 1) rfl)) (fun _ h9 => h9) rfl dX0_addRider_1 ?_
  refine lv_istore_n (lv' := [(3, .int (S.1 3)), (0, .ref (a 0)), (1, .int p1), (2, .int p2)]) hx hb dX0_addRider_4 rfl hl (by decide) rfl (fun ls hl => ?_)
  refine lv_iload_n hx hb dX0_addRider_5 rfl (lv_at hl 2 rfl) ?_
  refine lv_bipush (v := 9) hx hb dX0_addRider_6 (by decide) ?_
  refine lv_imul hx hb dX0_addRider_8 ?_
  refine lv_aload_n hx hb dX0_addRider_9 rfl (lv_at hl 1 rfl) ?_
  refine lv_iload_n hx hb dX0_addRider_10 rfl (lv_at hl 2 rfl) ?_
  obtain ⟨v2, hv1, hf⟩ := ob_some hf
  refine zc_i (z_VD (As := [.int p1]) (rest := [.int (p1 * 9)]) (q0 := 0) (ci := 0) ⟨hx, hb, hml, hown, hts⟩ (m_X0_waitingAt l D Z a S p1 v2 hv1) gX0_addRider_X0_waitingAt rfl rfl rfl hdv_X0_waitingAt ⟨Nat.le_of_ble_eq_true rfl, Nat.le_of_ble_eq_true rfl⟩ hK hP hD rfl rfl rfl rfl hl.1 rfl (Nat.le_of_ble_eq_true rfl) dX0_addRider_11 ⟨Nat.le_of_ble_eq_true rfl, Nat.le_of_ble_eq_true rfl⟩) hP hS hA (fun H locs hP hS => ?_)
  refine lv_iadd hx hb dX0_addRider_14 ?_
  refine lv_istore (lv' := [(4, .int ((p1 * 9) + v2)), (3, .int (S.1 3)), (0, .ref (a 0)), (1, .int p1), (2, .int p2)]) hx hb dX0_addRider_15 hl (by decide) rfl (fun ls hl => ?_)
  refine lv_aload_n hx hb dX0_addRider_17 rfl (lv_at hl 2 rfl) ?_
  refine va_get (D := D) (ci := 0) (v := .ref (a 6)) (C := RX0) (T := TX0) (N := 17) hx hb hts hin hown hK hP 0 rfl rfl 11 (by decide) (hts (.fieldLink RX0 31 "PodGuideway$Ring" "riderNumber" "[I") (List.mem_of_getElem? (i := 2) rfl)) (fun _ h9 => h9) rfl dX0_addRider_18 ?_
  refine lv_iload hx hb dX0_addRider_21 (lv_at hl 0 rfl) ?_
  refine lv_iload_n hx hb dX0_addRider_23 rfl (lv_at hl 1 rfl) ?_
  obtain ⟨f4, hv3, hf⟩ := ob_some hf
  refine zc_mv1 (k := 6) (e1 := .inl (Z 0, 54, .inl f4)) rfl (z_SD (As := [.ref (a 6), .int ((p1 * 9) + v2), .int (S.1 3)]) (rest := []) ⟨hx, hb, hml, hown, hts⟩ (m_X0_write l D Z (a 6) 54 (S.2 5) ((p1 * 9) + v2) (S.1 3) f4 hv3) gX0_addRider_X0_write rfl rfl rfl hds_X0_write ⟨Nat.le_of_ble_eq_true rfl, Nat.le_of_ble_eq_true rfl⟩ hK (hP.sub (ws' := [((a 6), .inl (Z 0, 54, .inl (S.2 5)))]) [6] rfl) (hD.sub (ws' := [((a 6), .inl (Z 0, 54, .inl (S.2 5)))]) [6] (by decide) rfl) rfl hl.1 rfl (Nat.le_of_ble_eq_true rfl) dX0_addRider_24 ⟨Nat.le_of_ble_eq_true rfl, Nat.le_of_ble_eq_true rfl⟩) hP hD hS hA (fun H locs hP hD hS => ?_)
  obtain ⟨S5, eS5, hf⟩ := lt_ex hf
  have hP : va_P D vwCl (rwl Z a S5) H := by rw [eS5]; exact hP
  have hD : va_D A (rwl Z a S5) := by rw [eS5]; exact hD
  refine lv_aload_n hx hb dX0_addRider_27 rfl (lv_at hl 2 rfl) ?_
  refine va_get (D := D) (ci := 0) (v := .ref (a 7)) (C := RX0) (T := TX0) (N := 17) hx hb hts hin hown hK hP 0 rfl rfl 12 (by decide) (hts (.fieldLink RX0 34 "PodGuideway$Ring" "riderGoal" "[I") (List.mem_of_getElem? (i := 3) rfl)) (fun _ h9 => h9) rfl dX0_addRider_28 ?_
  refine lv_iload hx hb dX0_addRider_31 (lv_at hl 0 rfl) ?_
  refine lv_iload_n hx hb dX0_addRider_33 rfl (lv_at hl 4 rfl) ?_
  obtain ⟨f7, hv6, hf⟩ := ob_some hf
  refine zc_mv1 (k := 7) (e1 := .inl (Z 0, 54, .inl f7)) rfl (z_SD (As := [.ref (a 7), .int ((p1 * 9) + v2), .int p2]) (rest := []) ⟨hx, hb, hml, hown, hts⟩ (m_X0_write l D Z (a 7) 54 (S5.2 6) ((p1 * 9) + v2) p2 f7 hv6) gX0_addRider_X0_write rfl rfl rfl hds_X0_write ⟨Nat.le_of_ble_eq_true rfl, Nat.le_of_ble_eq_true rfl⟩ hK (hP.sub (ws' := [((a 7), .inl (Z 0, 54, .inl (S5.2 6)))]) [7] rfl) (hD.sub (ws' := [((a 7), .inl (Z 0, 54, .inl (S5.2 6)))]) [7] (by decide) rfl) rfl hl.1 rfl (Nat.le_of_ble_eq_true rfl) dX0_addRider_34 ⟨Nat.le_of_ble_eq_true rfl, Nat.le_of_ble_eq_true rfl⟩) hP hD hS hA (fun H locs hP hD hS => ?_)
  obtain ⟨S8, eS8, hf⟩ := lt_ex hf
  have hP : va_P D vwCl (rwl Z a S8) H := by rw [eS8]; exact hP
  have hD : va_D A (rwl Z a S8) := by rw [eS8]; exact hD
  refine lv_aload_n hx hb dX0_addRider_37 rfl (lv_at hl 2 rfl) ?_
  refine va_get (D := D) (ci := 0) (v := .ref (a 8)) (C := RX0) (T := TX0) (N := 17) hx hb hts hin hown hK hP 0 rfl rfl 13 (by decide) (hts (.fieldLink RX0 37 "PodGuideway$Ring" "riderCame" "[I") (List.mem_of_getElem? (i := 4) rfl)) (fun _ h9 => h9) rfl dX0_addRider_38 ?_
  refine lv_iload hx hb dX0_addRider_41 (lv_at hl 0 rfl) ?_
  refine lv_aload_n hx hb dX0_addRider_43 rfl (lv_at hl 2 rfl) ?_
  refine va_get (D := D) (ci := 0) (v := .int (S8.1 0)) (C := RX0) (T := TX0) (N := 17) hx hb hts hin hown hK hP 0 rfl rfl 0 (by decide) (hts (.fieldLink RX0 49 "PodGuideway$Ring" "minute" "I") (List.mem_of_getElem? (i := 5) rfl)) (fun _ h9 => h9) rfl dX0_addRider_44 ?_
  obtain ⟨f10, hv9, hf⟩ := ob_some hf
  refine zc_mv1 (k := 8) (e1 := .inl (Z 0, 54, .inl f10)) rfl (z_SD (As := [.ref (a 8), .int ((p1 * 9) + v2), .int (S8.1 0)]) (rest := []) ⟨hx, hb, hml, hown, hts⟩ (m_X0_write l D Z (a 8) 54 (S8.2 7) ((p1 * 9) + v2) (S8.1 0) f10 hv9) gX0_addRider_X0_write rfl rfl rfl hds_X0_write ⟨Nat.le_of_ble_eq_true rfl, Nat.le_of_ble_eq_true rfl⟩ hK (hP.sub (ws' := [((a 8), .inl (Z 0, 54, .inl (S8.2 7)))]) [8] rfl) (hD.sub (ws' := [((a 8), .inl (Z 0, 54, .inl (S8.2 7)))]) [8] (by decide) rfl) rfl hl.1 rfl (Nat.le_of_ble_eq_true rfl) dX0_addRider_47 ⟨Nat.le_of_ble_eq_true rfl, Nat.le_of_ble_eq_true rfl⟩) hP hD hS hA (fun H locs hP hD hS => ?_)
  obtain ⟨S11, eS11, hf⟩ := lt_ex hf
  have hP : va_P D vwCl (rwl Z a S11) H := by rw [eS11]; exact hP
  have hD : va_D A (rwl Z a S11) := by rw [eS11]; exact hD
  refine lv_aload_n hx hb dX0_addRider_50 rfl (lv_at hl 2 rfl) ?_
  refine va_get (D := D) (ci := 0) (v := .ref (a 5)) (C := RX0) (T := TX0) (N := 17) hx hb hts hin hown hK hP 0 rfl rfl 10 (by decide) (hts (.fieldLink RX0 28 "PodGuideway$Ring" "stationWaiting" "[I") (List.mem_of_getElem? (i := 6) rfl)) (fun _ h9 => h9) rfl dX0_addRider_51 ?_
  refine lv_iload_n hx hb dX0_addRider_54 rfl (lv_at hl 3 rfl) ?_
  refine lv_aload_n hx hb dX0_addRider_55 rfl (lv_at hl 2 rfl) ?_
  refine lv_iload_n hx hb dX0_addRider_56 rfl (lv_at hl 3 rfl) ?_
  obtain ⟨v13, hv12, hf⟩ := ob_some hf
  refine zc_i (z_VD (As := [.int p1]) (rest := [.int p1, .ref (a 5)]) (q0 := 0) (ci := 0) ⟨hx, hb, hml, hown, hts⟩ (m_X0_waitingAt l D Z a S11 p1 v13 hv12) gX0_addRider_X0_waitingAt rfl rfl rfl hdv_X0_waitingAt ⟨Nat.le_of_ble_eq_true rfl, Nat.le_of_ble_eq_true rfl⟩ hK hP hD rfl rfl rfl rfl hl.1 rfl (Nat.le_of_ble_eq_true rfl) dX0_addRider_57 ⟨Nat.le_of_ble_eq_true rfl, Nat.le_of_ble_eq_true rfl⟩) hP hS hA (fun H locs hP hS => ?_)
  refine lv_iconst (v := 1) hx hb dX0_addRider_60 (by decide) ?_
  refine lv_iadd hx hb dX0_addRider_61 ?_
  obtain ⟨f15, hv14, hf⟩ := ob_some hf
  refine zc_mv1 (k := 5) (e1 := .inl (Z 0, 6, .inl f15)) rfl (z_SD (As := [.ref (a 5), .int p1, .int (v13 + 1)]) (rest := []) ⟨hx, hb, hml, hown, hts⟩ (m_X0_write l D Z (a 5) 6 (S11.2 4) p1 (v13 + 1) f15 hv14) gX0_addRider_X0_write rfl rfl rfl hds_X0_write ⟨Nat.le_of_ble_eq_true rfl, Nat.le_of_ble_eq_true rfl⟩ hK (hP.sub (ws' := [((a 5), .inl (Z 0, 6, .inl (S11.2 4)))]) [5] rfl) (hD.sub (ws' := [((a 5), .inl (Z 0, 6, .inl (S11.2 4)))]) [5] (by decide) rfl) rfl hl.1 rfl (Nat.le_of_ble_eq_true rfl) dX0_addRider_62 ⟨Nat.le_of_ble_eq_true rfl, Nat.le_of_ble_eq_true rfl⟩) hP hD hS hA (fun H locs hP hD hS => ?_)
  obtain ⟨S16, eS16, hf⟩ := lt_ex hf
  have hP : va_P D vwCl (rwl Z a S16) H := by rw [eS16]; exact hP
  have hD : va_D A (rwl Z a S16) := by rw [eS16]; exact hD
  refine lv_aload_n hx hb dX0_addRider_65 rfl (lv_at hl 2 rfl) ?_
  refine lv_dup hx hb dX0_addRider_66 rfl ?_
  refine va_get (D := D) (ci := 0) (v := .int (S16.1 3)) (C := RX0) (T := TX0) (N := 17) hx hb hts hin hown hK hP 0 rfl rfl 3 (by decide) (hts (.fieldLink RX0 59 "PodGuideway$Ring" "ridersInAll" "I") (List.mem_of_getElem? (i := 1) rfl)) (fun _ h9 => h9) rfl dX0_addRider_67 ?_
  refine lv_iconst (v := 1) hx hb dX0_addRider_70 (by decide) ?_
  refine lv_iadd hx hb dX0_addRider_71 ?_
  refine va_put (D := D) (ci := 0) (v := .int ((S16.1 3) + 1)) (ty := .int) (C := RX0) (T := TX0) (N := 17) hx hb hts hin tyX0 tyX0_ok nmX0 hown hK hP hD hS 0 rfl rfl 3 (by decide) (hts (.fieldLink RX0 59 "PodGuideway$Ring" "ridersInAll" "I") (List.mem_of_getElem? (i := 1) rfl)) (fun _ h9 => h9) rfl (by decide +kernel) rfl rfl (Nat.le_of_ble_eq_true rfl) dX0_addRider_72 (fun H locs hP hD hS => ?_)
  obtain ⟨S17, eS17, hf⟩ := lt_ex hf
  have hP : va_P D vwCl (rwl Z a S17) H := by rw [eS17]; exact hP
  have hD : va_D A (rwl Z a S17) := by rw [eS17]; exact hD
  refine lv_iload_n hx hb dX0_addRider_75 rfl (lv_at hl 1 rfl) ?_
  exact zw_i hx hb hr hlk hP hD hS (congrArg (fun z => ((rwl Z a z) : va_W)) (pr2 hf)) (pr1 hf) (Nat.le_of_ble_eq_true rfl) (Nat.le_of_ble_eq_true rfl) dX0_addRider_76
def f_X0_moveSlots  (S : RS)  : Option (RS) :=
  if 1 ≤ ((24 : Int32) - 1) then
    ob (f_X0_read 24 (S.2 0) ((24 : Int32) - 1)) fun v3 =>
    if cpbad 0 1 ((24 : Int32) - 1) 24 24 then none else
    lt (sR S 0 (va_cpy (S.2 0) (S.2 0) (0 : Int32).toNatClampNeg (1 : Int32).toNatClampNeg ((24 : Int32) - 1).toNatClampNeg)) fun (S4 : RS) =>
    ob (f_X0_write 24 (S4.2 0) 0 v3) fun f6 =>
    lt (sR S4 0 f6) fun (S7 : RS) =>
    some S7
  else
    some S
abbrev rm_X0_moveSlots : Room := { frames := 1, cells := 0, slots := 0, locals := 80 }
theorem hdv_X0_moveSlots : yX0_moveSlots.cls = RX0 ∧ yX0_moveSlots.cls ≠ "java/lang/invoke/MethodHandle" ∧ yX0_moveSlots.cls ≠ "java/lang/invoke/VarHandle" ∧ (parseMethodDescriptor yX0_moveSlots.desc).map (fun d => d.parameters.length) = some 0 := by decide +kernel
set_option maxHeartbeats 4000000 in
set_option maxRecDepth 100000 in
theorem m_X0_moveSlots (l : Launch) (D : va_G) (Z : Nat → ClassId) (a : Nat → Nat) (S : RS)  (S' : RS) (hf : f_X0_moveSlots S = some S') : RWv l yX0_moveSlots wsX0_moveSlots rm_X0_moveSlots D Z [.ref (a 0)] (rwl Z a S) (rwl Z a S') 0 0 := by
  refine RWv.of (cc := cX0_moveSlots) (nL := 3) (ret := none) (by decide +kernel) rfl (Nat.le_of_ble_eq_true rfl) ?_
  intro p e s m below meth c A hC hA hP hK hD hS ls hl
  obtain ⟨hx, hb, hr, hml, hown, hts, hlk, -⟩ := hC
  have hown : s.vm.findClass RX0 = some m.cls := hown
  have hin : ∀ w ∈ wsX00, w ∈ wsX0_moveSlots := fun w h => List.mem_cons_of_mem _ (List.mem_append_right _ h)
  have hl : lv_has ls 3 [(0, .ref (a 0))] := hl
  unfold f_X0_moveSlots at hf
  refine lv_aload_n hx hb dX0_moveSlots_0 rfl (lv_at hl 0 rfl) ?_
  refine va_get (D := D) (ci := 0) (v := .ref (a 1)) (C := RX0) (T := TX0) (N := 17) hx hb hts hin hown hK hP 0 rfl rfl 6 (by decide) (hts (.fieldLink RX0 15 "PodGuideway$Ring" "podInSlot" "[I") (List.mem_of_getElem? (i := 1) rfl)) (fun _ h9 => h9) rfl dX0_moveSlots_1 ?_
  refine va_alen (v := (24 : Int32)) hx hb hK hP 1 0 rfl rfl rfl dX0_moveSlots_4 ?_
  refine lv_iconst (v := 1) hx hb dX0_moveSlots_5 (by decide) ?_
  refine lv_isub hx hb dX0_moveSlots_6 ?_
  refine lv_istore_n (lv' := [(1, .int ((24 : Int32) - 1)), (0, .ref (a 0))]) hx hb dX0_moveSlots_7 rfl hl (by decide) rfl (fun ls hl => ?_)
  refine lv_iload_n hx hb dX0_moveSlots_8 rfl (lv_at hl 0 rfl) ?_
  refine lv_iconst (v := 1) hx hb dX0_moveSlots_9 (by decide) ?_
  refine lv_icmp_ge (tgt := 14) hx hb dX0_moveSlots_10 (by decide) (fun c1 => ?_) (fun c1 => ?_)
  · have hf := if_t hf c1
    refine lv_aload_n hx hb dX0_moveSlots_14 rfl (lv_at hl 1 rfl) ?_
    refine va_get (D := D) (ci := 0) (v := .ref (a 1)) (C := RX0) (T := TX0) (N := 17) hx hb hts hin hown hK hP 0 rfl rfl 6 (by decide) (hts (.fieldLink RX0 15 "PodGuideway$Ring" "podInSlot" "[I") (List.mem_of_getElem? (i := 1) rfl)) (fun _ h9 => h9) rfl dX0_moveSlots_15 ?_
    refine lv_iload_n hx hb dX0_moveSlots_18 rfl (lv_at hl 0 rfl) ?_
    obtain ⟨v3, hv2, hf⟩ := ob_some hf
    refine zc_i (z_SD (As := [.ref (a 1), .int ((24 : Int32) - 1)]) (rest := []) ⟨hx, hb, hml, hown, hts⟩ (m_X0_read l D Z (a 1) 24 (S.2 0) ((24 : Int32) - 1) v3 hv2) gX0_moveSlots_X0_read rfl rfl rfl hds_X0_read ⟨Nat.le_of_ble_eq_true rfl, Nat.le_of_ble_eq_true rfl⟩ hK (hP.sub (ws' := [((a 1), .inl (Z 0, 24, .inl (S.2 0)))]) [1] rfl) (hD.sub (ws' := [((a 1), .inl (Z 0, 24, .inl (S.2 0)))]) [1] (by decide) rfl) rfl hl.1 rfl (Nat.le_of_ble_eq_true rfl) dX0_moveSlots_19 ⟨Nat.le_of_ble_eq_true rfl, Nat.le_of_ble_eq_true rfl⟩) hP hS hA (fun H locs hP hS => ?_)
    refine lv_istore_n (lv' := [(2, .int v3), (1, .int ((24 : Int32) - 1)), (0, .ref (a 0))]) hx hb dX0_moveSlots_22 rfl hl (by decide) rfl (fun ls hl => ?_)
    refine lv_aload_n hx hb dX0_moveSlots_23 rfl (lv_at hl 2 rfl) ?_
    refine va_get (D := D) (ci := 0) (v := .ref (a 1)) (C := RX0) (T := TX0) (N := 17) hx hb hts hin hown hK hP 0 rfl rfl 6 (by decide) (hts (.fieldLink RX0 15 "PodGuideway$Ring" "podInSlot" "[I") (List.mem_of_getElem? (i := 1) rfl)) (fun _ h9 => h9) rfl dX0_moveSlots_24 ?_
    refine lv_iconst (v := 0) hx hb dX0_moveSlots_27 (by decide) ?_
    refine lv_aload_n hx hb dX0_moveSlots_28 rfl (lv_at hl 2 rfl) ?_
    refine va_get (D := D) (ci := 0) (v := .ref (a 1)) (C := RX0) (T := TX0) (N := 17) hx hb hts hin hown hK hP 0 rfl rfl 6 (by decide) (hts (.fieldLink RX0 15 "PodGuideway$Ring" "podInSlot" "[I") (List.mem_of_getElem? (i := 1) rfl)) (fun _ h9 => h9) rfl dX0_moveSlots_29 ?_
    refine lv_iconst (v := 1) hx hb dX0_moveSlots_32 (by decide) ?_
    refine lv_iload_n hx hb dX0_moveSlots_33 rfl (lv_at hl 1 rfl) ?_
    obtain ⟨hcp, hf⟩ := if_g hf
    refine va_copyi (sp := 0) (dp := 1) (n := ((24 : Int32) - 1)) hx hb (hml.trans hl.1.symm) hown (hts (.methodLink RX0 104 arraycopyName) (List.mem_of_getElem? (i := 2) rfl)) (hts (.native arraycopyName) (List.mem_of_getElem? (i := 3) rfl)) (hts (.static arraycopyName) (List.mem_of_getElem? (i := 4) rfl)) (hts (.initialized "java/lang/System") (List.mem_of_getElem? (i := 5) rfl)) hK hP hD hS 1 1 0 0 rfl rfl rfl rfl rfl (cp_1 hcp) (cp_2 hcp) (cp_3 hcp) (cp_4 hcp) (cp_5 hcp) (fun _ _ => rfl) (Nat.le_of_ble_eq_true rfl) (by decide) dX0_moveSlots_34 (fun H locs hP hD hS => ?_)
    obtain ⟨S4, eS4, hf⟩ := lt_ex hf
    have hP : va_P D vwCl (rwl Z a S4) H := by rw [eS4]; exact hP
    have hD : va_D A (rwl Z a S4) := by rw [eS4]; exact hD
    refine lv_aload_n hx hb dX0_moveSlots_37 rfl (lv_at hl 2 rfl) ?_
    refine va_get (D := D) (ci := 0) (v := .ref (a 1)) (C := RX0) (T := TX0) (N := 17) hx hb hts hin hown hK hP 0 rfl rfl 6 (by decide) (hts (.fieldLink RX0 15 "PodGuideway$Ring" "podInSlot" "[I") (List.mem_of_getElem? (i := 1) rfl)) (fun _ h9 => h9) rfl dX0_moveSlots_38 ?_
    refine lv_iconst (v := 0) hx hb dX0_moveSlots_41 (by decide) ?_
    refine lv_iload_n hx hb dX0_moveSlots_42 rfl (lv_at hl 0 rfl) ?_
    obtain ⟨f6, hv5, hf⟩ := ob_some hf
    refine zc_mv1 (k := 1) (e1 := .inl (Z 0, 24, .inl f6)) rfl (z_SD (As := [.ref (a 1), .int 0, .int v3]) (rest := []) ⟨hx, hb, hml, hown, hts⟩ (m_X0_write l D Z (a 1) 24 (S4.2 0) 0 v3 f6 hv5) gX0_moveSlots_X0_write rfl rfl rfl hds_X0_write ⟨Nat.le_of_ble_eq_true rfl, Nat.le_of_ble_eq_true rfl⟩ hK (hP.sub (ws' := [((a 1), .inl (Z 0, 24, .inl (S4.2 0)))]) [1] rfl) (hD.sub (ws' := [((a 1), .inl (Z 0, 24, .inl (S4.2 0)))]) [1] (by decide) rfl) rfl hl.1 rfl (Nat.le_of_ble_eq_true rfl) dX0_moveSlots_43 ⟨Nat.le_of_ble_eq_true rfl, Nat.le_of_ble_eq_true rfl⟩) hP hD hS hA (fun H locs hP hD hS => ?_)
    obtain ⟨S7, eS7, hf⟩ := lt_ex hf
    have hP : va_P D vwCl (rwl Z a S7) H := by rw [eS7]; exact hP
    have hD : va_D A (rwl Z a S7) := by rw [eS7]; exact hD
    exact zw_v hx hb hr hlk hP hD hS (congrArg (fun z => ((rwl Z a z) : va_W)) (Option.some.inj hf)) (Nat.le_of_ble_eq_true rfl) (Nat.le_of_ble_eq_true rfl) dX0_moveSlots_46
  · have hf := if_f hf c1
    exact zw_v hx hb hr hlk hP hD hS (congrArg (fun z => ((rwl Z a z) : va_W)) (Option.some.inj hf)) (Nat.le_of_ble_eq_true rfl) (Nat.le_of_ble_eq_true rfl) dX0_moveSlots_13
def f_X0_letGoOff  (S : RS) (p1 : Int32) : Option (RS) :=
  ob (f_X0_placeOf S p1) fun v2 =>
  ob (f_X0_podAtPlace S v2) fun v4 =>
  if v4 = (-1) then
    some S
  else
    ob (f_X0_goalOf S v4) fun v7 =>
    if v7 = p1 then
      ob (f_X0_firstBerth S p1 0) fun v10 =>
      if v10 = (-1) then
        ob (f_X0_read 12 (S.2 10) v4) fun v32 =>
        ob (f_X0_write 12 (S.2 10) v4 (v32 + 1)) fun f34 =>
        lt (sR S 10 f34) fun (S35 : RS) =>
        some S35
      else
        ob (f_X0_write 24 (S.2 0) v2 (-1)) fun f13 =>
        lt (sR S 0 f13) fun (S14 : RS) =>
        ob (f_X0_write 18 (S14.2 1) v10 v4) fun f16 =>
        lt (sR S14 1 f16) fun (S17 : RS) =>
        ob (f_X0_setGoal S17 v4 (-1)) fun S19 =>
        ob (f_X0_read 12 (S19.2 9) v4) fun v21 =>
        if v21 = (-1) then
          some S19
        else
          ob (f_X0_write 12 (S19.2 9) v4 (-1)) fun f24 =>
          lt (sR S19 9 f24) fun (S25 : RS) =>
          ob (f_X0_read 6 (S25.2 3) p1) fun v27 =>
          ob (f_X0_write 6 (S25.2 3) p1 (v27 + 1)) fun f29 =>
          lt (sR S25 3 f29) fun (S30 : RS) =>
          some S30
    else
      some S
abbrev rm_X0_letGoOff : Room := { frames := 3, cells := 0, slots := 0, locals := 66 }
theorem hdv_X0_letGoOff : yX0_letGoOff.cls = RX0 ∧ yX0_letGoOff.cls ≠ "java/lang/invoke/MethodHandle" ∧ yX0_letGoOff.cls ≠ "java/lang/invoke/VarHandle" ∧ (parseMethodDescriptor yX0_letGoOff.desc).map (fun d => d.parameters.length) = some 1 := by decide +kernel
set_option maxHeartbeats 4000000 in
set_option maxRecDepth 100000 in
theorem m_X0_letGoOff (l : Launch) (D : va_G) (Z : Nat → ClassId) (a : Nat → Nat) (S : RS) (p1 : Int32) (S' : RS) (hf : f_X0_letGoOff S p1 = some S') : RWv l yX0_letGoOff wsX0_letGoOff rm_X0_letGoOff D Z [.ref (a 0), .int p1] (rwl Z a S) (rwl Z a S') 0 0 := by
  refine RWv.of (cc := cX0_letGoOff) (nL := 5) (ret := none) (by decide +kernel) rfl (Nat.le_of_ble_eq_true rfl) ?_
  intro p e s m below meth c A hC hA hP hK hD hS ls hl
  obtain ⟨hx, hb, hr, hml, hown, hts, hlk, -⟩ := hC
  have hown : s.vm.findClass RX0 = some m.cls := hown
  have hin : ∀ w ∈ wsX00, w ∈ wsX0_letGoOff := fun w h => List.mem_cons_of_mem _ (List.mem_append_right _ h)
  have hl : lv_has ls 5 [(0, .ref (a 0)), (1, .int p1)] := hl
  unfold f_X0_letGoOff at hf
  refine lv_aload_n hx hb dX0_letGoOff_0 rfl (lv_at hl 0 rfl) ?_
  refine lv_iload_n hx hb dX0_letGoOff_1 rfl (lv_at hl 1 rfl) ?_
  obtain ⟨v2, hv1, hf⟩ := ob_some hf
  refine zc_i (z_VD (As := [.int p1]) (rest := []) (q0 := 0) (ci := 0) ⟨hx, hb, hml, hown, hts⟩ (m_X0_placeOf l D Z a S p1 v2 hv1) gX0_letGoOff_X0_placeOf rfl rfl rfl hdv_X0_placeOf ⟨Nat.le_of_ble_eq_true rfl, Nat.le_of_ble_eq_true rfl⟩ hK hP hD rfl rfl rfl rfl hl.1 rfl (Nat.le_of_ble_eq_true rfl) dX0_letGoOff_2 ⟨Nat.le_of_ble_eq_true rfl, Nat.le_of_ble_eq_true rfl⟩) hP hS hA (fun H locs hP hS => ?_)
  refine lv_istore_n (lv' := [(2, .int v2), (0, .ref (a 0)), (1, .int p1)]) hx hb dX0_letGoOff_5 rfl hl (by decide) rfl (fun ls hl => ?_)
  refine lv_aload_n hx hb dX0_letGoOff_6 rfl (lv_at hl 1 rfl) ?_
  refine lv_iload_n hx hb dX0_letGoOff_7 rfl (lv_at hl 0 rfl) ?_
  obtain ⟨v4, hv3, hf⟩ := ob_some hf
  refine zc_i (z_VD (As := [.int v2]) (rest := []) (q0 := 0) (ci := 0) ⟨hx, hb, hml, hown, hts⟩ (m_X0_podAtPlace l D Z a S v2 v4 hv3) gX0_letGoOff_X0_podAtPlace rfl rfl rfl hdv_X0_podAtPlace ⟨Nat.le_of_ble_eq_true rfl, Nat.le_of_ble_eq_true rfl⟩ hK hP hD rfl rfl rfl rfl hl.1 rfl (Nat.le_of_ble_eq_true rfl) dX0_letGoOff_8 ⟨Nat.le_of_ble_eq_true rfl, Nat.le_of_ble_eq_true rfl⟩) hP hS hA (fun H locs hP hS => ?_)
  refine lv_istore_n (lv' := [(3, .int v4), (2, .int v2), (0, .ref (a 0)), (1, .int p1)]) hx hb dX0_letGoOff_11 rfl hl (by decide) rfl (fun ls hl => ?_)
  refine lv_iload_n hx hb dX0_letGoOff_12 rfl (lv_at hl 0 rfl) ?_
  refine lv_iconst (v := (-1)) hx hb dX0_letGoOff_13 (by decide) ?_
  refine lv_icmp_eq (tgt := 26) hx hb dX0_letGoOff_14 (by decide) (fun c5 => ?_) (fun c5 => ?_)
  · have hf := if_t hf c5
    exact zw_v hx hb hr hlk hP hD hS (congrArg (fun z => ((rwl Z a z) : va_W)) (Option.some.inj hf)) (Nat.le_of_ble_eq_true rfl) (Nat.le_of_ble_eq_true rfl) dX0_letGoOff_26
  · have hf := if_f hf c5
    refine lv_aload_n hx hb dX0_letGoOff_17 rfl (lv_at hl 2 rfl) ?_
    refine lv_iload_n hx hb dX0_letGoOff_18 rfl (lv_at hl 0 rfl) ?_
    obtain ⟨v7, hv6, hf⟩ := ob_some hf
    refine zc_i (z_VD (As := [.int v4]) (rest := []) (q0 := 0) (ci := 0) ⟨hx, hb, hml, hown, hts⟩ (m_X0_goalOf l D Z a S v4 v7 hv6) gX0_letGoOff_X0_goalOf rfl rfl rfl hdv_X0_goalOf ⟨Nat.le_of_ble_eq_true rfl, Nat.le_of_ble_eq_true rfl⟩ hK hP hD rfl rfl rfl rfl hl.1 rfl (Nat.le_of_ble_eq_true rfl) dX0_letGoOff_19 ⟨Nat.le_of_ble_eq_true rfl, Nat.le_of_ble_eq_true rfl⟩) hP hS hA (fun H locs hP hS => ?_)
    refine lv_iload_n hx hb dX0_letGoOff_22 rfl (lv_at hl 3 rfl) ?_
    refine lv_icmp_eq (tgt := 27) hx hb dX0_letGoOff_23 (by decide) (fun c8 => ?_) (fun c8 => ?_)
    · have hf := if_t hf c8
      refine lv_aload_n hx hb dX0_letGoOff_27 rfl (lv_at hl 2 rfl) ?_
      refine lv_iload_n hx hb dX0_letGoOff_28 rfl (lv_at hl 3 rfl) ?_
      refine lv_iconst (v := 0) hx hb dX0_letGoOff_29 (by decide) ?_
      obtain ⟨v10, hv9, hf⟩ := ob_some hf
      refine zc_i (z_VD (As := [.int p1, .int 0]) (rest := []) (q0 := 0) (ci := 0) ⟨hx, hb, hml, hown, hts⟩ (m_X0_firstBerth l D Z a S p1 0 v10 hv9) gX0_letGoOff_X0_firstBerth rfl rfl rfl hdv_X0_firstBerth ⟨Nat.le_of_ble_eq_true rfl, Nat.le_of_ble_eq_true rfl⟩ hK hP hD rfl rfl rfl rfl hl.1 rfl (Nat.le_of_ble_eq_true rfl) dX0_letGoOff_30 ⟨Nat.le_of_ble_eq_true rfl, Nat.le_of_ble_eq_true rfl⟩) hP hS hA (fun H locs hP hS => ?_)
      refine lv_istore (lv' := [(4, .int v10), (3, .int v4), (2, .int v2), (0, .ref (a 0)), (1, .int p1)]) hx hb dX0_letGoOff_33 hl (by decide) rfl (fun ls hl => ?_)
      refine lv_iload hx hb dX0_letGoOff_35 (lv_at hl 0 rfl) ?_
      refine lv_iconst (v := (-1)) hx hb dX0_letGoOff_37 (by decide) ?_
      refine lv_icmp_ne (tgt := 60) hx hb dX0_letGoOff_38 (by decide) (fun c11 => ?_) (fun c11 => ?_)
      · have hf := if_f hf c11
        refine lv_aload_n hx hb dX0_letGoOff_60 rfl (lv_at hl 3 rfl) ?_
        refine va_get (D := D) (ci := 0) (v := .ref (a 1)) (C := RX0) (T := TX0) (N := 17) hx hb hts hin hown hK hP 0 rfl rfl 6 (by decide) (hts (.fieldLink RX0 15 "PodGuideway$Ring" "podInSlot" "[I") (List.mem_of_getElem? (i := 2) rfl)) (fun _ h9 => h9) rfl dX0_letGoOff_61 ?_
        refine lv_iload_n hx hb dX0_letGoOff_64 rfl (lv_at hl 2 rfl) ?_
        refine lv_iconst (v := (-1)) hx hb dX0_letGoOff_65 (by decide) ?_
        obtain ⟨f13, hv12, hf⟩ := ob_some hf
        refine zc_mv1 (k := 1) (e1 := .inl (Z 0, 24, .inl f13)) rfl (z_SD (As := [.ref (a 1), .int v2, .int (-1)]) (rest := []) ⟨hx, hb, hml, hown, hts⟩ (m_X0_write l D Z (a 1) 24 (S.2 0) v2 (-1) f13 hv12) gX0_letGoOff_X0_write rfl rfl rfl hds_X0_write ⟨Nat.le_of_ble_eq_true rfl, Nat.le_of_ble_eq_true rfl⟩ hK (hP.sub (ws' := [((a 1), .inl (Z 0, 24, .inl (S.2 0)))]) [1] rfl) (hD.sub (ws' := [((a 1), .inl (Z 0, 24, .inl (S.2 0)))]) [1] (by decide) rfl) rfl hl.1 rfl (Nat.le_of_ble_eq_true rfl) dX0_letGoOff_66 ⟨Nat.le_of_ble_eq_true rfl, Nat.le_of_ble_eq_true rfl⟩) hP hD hS hA (fun H locs hP hD hS => ?_)
        obtain ⟨S14, eS14, hf⟩ := lt_ex hf
        have hP : va_P D vwCl (rwl Z a S14) H := by rw [eS14]; exact hP
        have hD : va_D A (rwl Z a S14) := by rw [eS14]; exact hD
        refine lv_aload_n hx hb dX0_letGoOff_69 rfl (lv_at hl 3 rfl) ?_
        refine va_get (D := D) (ci := 0) (v := .ref (a 2)) (C := RX0) (T := TX0) (N := 17) hx hb hts hin hown hK hP 0 rfl rfl 7 (by decide) (hts (.fieldLink RX0 19 "PodGuideway$Ring" "podInBerth" "[I") (List.mem_of_getElem? (i := 3) rfl)) (fun _ h9 => h9) rfl dX0_letGoOff_70 ?_
        refine lv_iload hx hb dX0_letGoOff_73 (lv_at hl 0 rfl) ?_
        refine lv_iload_n hx hb dX0_letGoOff_75 rfl (lv_at hl 1 rfl) ?_
        obtain ⟨f16, hv15, hf⟩ := ob_some hf
        refine zc_mv1 (k := 2) (e1 := .inl (Z 0, 18, .inl f16)) rfl (z_SD (As := [.ref (a 2), .int v10, .int v4]) (rest := []) ⟨hx, hb, hml, hown, hts⟩ (m_X0_write l D Z (a 2) 18 (S14.2 1) v10 v4 f16 hv15) gX0_letGoOff_X0_write rfl rfl rfl hds_X0_write ⟨Nat.le_of_ble_eq_true rfl, Nat.le_of_ble_eq_true rfl⟩ hK (hP.sub (ws' := [((a 2), .inl (Z 0, 18, .inl (S14.2 1)))]) [2] rfl) (hD.sub (ws' := [((a 2), .inl (Z 0, 18, .inl (S14.2 1)))]) [2] (by decide) rfl) rfl hl.1 rfl (Nat.le_of_ble_eq_true rfl) dX0_letGoOff_76 ⟨Nat.le_of_ble_eq_true rfl, Nat.le_of_ble_eq_true rfl⟩) hP hD hS hA (fun H locs hP hD hS => ?_)
        obtain ⟨S17, eS17, hf⟩ := lt_ex hf
        have hP : va_P D vwCl (rwl Z a S17) H := by rw [eS17]; exact hP
        have hD : va_D A (rwl Z a S17) := by rw [eS17]; exact hD
        refine lv_aload_n hx hb dX0_letGoOff_79 rfl (lv_at hl 3 rfl) ?_
        refine lv_iload_n hx hb dX0_letGoOff_80 rfl (lv_at hl 1 rfl) ?_
        refine lv_iconst (v := (-1)) hx hb dX0_letGoOff_81 (by decide) ?_
        obtain ⟨S19, hv18, hf⟩ := ob_some hf
        refine zc_mv0 (z_VD (As := [.int v4, .int (-1)]) (rest := []) (q0 := 0) (ci := 0) ⟨hx, hb, hml, hown, hts⟩ (m_X0_setGoal l D Z a S17 v4 (-1) S19 hv18) gX0_letGoOff_X0_setGoal rfl rfl rfl hdv_X0_setGoal ⟨Nat.le_of_ble_eq_true rfl, Nat.le_of_ble_eq_true rfl⟩ hK hP hD rfl rfl rfl rfl hl.1 rfl (Nat.le_of_ble_eq_true rfl) dX0_letGoOff_82 ⟨Nat.le_of_ble_eq_true rfl, Nat.le_of_ble_eq_true rfl⟩) hD hS hA (fun H locs hP hD hS => ?_)
        refine lv_aload_n hx hb dX0_letGoOff_85 rfl (lv_at hl 3 rfl) ?_
        refine va_get (D := D) (ci := 0) (v := .ref (a 10)) (C := RX0) (T := TX0) (N := 17) hx hb hts hin hown hK hP 0 rfl rfl 15 (by decide) (hts (.fieldLink RX0 43 "PodGuideway$Ring" "podRider" "[I") (List.mem_of_getElem? (i := 4) rfl)) (fun _ h9 => h9) rfl dX0_letGoOff_86 ?_
        refine lv_iload_n hx hb dX0_letGoOff_89 rfl (lv_at hl 1 rfl) ?_
        obtain ⟨v21, hv20, hf⟩ := ob_some hf
        refine zc_i (z_SD (As := [.ref (a 10), .int v4]) (rest := []) ⟨hx, hb, hml, hown, hts⟩ (m_X0_read l D Z (a 10) 12 (S19.2 9) v4 v21 hv20) gX0_letGoOff_X0_read rfl rfl rfl hds_X0_read ⟨Nat.le_of_ble_eq_true rfl, Nat.le_of_ble_eq_true rfl⟩ hK (hP.sub (ws' := [((a 10), .inl (Z 0, 12, .inl (S19.2 9)))]) [10] rfl) (hD.sub (ws' := [((a 10), .inl (Z 0, 12, .inl (S19.2 9)))]) [10] (by decide) rfl) rfl hl.1 rfl (Nat.le_of_ble_eq_true rfl) dX0_letGoOff_90 ⟨Nat.le_of_ble_eq_true rfl, Nat.le_of_ble_eq_true rfl⟩) hP hS hA (fun H locs hP hS => ?_)
        refine lv_iconst (v := (-1)) hx hb dX0_letGoOff_93 (by decide) ?_
        refine lv_icmp_eq (tgt := 124) hx hb dX0_letGoOff_94 (by decide) (fun c22 => ?_) (fun c22 => ?_)
        · have hf := if_t hf c22
          exact zw_v hx hb hr hlk hP hD hS (congrArg (fun z => ((rwl Z a z) : va_W)) (Option.some.inj hf)) (Nat.le_of_ble_eq_true rfl) (Nat.le_of_ble_eq_true rfl) dX0_letGoOff_124
        · have hf := if_f hf c22
          refine lv_aload_n hx hb dX0_letGoOff_97 rfl (lv_at hl 3 rfl) ?_
          refine va_get (D := D) (ci := 0) (v := .ref (a 10)) (C := RX0) (T := TX0) (N := 17) hx hb hts hin hown hK hP 0 rfl rfl 15 (by decide) (hts (.fieldLink RX0 43 "PodGuideway$Ring" "podRider" "[I") (List.mem_of_getElem? (i := 4) rfl)) (fun _ h9 => h9) rfl dX0_letGoOff_98 ?_
          refine lv_iload_n hx hb dX0_letGoOff_101 rfl (lv_at hl 1 rfl) ?_
          refine lv_iconst (v := (-1)) hx hb dX0_letGoOff_102 (by decide) ?_
          obtain ⟨f24, hv23, hf⟩ := ob_some hf
          refine zc_mv1 (k := 10) (e1 := .inl (Z 0, 12, .inl f24)) rfl (z_SD (As := [.ref (a 10), .int v4, .int (-1)]) (rest := []) ⟨hx, hb, hml, hown, hts⟩ (m_X0_write l D Z (a 10) 12 (S19.2 9) v4 (-1) f24 hv23) gX0_letGoOff_X0_write rfl rfl rfl hds_X0_write ⟨Nat.le_of_ble_eq_true rfl, Nat.le_of_ble_eq_true rfl⟩ hK (hP.sub (ws' := [((a 10), .inl (Z 0, 12, .inl (S19.2 9)))]) [10] rfl) (hD.sub (ws' := [((a 10), .inl (Z 0, 12, .inl (S19.2 9)))]) [10] (by decide) rfl) rfl hl.1 rfl (Nat.le_of_ble_eq_true rfl) dX0_letGoOff_103 ⟨Nat.le_of_ble_eq_true rfl, Nat.le_of_ble_eq_true rfl⟩) hP hD hS hA (fun H locs hP hD hS => ?_)
          obtain ⟨S25, eS25, hf⟩ := lt_ex hf
          have hP : va_P D vwCl (rwl Z a S25) H := by rw [eS25]; exact hP
          have hD : va_D A (rwl Z a S25) := by rw [eS25]; exact hD
          refine lv_aload_n hx hb dX0_letGoOff_106 rfl (lv_at hl 3 rfl) ?_
          refine va_get (D := D) (ci := 0) (v := .ref (a 4)) (C := RX0) (T := TX0) (N := 17) hx hb hts hin hown hK hP 0 rfl rfl 9 (by decide) (hts (.fieldLink RX0 25 "PodGuideway$Ring" "stationArrived" "[I") (List.mem_of_getElem? (i := 5) rfl)) (fun _ h9 => h9) rfl dX0_letGoOff_107 ?_
          refine lv_iload_n hx hb dX0_letGoOff_110 rfl (lv_at hl 4 rfl) ?_
          refine lv_aload_n hx hb dX0_letGoOff_111 rfl (lv_at hl 3 rfl) ?_
          refine va_get (D := D) (ci := 0) (v := .ref (a 4)) (C := RX0) (T := TX0) (N := 17) hx hb hts hin hown hK hP 0 rfl rfl 9 (by decide) (hts (.fieldLink RX0 25 "PodGuideway$Ring" "stationArrived" "[I") (List.mem_of_getElem? (i := 5) rfl)) (fun _ h9 => h9) rfl dX0_letGoOff_112 ?_
          refine lv_iload_n hx hb dX0_letGoOff_115 rfl (lv_at hl 4 rfl) ?_
          obtain ⟨v27, hv26, hf⟩ := ob_some hf
          refine zc_i (z_SD (As := [.ref (a 4), .int p1]) (rest := [.int p1, .ref (a 4)]) ⟨hx, hb, hml, hown, hts⟩ (m_X0_read l D Z (a 4) 6 (S25.2 3) p1 v27 hv26) gX0_letGoOff_X0_read rfl rfl rfl hds_X0_read ⟨Nat.le_of_ble_eq_true rfl, Nat.le_of_ble_eq_true rfl⟩ hK (hP.sub (ws' := [((a 4), .inl (Z 0, 6, .inl (S25.2 3)))]) [4] rfl) (hD.sub (ws' := [((a 4), .inl (Z 0, 6, .inl (S25.2 3)))]) [4] (by decide) rfl) rfl hl.1 rfl (Nat.le_of_ble_eq_true rfl) dX0_letGoOff_116 ⟨Nat.le_of_ble_eq_true rfl, Nat.le_of_ble_eq_true rfl⟩) hP hS hA (fun H locs hP hS => ?_)
          refine lv_iconst (v := 1) hx hb dX0_letGoOff_119 (by decide) ?_
          refine lv_iadd hx hb dX0_letGoOff_120 ?_
          obtain ⟨f29, hv28, hf⟩ := ob_some hf
          refine zc_mv1 (k := 4) (e1 := .inl (Z 0, 6, .inl f29)) rfl (z_SD (As := [.ref (a 4), .int p1, .int (v27 + 1)]) (rest := []) ⟨hx, hb, hml, hown, hts⟩ (m_X0_write l D Z (a 4) 6 (S25.2 3) p1 (v27 + 1) f29 hv28) gX0_letGoOff_X0_write rfl rfl rfl hds_X0_write ⟨Nat.le_of_ble_eq_true rfl, Nat.le_of_ble_eq_true rfl⟩ hK (hP.sub (ws' := [((a 4), .inl (Z 0, 6, .inl (S25.2 3)))]) [4] rfl) (hD.sub (ws' := [((a 4), .inl (Z 0, 6, .inl (S25.2 3)))]) [4] (by decide) rfl) rfl hl.1 rfl (Nat.le_of_ble_eq_true rfl) dX0_letGoOff_121 ⟨Nat.le_of_ble_eq_true rfl, Nat.le_of_ble_eq_true rfl⟩) hP hD hS hA (fun H locs hP hD hS => ?_)
          obtain ⟨S30, eS30, hf⟩ := lt_ex hf
          have hP : va_P D vwCl (rwl Z a S30) H := by rw [eS30]; exact hP
          have hD : va_D A (rwl Z a S30) := by rw [eS30]; exact hD
          exact zw_v hx hb hr hlk hP hD hS (congrArg (fun z => ((rwl Z a z) : va_W)) (Option.some.inj hf)) (Nat.le_of_ble_eq_true rfl) (Nat.le_of_ble_eq_true rfl) dX0_letGoOff_124
      · have hf := if_t hf c11
        refine lv_aload_n hx hb dX0_letGoOff_41 rfl (lv_at hl 3 rfl) ?_
        refine va_get (D := D) (ci := 0) (v := .ref (a 11)) (C := RX0) (T := TX0) (N := 17) hx hb hts hin hown hK hP 0 rfl rfl 16 (by decide) (hts (.fieldLink RX0 46 "PodGuideway$Ring" "podBarred" "[I") (List.mem_of_getElem? (i := 1) rfl)) (fun _ h9 => h9) rfl dX0_letGoOff_42 ?_
        refine lv_iload_n hx hb dX0_letGoOff_45 rfl (lv_at hl 1 rfl) ?_
        refine lv_aload_n hx hb dX0_letGoOff_46 rfl (lv_at hl 3 rfl) ?_
        refine va_get (D := D) (ci := 0) (v := .ref (a 11)) (C := RX0) (T := TX0) (N := 17) hx hb hts hin hown hK hP 0 rfl rfl 16 (by decide) (hts (.fieldLink RX0 46 "PodGuideway$Ring" "podBarred" "[I") (List.mem_of_getElem? (i := 1) rfl)) (fun _ h9 => h9) rfl dX0_letGoOff_47 ?_
        refine lv_iload_n hx hb dX0_letGoOff_50 rfl (lv_at hl 1 rfl) ?_
        obtain ⟨v32, hv31, hf⟩ := ob_some hf
        refine zc_i (z_SD (As := [.ref (a 11), .int v4]) (rest := [.int v4, .ref (a 11)]) ⟨hx, hb, hml, hown, hts⟩ (m_X0_read l D Z (a 11) 12 (S.2 10) v4 v32 hv31) gX0_letGoOff_X0_read rfl rfl rfl hds_X0_read ⟨Nat.le_of_ble_eq_true rfl, Nat.le_of_ble_eq_true rfl⟩ hK (hP.sub (ws' := [((a 11), .inl (Z 0, 12, .inl (S.2 10)))]) [11] rfl) (hD.sub (ws' := [((a 11), .inl (Z 0, 12, .inl (S.2 10)))]) [11] (by decide) rfl) rfl hl.1 rfl (Nat.le_of_ble_eq_true rfl) dX0_letGoOff_51 ⟨Nat.le_of_ble_eq_true rfl, Nat.le_of_ble_eq_true rfl⟩) hP hS hA (fun H locs hP hS => ?_)
        refine lv_iconst (v := 1) hx hb dX0_letGoOff_54 (by decide) ?_
        refine lv_iadd hx hb dX0_letGoOff_55 ?_
        obtain ⟨f34, hv33, hf⟩ := ob_some hf
        refine zc_mv1 (k := 11) (e1 := .inl (Z 0, 12, .inl f34)) rfl (z_SD (As := [.ref (a 11), .int v4, .int (v32 + 1)]) (rest := []) ⟨hx, hb, hml, hown, hts⟩ (m_X0_write l D Z (a 11) 12 (S.2 10) v4 (v32 + 1) f34 hv33) gX0_letGoOff_X0_write rfl rfl rfl hds_X0_write ⟨Nat.le_of_ble_eq_true rfl, Nat.le_of_ble_eq_true rfl⟩ hK (hP.sub (ws' := [((a 11), .inl (Z 0, 12, .inl (S.2 10)))]) [11] rfl) (hD.sub (ws' := [((a 11), .inl (Z 0, 12, .inl (S.2 10)))]) [11] (by decide) rfl) rfl hl.1 rfl (Nat.le_of_ble_eq_true rfl) dX0_letGoOff_56 ⟨Nat.le_of_ble_eq_true rfl, Nat.le_of_ble_eq_true rfl⟩) hP hD hS hA (fun H locs hP hD hS => ?_)
        obtain ⟨S35, eS35, hf⟩ := lt_ex hf
        have hP : va_P D vwCl (rwl Z a S35) H := by rw [eS35]; exact hP
        have hD : va_D A (rwl Z a S35) := by rw [eS35]; exact hD
        exact zw_v hx hb hr hlk hP hD hS (congrArg (fun z => ((rwl Z a z) : va_W)) (Option.some.inj hf)) (Nat.le_of_ble_eq_true rfl) (Nat.le_of_ble_eq_true rfl) dX0_letGoOff_59
    · have hf := if_f hf c8
      exact zw_v hx hb hr hlk hP hD hS (congrArg (fun z => ((rwl Z a z) : va_W)) (Option.some.inj hf)) (Nat.le_of_ble_eq_true rfl) (Nat.le_of_ble_eq_true rfl) dX0_letGoOff_26
def f_X0_boardFirst_L61   : Nat → Int32 → Int32 → Int32 → Int32 → RS → Option (RS)
  | 0, _, _, _, _, _ => none
  | n + 1, x1, x3, x4, x5, S =>
    if (x3 + x4) ≤ x5 then
      ob (f_X0_write 6 (S.2 4) x1 x4) fun f17 =>
      lt (sR S 4 f17) fun (S18 : RS) =>
      some S18
    else
      ob (f_X0_read 54 (S.2 5) (x5 + 1)) fun v20 =>
      ob (f_X0_write 54 (S.2 5) x5 v20) fun f22 =>
      lt (sR S 5 f22) fun (S23 : RS) =>
      ob (f_X0_read 54 (S23.2 6) (x5 + 1)) fun v25 =>
      ob (f_X0_write 54 (S23.2 6) x5 v25) fun f27 =>
      lt (sR S23 6 f27) fun (S28 : RS) =>
      ob (f_X0_read 54 (S28.2 7) (x5 + 1)) fun v30 =>
      ob (f_X0_write 54 (S28.2 7) x5 v30) fun f32 =>
      lt (sR S28 7 f32) fun (S33 : RS) =>
      f_X0_boardFirst_L61 n x1 x3 x4 (x5 + 1) S33
def f_X0_boardFirst  (S : RS) (p1 : Int32) (p2 : Int32) : Option (RS) :=
  ob (f_X0_read 54 (S.2 5) (p1 * 9)) fun v2 =>
  ob (f_X0_write 12 (S.2 9) p2 v2) fun f4 =>
  lt (sR S 9 f4) fun (S5 : RS) =>
  ob (f_X0_read 54 (S5.2 6) (p1 * 9)) fun v7 =>
  ob (f_X0_setGoal S5 p2 v7) fun S9 =>
  ob (f_X0_waitedBy S9 p1 0) fun v11 =>
  lt (sI S9 5 ((S9.1 5) + v11)) fun (S12 : RS) =>
  ob (f_X0_waitingAt S12 p1) fun v14 =>
  f_X0_boardFirst_L61 FU p1 (p1 * 9) (v14 - 1) (p1 * 9) S12
abbrev rm_X0_boardFirst : Room := { frames := 2, cells := 0, slots := 0, locals := 45 }
theorem hdv_X0_boardFirst : yX0_boardFirst.cls = RX0 ∧ yX0_boardFirst.cls ≠ "java/lang/invoke/MethodHandle" ∧ yX0_boardFirst.cls ≠ "java/lang/invoke/VarHandle" ∧ (parseMethodDescriptor yX0_boardFirst.desc).map (fun d => d.parameters.length) = some 2 := by decide +kernel
set_option maxHeartbeats 4000000 in
set_option maxRecDepth 100000 in
theorem m_X0_boardFirst (l : Launch) (D : va_G) (Z : Nat → ClassId) (a : Nat → Nat) (S : RS) (p1 : Int32) (p2 : Int32) (S' : RS) (hf : f_X0_boardFirst S p1 p2 = some S') : RWv l yX0_boardFirst wsX0_boardFirst rm_X0_boardFirst D Z [.ref (a 0), .int p1, .int p2] (rwl Z a S) (rwl Z a S') 0 0 := by
  refine RWv.of (cc := cX0_boardFirst) (nL := 6) (ret := none) (by decide +kernel) rfl (Nat.le_of_ble_eq_true rfl) ?_
  intro p e s m below meth c A hC hA hP hK hD hS ls hl
  obtain ⟨hx, hb, hr, hml, hown, hts, hlk, -⟩ := hC
  have hown : s.vm.findClass RX0 = some m.cls := hown
  have hin : ∀ w ∈ wsX00, w ∈ wsX0_boardFirst := fun w h => List.mem_cons_of_mem _ (List.mem_append_right _ h)
  have hl : lv_has ls 6 [(0, .ref (a 0)), (1, .int p1), (2, .int p2)] := hl
  have L61 : ∀ (n : Nat) (x1 : Int32) (x3 : Int32) (x4 : Int32) (x5 : Int32) (S : RS) (H : Heap) (locs : List Loc), va_P D vwCl (rwl Z a S) H → va_D A (rwl Z a S) → va_S A s.heap H locs → ∀ ls : Array Slot, lv_has ls 6 [(0, .ref (a 0)), (1, .int x1), (3, .int x3), (4, .int x4), (5, .int x5)] → f_X0_boardFirst_L61 n x1 x3 x4 x5 S = some S' → W p l e rm_X0_boardFirst s m ([.ref (a 0), .int p1, .int p2] : List Value).toArray below meth c H locs 0 0 (MQ below (zMv D A (rwl Z a S')) ([.ref (a 0), .int p1, .int p2] : List Value).toArray s 0 0 A) (F0 m 61 ls []) := by
    intro n
    induction n with
    | zero =>
      intro x1 x3 x4 x5 S H locs hP hD hS ls hl hf
      exact no_r hf
    | succ n ih =>
      intro x1 x3 x4 x5 S H locs hP hD hS ls hl hf
      rw [f_X0_boardFirst_L61] at hf
      refine lv_iload hx hb dX0_boardFirst_61 (lv_at hl 4 rfl) ?_
      refine lv_iload_n hx hb dX0_boardFirst_63 rfl (lv_at hl 2 rfl) ?_
      refine lv_iload hx hb dX0_boardFirst_64 (lv_at hl 3 rfl) ?_
      refine lv_iadd hx hb dX0_boardFirst_66 ?_
      refine lv_icmp_ge (tgt := 136) hx hb dX0_boardFirst_67 (by decide) (fun c15 => ?_) (fun c15 => ?_)
      · have hf := if_t hf c15
        refine lv_aload_n hx hb dX0_boardFirst_136 rfl (lv_at hl 0 rfl) ?_
        refine va_get (D := D) (ci := 0) (v := .ref (a 5)) (C := RX0) (T := TX0) (N := 17) hx hb hts hin hown hK hP 0 rfl rfl 10 (by decide) (hts (.fieldLink RX0 28 "PodGuideway$Ring" "stationWaiting" "[I") (List.mem_of_getElem? (i := 6) rfl)) (fun _ h9 => h9) rfl dX0_boardFirst_137 ?_
        refine lv_iload_n hx hb dX0_boardFirst_140 rfl (lv_at hl 1 rfl) ?_
        refine lv_iload hx hb dX0_boardFirst_141 (lv_at hl 3 rfl) ?_
        obtain ⟨f17, hv16, hf⟩ := ob_some hf
        refine zc_mv1 (k := 5) (e1 := .inl (Z 0, 6, .inl f17)) rfl (z_SD (As := [.ref (a 5), .int x1, .int x4]) (rest := []) ⟨hx, hb, hml, hown, hts⟩ (m_X0_write l D Z (a 5) 6 (S.2 4) x1 x4 f17 hv16) gX0_boardFirst_X0_write rfl rfl rfl hds_X0_write ⟨Nat.le_of_ble_eq_true rfl, Nat.le_of_ble_eq_true rfl⟩ hK (hP.sub (ws' := [((a 5), .inl (Z 0, 6, .inl (S.2 4)))]) [5] rfl) (hD.sub (ws' := [((a 5), .inl (Z 0, 6, .inl (S.2 4)))]) [5] (by decide) rfl) rfl hl.1 rfl (Nat.le_of_ble_eq_true rfl) dX0_boardFirst_143 ⟨Nat.le_of_ble_eq_true rfl, Nat.le_of_ble_eq_true rfl⟩) hP hD hS hA (fun H locs hP hD hS => ?_)
        obtain ⟨S18, eS18, hf⟩ := lt_ex hf
        have hP : va_P D vwCl (rwl Z a S18) H := by rw [eS18]; exact hP
        have hD : va_D A (rwl Z a S18) := by rw [eS18]; exact hD
        exact zw_v hx hb hr hlk hP hD hS (congrArg (fun z => ((rwl Z a z) : va_W)) (Option.some.inj hf)) (Nat.le_of_ble_eq_true rfl) (Nat.le_of_ble_eq_true rfl) dX0_boardFirst_146
      · have hf := if_f hf c15
        refine lv_aload_n hx hb dX0_boardFirst_70 rfl (lv_at hl 0 rfl) ?_
        refine va_get (D := D) (ci := 0) (v := .ref (a 6)) (C := RX0) (T := TX0) (N := 17) hx hb hts hin hown hK hP 0 rfl rfl 11 (by decide) (hts (.fieldLink RX0 31 "PodGuideway$Ring" "riderNumber" "[I") (List.mem_of_getElem? (i := 2) rfl)) (fun _ h9 => h9) rfl dX0_boardFirst_71 ?_
        refine lv_iload hx hb dX0_boardFirst_74 (lv_at hl 4 rfl) ?_
        refine lv_aload_n hx hb dX0_boardFirst_76 rfl (lv_at hl 0 rfl) ?_
        refine va_get (D := D) (ci := 0) (v := .ref (a 6)) (C := RX0) (T := TX0) (N := 17) hx hb hts hin hown hK hP 0 rfl rfl 11 (by decide) (hts (.fieldLink RX0 31 "PodGuideway$Ring" "riderNumber" "[I") (List.mem_of_getElem? (i := 2) rfl)) (fun _ h9 => h9) rfl dX0_boardFirst_77 ?_
        refine lv_iload hx hb dX0_boardFirst_80 (lv_at hl 4 rfl) ?_
        refine lv_iconst (v := 1) hx hb dX0_boardFirst_82 (by decide) ?_
        refine lv_iadd hx hb dX0_boardFirst_83 ?_
        obtain ⟨v20, hv19, hf⟩ := ob_some hf
        refine zc_i (z_SD (As := [.ref (a 6), .int (x5 + 1)]) (rest := [.int x5, .ref (a 6)]) ⟨hx, hb, hml, hown, hts⟩ (m_X0_read l D Z (a 6) 54 (S.2 5) (x5 + 1) v20 hv19) gX0_boardFirst_X0_read rfl rfl rfl hds_X0_read ⟨Nat.le_of_ble_eq_true rfl, Nat.le_of_ble_eq_true rfl⟩ hK (hP.sub (ws' := [((a 6), .inl (Z 0, 54, .inl (S.2 5)))]) [6] rfl) (hD.sub (ws' := [((a 6), .inl (Z 0, 54, .inl (S.2 5)))]) [6] (by decide) rfl) rfl hl.1 rfl (Nat.le_of_ble_eq_true rfl) dX0_boardFirst_84 ⟨Nat.le_of_ble_eq_true rfl, Nat.le_of_ble_eq_true rfl⟩) hP hS hA (fun H locs hP hS => ?_)
        obtain ⟨f22, hv21, hf⟩ := ob_some hf
        refine zc_mv1 (k := 6) (e1 := .inl (Z 0, 54, .inl f22)) rfl (z_SD (As := [.ref (a 6), .int x5, .int v20]) (rest := []) ⟨hx, hb, hml, hown, hts⟩ (m_X0_write l D Z (a 6) 54 (S.2 5) x5 v20 f22 hv21) gX0_boardFirst_X0_write rfl rfl rfl hds_X0_write ⟨Nat.le_of_ble_eq_true rfl, Nat.le_of_ble_eq_true rfl⟩ hK (hP.sub (ws' := [((a 6), .inl (Z 0, 54, .inl (S.2 5)))]) [6] rfl) (hD.sub (ws' := [((a 6), .inl (Z 0, 54, .inl (S.2 5)))]) [6] (by decide) rfl) rfl hl.1 rfl (Nat.le_of_ble_eq_true rfl) dX0_boardFirst_87 ⟨Nat.le_of_ble_eq_true rfl, Nat.le_of_ble_eq_true rfl⟩) hP hD hS hA (fun H locs hP hD hS => ?_)
        obtain ⟨S23, eS23, hf⟩ := lt_ex hf
        have hP : va_P D vwCl (rwl Z a S23) H := by rw [eS23]; exact hP
        have hD : va_D A (rwl Z a S23) := by rw [eS23]; exact hD
        refine lv_aload_n hx hb dX0_boardFirst_90 rfl (lv_at hl 0 rfl) ?_
        refine va_get (D := D) (ci := 0) (v := .ref (a 7)) (C := RX0) (T := TX0) (N := 17) hx hb hts hin hown hK hP 0 rfl rfl 12 (by decide) (hts (.fieldLink RX0 34 "PodGuideway$Ring" "riderGoal" "[I") (List.mem_of_getElem? (i := 3) rfl)) (fun _ h9 => h9) rfl dX0_boardFirst_91 ?_
        refine lv_iload hx hb dX0_boardFirst_94 (lv_at hl 4 rfl) ?_
        refine lv_aload_n hx hb dX0_boardFirst_96 rfl (lv_at hl 0 rfl) ?_
        refine va_get (D := D) (ci := 0) (v := .ref (a 7)) (C := RX0) (T := TX0) (N := 17) hx hb hts hin hown hK hP 0 rfl rfl 12 (by decide) (hts (.fieldLink RX0 34 "PodGuideway$Ring" "riderGoal" "[I") (List.mem_of_getElem? (i := 3) rfl)) (fun _ h9 => h9) rfl dX0_boardFirst_97 ?_
        refine lv_iload hx hb dX0_boardFirst_100 (lv_at hl 4 rfl) ?_
        refine lv_iconst (v := 1) hx hb dX0_boardFirst_102 (by decide) ?_
        refine lv_iadd hx hb dX0_boardFirst_103 ?_
        obtain ⟨v25, hv24, hf⟩ := ob_some hf
        refine zc_i (z_SD (As := [.ref (a 7), .int (x5 + 1)]) (rest := [.int x5, .ref (a 7)]) ⟨hx, hb, hml, hown, hts⟩ (m_X0_read l D Z (a 7) 54 (S23.2 6) (x5 + 1) v25 hv24) gX0_boardFirst_X0_read rfl rfl rfl hds_X0_read ⟨Nat.le_of_ble_eq_true rfl, Nat.le_of_ble_eq_true rfl⟩ hK (hP.sub (ws' := [((a 7), .inl (Z 0, 54, .inl (S23.2 6)))]) [7] rfl) (hD.sub (ws' := [((a 7), .inl (Z 0, 54, .inl (S23.2 6)))]) [7] (by decide) rfl) rfl hl.1 rfl (Nat.le_of_ble_eq_true rfl) dX0_boardFirst_104 ⟨Nat.le_of_ble_eq_true rfl, Nat.le_of_ble_eq_true rfl⟩) hP hS hA (fun H locs hP hS => ?_)
        obtain ⟨f27, hv26, hf⟩ := ob_some hf
        refine zc_mv1 (k := 7) (e1 := .inl (Z 0, 54, .inl f27)) rfl (z_SD (As := [.ref (a 7), .int x5, .int v25]) (rest := []) ⟨hx, hb, hml, hown, hts⟩ (m_X0_write l D Z (a 7) 54 (S23.2 6) x5 v25 f27 hv26) gX0_boardFirst_X0_write rfl rfl rfl hds_X0_write ⟨Nat.le_of_ble_eq_true rfl, Nat.le_of_ble_eq_true rfl⟩ hK (hP.sub (ws' := [((a 7), .inl (Z 0, 54, .inl (S23.2 6)))]) [7] rfl) (hD.sub (ws' := [((a 7), .inl (Z 0, 54, .inl (S23.2 6)))]) [7] (by decide) rfl) rfl hl.1 rfl (Nat.le_of_ble_eq_true rfl) dX0_boardFirst_107 ⟨Nat.le_of_ble_eq_true rfl, Nat.le_of_ble_eq_true rfl⟩) hP hD hS hA (fun H locs hP hD hS => ?_)
        obtain ⟨S28, eS28, hf⟩ := lt_ex hf
        have hP : va_P D vwCl (rwl Z a S28) H := by rw [eS28]; exact hP
        have hD : va_D A (rwl Z a S28) := by rw [eS28]; exact hD
        refine lv_aload_n hx hb dX0_boardFirst_110 rfl (lv_at hl 0 rfl) ?_
        refine va_get (D := D) (ci := 0) (v := .ref (a 8)) (C := RX0) (T := TX0) (N := 17) hx hb hts hin hown hK hP 0 rfl rfl 13 (by decide) (hts (.fieldLink RX0 37 "PodGuideway$Ring" "riderCame" "[I") (List.mem_of_getElem? (i := 5) rfl)) (fun _ h9 => h9) rfl dX0_boardFirst_111 ?_
        refine lv_iload hx hb dX0_boardFirst_114 (lv_at hl 4 rfl) ?_
        refine lv_aload_n hx hb dX0_boardFirst_116 rfl (lv_at hl 0 rfl) ?_
        refine va_get (D := D) (ci := 0) (v := .ref (a 8)) (C := RX0) (T := TX0) (N := 17) hx hb hts hin hown hK hP 0 rfl rfl 13 (by decide) (hts (.fieldLink RX0 37 "PodGuideway$Ring" "riderCame" "[I") (List.mem_of_getElem? (i := 5) rfl)) (fun _ h9 => h9) rfl dX0_boardFirst_117 ?_
        refine lv_iload hx hb dX0_boardFirst_120 (lv_at hl 4 rfl) ?_
        refine lv_iconst (v := 1) hx hb dX0_boardFirst_122 (by decide) ?_
        refine lv_iadd hx hb dX0_boardFirst_123 ?_
        obtain ⟨v30, hv29, hf⟩ := ob_some hf
        refine zc_i (z_SD (As := [.ref (a 8), .int (x5 + 1)]) (rest := [.int x5, .ref (a 8)]) ⟨hx, hb, hml, hown, hts⟩ (m_X0_read l D Z (a 8) 54 (S28.2 7) (x5 + 1) v30 hv29) gX0_boardFirst_X0_read rfl rfl rfl hds_X0_read ⟨Nat.le_of_ble_eq_true rfl, Nat.le_of_ble_eq_true rfl⟩ hK (hP.sub (ws' := [((a 8), .inl (Z 0, 54, .inl (S28.2 7)))]) [8] rfl) (hD.sub (ws' := [((a 8), .inl (Z 0, 54, .inl (S28.2 7)))]) [8] (by decide) rfl) rfl hl.1 rfl (Nat.le_of_ble_eq_true rfl) dX0_boardFirst_124 ⟨Nat.le_of_ble_eq_true rfl, Nat.le_of_ble_eq_true rfl⟩) hP hS hA (fun H locs hP hS => ?_)
        obtain ⟨f32, hv31, hf⟩ := ob_some hf
        refine zc_mv1 (k := 8) (e1 := .inl (Z 0, 54, .inl f32)) rfl (z_SD (As := [.ref (a 8), .int x5, .int v30]) (rest := []) ⟨hx, hb, hml, hown, hts⟩ (m_X0_write l D Z (a 8) 54 (S28.2 7) x5 v30 f32 hv31) gX0_boardFirst_X0_write rfl rfl rfl hds_X0_write ⟨Nat.le_of_ble_eq_true rfl, Nat.le_of_ble_eq_true rfl⟩ hK (hP.sub (ws' := [((a 8), .inl (Z 0, 54, .inl (S28.2 7)))]) [8] rfl) (hD.sub (ws' := [((a 8), .inl (Z 0, 54, .inl (S28.2 7)))]) [8] (by decide) rfl) rfl hl.1 rfl (Nat.le_of_ble_eq_true rfl) dX0_boardFirst_127 ⟨Nat.le_of_ble_eq_true rfl, Nat.le_of_ble_eq_true rfl⟩) hP hD hS hA (fun H locs hP hD hS => ?_)
        obtain ⟨S33, eS33, hf⟩ := lt_ex hf
        have hP : va_P D vwCl (rwl Z a S33) H := by rw [eS33]; exact hP
        have hD : va_D A (rwl Z a S33) := by rw [eS33]; exact hD
        refine lv_iinc (v := (x5 + 1)) (lv' := [(5, .int (x5 + 1)), (0, .ref (a 0)), (1, .int x1), (3, .int x3), (4, .int x4)]) hx hb dX0_boardFirst_130 hl (k := 4) rfl rfl (by decide) rfl (fun ls hl => ?_)
        refine lv_goto (tgt := 61) hx hb dX0_boardFirst_133 (by decide) ?_
        exact ih x1 x3 x4 (x5 + 1) S33 _ _ hP hD hS ls (lv_sub hl [1, 2, 3, 4, 0] rfl) hf
  unfold f_X0_boardFirst at hf
  refine lv_iload_n hx hb dX0_boardFirst_0 rfl (lv_at hl 1 rfl) ?_
  refine lv_bipush (v := 9) hx hb dX0_boardFirst_1 (by decide) ?_
  refine lv_imul hx hb dX0_boardFirst_3 ?_
  refine lv_istore_n (lv' := [(3, .int (p1 * 9)), (0, .ref (a 0)), (1, .int p1), (2, .int p2)]) hx hb dX0_boardFirst_4 rfl hl (by decide) rfl (fun ls hl => ?_)
  refine lv_aload_n hx hb dX0_boardFirst_5 rfl (lv_at hl 1 rfl) ?_
  refine va_get (D := D) (ci := 0) (v := .ref (a 10)) (C := RX0) (T := TX0) (N := 17) hx hb hts hin hown hK hP 0 rfl rfl 15 (by decide) (hts (.fieldLink RX0 43 "PodGuideway$Ring" "podRider" "[I") (List.mem_of_getElem? (i := 1) rfl)) (fun _ h9 => h9) rfl dX0_boardFirst_6 ?_
  refine lv_iload_n hx hb dX0_boardFirst_9 rfl (lv_at hl 3 rfl) ?_
  refine lv_aload_n hx hb dX0_boardFirst_10 rfl (lv_at hl 1 rfl) ?_
  refine va_get (D := D) (ci := 0) (v := .ref (a 6)) (C := RX0) (T := TX0) (N := 17) hx hb hts hin hown hK hP 0 rfl rfl 11 (by decide) (hts (.fieldLink RX0 31 "PodGuideway$Ring" "riderNumber" "[I") (List.mem_of_getElem? (i := 2) rfl)) (fun _ h9 => h9) rfl dX0_boardFirst_11 ?_
  refine lv_iload_n hx hb dX0_boardFirst_14 rfl (lv_at hl 0 rfl) ?_
  obtain ⟨v2, hv1, hf⟩ := ob_some hf
  refine zc_i (z_SD (As := [.ref (a 6), .int (p1 * 9)]) (rest := [.int p2, .ref (a 10)]) ⟨hx, hb, hml, hown, hts⟩ (m_X0_read l D Z (a 6) 54 (S.2 5) (p1 * 9) v2 hv1) gX0_boardFirst_X0_read rfl rfl rfl hds_X0_read ⟨Nat.le_of_ble_eq_true rfl, Nat.le_of_ble_eq_true rfl⟩ hK (hP.sub (ws' := [((a 6), .inl (Z 0, 54, .inl (S.2 5)))]) [6] rfl) (hD.sub (ws' := [((a 6), .inl (Z 0, 54, .inl (S.2 5)))]) [6] (by decide) rfl) rfl hl.1 rfl (Nat.le_of_ble_eq_true rfl) dX0_boardFirst_15 ⟨Nat.le_of_ble_eq_true rfl, Nat.le_of_ble_eq_true rfl⟩) hP hS hA (fun H locs hP hS => ?_)
  obtain ⟨f4, hv3, hf⟩ := ob_some hf
  refine zc_mv1 (k := 10) (e1 := .inl (Z 0, 12, .inl f4)) rfl (z_SD (As := [.ref (a 10), .int p2, .int v2]) (rest := []) ⟨hx, hb, hml, hown, hts⟩ (m_X0_write l D Z (a 10) 12 (S.2 9) p2 v2 f4 hv3) gX0_boardFirst_X0_write rfl rfl rfl hds_X0_write ⟨Nat.le_of_ble_eq_true rfl, Nat.le_of_ble_eq_true rfl⟩ hK (hP.sub (ws' := [((a 10), .inl (Z 0, 12, .inl (S.2 9)))]) [10] rfl) (hD.sub (ws' := [((a 10), .inl (Z 0, 12, .inl (S.2 9)))]) [10] (by decide) rfl) rfl hl.1 rfl (Nat.le_of_ble_eq_true rfl) dX0_boardFirst_18 ⟨Nat.le_of_ble_eq_true rfl, Nat.le_of_ble_eq_true rfl⟩) hP hD hS hA (fun H locs hP hD hS => ?_)
  obtain ⟨S5, eS5, hf⟩ := lt_ex hf
  have hP : va_P D vwCl (rwl Z a S5) H := by rw [eS5]; exact hP
  have hD : va_D A (rwl Z a S5) := by rw [eS5]; exact hD
  refine lv_aload_n hx hb dX0_boardFirst_21 rfl (lv_at hl 1 rfl) ?_
  refine lv_iload_n hx hb dX0_boardFirst_22 rfl (lv_at hl 3 rfl) ?_
  refine lv_aload_n hx hb dX0_boardFirst_23 rfl (lv_at hl 1 rfl) ?_
  refine va_get (D := D) (ci := 0) (v := .ref (a 7)) (C := RX0) (T := TX0) (N := 17) hx hb hts hin hown hK hP 0 rfl rfl 12 (by decide) (hts (.fieldLink RX0 34 "PodGuideway$Ring" "riderGoal" "[I") (List.mem_of_getElem? (i := 3) rfl)) (fun _ h9 => h9) rfl dX0_boardFirst_24 ?_
  refine lv_iload_n hx hb dX0_boardFirst_27 rfl (lv_at hl 0 rfl) ?_
  obtain ⟨v7, hv6, hf⟩ := ob_some hf
  refine zc_i (z_SD (As := [.ref (a 7), .int (p1 * 9)]) (rest := [.int p2, .ref (a 0)]) ⟨hx, hb, hml, hown, hts⟩ (m_X0_read l D Z (a 7) 54 (S5.2 6) (p1 * 9) v7 hv6) gX0_boardFirst_X0_read rfl rfl rfl hds_X0_read ⟨Nat.le_of_ble_eq_true rfl, Nat.le_of_ble_eq_true rfl⟩ hK (hP.sub (ws' := [((a 7), .inl (Z 0, 54, .inl (S5.2 6)))]) [7] rfl) (hD.sub (ws' := [((a 7), .inl (Z 0, 54, .inl (S5.2 6)))]) [7] (by decide) rfl) rfl hl.1 rfl (Nat.le_of_ble_eq_true rfl) dX0_boardFirst_28 ⟨Nat.le_of_ble_eq_true rfl, Nat.le_of_ble_eq_true rfl⟩) hP hS hA (fun H locs hP hS => ?_)
  obtain ⟨S9, hv8, hf⟩ := ob_some hf
  refine zc_mv0 (z_VD (As := [.int p2, .int v7]) (rest := []) (q0 := 0) (ci := 0) ⟨hx, hb, hml, hown, hts⟩ (m_X0_setGoal l D Z a S5 p2 v7 S9 hv8) gX0_boardFirst_X0_setGoal rfl rfl rfl hdv_X0_setGoal ⟨Nat.le_of_ble_eq_true rfl, Nat.le_of_ble_eq_true rfl⟩ hK hP hD rfl rfl rfl rfl hl.1 rfl (Nat.le_of_ble_eq_true rfl) dX0_boardFirst_31 ⟨Nat.le_of_ble_eq_true rfl, Nat.le_of_ble_eq_true rfl⟩) hD hS hA (fun H locs hP hD hS => ?_)
  refine lv_aload_n hx hb dX0_boardFirst_34 rfl (lv_at hl 1 rfl) ?_
  refine lv_dup hx hb dX0_boardFirst_35 rfl ?_
  refine va_get (D := D) (ci := 0) (v := .int (S9.1 5)) (C := RX0) (T := TX0) (N := 17) hx hb hts hin hown hK hP 0 rfl rfl 5 (by decide) (hts (.fieldLink RX0 65 "PodGuideway$Ring" "waitedBeforeBoarding" "I") (List.mem_of_getElem? (i := 4) rfl)) (fun _ h9 => h9) rfl dX0_boardFirst_36 ?_
  refine lv_aload_n hx hb dX0_boardFirst_39 rfl (lv_at hl 1 rfl) ?_
  refine lv_iload_n hx hb dX0_boardFirst_40 rfl (lv_at hl 2 rfl) ?_
  refine lv_iconst (v := 0) hx hb dX0_boardFirst_41 (by decide) ?_
  obtain ⟨v11, hv10, hf⟩ := ob_some hf
  refine zc_i (z_VD (As := [.int p1, .int 0]) (rest := [.int (S9.1 5), .ref (a 0)]) (q0 := 0) (ci := 0) ⟨hx, hb, hml, hown, hts⟩ (m_X0_waitedBy l D Z a S9 p1 0 v11 hv10) gX0_boardFirst_X0_waitedBy rfl rfl rfl hdv_X0_waitedBy ⟨Nat.le_of_ble_eq_true rfl, Nat.le_of_ble_eq_true rfl⟩ hK hP hD rfl rfl rfl rfl hl.1 rfl (Nat.le_of_ble_eq_true rfl) dX0_boardFirst_42 ⟨Nat.le_of_ble_eq_true rfl, Nat.le_of_ble_eq_true rfl⟩) hP hS hA (fun H locs hP hS => ?_)
  refine lv_iadd hx hb dX0_boardFirst_45 ?_
  refine va_put (D := D) (ci := 0) (v := .int ((S9.1 5) + v11)) (ty := .int) (C := RX0) (T := TX0) (N := 17) hx hb hts hin tyX0 tyX0_ok nmX0 hown hK hP hD hS 0 rfl rfl 5 (by decide) (hts (.fieldLink RX0 65 "PodGuideway$Ring" "waitedBeforeBoarding" "I") (List.mem_of_getElem? (i := 4) rfl)) (fun _ h9 => h9) rfl (by decide +kernel) rfl rfl (Nat.le_of_ble_eq_true rfl) dX0_boardFirst_46 (fun H locs hP hD hS => ?_)
  obtain ⟨S12, eS12, hf⟩ := lt_ex hf
  have hP : va_P D vwCl (rwl Z a S12) H := by rw [eS12]; exact hP
  have hD : va_D A (rwl Z a S12) := by rw [eS12]; exact hD
  refine lv_aload_n hx hb dX0_boardFirst_49 rfl (lv_at hl 1 rfl) ?_
  refine lv_iload_n hx hb dX0_boardFirst_50 rfl (lv_at hl 2 rfl) ?_
  obtain ⟨v14, hv13, hf⟩ := ob_some hf
  refine zc_i (z_VD (As := [.int p1]) (rest := []) (q0 := 0) (ci := 0) ⟨hx, hb, hml, hown, hts⟩ (m_X0_waitingAt l D Z a S12 p1 v14 hv13) gX0_boardFirst_X0_waitingAt rfl rfl rfl hdv_X0_waitingAt ⟨Nat.le_of_ble_eq_true rfl, Nat.le_of_ble_eq_true rfl⟩ hK hP hD rfl rfl rfl rfl hl.1 rfl (Nat.le_of_ble_eq_true rfl) dX0_boardFirst_51 ⟨Nat.le_of_ble_eq_true rfl, Nat.le_of_ble_eq_true rfl⟩) hP hS hA (fun H locs hP hS => ?_)
  refine lv_iconst (v := 1) hx hb dX0_boardFirst_54 (by decide) ?_
  refine lv_isub hx hb dX0_boardFirst_55 ?_
  refine lv_istore (lv' := [(4, .int (v14 - 1)), (3, .int (p1 * 9)), (0, .ref (a 0)), (1, .int p1), (2, .int p2)]) hx hb dX0_boardFirst_56 hl (by decide) rfl (fun ls hl => ?_)
  refine lv_iload_n hx hb dX0_boardFirst_58 rfl (lv_at hl 1 rfl) ?_
  refine lv_istore (lv' := [(5, .int (p1 * 9)), (4, .int (v14 - 1)), (3, .int (p1 * 9)), (0, .ref (a 0)), (1, .int p1), (2, .int p2)]) hx hb dX0_boardFirst_59 hl (by decide) rfl (fun ls hl => ?_)
  exact L61 FU p1 (p1 * 9) (v14 - 1) (p1 * 9) S12 _ _ hP hD hS ls (lv_sub hl [3, 4, 2, 1, 0] rfl) hf
def f_X0_letBoard_L4   : Nat → Int32 → Int32 → RS → Option (RS)
  | 0, _, _, _ => none
  | n + 1, x1, x2, S =>
    if ((x1 + 1) * 3) ≤ x2 then
      some S
    else
      ob (f_X0_waitingAt S x1) fun v3 =>
      if v3 ≤ 0 then
        f_X0_letBoard_L4 n x1 (x2 + 1) S
      else
        ob (f_X0_berthHolds S x2) fun v6 =>
        if v6 = 1 then
          ob (f_X0_read 18 (S.2 1) x2) fun v9 =>
          ob (f_X0_boardFirst S x1 v9) fun S11 =>
          f_X0_letBoard_L4 n x1 (x2 + 1) S11
        else
          f_X0_letBoard_L4 n x1 (x2 + 1) S
def f_X0_letBoard  (S : RS) (p1 : Int32) : Option (RS) :=
  f_X0_letBoard_L4 FU p1 (p1 * 3) S
abbrev rm_X0_letBoard : Room := { frames := 3, cells := 0, slots := 0, locals := 70 }
theorem hdv_X0_letBoard : yX0_letBoard.cls = RX0 ∧ yX0_letBoard.cls ≠ "java/lang/invoke/MethodHandle" ∧ yX0_letBoard.cls ≠ "java/lang/invoke/VarHandle" ∧ (parseMethodDescriptor yX0_letBoard.desc).map (fun d => d.parameters.length) = some 1 := by decide +kernel
set_option maxHeartbeats 4000000 in
set_option maxRecDepth 100000 in
theorem m_X0_letBoard (l : Launch) (D : va_G) (Z : Nat → ClassId) (a : Nat → Nat) (S : RS) (p1 : Int32) (S' : RS) (hf : f_X0_letBoard S p1 = some S') : RWv l yX0_letBoard wsX0_letBoard rm_X0_letBoard D Z [.ref (a 0), .int p1] (rwl Z a S) (rwl Z a S') 0 0 := by
  refine RWv.of (cc := cX0_letBoard) (nL := 3) (ret := none) (by decide +kernel) rfl (Nat.le_of_ble_eq_true rfl) ?_
  intro p e s m below meth c A hC hA hP hK hD hS ls hl
  obtain ⟨hx, hb, hr, hml, hown, hts, hlk, -⟩ := hC
  have hown : s.vm.findClass RX0 = some m.cls := hown
  have hin : ∀ w ∈ wsX00, w ∈ wsX0_letBoard := fun w h => List.mem_cons_of_mem _ (List.mem_append_right _ h)
  have hl : lv_has ls 3 [(0, .ref (a 0)), (1, .int p1)] := hl
  have L4 : ∀ (n : Nat) (x1 : Int32) (x2 : Int32) (S : RS) (H : Heap) (locs : List Loc), va_P D vwCl (rwl Z a S) H → va_D A (rwl Z a S) → va_S A s.heap H locs → ∀ ls : Array Slot, lv_has ls 3 [(0, .ref (a 0)), (1, .int x1), (2, .int x2)] → f_X0_letBoard_L4 n x1 x2 S = some S' → W p l e rm_X0_letBoard s m ([.ref (a 0), .int p1] : List Value).toArray below meth c H locs 0 0 (MQ below (zMv D A (rwl Z a S')) ([.ref (a 0), .int p1] : List Value).toArray s 0 0 A) (F0 m 4 ls []) := by
    intro n
    induction n with
    | zero =>
      intro x1 x2 S H locs hP hD hS ls hl hf
      exact no_r hf
    | succ n ih =>
      intro x1 x2 S H locs hP hD hS ls hl hf
      rw [f_X0_letBoard_L4] at hf
      refine lv_iload_n hx hb dX0_letBoard_4 rfl (lv_at hl 2 rfl) ?_
      refine lv_iload_n hx hb dX0_letBoard_5 rfl (lv_at hl 1 rfl) ?_
      refine lv_iconst (v := 1) hx hb dX0_letBoard_6 (by decide) ?_
      refine lv_iadd hx hb dX0_letBoard_7 ?_
      refine lv_iconst (v := 3) hx hb dX0_letBoard_8 (by decide) ?_
      refine lv_imul hx hb dX0_letBoard_9 ?_
      refine lv_icmp_ge (tgt := 49) hx hb dX0_letBoard_10 (by decide) (fun c1 => ?_) (fun c1 => ?_)
      · have hf := if_t hf c1
        exact zw_v hx hb hr hlk hP hD hS (congrArg (fun z => ((rwl Z a z) : va_W)) (Option.some.inj hf)) (Nat.le_of_ble_eq_true rfl) (Nat.le_of_ble_eq_true rfl) dX0_letBoard_49
      · have hf := if_f hf c1
        refine lv_aload_n hx hb dX0_letBoard_13 rfl (lv_at hl 0 rfl) ?_
        refine lv_iload_n hx hb dX0_letBoard_14 rfl (lv_at hl 1 rfl) ?_
        obtain ⟨v3, hv2, hf⟩ := ob_some hf
        refine zc_i (z_VD (As := [.int x1]) (rest := []) (q0 := 0) (ci := 0) ⟨hx, hb, hml, hown, hts⟩ (m_X0_waitingAt l D Z a S x1 v3 hv2) gX0_letBoard_X0_waitingAt rfl rfl rfl hdv_X0_waitingAt ⟨Nat.le_of_ble_eq_true rfl, Nat.le_of_ble_eq_true rfl⟩ hK hP hD rfl rfl rfl rfl hl.1 rfl (Nat.le_of_ble_eq_true rfl) dX0_letBoard_15 ⟨Nat.le_of_ble_eq_true rfl, Nat.le_of_ble_eq_true rfl⟩) hP hS hA (fun H locs hP hS => ?_)
        refine lv_if_le (tgt := 43) hx hb dX0_letBoard_18 (by decide) (fun c4 => ?_) (fun c4 => ?_)
        · have hf := if_t hf c4
          refine lv_iinc (v := (x2 + 1)) (lv' := [(2, .int (x2 + 1)), (0, .ref (a 0)), (1, .int x1)]) hx hb dX0_letBoard_43 hl (k := 2) rfl rfl (by decide) rfl (fun ls hl => ?_)
          refine lv_goto (tgt := 4) hx hb dX0_letBoard_46 (by decide) ?_
          exact ih x1 (x2 + 1) S _ _ hP hD hS ls (lv_sub hl [1, 2, 0] rfl) hf
        · have hf := if_f hf c4
          refine lv_aload_n hx hb dX0_letBoard_21 rfl (lv_at hl 0 rfl) ?_
          refine lv_iload_n hx hb dX0_letBoard_22 rfl (lv_at hl 2 rfl) ?_
          obtain ⟨v6, hv5, hf⟩ := ob_some hf
          refine zc_i (z_VD (As := [.int x2]) (rest := []) (q0 := 0) (ci := 0) ⟨hx, hb, hml, hown, hts⟩ (m_X0_berthHolds l D Z a S x2 v6 hv5) gX0_letBoard_X0_berthHolds rfl rfl rfl hdv_X0_berthHolds ⟨Nat.le_of_ble_eq_true rfl, Nat.le_of_ble_eq_true rfl⟩ hK hP hD rfl rfl rfl rfl hl.1 rfl (Nat.le_of_ble_eq_true rfl) dX0_letBoard_23 ⟨Nat.le_of_ble_eq_true rfl, Nat.le_of_ble_eq_true rfl⟩) hP hS hA (fun H locs hP hS => ?_)
          refine lv_iconst (v := 1) hx hb dX0_letBoard_26 (by decide) ?_
          refine lv_icmp_ne (tgt := 43) hx hb dX0_letBoard_27 (by decide) (fun c7 => ?_) (fun c7 => ?_)
          · have hf := if_f hf c7
            refine lv_iinc (v := (x2 + 1)) (lv' := [(2, .int (x2 + 1)), (0, .ref (a 0)), (1, .int x1)]) hx hb dX0_letBoard_43 hl (k := 2) rfl rfl (by decide) rfl (fun ls hl => ?_)
            refine lv_goto (tgt := 4) hx hb dX0_letBoard_46 (by decide) ?_
            exact ih x1 (x2 + 1) S _ _ hP hD hS ls (lv_sub hl [1, 2, 0] rfl) hf
          · have hf := if_t hf c7
            refine lv_aload_n hx hb dX0_letBoard_30 rfl (lv_at hl 0 rfl) ?_
            refine lv_iload_n hx hb dX0_letBoard_31 rfl (lv_at hl 1 rfl) ?_
            refine lv_aload_n hx hb dX0_letBoard_32 rfl (lv_at hl 0 rfl) ?_
            refine va_get (D := D) (ci := 0) (v := .ref (a 2)) (C := RX0) (T := TX0) (N := 17) hx hb hts hin hown hK hP 0 rfl rfl 7 (by decide) (hts (.fieldLink RX0 19 "PodGuideway$Ring" "podInBerth" "[I") (List.mem_of_getElem? (i := 1) rfl)) (fun _ h9 => h9) rfl dX0_letBoard_33 ?_
            refine lv_iload_n hx hb dX0_letBoard_36 rfl (lv_at hl 2 rfl) ?_
            obtain ⟨v9, hv8, hf⟩ := ob_some hf
            refine zc_i (z_SD (As := [.ref (a 2), .int x2]) (rest := [.int x1, .ref (a 0)]) ⟨hx, hb, hml, hown, hts⟩ (m_X0_read l D Z (a 2) 18 (S.2 1) x2 v9 hv8) gX0_letBoard_X0_read rfl rfl rfl hds_X0_read ⟨Nat.le_of_ble_eq_true rfl, Nat.le_of_ble_eq_true rfl⟩ hK (hP.sub (ws' := [((a 2), .inl (Z 0, 18, .inl (S.2 1)))]) [2] rfl) (hD.sub (ws' := [((a 2), .inl (Z 0, 18, .inl (S.2 1)))]) [2] (by decide) rfl) rfl hl.1 rfl (Nat.le_of_ble_eq_true rfl) dX0_letBoard_37 ⟨Nat.le_of_ble_eq_true rfl, Nat.le_of_ble_eq_true rfl⟩) hP hS hA (fun H locs hP hS => ?_)
            obtain ⟨S11, hv10, hf⟩ := ob_some hf
            refine zc_mv0 (z_VD (As := [.int x1, .int v9]) (rest := []) (q0 := 0) (ci := 0) ⟨hx, hb, hml, hown, hts⟩ (m_X0_boardFirst l D Z a S x1 v9 S11 hv10) gX0_letBoard_X0_boardFirst rfl rfl rfl hdv_X0_boardFirst ⟨Nat.le_of_ble_eq_true rfl, Nat.le_of_ble_eq_true rfl⟩ hK hP hD rfl rfl rfl rfl hl.1 rfl (Nat.le_of_ble_eq_true rfl) dX0_letBoard_40 ⟨Nat.le_of_ble_eq_true rfl, Nat.le_of_ble_eq_true rfl⟩) hD hS hA (fun H locs hP hD hS => ?_)
            refine lv_iinc (v := (x2 + 1)) (lv' := [(2, .int (x2 + 1)), (0, .ref (a 0)), (1, .int x1)]) hx hb dX0_letBoard_43 hl (k := 2) rfl rfl (by decide) rfl (fun ls hl => ?_)
            refine lv_goto (tgt := 4) hx hb dX0_letBoard_46 (by decide) ?_
            exact ih x1 (x2 + 1) S11 _ _ hP hD hS ls (lv_sub hl [1, 2, 0] rfl) hf
  unfold f_X0_letBoard at hf
  refine lv_iload_n hx hb dX0_letBoard_0 rfl (lv_at hl 1 rfl) ?_
  refine lv_iconst (v := 3) hx hb dX0_letBoard_1 (by decide) ?_
  refine lv_imul hx hb dX0_letBoard_2 ?_
  refine lv_istore_n (lv' := [(2, .int (p1 * 3)), (0, .ref (a 0)), (1, .int p1)]) hx hb dX0_letBoard_3 rfl hl (by decide) rfl (fun ls hl => ?_)
  exact L4 FU p1 (p1 * 3) S _ _ hP hD hS ls (lv_sub hl [1, 2, 0] rfl) hf
def f_X0_letCall  (S : RS) (p1 : Int32) : Option (RS) :=
  ob (f_X0_waitingAt S p1) fun v2 =>
  ob (f_X0_emptyPodsTo S p1) fun v4 =>
  if v4 < v2 then
    ob (f_X0_stationThatAnswers S p1) fun v7 =>
    if v7 = (-1) then
      some S
    else
      ob (f_X0_firstBerth S v7 1) fun v10 =>
      ob (f_X0_read 18 (S.2 1) v10) fun v12 =>
      ob (f_X0_setGoal S v12 p1) fun S14 =>
      lt (sI S14 4 ((S14.1 4) + 1)) fun (S15 : RS) =>
      some S15
  else
    some S
abbrev rm_X0_letCall : Room := { frames := 4, cells := 0, slots := 0, locals := 91 }
theorem hdv_X0_letCall : yX0_letCall.cls = RX0 ∧ yX0_letCall.cls ≠ "java/lang/invoke/MethodHandle" ∧ yX0_letCall.cls ≠ "java/lang/invoke/VarHandle" ∧ (parseMethodDescriptor yX0_letCall.desc).map (fun d => d.parameters.length) = some 1 := by decide +kernel
set_option maxHeartbeats 4000000 in
set_option maxRecDepth 100000 in
theorem m_X0_letCall (l : Launch) (D : va_G) (Z : Nat → ClassId) (a : Nat → Nat) (S : RS) (p1 : Int32) (S' : RS) (hf : f_X0_letCall S p1 = some S') : RWv l yX0_letCall wsX0_letCall rm_X0_letCall D Z [.ref (a 0), .int p1] (rwl Z a S) (rwl Z a S') 0 0 := by
  refine RWv.of (cc := cX0_letCall) (nL := 4) (ret := none) (by decide +kernel) rfl (Nat.le_of_ble_eq_true rfl) ?_
  intro p e s m below meth c A hC hA hP hK hD hS ls hl
  obtain ⟨hx, hb, hr, hml, hown, hts, hlk, -⟩ := hC
  have hown : s.vm.findClass RX0 = some m.cls := hown
  have hin : ∀ w ∈ wsX00, w ∈ wsX0_letCall := fun w h => List.mem_cons_of_mem _ (List.mem_append_right _ h)
  have hl : lv_has ls 4 [(0, .ref (a 0)), (1, .int p1)] := hl
  unfold f_X0_letCall at hf
  refine lv_aload_n hx hb dX0_letCall_0 rfl (lv_at hl 0 rfl) ?_
  refine lv_iload_n hx hb dX0_letCall_1 rfl (lv_at hl 1 rfl) ?_
  obtain ⟨v2, hv1, hf⟩ := ob_some hf
  refine zc_i (z_VD (As := [.int p1]) (rest := []) (q0 := 0) (ci := 0) ⟨hx, hb, hml, hown, hts⟩ (m_X0_waitingAt l D Z a S p1 v2 hv1) gX0_letCall_X0_waitingAt rfl rfl rfl hdv_X0_waitingAt ⟨Nat.le_of_ble_eq_true rfl, Nat.le_of_ble_eq_true rfl⟩ hK hP hD rfl rfl rfl rfl hl.1 rfl (Nat.le_of_ble_eq_true rfl) dX0_letCall_2 ⟨Nat.le_of_ble_eq_true rfl, Nat.le_of_ble_eq_true rfl⟩) hP hS hA (fun H locs hP hS => ?_)
  refine lv_aload_n hx hb dX0_letCall_5 rfl (lv_at hl 0 rfl) ?_
  refine lv_iload_n hx hb dX0_letCall_6 rfl (lv_at hl 1 rfl) ?_
  obtain ⟨v4, hv3, hf⟩ := ob_some hf
  refine zc_i (z_VD (As := [.int p1]) (rest := [.int v2]) (q0 := 0) (ci := 0) ⟨hx, hb, hml, hown, hts⟩ (m_X0_emptyPodsTo l D Z a S p1 v4 hv3) gX0_letCall_X0_emptyPodsTo rfl rfl rfl hdv_X0_emptyPodsTo ⟨Nat.le_of_ble_eq_true rfl, Nat.le_of_ble_eq_true rfl⟩ hK hP hD rfl rfl rfl rfl hl.1 rfl (Nat.le_of_ble_eq_true rfl) dX0_letCall_7 ⟨Nat.le_of_ble_eq_true rfl, Nat.le_of_ble_eq_true rfl⟩) hP hS hA (fun H locs hP hS => ?_)
  refine lv_icmp_gt (tgt := 14) hx hb dX0_letCall_10 (by decide) (fun c5 => ?_) (fun c5 => ?_)
  · have hf := if_t hf c5
    refine lv_aload_n hx hb dX0_letCall_14 rfl (lv_at hl 0 rfl) ?_
    refine lv_iload_n hx hb dX0_letCall_15 rfl (lv_at hl 1 rfl) ?_
    obtain ⟨v7, hv6, hf⟩ := ob_some hf
    refine zc_i (z_VD (As := [.int p1]) (rest := []) (q0 := 0) (ci := 0) ⟨hx, hb, hml, hown, hts⟩ (m_X0_stationThatAnswers l D Z a S p1 v7 hv6) gX0_letCall_X0_stationThatAnswers rfl rfl rfl hdv_X0_stationThatAnswers ⟨Nat.le_of_ble_eq_true rfl, Nat.le_of_ble_eq_true rfl⟩ hK hP hD rfl rfl rfl rfl hl.1 rfl (Nat.le_of_ble_eq_true rfl) dX0_letCall_16 ⟨Nat.le_of_ble_eq_true rfl, Nat.le_of_ble_eq_true rfl⟩) hP hS hA (fun H locs hP hS => ?_)
    refine lv_istore_n (lv' := [(2, .int v7), (0, .ref (a 0)), (1, .int p1)]) hx hb dX0_letCall_19 rfl hl (by decide) rfl (fun ls hl => ?_)
    refine lv_iload_n hx hb dX0_letCall_20 rfl (lv_at hl 0 rfl) ?_
    refine lv_iconst (v := (-1)) hx hb dX0_letCall_21 (by decide) ?_
    refine lv_icmp_ne (tgt := 26) hx hb dX0_letCall_22 (by decide) (fun c8 => ?_) (fun c8 => ?_)
    · have hf := if_f hf c8
      refine lv_aload_n hx hb dX0_letCall_26 rfl (lv_at hl 1 rfl) ?_
      refine va_get (D := D) (ci := 0) (v := .ref (a 2)) (C := RX0) (T := TX0) (N := 17) hx hb hts hin hown hK hP 0 rfl rfl 7 (by decide) (hts (.fieldLink RX0 19 "PodGuideway$Ring" "podInBerth" "[I") (List.mem_of_getElem? (i := 1) rfl)) (fun _ h9 => h9) rfl dX0_letCall_27 ?_
      refine lv_aload_n hx hb dX0_letCall_30 rfl (lv_at hl 1 rfl) ?_
      refine lv_iload_n hx hb dX0_letCall_31 rfl (lv_at hl 0 rfl) ?_
      refine lv_iconst (v := 1) hx hb dX0_letCall_32 (by decide) ?_
      obtain ⟨v10, hv9, hf⟩ := ob_some hf
      refine zc_i (z_VD (As := [.int v7, .int 1]) (rest := [.ref (a 2)]) (q0 := 0) (ci := 0) ⟨hx, hb, hml, hown, hts⟩ (m_X0_firstBerth l D Z a S v7 1 v10 hv9) gX0_letCall_X0_firstBerth rfl rfl rfl hdv_X0_firstBerth ⟨Nat.le_of_ble_eq_true rfl, Nat.le_of_ble_eq_true rfl⟩ hK hP hD rfl rfl rfl rfl hl.1 rfl (Nat.le_of_ble_eq_true rfl) dX0_letCall_33 ⟨Nat.le_of_ble_eq_true rfl, Nat.le_of_ble_eq_true rfl⟩) hP hS hA (fun H locs hP hS => ?_)
      obtain ⟨v12, hv11, hf⟩ := ob_some hf
      refine zc_i (z_SD (As := [.ref (a 2), .int v10]) (rest := []) ⟨hx, hb, hml, hown, hts⟩ (m_X0_read l D Z (a 2) 18 (S.2 1) v10 v12 hv11) gX0_letCall_X0_read rfl rfl rfl hds_X0_read ⟨Nat.le_of_ble_eq_true rfl, Nat.le_of_ble_eq_true rfl⟩ hK (hP.sub (ws' := [((a 2), .inl (Z 0, 18, .inl (S.2 1)))]) [2] rfl) (hD.sub (ws' := [((a 2), .inl (Z 0, 18, .inl (S.2 1)))]) [2] (by decide) rfl) rfl hl.1 rfl (Nat.le_of_ble_eq_true rfl) dX0_letCall_36 ⟨Nat.le_of_ble_eq_true rfl, Nat.le_of_ble_eq_true rfl⟩) hP hS hA (fun H locs hP hS => ?_)
      refine lv_istore_n (lv' := [(3, .int v12), (2, .int v7), (0, .ref (a 0)), (1, .int p1)]) hx hb dX0_letCall_39 rfl hl (by decide) rfl (fun ls hl => ?_)
      refine lv_aload_n hx hb dX0_letCall_40 rfl (lv_at hl 2 rfl) ?_
      refine lv_iload_n hx hb dX0_letCall_41 rfl (lv_at hl 0 rfl) ?_
      refine lv_iload_n hx hb dX0_letCall_42 rfl (lv_at hl 3 rfl) ?_
      obtain ⟨S14, hv13, hf⟩ := ob_some hf
      refine zc_mv0 (z_VD (As := [.int v12, .int p1]) (rest := []) (q0 := 0) (ci := 0) ⟨hx, hb, hml, hown, hts⟩ (m_X0_setGoal l D Z a S v12 p1 S14 hv13) gX0_letCall_X0_setGoal rfl rfl rfl hdv_X0_setGoal ⟨Nat.le_of_ble_eq_true rfl, Nat.le_of_ble_eq_true rfl⟩ hK hP hD rfl rfl rfl rfl hl.1 rfl (Nat.le_of_ble_eq_true rfl) dX0_letCall_43 ⟨Nat.le_of_ble_eq_true rfl, Nat.le_of_ble_eq_true rfl⟩) hD hS hA (fun H locs hP hD hS => ?_)
      refine lv_aload_n hx hb dX0_letCall_46 rfl (lv_at hl 2 rfl) ?_
      refine lv_dup hx hb dX0_letCall_47 rfl ?_
      refine va_get (D := D) (ci := 0) (v := .int (S14.1 4)) (C := RX0) (T := TX0) (N := 17) hx hb hts hin hown hK hP 0 rfl rfl 4 (by decide) (hts (.fieldLink RX0 62 "PodGuideway$Ring" "callsAnswered" "I") (List.mem_of_getElem? (i := 2) rfl)) (fun _ h9 => h9) rfl dX0_letCall_48 ?_
      refine lv_iconst (v := 1) hx hb dX0_letCall_51 (by decide) ?_
      refine lv_iadd hx hb dX0_letCall_52 ?_
      refine va_put (D := D) (ci := 0) (v := .int ((S14.1 4) + 1)) (ty := .int) (C := RX0) (T := TX0) (N := 17) hx hb hts hin tyX0 tyX0_ok nmX0 hown hK hP hD hS 0 rfl rfl 4 (by decide) (hts (.fieldLink RX0 62 "PodGuideway$Ring" "callsAnswered" "I") (List.mem_of_getElem? (i := 2) rfl)) (fun _ h9 => h9) rfl (by decide +kernel) rfl rfl (Nat.le_of_ble_eq_true rfl) dX0_letCall_53 (fun H locs hP hD hS => ?_)
      obtain ⟨S15, eS15, hf⟩ := lt_ex hf
      have hP : va_P D vwCl (rwl Z a S15) H := by rw [eS15]; exact hP
      have hD : va_D A (rwl Z a S15) := by rw [eS15]; exact hD
      exact zw_v hx hb hr hlk hP hD hS (congrArg (fun z => ((rwl Z a z) : va_W)) (Option.some.inj hf)) (Nat.le_of_ble_eq_true rfl) (Nat.le_of_ble_eq_true rfl) dX0_letCall_56
    · have hf := if_t hf c8
      exact zw_v hx hb hr hlk hP hD hS (congrArg (fun z => ((rwl Z a z) : va_W)) (Option.some.inj hf)) (Nat.le_of_ble_eq_true rfl) (Nat.le_of_ble_eq_true rfl) dX0_letCall_25
  · have hf := if_f hf c5
    exact zw_v hx hb hr hlk hP hD hS (congrArg (fun z => ((rwl Z a z) : va_W)) (Option.some.inj hf)) (Nat.le_of_ble_eq_true rfl) (Nat.le_of_ble_eq_true rfl) dX0_letCall_13
def f_X0_letMerge  (S : RS) (p1 : Int32) : Option (RS) :=
  ob (f_X0_placeOf S p1) fun v2 =>
  ob (f_X0_firstBerth S p1 2) fun v4 =>
  if v4 = (-1) then
    some S
  else
    ob (f_X0_podAtPlace S v2) fun v7 =>
    if v7 = (-1) then
      ob (f_X0_read 18 (S.2 1) v4) fun v10 =>
      ob (f_X0_write 24 (S.2 0) v2 v10) fun f12 =>
      lt (sR S 0 f12) fun (S13 : RS) =>
      ob (f_X0_write 18 (S13.2 1) v4 (-1)) fun f15 =>
      lt (sR S13 1 f15) fun (S16 : RS) =>
      some S16
    else
      some S
abbrev rm_X0_letMerge : Room := { frames := 3, cells := 0, slots := 0, locals := 66 }
theorem hdv_X0_letMerge : yX0_letMerge.cls = RX0 ∧ yX0_letMerge.cls ≠ "java/lang/invoke/MethodHandle" ∧ yX0_letMerge.cls ≠ "java/lang/invoke/VarHandle" ∧ (parseMethodDescriptor yX0_letMerge.desc).map (fun d => d.parameters.length) = some 1 := by decide +kernel
set_option maxHeartbeats 4000000 in
set_option maxRecDepth 100000 in
theorem m_X0_letMerge (l : Launch) (D : va_G) (Z : Nat → ClassId) (a : Nat → Nat) (S : RS) (p1 : Int32) (S' : RS) (hf : f_X0_letMerge S p1 = some S') : RWv l yX0_letMerge wsX0_letMerge rm_X0_letMerge D Z [.ref (a 0), .int p1] (rwl Z a S) (rwl Z a S') 0 0 := by
  refine RWv.of (cc := cX0_letMerge) (nL := 4) (ret := none) (by decide +kernel) rfl (Nat.le_of_ble_eq_true rfl) ?_
  intro p e s m below meth c A hC hA hP hK hD hS ls hl
  obtain ⟨hx, hb, hr, hml, hown, hts, hlk, -⟩ := hC
  have hown : s.vm.findClass RX0 = some m.cls := hown
  have hin : ∀ w ∈ wsX00, w ∈ wsX0_letMerge := fun w h => List.mem_cons_of_mem _ (List.mem_append_right _ h)
  have hl : lv_has ls 4 [(0, .ref (a 0)), (1, .int p1)] := hl
  unfold f_X0_letMerge at hf
  refine lv_aload_n hx hb dX0_letMerge_0 rfl (lv_at hl 0 rfl) ?_
  refine lv_iload_n hx hb dX0_letMerge_1 rfl (lv_at hl 1 rfl) ?_
  obtain ⟨v2, hv1, hf⟩ := ob_some hf
  refine zc_i (z_VD (As := [.int p1]) (rest := []) (q0 := 0) (ci := 0) ⟨hx, hb, hml, hown, hts⟩ (m_X0_placeOf l D Z a S p1 v2 hv1) gX0_letMerge_X0_placeOf rfl rfl rfl hdv_X0_placeOf ⟨Nat.le_of_ble_eq_true rfl, Nat.le_of_ble_eq_true rfl⟩ hK hP hD rfl rfl rfl rfl hl.1 rfl (Nat.le_of_ble_eq_true rfl) dX0_letMerge_2 ⟨Nat.le_of_ble_eq_true rfl, Nat.le_of_ble_eq_true rfl⟩) hP hS hA (fun H locs hP hS => ?_)
  refine lv_istore_n (lv' := [(2, .int v2), (0, .ref (a 0)), (1, .int p1)]) hx hb dX0_letMerge_5 rfl hl (by decide) rfl (fun ls hl => ?_)
  refine lv_aload_n hx hb dX0_letMerge_6 rfl (lv_at hl 1 rfl) ?_
  refine lv_iload_n hx hb dX0_letMerge_7 rfl (lv_at hl 2 rfl) ?_
  refine lv_iconst (v := 2) hx hb dX0_letMerge_8 (by decide) ?_
  obtain ⟨v4, hv3, hf⟩ := ob_some hf
  refine zc_i (z_VD (As := [.int p1, .int 2]) (rest := []) (q0 := 0) (ci := 0) ⟨hx, hb, hml, hown, hts⟩ (m_X0_firstBerth l D Z a S p1 2 v4 hv3) gX0_letMerge_X0_firstBerth rfl rfl rfl hdv_X0_firstBerth ⟨Nat.le_of_ble_eq_true rfl, Nat.le_of_ble_eq_true rfl⟩ hK hP hD rfl rfl rfl rfl hl.1 rfl (Nat.le_of_ble_eq_true rfl) dX0_letMerge_9 ⟨Nat.le_of_ble_eq_true rfl, Nat.le_of_ble_eq_true rfl⟩) hP hS hA (fun H locs hP hS => ?_)
  refine lv_istore_n (lv' := [(3, .int v4), (2, .int v2), (0, .ref (a 0)), (1, .int p1)]) hx hb dX0_letMerge_12 rfl hl (by decide) rfl (fun ls hl => ?_)
  refine lv_iload_n hx hb dX0_letMerge_13 rfl (lv_at hl 0 rfl) ?_
  refine lv_iconst (v := (-1)) hx hb dX0_letMerge_14 (by decide) ?_
  refine lv_icmp_eq (tgt := 27) hx hb dX0_letMerge_15 (by decide) (fun c5 => ?_) (fun c5 => ?_)
  · have hf := if_t hf c5
    exact zw_v hx hb hr hlk hP hD hS (congrArg (fun z => ((rwl Z a z) : va_W)) (Option.some.inj hf)) (Nat.le_of_ble_eq_true rfl) (Nat.le_of_ble_eq_true rfl) dX0_letMerge_27
  · have hf := if_f hf c5
    refine lv_aload_n hx hb dX0_letMerge_18 rfl (lv_at hl 2 rfl) ?_
    refine lv_iload_n hx hb dX0_letMerge_19 rfl (lv_at hl 1 rfl) ?_
    obtain ⟨v7, hv6, hf⟩ := ob_some hf
    refine zc_i (z_VD (As := [.int v2]) (rest := []) (q0 := 0) (ci := 0) ⟨hx, hb, hml, hown, hts⟩ (m_X0_podAtPlace l D Z a S v2 v7 hv6) gX0_letMerge_X0_podAtPlace rfl rfl rfl hdv_X0_podAtPlace ⟨Nat.le_of_ble_eq_true rfl, Nat.le_of_ble_eq_true rfl⟩ hK hP hD rfl rfl rfl rfl hl.1 rfl (Nat.le_of_ble_eq_true rfl) dX0_letMerge_20 ⟨Nat.le_of_ble_eq_true rfl, Nat.le_of_ble_eq_true rfl⟩) hP hS hA (fun H locs hP hS => ?_)
    refine lv_iconst (v := (-1)) hx hb dX0_letMerge_23 (by decide) ?_
    refine lv_icmp_eq (tgt := 28) hx hb dX0_letMerge_24 (by decide) (fun c8 => ?_) (fun c8 => ?_)
    · have hf := if_t hf c8
      refine lv_aload_n hx hb dX0_letMerge_28 rfl (lv_at hl 2 rfl) ?_
      refine va_get (D := D) (ci := 0) (v := .ref (a 1)) (C := RX0) (T := TX0) (N := 17) hx hb hts hin hown hK hP 0 rfl rfl 6 (by decide) (hts (.fieldLink RX0 15 "PodGuideway$Ring" "podInSlot" "[I") (List.mem_of_getElem? (i := 1) rfl)) (fun _ h9 => h9) rfl dX0_letMerge_29 ?_
      refine lv_iload_n hx hb dX0_letMerge_32 rfl (lv_at hl 1 rfl) ?_
      refine lv_aload_n hx hb dX0_letMerge_33 rfl (lv_at hl 2 rfl) ?_
      refine va_get (D := D) (ci := 0) (v := .ref (a 2)) (C := RX0) (T := TX0) (N := 17) hx hb hts hin hown hK hP 0 rfl rfl 7 (by decide) (hts (.fieldLink RX0 19 "PodGuideway$Ring" "podInBerth" "[I") (List.mem_of_getElem? (i := 2) rfl)) (fun _ h9 => h9) rfl dX0_letMerge_34 ?_
      refine lv_iload_n hx hb dX0_letMerge_37 rfl (lv_at hl 0 rfl) ?_
      obtain ⟨v10, hv9, hf⟩ := ob_some hf
      refine zc_i (z_SD (As := [.ref (a 2), .int v4]) (rest := [.int v2, .ref (a 1)]) ⟨hx, hb, hml, hown, hts⟩ (m_X0_read l D Z (a 2) 18 (S.2 1) v4 v10 hv9) gX0_letMerge_X0_read rfl rfl rfl hds_X0_read ⟨Nat.le_of_ble_eq_true rfl, Nat.le_of_ble_eq_true rfl⟩ hK (hP.sub (ws' := [((a 2), .inl (Z 0, 18, .inl (S.2 1)))]) [2] rfl) (hD.sub (ws' := [((a 2), .inl (Z 0, 18, .inl (S.2 1)))]) [2] (by decide) rfl) rfl hl.1 rfl (Nat.le_of_ble_eq_true rfl) dX0_letMerge_38 ⟨Nat.le_of_ble_eq_true rfl, Nat.le_of_ble_eq_true rfl⟩) hP hS hA (fun H locs hP hS => ?_)
      obtain ⟨f12, hv11, hf⟩ := ob_some hf
      refine zc_mv1 (k := 1) (e1 := .inl (Z 0, 24, .inl f12)) rfl (z_SD (As := [.ref (a 1), .int v2, .int v10]) (rest := []) ⟨hx, hb, hml, hown, hts⟩ (m_X0_write l D Z (a 1) 24 (S.2 0) v2 v10 f12 hv11) gX0_letMerge_X0_write rfl rfl rfl hds_X0_write ⟨Nat.le_of_ble_eq_true rfl, Nat.le_of_ble_eq_true rfl⟩ hK (hP.sub (ws' := [((a 1), .inl (Z 0, 24, .inl (S.2 0)))]) [1] rfl) (hD.sub (ws' := [((a 1), .inl (Z 0, 24, .inl (S.2 0)))]) [1] (by decide) rfl) rfl hl.1 rfl (Nat.le_of_ble_eq_true rfl) dX0_letMerge_41 ⟨Nat.le_of_ble_eq_true rfl, Nat.le_of_ble_eq_true rfl⟩) hP hD hS hA (fun H locs hP hD hS => ?_)
      obtain ⟨S13, eS13, hf⟩ := lt_ex hf
      have hP : va_P D vwCl (rwl Z a S13) H := by rw [eS13]; exact hP
      have hD : va_D A (rwl Z a S13) := by rw [eS13]; exact hD
      refine lv_aload_n hx hb dX0_letMerge_44 rfl (lv_at hl 2 rfl) ?_
      refine va_get (D := D) (ci := 0) (v := .ref (a 2)) (C := RX0) (T := TX0) (N := 17) hx hb hts hin hown hK hP 0 rfl rfl 7 (by decide) (hts (.fieldLink RX0 19 "PodGuideway$Ring" "podInBerth" "[I") (List.mem_of_getElem? (i := 2) rfl)) (fun _ h9 => h9) rfl dX0_letMerge_45 ?_
      refine lv_iload_n hx hb dX0_letMerge_48 rfl (lv_at hl 0 rfl) ?_
      refine lv_iconst (v := (-1)) hx hb dX0_letMerge_49 (by decide) ?_
      obtain ⟨f15, hv14, hf⟩ := ob_some hf
      refine zc_mv1 (k := 2) (e1 := .inl (Z 0, 18, .inl f15)) rfl (z_SD (As := [.ref (a 2), .int v4, .int (-1)]) (rest := []) ⟨hx, hb, hml, hown, hts⟩ (m_X0_write l D Z (a 2) 18 (S13.2 1) v4 (-1) f15 hv14) gX0_letMerge_X0_write rfl rfl rfl hds_X0_write ⟨Nat.le_of_ble_eq_true rfl, Nat.le_of_ble_eq_true rfl⟩ hK (hP.sub (ws' := [((a 2), .inl (Z 0, 18, .inl (S13.2 1)))]) [2] rfl) (hD.sub (ws' := [((a 2), .inl (Z 0, 18, .inl (S13.2 1)))]) [2] (by decide) rfl) rfl hl.1 rfl (Nat.le_of_ble_eq_true rfl) dX0_letMerge_50 ⟨Nat.le_of_ble_eq_true rfl, Nat.le_of_ble_eq_true rfl⟩) hP hD hS hA (fun H locs hP hD hS => ?_)
      obtain ⟨S16, eS16, hf⟩ := lt_ex hf
      have hP : va_P D vwCl (rwl Z a S16) H := by rw [eS16]; exact hP
      have hD : va_D A (rwl Z a S16) := by rw [eS16]; exact hD
      exact zw_v hx hb hr hlk hP hD hS (congrArg (fun z => ((rwl Z a z) : va_W)) (Option.some.inj hf)) (Nat.le_of_ble_eq_true rfl) (Nat.le_of_ble_eq_true rfl) dX0_letMerge_53
    · have hf := if_f hf c8
      exact zw_v hx hb hr hlk hP hD hS (congrArg (fun z => ((rwl Z a z) : va_W)) (Option.some.inj hf)) (Nat.le_of_ble_eq_true rfl) (Nat.le_of_ble_eq_true rfl) dX0_letMerge_27
def f_X0_passMinute_L69   : Nat → Int32 → RS → Option (RS)
  | 0, _, _ => none
  | n + 1, x1, S =>
    if (S.1 1) ≤ x1 then
      lt (sI S 0 ((S.1 0) + 1)) fun (S7 : RS) =>
      some S7
    else
      ob (f_X0_letMerge S x1) fun S9 =>
      f_X0_passMinute_L69 n (x1 + 1) S9
def f_X0_passMinute_L48   : Nat → Int32 → RS → Option (RS)
  | 0, _, _ => none
  | n + 1, x1, S =>
    if (S.1 1) ≤ x1 then
      f_X0_passMinute_L69 FU 0 S
    else
      ob (f_X0_letCall S x1) fun S11 =>
      f_X0_passMinute_L48 n (x1 + 1) S11
def f_X0_passMinute_L27   : Nat → Int32 → RS → Option (RS)
  | 0, _, _ => none
  | n + 1, x1, S =>
    if (S.1 1) ≤ x1 then
      f_X0_passMinute_L48 FU 0 S
    else
      ob (f_X0_letBoard S x1) fun S13 =>
      f_X0_passMinute_L27 n (x1 + 1) S13
def f_X0_passMinute_L6   : Nat → Int32 → RS → Option (RS)
  | 0, _, _ => none
  | n + 1, x1, S =>
    if (S.1 1) ≤ x1 then
      f_X0_passMinute_L27 FU 0 S
    else
      ob (f_X0_letGoOff S x1) fun S15 =>
      f_X0_passMinute_L6 n (x1 + 1) S15
def f_X0_passMinute  (S : RS)  : Option (RS) :=
  ob (f_X0_moveSlots S) fun S2 =>
  f_X0_passMinute_L6 FU 0 S2
abbrev rm_X0_passMinute : Room := { frames := 5, cells := 0, slots := 0, locals := 114 }
theorem hdv_X0_passMinute : yX0_passMinute.cls = RX0 ∧ yX0_passMinute.cls ≠ "java/lang/invoke/MethodHandle" ∧ yX0_passMinute.cls ≠ "java/lang/invoke/VarHandle" ∧ (parseMethodDescriptor yX0_passMinute.desc).map (fun d => d.parameters.length) = some 0 := by decide +kernel
set_option maxHeartbeats 4000000 in
set_option maxRecDepth 100000 in
theorem m_X0_passMinute (l : Launch) (D : va_G) (Z : Nat → ClassId) (a : Nat → Nat) (S : RS)  (S' : RS) (hf : f_X0_passMinute S = some S') : RWv l yX0_passMinute wsX0_passMinute rm_X0_passMinute D Z [.ref (a 0)] (rwl Z a S) (rwl Z a S') 0 0 := by
  refine RWv.of (cc := cX0_passMinute) (nL := 2) (ret := none) (by decide +kernel) rfl (Nat.le_of_ble_eq_true rfl) ?_
  intro p e s m below meth c A hC hA hP hK hD hS ls hl
  obtain ⟨hx, hb, hr, hml, hown, hts, hlk, -⟩ := hC
  have hown : s.vm.findClass RX0 = some m.cls := hown
  have hin : ∀ w ∈ wsX00, w ∈ wsX0_passMinute := fun w h => List.mem_cons_of_mem _ (List.mem_append_right _ h)
  have hl : lv_has ls 2 [(0, .ref (a 0))] := hl
  have L69 : ∀ (n : Nat) (x1 : Int32) (S : RS) (H : Heap) (locs : List Loc), va_P D vwCl (rwl Z a S) H → va_D A (rwl Z a S) → va_S A s.heap H locs → ∀ ls : Array Slot, lv_has ls 2 [(0, .ref (a 0)), (1, .int x1)] → f_X0_passMinute_L69 n x1 S = some S' → W p l e rm_X0_passMinute s m ([.ref (a 0)] : List Value).toArray below meth c H locs 0 0 (MQ below (zMv D A (rwl Z a S')) ([.ref (a 0)] : List Value).toArray s 0 0 A) (F0 m 69 ls []) := by
    intro n
    induction n with
    | zero =>
      intro x1 S H locs hP hD hS ls hl hf
      exact no_r hf
    | succ n ih =>
      intro x1 S H locs hP hD hS ls hl hf
      rw [f_X0_passMinute_L69] at hf
      refine lv_iload_n hx hb dX0_passMinute_69 rfl (lv_at hl 1 rfl) ?_
      refine lv_aload_n hx hb dX0_passMinute_70 rfl (lv_at hl 0 rfl) ?_
      refine va_get (D := D) (ci := 0) (v := .int (S.1 1)) (C := RX0) (T := TX0) (N := 17) hx hb hts hin hown hK hP 0 rfl rfl 1 (by decide) (hts (.fieldLink RX0 53 "PodGuideway$Ring" "stations" "I") (List.mem_of_getElem? (i := 1) rfl)) (fun _ h9 => h9) rfl dX0_passMinute_71 ?_
      refine lv_icmp_ge (tgt := 88) hx hb dX0_passMinute_74 (by decide) (fun c6 => ?_) (fun c6 => ?_)
      · have hf := if_t hf c6
        refine lv_aload_n hx hb dX0_passMinute_88 rfl (lv_at hl 0 rfl) ?_
        refine lv_dup hx hb dX0_passMinute_89 rfl ?_
        refine va_get (D := D) (ci := 0) (v := .int (S.1 0)) (C := RX0) (T := TX0) (N := 17) hx hb hts hin hown hK hP 0 rfl rfl 0 (by decide) (hts (.fieldLink RX0 49 "PodGuideway$Ring" "minute" "I") (List.mem_of_getElem? (i := 2) rfl)) (fun _ h9 => h9) rfl dX0_passMinute_90 ?_
        refine lv_iconst (v := 1) hx hb dX0_passMinute_93 (by decide) ?_
        refine lv_iadd hx hb dX0_passMinute_94 ?_
        refine va_put (D := D) (ci := 0) (v := .int ((S.1 0) + 1)) (ty := .int) (C := RX0) (T := TX0) (N := 17) hx hb hts hin tyX0 tyX0_ok nmX0 hown hK hP hD hS 0 rfl rfl 0 (by decide) (hts (.fieldLink RX0 49 "PodGuideway$Ring" "minute" "I") (List.mem_of_getElem? (i := 2) rfl)) (fun _ h9 => h9) rfl (by decide +kernel) rfl rfl (Nat.le_of_ble_eq_true rfl) dX0_passMinute_95 (fun H locs hP hD hS => ?_)
        obtain ⟨S7, eS7, hf⟩ := lt_ex hf
        have hP : va_P D vwCl (rwl Z a S7) H := by rw [eS7]; exact hP
        have hD : va_D A (rwl Z a S7) := by rw [eS7]; exact hD
        exact zw_v hx hb hr hlk hP hD hS (congrArg (fun z => ((rwl Z a z) : va_W)) (Option.some.inj hf)) (Nat.le_of_ble_eq_true rfl) (Nat.le_of_ble_eq_true rfl) dX0_passMinute_98
      · have hf := if_f hf c6
        refine lv_aload_n hx hb dX0_passMinute_77 rfl (lv_at hl 0 rfl) ?_
        refine lv_iload_n hx hb dX0_passMinute_78 rfl (lv_at hl 1 rfl) ?_
        obtain ⟨S9, hv8, hf⟩ := ob_some hf
        refine zc_mv0 (z_VD (As := [.int x1]) (rest := []) (q0 := 0) (ci := 0) ⟨hx, hb, hml, hown, hts⟩ (m_X0_letMerge l D Z a S x1 S9 hv8) gX0_passMinute_X0_letMerge rfl rfl rfl hdv_X0_letMerge ⟨Nat.le_of_ble_eq_true rfl, Nat.le_of_ble_eq_true rfl⟩ hK hP hD rfl rfl rfl rfl hl.1 rfl (Nat.le_of_ble_eq_true rfl) dX0_passMinute_79 ⟨Nat.le_of_ble_eq_true rfl, Nat.le_of_ble_eq_true rfl⟩) hD hS hA (fun H locs hP hD hS => ?_)
        refine lv_iinc (v := (x1 + 1)) (lv' := [(1, .int (x1 + 1)), (0, .ref (a 0))]) hx hb dX0_passMinute_82 hl (k := 1) rfl rfl (by decide) rfl (fun ls hl => ?_)
        refine lv_goto (tgt := 69) hx hb dX0_passMinute_85 (by decide) ?_
        exact ih (x1 + 1) S9 _ _ hP hD hS ls (lv_sub hl [1, 0] rfl) hf
  have L48 : ∀ (n : Nat) (x1 : Int32) (S : RS) (H : Heap) (locs : List Loc), va_P D vwCl (rwl Z a S) H → va_D A (rwl Z a S) → va_S A s.heap H locs → ∀ ls : Array Slot, lv_has ls 2 [(0, .ref (a 0)), (1, .int x1)] → f_X0_passMinute_L48 n x1 S = some S' → W p l e rm_X0_passMinute s m ([.ref (a 0)] : List Value).toArray below meth c H locs 0 0 (MQ below (zMv D A (rwl Z a S')) ([.ref (a 0)] : List Value).toArray s 0 0 A) (F0 m 48 ls []) := by
    intro n
    induction n with
    | zero =>
      intro x1 S H locs hP hD hS ls hl hf
      exact no_r hf
    | succ n ih =>
      intro x1 S H locs hP hD hS ls hl hf
      rw [f_X0_passMinute_L48] at hf
      refine lv_iload_n hx hb dX0_passMinute_48 rfl (lv_at hl 1 rfl) ?_
      refine lv_aload_n hx hb dX0_passMinute_49 rfl (lv_at hl 0 rfl) ?_
      refine va_get (D := D) (ci := 0) (v := .int (S.1 1)) (C := RX0) (T := TX0) (N := 17) hx hb hts hin hown hK hP 0 rfl rfl 1 (by decide) (hts (.fieldLink RX0 53 "PodGuideway$Ring" "stations" "I") (List.mem_of_getElem? (i := 1) rfl)) (fun _ h9 => h9) rfl dX0_passMinute_50 ?_
      refine lv_icmp_ge (tgt := 67) hx hb dX0_passMinute_53 (by decide) (fun c5 => ?_) (fun c5 => ?_)
      · have hf := if_t hf c5
        refine lv_iconst (v := 0) hx hb dX0_passMinute_67 (by decide) ?_
        refine lv_istore_n (lv' := [(1, .int 0), (0, .ref (a 0))]) hx hb dX0_passMinute_68 rfl hl (by decide) rfl (fun ls hl => ?_)
        exact L69 FU 0 S _ _ hP hD hS ls (lv_sub hl [1, 0] rfl) hf
      · have hf := if_f hf c5
        refine lv_aload_n hx hb dX0_passMinute_56 rfl (lv_at hl 0 rfl) ?_
        refine lv_iload_n hx hb dX0_passMinute_57 rfl (lv_at hl 1 rfl) ?_
        obtain ⟨S11, hv10, hf⟩ := ob_some hf
        refine zc_mv0 (z_VD (As := [.int x1]) (rest := []) (q0 := 0) (ci := 0) ⟨hx, hb, hml, hown, hts⟩ (m_X0_letCall l D Z a S x1 S11 hv10) gX0_passMinute_X0_letCall rfl rfl rfl hdv_X0_letCall ⟨Nat.le_of_ble_eq_true rfl, Nat.le_of_ble_eq_true rfl⟩ hK hP hD rfl rfl rfl rfl hl.1 rfl (Nat.le_of_ble_eq_true rfl) dX0_passMinute_58 ⟨Nat.le_of_ble_eq_true rfl, Nat.le_of_ble_eq_true rfl⟩) hD hS hA (fun H locs hP hD hS => ?_)
        refine lv_iinc (v := (x1 + 1)) (lv' := [(1, .int (x1 + 1)), (0, .ref (a 0))]) hx hb dX0_passMinute_61 hl (k := 1) rfl rfl (by decide) rfl (fun ls hl => ?_)
        refine lv_goto (tgt := 48) hx hb dX0_passMinute_64 (by decide) ?_
        exact ih (x1 + 1) S11 _ _ hP hD hS ls (lv_sub hl [1, 0] rfl) hf
  have L27 : ∀ (n : Nat) (x1 : Int32) (S : RS) (H : Heap) (locs : List Loc), va_P D vwCl (rwl Z a S) H → va_D A (rwl Z a S) → va_S A s.heap H locs → ∀ ls : Array Slot, lv_has ls 2 [(0, .ref (a 0)), (1, .int x1)] → f_X0_passMinute_L27 n x1 S = some S' → W p l e rm_X0_passMinute s m ([.ref (a 0)] : List Value).toArray below meth c H locs 0 0 (MQ below (zMv D A (rwl Z a S')) ([.ref (a 0)] : List Value).toArray s 0 0 A) (F0 m 27 ls []) := by
    intro n
    induction n with
    | zero =>
      intro x1 S H locs hP hD hS ls hl hf
      exact no_r hf
    | succ n ih =>
      intro x1 S H locs hP hD hS ls hl hf
      rw [f_X0_passMinute_L27] at hf
      refine lv_iload_n hx hb dX0_passMinute_27 rfl (lv_at hl 1 rfl) ?_
      refine lv_aload_n hx hb dX0_passMinute_28 rfl (lv_at hl 0 rfl) ?_
      refine va_get (D := D) (ci := 0) (v := .int (S.1 1)) (C := RX0) (T := TX0) (N := 17) hx hb hts hin hown hK hP 0 rfl rfl 1 (by decide) (hts (.fieldLink RX0 53 "PodGuideway$Ring" "stations" "I") (List.mem_of_getElem? (i := 1) rfl)) (fun _ h9 => h9) rfl dX0_passMinute_29 ?_
      refine lv_icmp_ge (tgt := 46) hx hb dX0_passMinute_32 (by decide) (fun c4 => ?_) (fun c4 => ?_)
      · have hf := if_t hf c4
        refine lv_iconst (v := 0) hx hb dX0_passMinute_46 (by decide) ?_
        refine lv_istore_n (lv' := [(1, .int 0), (0, .ref (a 0))]) hx hb dX0_passMinute_47 rfl hl (by decide) rfl (fun ls hl => ?_)
        exact L48 FU 0 S _ _ hP hD hS ls (lv_sub hl [1, 0] rfl) hf
      · have hf := if_f hf c4
        refine lv_aload_n hx hb dX0_passMinute_35 rfl (lv_at hl 0 rfl) ?_
        refine lv_iload_n hx hb dX0_passMinute_36 rfl (lv_at hl 1 rfl) ?_
        obtain ⟨S13, hv12, hf⟩ := ob_some hf
        refine zc_mv0 (z_VD (As := [.int x1]) (rest := []) (q0 := 0) (ci := 0) ⟨hx, hb, hml, hown, hts⟩ (m_X0_letBoard l D Z a S x1 S13 hv12) gX0_passMinute_X0_letBoard rfl rfl rfl hdv_X0_letBoard ⟨Nat.le_of_ble_eq_true rfl, Nat.le_of_ble_eq_true rfl⟩ hK hP hD rfl rfl rfl rfl hl.1 rfl (Nat.le_of_ble_eq_true rfl) dX0_passMinute_37 ⟨Nat.le_of_ble_eq_true rfl, Nat.le_of_ble_eq_true rfl⟩) hD hS hA (fun H locs hP hD hS => ?_)
        refine lv_iinc (v := (x1 + 1)) (lv' := [(1, .int (x1 + 1)), (0, .ref (a 0))]) hx hb dX0_passMinute_40 hl (k := 1) rfl rfl (by decide) rfl (fun ls hl => ?_)
        refine lv_goto (tgt := 27) hx hb dX0_passMinute_43 (by decide) ?_
        exact ih (x1 + 1) S13 _ _ hP hD hS ls (lv_sub hl [1, 0] rfl) hf
  have L6 : ∀ (n : Nat) (x1 : Int32) (S : RS) (H : Heap) (locs : List Loc), va_P D vwCl (rwl Z a S) H → va_D A (rwl Z a S) → va_S A s.heap H locs → ∀ ls : Array Slot, lv_has ls 2 [(0, .ref (a 0)), (1, .int x1)] → f_X0_passMinute_L6 n x1 S = some S' → W p l e rm_X0_passMinute s m ([.ref (a 0)] : List Value).toArray below meth c H locs 0 0 (MQ below (zMv D A (rwl Z a S')) ([.ref (a 0)] : List Value).toArray s 0 0 A) (F0 m 6 ls []) := by
    intro n
    induction n with
    | zero =>
      intro x1 S H locs hP hD hS ls hl hf
      exact no_r hf
    | succ n ih =>
      intro x1 S H locs hP hD hS ls hl hf
      rw [f_X0_passMinute_L6] at hf
      refine lv_iload_n hx hb dX0_passMinute_6 rfl (lv_at hl 1 rfl) ?_
      refine lv_aload_n hx hb dX0_passMinute_7 rfl (lv_at hl 0 rfl) ?_
      refine va_get (D := D) (ci := 0) (v := .int (S.1 1)) (C := RX0) (T := TX0) (N := 17) hx hb hts hin hown hK hP 0 rfl rfl 1 (by decide) (hts (.fieldLink RX0 53 "PodGuideway$Ring" "stations" "I") (List.mem_of_getElem? (i := 1) rfl)) (fun _ h9 => h9) rfl dX0_passMinute_8 ?_
      refine lv_icmp_ge (tgt := 25) hx hb dX0_passMinute_11 (by decide) (fun c3 => ?_) (fun c3 => ?_)
      · have hf := if_t hf c3
        refine lv_iconst (v := 0) hx hb dX0_passMinute_25 (by decide) ?_
        refine lv_istore_n (lv' := [(1, .int 0), (0, .ref (a 0))]) hx hb dX0_passMinute_26 rfl hl (by decide) rfl (fun ls hl => ?_)
        exact L27 FU 0 S _ _ hP hD hS ls (lv_sub hl [1, 0] rfl) hf
      · have hf := if_f hf c3
        refine lv_aload_n hx hb dX0_passMinute_14 rfl (lv_at hl 0 rfl) ?_
        refine lv_iload_n hx hb dX0_passMinute_15 rfl (lv_at hl 1 rfl) ?_
        obtain ⟨S15, hv14, hf⟩ := ob_some hf
        refine zc_mv0 (z_VD (As := [.int x1]) (rest := []) (q0 := 0) (ci := 0) ⟨hx, hb, hml, hown, hts⟩ (m_X0_letGoOff l D Z a S x1 S15 hv14) gX0_passMinute_X0_letGoOff rfl rfl rfl hdv_X0_letGoOff ⟨Nat.le_of_ble_eq_true rfl, Nat.le_of_ble_eq_true rfl⟩ hK hP hD rfl rfl rfl rfl hl.1 rfl (Nat.le_of_ble_eq_true rfl) dX0_passMinute_16 ⟨Nat.le_of_ble_eq_true rfl, Nat.le_of_ble_eq_true rfl⟩) hD hS hA (fun H locs hP hD hS => ?_)
        refine lv_iinc (v := (x1 + 1)) (lv' := [(1, .int (x1 + 1)), (0, .ref (a 0))]) hx hb dX0_passMinute_19 hl (k := 1) rfl rfl (by decide) rfl (fun ls hl => ?_)
        refine lv_goto (tgt := 6) hx hb dX0_passMinute_22 (by decide) ?_
        exact ih (x1 + 1) S15 _ _ hP hD hS ls (lv_sub hl [1, 0] rfl) hf
  unfold f_X0_passMinute at hf
  refine lv_aload_n hx hb dX0_passMinute_0 rfl (lv_at hl 0 rfl) ?_
  obtain ⟨S2, hv1, hf⟩ := ob_some hf
  refine zc_mv0 (z_VD (As := []) (rest := []) (q0 := 0) (ci := 0) ⟨hx, hb, hml, hown, hts⟩ (m_X0_moveSlots l D Z a S S2 hv1) gX0_passMinute_X0_moveSlots rfl rfl rfl hdv_X0_moveSlots ⟨Nat.le_of_ble_eq_true rfl, Nat.le_of_ble_eq_true rfl⟩ hK hP hD rfl rfl rfl rfl hl.1 rfl (Nat.le_of_ble_eq_true rfl) dX0_passMinute_1 ⟨Nat.le_of_ble_eq_true rfl, Nat.le_of_ble_eq_true rfl⟩) hD hS hA (fun H locs hP hD hS => ?_)
  refine lv_iconst (v := 0) hx hb dX0_passMinute_4 (by decide) ?_
  refine lv_istore_n (lv' := [(1, .int 0), (0, .ref (a 0))]) hx hb dX0_passMinute_5 rfl hl (by decide) rfl (fun ls hl => ?_)
  exact L6 FU 0 S2 _ _ hP hD hS ls (lv_sub hl [1, 0] rfl) hf
def f_X0_copyFrom  (S : RS) (T : RS)  : Option (RS) :=
  lt (sI S 0 (T.1 0)) fun (S1 : RS) =>
  lt (sI S1 1 (T.1 1)) fun (S2 : RS) =>
  lt (sI S2 2 (T.1 2)) fun (S3 : RS) =>
  lt (sI S3 3 (T.1 3)) fun (S4 : RS) =>
  lt (sI S4 4 (T.1 4)) fun (S5 : RS) =>
  lt (sI S5 5 (T.1 5)) fun (S6 : RS) =>
  ob (f_X0_copyRow 24 24 (T.2 0) (S6.2 0)) fun f8 =>
  lt (sR S6 0 f8) fun (S9 : RS) =>
  ob (f_X0_copyRow 18 18 (T.2 1) (S9.2 1)) fun f11 =>
  lt (sR S9 1 f11) fun (S12 : RS) =>
  ob (f_X0_copyRow 6 6 (T.2 2) (S12.2 2)) fun f14 =>
  lt (sR S12 2 f14) fun (S15 : RS) =>
  ob (f_X0_copyRow 6 6 (T.2 3) (S15.2 3)) fun f17 =>
  lt (sR S15 3 f17) fun (S18 : RS) =>
  ob (f_X0_copyRow 6 6 (T.2 4) (S18.2 4)) fun f20 =>
  lt (sR S18 4 f20) fun (S21 : RS) =>
  ob (f_X0_copyRow 54 54 (T.2 5) (S21.2 5)) fun f23 =>
  lt (sR S21 5 f23) fun (S24 : RS) =>
  ob (f_X0_copyRow 54 54 (T.2 6) (S24.2 6)) fun f26 =>
  lt (sR S24 6 f26) fun (S27 : RS) =>
  ob (f_X0_copyRow 54 54 (T.2 7) (S27.2 7)) fun f29 =>
  lt (sR S27 7 f29) fun (S30 : RS) =>
  ob (f_X0_copyRow 12 12 (T.2 8) (S30.2 8)) fun f32 =>
  lt (sR S30 8 f32) fun (S33 : RS) =>
  ob (f_X0_copyRow 12 12 (T.2 9) (S33.2 9)) fun f35 =>
  lt (sR S33 9 f35) fun (S36 : RS) =>
  ob (f_X0_copyRow 12 12 (T.2 10) (S36.2 10)) fun f38 =>
  lt (sR S36 10 f38) fun (S39 : RS) =>
  some S39
abbrev rm_X0_copyFrom : Room := { frames := 2, cells := 0, slots := 0, locals := 101 }
theorem hdv_X0_copyFrom : yX0_copyFrom.cls = RX0 ∧ yX0_copyFrom.cls ≠ "java/lang/invoke/MethodHandle" ∧ yX0_copyFrom.cls ≠ "java/lang/invoke/VarHandle" ∧ (parseMethodDescriptor yX0_copyFrom.desc).map (fun d => d.parameters.length) = some 1 := by decide +kernel
set_option maxHeartbeats 4000000 in
set_option maxRecDepth 100000 in
theorem m_X0_copyFrom (l : Launch) (D : va_G) (Z : Nat → ClassId) (a b : Nat → Nat) (S : RS) (T : RS)  (S' : RS) (hf : f_X0_copyFrom S T = some S') : RWv l yX0_copyFrom wsX0_copyFrom rm_X0_copyFrom D Z [.ref (a 0), .ref (b 0)] (rwl Z a S ++ rwl Z b T) (rwl Z a S' ++ rwl Z b T) 0 0 := by
  refine RWv.of (cc := cX0_copyFrom) (nL := 2) (ret := none) (by decide +kernel) rfl (Nat.le_of_ble_eq_true rfl) ?_
  intro p e s m below meth c A hC hA hP hK hD hS ls hl
  obtain ⟨hx, hb, hr, hml, hown, hts, hlk, -⟩ := hC
  have hown : s.vm.findClass RX0 = some m.cls := hown
  have hin : ∀ w ∈ wsX00, w ∈ wsX0_copyFrom := fun w h => List.mem_cons_of_mem _ (List.mem_append_right _ h)
  have hl : lv_has ls 2 [(0, .ref (a 0)), (1, .ref (b 0))] := hl
  unfold f_X0_copyFrom at hf
  refine lv_aload_n hx hb dX0_copyFrom_0 rfl (lv_at hl 0 rfl) ?_
  refine lv_aload_n hx hb dX0_copyFrom_1 rfl (lv_at hl 1 rfl) ?_
  refine va_get (D := D) (ci := 0) (v := .int (T.1 0)) (C := RX0) (T := TX0) (N := 17) hx hb hts hin hown hK hP 12 rfl rfl 0 (by decide) (hts (.fieldLink RX0 49 "PodGuideway$Ring" "minute" "I") (List.mem_of_getElem? (i := 1) rfl)) (fun _ h9 => h9) rfl dX0_copyFrom_2 ?_
  refine va_put (D := D) (ci := 0) (v := .int (T.1 0)) (ty := .int) (C := RX0) (T := TX0) (N := 17) hx hb hts hin tyX0 tyX0_ok nmX0 hown hK hP hD hS 0 rfl rfl 0 (by decide) (hts (.fieldLink RX0 49 "PodGuideway$Ring" "minute" "I") (List.mem_of_getElem? (i := 1) rfl)) (fun _ h9 => h9) rfl (by decide +kernel) rfl rfl (Nat.le_of_ble_eq_true rfl) dX0_copyFrom_5 (fun H locs hP hD hS => ?_)
  obtain ⟨S1, eS1, hf⟩ := lt_ex hf
  have hP : va_P D vwCl (rwl Z a S1 ++ rwl Z b T) H := by rw [eS1]; exact hP
  have hD : va_D A (rwl Z a S1 ++ rwl Z b T) := by rw [eS1]; exact hD
  refine lv_aload_n hx hb dX0_copyFrom_8 rfl (lv_at hl 0 rfl) ?_
  refine lv_aload_n hx hb dX0_copyFrom_9 rfl (lv_at hl 1 rfl) ?_
  refine va_get (D := D) (ci := 0) (v := .int (T.1 1)) (C := RX0) (T := TX0) (N := 17) hx hb hts hin hown hK hP 12 rfl rfl 1 (by decide) (hts (.fieldLink RX0 53 "PodGuideway$Ring" "stations" "I") (List.mem_of_getElem? (i := 2) rfl)) (fun _ h9 => h9) rfl dX0_copyFrom_10 ?_
  refine va_put (D := D) (ci := 0) (v := .int (T.1 1)) (ty := .int) (C := RX0) (T := TX0) (N := 17) hx hb hts hin tyX0 tyX0_ok nmX0 hown hK hP hD hS 0 rfl rfl 1 (by decide) (hts (.fieldLink RX0 53 "PodGuideway$Ring" "stations" "I") (List.mem_of_getElem? (i := 2) rfl)) (fun _ h9 => h9) rfl (by decide +kernel) rfl rfl (Nat.le_of_ble_eq_true rfl) dX0_copyFrom_13 (fun H locs hP hD hS => ?_)
  obtain ⟨S2, eS2, hf⟩ := lt_ex hf
  have hP : va_P D vwCl (rwl Z a S2 ++ rwl Z b T) H := by rw [eS2]; exact hP
  have hD : va_D A (rwl Z a S2 ++ rwl Z b T) := by rw [eS2]; exact hD
  refine lv_aload_n hx hb dX0_copyFrom_16 rfl (lv_at hl 0 rfl) ?_
  refine lv_aload_n hx hb dX0_copyFrom_17 rfl (lv_at hl 1 rfl) ?_
  refine va_get (D := D) (ci := 0) (v := .int (T.1 2)) (C := RX0) (T := TX0) (N := 17) hx hb hts hin hown hK hP 12 rfl rfl 2 (by decide) (hts (.fieldLink RX0 56 "PodGuideway$Ring" "pods" "I") (List.mem_of_getElem? (i := 3) rfl)) (fun _ h9 => h9) rfl dX0_copyFrom_18 ?_
  refine va_put (D := D) (ci := 0) (v := .int (T.1 2)) (ty := .int) (C := RX0) (T := TX0) (N := 17) hx hb hts hin tyX0 tyX0_ok nmX0 hown hK hP hD hS 0 rfl rfl 2 (by decide) (hts (.fieldLink RX0 56 "PodGuideway$Ring" "pods" "I") (List.mem_of_getElem? (i := 3) rfl)) (fun _ h9 => h9) rfl (by decide +kernel) rfl rfl (Nat.le_of_ble_eq_true rfl) dX0_copyFrom_21 (fun H locs hP hD hS => ?_)
  obtain ⟨S3, eS3, hf⟩ := lt_ex hf
  have hP : va_P D vwCl (rwl Z a S3 ++ rwl Z b T) H := by rw [eS3]; exact hP
  have hD : va_D A (rwl Z a S3 ++ rwl Z b T) := by rw [eS3]; exact hD
  refine lv_aload_n hx hb dX0_copyFrom_24 rfl (lv_at hl 0 rfl) ?_
  refine lv_aload_n hx hb dX0_copyFrom_25 rfl (lv_at hl 1 rfl) ?_
  refine va_get (D := D) (ci := 0) (v := .int (T.1 3)) (C := RX0) (T := TX0) (N := 17) hx hb hts hin hown hK hP 12 rfl rfl 3 (by decide) (hts (.fieldLink RX0 59 "PodGuideway$Ring" "ridersInAll" "I") (List.mem_of_getElem? (i := 4) rfl)) (fun _ h9 => h9) rfl dX0_copyFrom_26 ?_
  refine va_put (D := D) (ci := 0) (v := .int (T.1 3)) (ty := .int) (C := RX0) (T := TX0) (N := 17) hx hb hts hin tyX0 tyX0_ok nmX0 hown hK hP hD hS 0 rfl rfl 3 (by decide) (hts (.fieldLink RX0 59 "PodGuideway$Ring" "ridersInAll" "I") (List.mem_of_getElem? (i := 4) rfl)) (fun _ h9 => h9) rfl (by decide +kernel) rfl rfl (Nat.le_of_ble_eq_true rfl) dX0_copyFrom_29 (fun H locs hP hD hS => ?_)
  obtain ⟨S4, eS4, hf⟩ := lt_ex hf
  have hP : va_P D vwCl (rwl Z a S4 ++ rwl Z b T) H := by rw [eS4]; exact hP
  have hD : va_D A (rwl Z a S4 ++ rwl Z b T) := by rw [eS4]; exact hD
  refine lv_aload_n hx hb dX0_copyFrom_32 rfl (lv_at hl 0 rfl) ?_
  refine lv_aload_n hx hb dX0_copyFrom_33 rfl (lv_at hl 1 rfl) ?_
  refine va_get (D := D) (ci := 0) (v := .int (T.1 4)) (C := RX0) (T := TX0) (N := 17) hx hb hts hin hown hK hP 12 rfl rfl 4 (by decide) (hts (.fieldLink RX0 62 "PodGuideway$Ring" "callsAnswered" "I") (List.mem_of_getElem? (i := 5) rfl)) (fun _ h9 => h9) rfl dX0_copyFrom_34 ?_
  refine va_put (D := D) (ci := 0) (v := .int (T.1 4)) (ty := .int) (C := RX0) (T := TX0) (N := 17) hx hb hts hin tyX0 tyX0_ok nmX0 hown hK hP hD hS 0 rfl rfl 4 (by decide) (hts (.fieldLink RX0 62 "PodGuideway$Ring" "callsAnswered" "I") (List.mem_of_getElem? (i := 5) rfl)) (fun _ h9 => h9) rfl (by decide +kernel) rfl rfl (Nat.le_of_ble_eq_true rfl) dX0_copyFrom_37 (fun H locs hP hD hS => ?_)
  obtain ⟨S5, eS5, hf⟩ := lt_ex hf
  have hP : va_P D vwCl (rwl Z a S5 ++ rwl Z b T) H := by rw [eS5]; exact hP
  have hD : va_D A (rwl Z a S5 ++ rwl Z b T) := by rw [eS5]; exact hD
  refine lv_aload_n hx hb dX0_copyFrom_40 rfl (lv_at hl 0 rfl) ?_
  refine lv_aload_n hx hb dX0_copyFrom_41 rfl (lv_at hl 1 rfl) ?_
  refine va_get (D := D) (ci := 0) (v := .int (T.1 5)) (C := RX0) (T := TX0) (N := 17) hx hb hts hin hown hK hP 12 rfl rfl 5 (by decide) (hts (.fieldLink RX0 65 "PodGuideway$Ring" "waitedBeforeBoarding" "I") (List.mem_of_getElem? (i := 6) rfl)) (fun _ h9 => h9) rfl dX0_copyFrom_42 ?_
  refine va_put (D := D) (ci := 0) (v := .int (T.1 5)) (ty := .int) (C := RX0) (T := TX0) (N := 17) hx hb hts hin tyX0 tyX0_ok nmX0 hown hK hP hD hS 0 rfl rfl 5 (by decide) (hts (.fieldLink RX0 65 "PodGuideway$Ring" "waitedBeforeBoarding" "I") (List.mem_of_getElem? (i := 6) rfl)) (fun _ h9 => h9) rfl (by decide +kernel) rfl rfl (Nat.le_of_ble_eq_true rfl) dX0_copyFrom_45 (fun H locs hP hD hS => ?_)
  obtain ⟨S6, eS6, hf⟩ := lt_ex hf
  have hP : va_P D vwCl (rwl Z a S6 ++ rwl Z b T) H := by rw [eS6]; exact hP
  have hD : va_D A (rwl Z a S6 ++ rwl Z b T) := by rw [eS6]; exact hD
  refine lv_aload_n hx hb dX0_copyFrom_48 rfl (lv_at hl 1 rfl) ?_
  refine va_get (D := D) (ci := 0) (v := .ref (b 1)) (C := RX0) (T := TX0) (N := 17) hx hb hts hin hown hK hP 12 rfl rfl 6 (by decide) (hts (.fieldLink RX0 15 "PodGuideway$Ring" "podInSlot" "[I") (List.mem_of_getElem? (i := 7) rfl)) (fun _ h9 => h9) rfl dX0_copyFrom_49 ?_
  refine lv_aload_n hx hb dX0_copyFrom_52 rfl (lv_at hl 0 rfl) ?_
  refine va_get (D := D) (ci := 0) (v := .ref (a 1)) (C := RX0) (T := TX0) (N := 17) hx hb hts hin hown hK hP 0 rfl rfl 6 (by decide) (hts (.fieldLink RX0 15 "PodGuideway$Ring" "podInSlot" "[I") (List.mem_of_getElem? (i := 7) rfl)) (fun _ h9 => h9) rfl dX0_copyFrom_53 ?_
  obtain ⟨f8, hv7, hf⟩ := ob_some hf
  refine zc_mv2 (k0 := 13) (k := 1) (e1 := .inl (Z 0, 24, .inl f8)) rfl rfl (z_SD (As := [.ref (b 1), .ref (a 1)]) (rest := []) ⟨hx, hb, hml, hown, hts⟩ (m_X0_copyRow l D Z (b 1) 24 (a 1) 24 (T.2 0) (S6.2 0) f8 hv7) gX0_copyFrom_X0_copyRow rfl rfl rfl hds_X0_copyRow ⟨Nat.le_of_ble_eq_true rfl, Nat.le_of_ble_eq_true rfl⟩ hK (hP.sub (ws' := [((b 1), .inl (Z 0, 24, .inl (T.2 0))), ((a 1), .inl (Z 0, 24, .inl (S6.2 0)))]) [13, 1] rfl) (hD.sub (ws' := [((b 1), .inl (Z 0, 24, .inl (T.2 0))), ((a 1), .inl (Z 0, 24, .inl (S6.2 0)))]) [13, 1] (by decide) rfl) rfl hl.1 rfl (Nat.le_of_ble_eq_true rfl) dX0_copyFrom_56 ⟨Nat.le_of_ble_eq_true rfl, Nat.le_of_ble_eq_true rfl⟩) hP hD hS hA (fun H locs hP hD hS => ?_)
  obtain ⟨S9, eS9, hf⟩ := lt_ex hf
  have hP : va_P D vwCl (rwl Z a S9 ++ rwl Z b T) H := by rw [eS9]; exact hP
  have hD : va_D A (rwl Z a S9 ++ rwl Z b T) := by rw [eS9]; exact hD
  refine lv_aload_n hx hb dX0_copyFrom_59 rfl (lv_at hl 1 rfl) ?_
  refine va_get (D := D) (ci := 0) (v := .ref (b 2)) (C := RX0) (T := TX0) (N := 17) hx hb hts hin hown hK hP 12 rfl rfl 7 (by decide) (hts (.fieldLink RX0 19 "PodGuideway$Ring" "podInBerth" "[I") (List.mem_of_getElem? (i := 8) rfl)) (fun _ h9 => h9) rfl dX0_copyFrom_60 ?_
  refine lv_aload_n hx hb dX0_copyFrom_63 rfl (lv_at hl 0 rfl) ?_
  refine va_get (D := D) (ci := 0) (v := .ref (a 2)) (C := RX0) (T := TX0) (N := 17) hx hb hts hin hown hK hP 0 rfl rfl 7 (by decide) (hts (.fieldLink RX0 19 "PodGuideway$Ring" "podInBerth" "[I") (List.mem_of_getElem? (i := 8) rfl)) (fun _ h9 => h9) rfl dX0_copyFrom_64 ?_
  obtain ⟨f11, hv10, hf⟩ := ob_some hf
  refine zc_mv2 (k0 := 14) (k := 2) (e1 := .inl (Z 0, 18, .inl f11)) rfl rfl (z_SD (As := [.ref (b 2), .ref (a 2)]) (rest := []) ⟨hx, hb, hml, hown, hts⟩ (m_X0_copyRow l D Z (b 2) 18 (a 2) 18 (T.2 1) (S9.2 1) f11 hv10) gX0_copyFrom_X0_copyRow rfl rfl rfl hds_X0_copyRow ⟨Nat.le_of_ble_eq_true rfl, Nat.le_of_ble_eq_true rfl⟩ hK (hP.sub (ws' := [((b 2), .inl (Z 0, 18, .inl (T.2 1))), ((a 2), .inl (Z 0, 18, .inl (S9.2 1)))]) [14, 2] rfl) (hD.sub (ws' := [((b 2), .inl (Z 0, 18, .inl (T.2 1))), ((a 2), .inl (Z 0, 18, .inl (S9.2 1)))]) [14, 2] (by decide) rfl) rfl hl.1 rfl (Nat.le_of_ble_eq_true rfl) dX0_copyFrom_67 ⟨Nat.le_of_ble_eq_true rfl, Nat.le_of_ble_eq_true rfl⟩) hP hD hS hA (fun H locs hP hD hS => ?_)
  obtain ⟨S12, eS12, hf⟩ := lt_ex hf
  have hP : va_P D vwCl (rwl Z a S12 ++ rwl Z b T) H := by rw [eS12]; exact hP
  have hD : va_D A (rwl Z a S12 ++ rwl Z b T) := by rw [eS12]; exact hD
  refine lv_aload_n hx hb dX0_copyFrom_70 rfl (lv_at hl 1 rfl) ?_
  refine va_get (D := D) (ci := 0) (v := .ref (b 3)) (C := RX0) (T := TX0) (N := 17) hx hb hts hin hown hK hP 12 rfl rfl 8 (by decide) (hts (.fieldLink RX0 22 "PodGuideway$Ring" "stationPlace" "[I") (List.mem_of_getElem? (i := 9) rfl)) (fun _ h9 => h9) rfl dX0_copyFrom_71 ?_
  refine lv_aload_n hx hb dX0_copyFrom_74 rfl (lv_at hl 0 rfl) ?_
  refine va_get (D := D) (ci := 0) (v := .ref (a 3)) (C := RX0) (T := TX0) (N := 17) hx hb hts hin hown hK hP 0 rfl rfl 8 (by decide) (hts (.fieldLink RX0 22 "PodGuideway$Ring" "stationPlace" "[I") (List.mem_of_getElem? (i := 9) rfl)) (fun _ h9 => h9) rfl dX0_copyFrom_75 ?_
  obtain ⟨f14, hv13, hf⟩ := ob_some hf
  refine zc_mv2 (k0 := 15) (k := 3) (e1 := .inl (Z 0, 6, .inl f14)) rfl rfl (z_SD (As := [.ref (b 3), .ref (a 3)]) (rest := []) ⟨hx, hb, hml, hown, hts⟩ (m_X0_copyRow l D Z (b 3) 6 (a 3) 6 (T.2 2) (S12.2 2) f14 hv13) gX0_copyFrom_X0_copyRow rfl rfl rfl hds_X0_copyRow ⟨Nat.le_of_ble_eq_true rfl, Nat.le_of_ble_eq_true rfl⟩ hK (hP.sub (ws' := [((b 3), .inl (Z 0, 6, .inl (T.2 2))), ((a 3), .inl (Z 0, 6, .inl (S12.2 2)))]) [15, 3] rfl) (hD.sub (ws' := [((b 3), .inl (Z 0, 6, .inl (T.2 2))), ((a 3), .inl (Z 0, 6, .inl (S12.2 2)))]) [15, 3] (by decide) rfl) rfl hl.1 rfl (Nat.le_of_ble_eq_true rfl) dX0_copyFrom_78 ⟨Nat.le_of_ble_eq_true rfl, Nat.le_of_ble_eq_true rfl⟩) hP hD hS hA (fun H locs hP hD hS => ?_)
  obtain ⟨S15, eS15, hf⟩ := lt_ex hf
  have hP : va_P D vwCl (rwl Z a S15 ++ rwl Z b T) H := by rw [eS15]; exact hP
  have hD : va_D A (rwl Z a S15 ++ rwl Z b T) := by rw [eS15]; exact hD
  refine lv_aload_n hx hb dX0_copyFrom_81 rfl (lv_at hl 1 rfl) ?_
  refine va_get (D := D) (ci := 0) (v := .ref (b 4)) (C := RX0) (T := TX0) (N := 17) hx hb hts hin hown hK hP 12 rfl rfl 9 (by decide) (hts (.fieldLink RX0 25 "PodGuideway$Ring" "stationArrived" "[I") (List.mem_of_getElem? (i := 10) rfl)) (fun _ h9 => h9) rfl dX0_copyFrom_82 ?_
  refine lv_aload_n hx hb dX0_copyFrom_85 rfl (lv_at hl 0 rfl) ?_
  refine va_get (D := D) (ci := 0) (v := .ref (a 4)) (C := RX0) (T := TX0) (N := 17) hx hb hts hin hown hK hP 0 rfl rfl 9 (by decide) (hts (.fieldLink RX0 25 "PodGuideway$Ring" "stationArrived" "[I") (List.mem_of_getElem? (i := 10) rfl)) (fun _ h9 => h9) rfl dX0_copyFrom_86 ?_
  obtain ⟨f17, hv16, hf⟩ := ob_some hf
  refine zc_mv2 (k0 := 16) (k := 4) (e1 := .inl (Z 0, 6, .inl f17)) rfl rfl (z_SD (As := [.ref (b 4), .ref (a 4)]) (rest := []) ⟨hx, hb, hml, hown, hts⟩ (m_X0_copyRow l D Z (b 4) 6 (a 4) 6 (T.2 3) (S15.2 3) f17 hv16) gX0_copyFrom_X0_copyRow rfl rfl rfl hds_X0_copyRow ⟨Nat.le_of_ble_eq_true rfl, Nat.le_of_ble_eq_true rfl⟩ hK (hP.sub (ws' := [((b 4), .inl (Z 0, 6, .inl (T.2 3))), ((a 4), .inl (Z 0, 6, .inl (S15.2 3)))]) [16, 4] rfl) (hD.sub (ws' := [((b 4), .inl (Z 0, 6, .inl (T.2 3))), ((a 4), .inl (Z 0, 6, .inl (S15.2 3)))]) [16, 4] (by decide) rfl) rfl hl.1 rfl (Nat.le_of_ble_eq_true rfl) dX0_copyFrom_89 ⟨Nat.le_of_ble_eq_true rfl, Nat.le_of_ble_eq_true rfl⟩) hP hD hS hA (fun H locs hP hD hS => ?_)
  obtain ⟨S18, eS18, hf⟩ := lt_ex hf
  have hP : va_P D vwCl (rwl Z a S18 ++ rwl Z b T) H := by rw [eS18]; exact hP
  have hD : va_D A (rwl Z a S18 ++ rwl Z b T) := by rw [eS18]; exact hD
  refine lv_aload_n hx hb dX0_copyFrom_92 rfl (lv_at hl 1 rfl) ?_
  refine va_get (D := D) (ci := 0) (v := .ref (b 5)) (C := RX0) (T := TX0) (N := 17) hx hb hts hin hown hK hP 12 rfl rfl 10 (by decide) (hts (.fieldLink RX0 28 "PodGuideway$Ring" "stationWaiting" "[I") (List.mem_of_getElem? (i := 11) rfl)) (fun _ h9 => h9) rfl dX0_copyFrom_93 ?_
  refine lv_aload_n hx hb dX0_copyFrom_96 rfl (lv_at hl 0 rfl) ?_
  refine va_get (D := D) (ci := 0) (v := .ref (a 5)) (C := RX0) (T := TX0) (N := 17) hx hb hts hin hown hK hP 0 rfl rfl 10 (by decide) (hts (.fieldLink RX0 28 "PodGuideway$Ring" "stationWaiting" "[I") (List.mem_of_getElem? (i := 11) rfl)) (fun _ h9 => h9) rfl dX0_copyFrom_97 ?_
  obtain ⟨f20, hv19, hf⟩ := ob_some hf
  refine zc_mv2 (k0 := 17) (k := 5) (e1 := .inl (Z 0, 6, .inl f20)) rfl rfl (z_SD (As := [.ref (b 5), .ref (a 5)]) (rest := []) ⟨hx, hb, hml, hown, hts⟩ (m_X0_copyRow l D Z (b 5) 6 (a 5) 6 (T.2 4) (S18.2 4) f20 hv19) gX0_copyFrom_X0_copyRow rfl rfl rfl hds_X0_copyRow ⟨Nat.le_of_ble_eq_true rfl, Nat.le_of_ble_eq_true rfl⟩ hK (hP.sub (ws' := [((b 5), .inl (Z 0, 6, .inl (T.2 4))), ((a 5), .inl (Z 0, 6, .inl (S18.2 4)))]) [17, 5] rfl) (hD.sub (ws' := [((b 5), .inl (Z 0, 6, .inl (T.2 4))), ((a 5), .inl (Z 0, 6, .inl (S18.2 4)))]) [17, 5] (by decide) rfl) rfl hl.1 rfl (Nat.le_of_ble_eq_true rfl) dX0_copyFrom_100 ⟨Nat.le_of_ble_eq_true rfl, Nat.le_of_ble_eq_true rfl⟩) hP hD hS hA (fun H locs hP hD hS => ?_)
  obtain ⟨S21, eS21, hf⟩ := lt_ex hf
  have hP : va_P D vwCl (rwl Z a S21 ++ rwl Z b T) H := by rw [eS21]; exact hP
  have hD : va_D A (rwl Z a S21 ++ rwl Z b T) := by rw [eS21]; exact hD
  refine lv_aload_n hx hb dX0_copyFrom_103 rfl (lv_at hl 1 rfl) ?_
  refine va_get (D := D) (ci := 0) (v := .ref (b 6)) (C := RX0) (T := TX0) (N := 17) hx hb hts hin hown hK hP 12 rfl rfl 11 (by decide) (hts (.fieldLink RX0 31 "PodGuideway$Ring" "riderNumber" "[I") (List.mem_of_getElem? (i := 12) rfl)) (fun _ h9 => h9) rfl dX0_copyFrom_104 ?_
  refine lv_aload_n hx hb dX0_copyFrom_107 rfl (lv_at hl 0 rfl) ?_
  refine va_get (D := D) (ci := 0) (v := .ref (a 6)) (C := RX0) (T := TX0) (N := 17) hx hb hts hin hown hK hP 0 rfl rfl 11 (by decide) (hts (.fieldLink RX0 31 "PodGuideway$Ring" "riderNumber" "[I") (List.mem_of_getElem? (i := 12) rfl)) (fun _ h9 => h9) rfl dX0_copyFrom_108 ?_
  obtain ⟨f23, hv22, hf⟩ := ob_some hf
  refine zc_mv2 (k0 := 18) (k := 6) (e1 := .inl (Z 0, 54, .inl f23)) rfl rfl (z_SD (As := [.ref (b 6), .ref (a 6)]) (rest := []) ⟨hx, hb, hml, hown, hts⟩ (m_X0_copyRow l D Z (b 6) 54 (a 6) 54 (T.2 5) (S21.2 5) f23 hv22) gX0_copyFrom_X0_copyRow rfl rfl rfl hds_X0_copyRow ⟨Nat.le_of_ble_eq_true rfl, Nat.le_of_ble_eq_true rfl⟩ hK (hP.sub (ws' := [((b 6), .inl (Z 0, 54, .inl (T.2 5))), ((a 6), .inl (Z 0, 54, .inl (S21.2 5)))]) [18, 6] rfl) (hD.sub (ws' := [((b 6), .inl (Z 0, 54, .inl (T.2 5))), ((a 6), .inl (Z 0, 54, .inl (S21.2 5)))]) [18, 6] (by decide) rfl) rfl hl.1 rfl (Nat.le_of_ble_eq_true rfl) dX0_copyFrom_111 ⟨Nat.le_of_ble_eq_true rfl, Nat.le_of_ble_eq_true rfl⟩) hP hD hS hA (fun H locs hP hD hS => ?_)
  obtain ⟨S24, eS24, hf⟩ := lt_ex hf
  have hP : va_P D vwCl (rwl Z a S24 ++ rwl Z b T) H := by rw [eS24]; exact hP
  have hD : va_D A (rwl Z a S24 ++ rwl Z b T) := by rw [eS24]; exact hD
  refine lv_aload_n hx hb dX0_copyFrom_114 rfl (lv_at hl 1 rfl) ?_
  refine va_get (D := D) (ci := 0) (v := .ref (b 7)) (C := RX0) (T := TX0) (N := 17) hx hb hts hin hown hK hP 12 rfl rfl 12 (by decide) (hts (.fieldLink RX0 34 "PodGuideway$Ring" "riderGoal" "[I") (List.mem_of_getElem? (i := 13) rfl)) (fun _ h9 => h9) rfl dX0_copyFrom_115 ?_
  refine lv_aload_n hx hb dX0_copyFrom_118 rfl (lv_at hl 0 rfl) ?_
  refine va_get (D := D) (ci := 0) (v := .ref (a 7)) (C := RX0) (T := TX0) (N := 17) hx hb hts hin hown hK hP 0 rfl rfl 12 (by decide) (hts (.fieldLink RX0 34 "PodGuideway$Ring" "riderGoal" "[I") (List.mem_of_getElem? (i := 13) rfl)) (fun _ h9 => h9) rfl dX0_copyFrom_119 ?_
  obtain ⟨f26, hv25, hf⟩ := ob_some hf
  refine zc_mv2 (k0 := 19) (k := 7) (e1 := .inl (Z 0, 54, .inl f26)) rfl rfl (z_SD (As := [.ref (b 7), .ref (a 7)]) (rest := []) ⟨hx, hb, hml, hown, hts⟩ (m_X0_copyRow l D Z (b 7) 54 (a 7) 54 (T.2 6) (S24.2 6) f26 hv25) gX0_copyFrom_X0_copyRow rfl rfl rfl hds_X0_copyRow ⟨Nat.le_of_ble_eq_true rfl, Nat.le_of_ble_eq_true rfl⟩ hK (hP.sub (ws' := [((b 7), .inl (Z 0, 54, .inl (T.2 6))), ((a 7), .inl (Z 0, 54, .inl (S24.2 6)))]) [19, 7] rfl) (hD.sub (ws' := [((b 7), .inl (Z 0, 54, .inl (T.2 6))), ((a 7), .inl (Z 0, 54, .inl (S24.2 6)))]) [19, 7] (by decide) rfl) rfl hl.1 rfl (Nat.le_of_ble_eq_true rfl) dX0_copyFrom_122 ⟨Nat.le_of_ble_eq_true rfl, Nat.le_of_ble_eq_true rfl⟩) hP hD hS hA (fun H locs hP hD hS => ?_)
  obtain ⟨S27, eS27, hf⟩ := lt_ex hf
  have hP : va_P D vwCl (rwl Z a S27 ++ rwl Z b T) H := by rw [eS27]; exact hP
  have hD : va_D A (rwl Z a S27 ++ rwl Z b T) := by rw [eS27]; exact hD
  refine lv_aload_n hx hb dX0_copyFrom_125 rfl (lv_at hl 1 rfl) ?_
  refine va_get (D := D) (ci := 0) (v := .ref (b 8)) (C := RX0) (T := TX0) (N := 17) hx hb hts hin hown hK hP 12 rfl rfl 13 (by decide) (hts (.fieldLink RX0 37 "PodGuideway$Ring" "riderCame" "[I") (List.mem_of_getElem? (i := 14) rfl)) (fun _ h9 => h9) rfl dX0_copyFrom_126 ?_
  refine lv_aload_n hx hb dX0_copyFrom_129 rfl (lv_at hl 0 rfl) ?_
  refine va_get (D := D) (ci := 0) (v := .ref (a 8)) (C := RX0) (T := TX0) (N := 17) hx hb hts hin hown hK hP 0 rfl rfl 13 (by decide) (hts (.fieldLink RX0 37 "PodGuideway$Ring" "riderCame" "[I") (List.mem_of_getElem? (i := 14) rfl)) (fun _ h9 => h9) rfl dX0_copyFrom_130 ?_
  obtain ⟨f29, hv28, hf⟩ := ob_some hf
  refine zc_mv2 (k0 := 20) (k := 8) (e1 := .inl (Z 0, 54, .inl f29)) rfl rfl (z_SD (As := [.ref (b 8), .ref (a 8)]) (rest := []) ⟨hx, hb, hml, hown, hts⟩ (m_X0_copyRow l D Z (b 8) 54 (a 8) 54 (T.2 7) (S27.2 7) f29 hv28) gX0_copyFrom_X0_copyRow rfl rfl rfl hds_X0_copyRow ⟨Nat.le_of_ble_eq_true rfl, Nat.le_of_ble_eq_true rfl⟩ hK (hP.sub (ws' := [((b 8), .inl (Z 0, 54, .inl (T.2 7))), ((a 8), .inl (Z 0, 54, .inl (S27.2 7)))]) [20, 8] rfl) (hD.sub (ws' := [((b 8), .inl (Z 0, 54, .inl (T.2 7))), ((a 8), .inl (Z 0, 54, .inl (S27.2 7)))]) [20, 8] (by decide) rfl) rfl hl.1 rfl (Nat.le_of_ble_eq_true rfl) dX0_copyFrom_133 ⟨Nat.le_of_ble_eq_true rfl, Nat.le_of_ble_eq_true rfl⟩) hP hD hS hA (fun H locs hP hD hS => ?_)
  obtain ⟨S30, eS30, hf⟩ := lt_ex hf
  have hP : va_P D vwCl (rwl Z a S30 ++ rwl Z b T) H := by rw [eS30]; exact hP
  have hD : va_D A (rwl Z a S30 ++ rwl Z b T) := by rw [eS30]; exact hD
  refine lv_aload_n hx hb dX0_copyFrom_136 rfl (lv_at hl 1 rfl) ?_
  refine va_get (D := D) (ci := 0) (v := .ref (b 9)) (C := RX0) (T := TX0) (N := 17) hx hb hts hin hown hK hP 12 rfl rfl 14 (by decide) (hts (.fieldLink RX0 40 "PodGuideway$Ring" "podGoal" "[I") (List.mem_of_getElem? (i := 15) rfl)) (fun _ h9 => h9) rfl dX0_copyFrom_137 ?_
  refine lv_aload_n hx hb dX0_copyFrom_140 rfl (lv_at hl 0 rfl) ?_
  refine va_get (D := D) (ci := 0) (v := .ref (a 9)) (C := RX0) (T := TX0) (N := 17) hx hb hts hin hown hK hP 0 rfl rfl 14 (by decide) (hts (.fieldLink RX0 40 "PodGuideway$Ring" "podGoal" "[I") (List.mem_of_getElem? (i := 15) rfl)) (fun _ h9 => h9) rfl dX0_copyFrom_141 ?_
  obtain ⟨f32, hv31, hf⟩ := ob_some hf
  refine zc_mv2 (k0 := 21) (k := 9) (e1 := .inl (Z 0, 12, .inl f32)) rfl rfl (z_SD (As := [.ref (b 9), .ref (a 9)]) (rest := []) ⟨hx, hb, hml, hown, hts⟩ (m_X0_copyRow l D Z (b 9) 12 (a 9) 12 (T.2 8) (S30.2 8) f32 hv31) gX0_copyFrom_X0_copyRow rfl rfl rfl hds_X0_copyRow ⟨Nat.le_of_ble_eq_true rfl, Nat.le_of_ble_eq_true rfl⟩ hK (hP.sub (ws' := [((b 9), .inl (Z 0, 12, .inl (T.2 8))), ((a 9), .inl (Z 0, 12, .inl (S30.2 8)))]) [21, 9] rfl) (hD.sub (ws' := [((b 9), .inl (Z 0, 12, .inl (T.2 8))), ((a 9), .inl (Z 0, 12, .inl (S30.2 8)))]) [21, 9] (by decide) rfl) rfl hl.1 rfl (Nat.le_of_ble_eq_true rfl) dX0_copyFrom_144 ⟨Nat.le_of_ble_eq_true rfl, Nat.le_of_ble_eq_true rfl⟩) hP hD hS hA (fun H locs hP hD hS => ?_)
  obtain ⟨S33, eS33, hf⟩ := lt_ex hf
  have hP : va_P D vwCl (rwl Z a S33 ++ rwl Z b T) H := by rw [eS33]; exact hP
  have hD : va_D A (rwl Z a S33 ++ rwl Z b T) := by rw [eS33]; exact hD
  refine lv_aload_n hx hb dX0_copyFrom_147 rfl (lv_at hl 1 rfl) ?_
  refine va_get (D := D) (ci := 0) (v := .ref (b 10)) (C := RX0) (T := TX0) (N := 17) hx hb hts hin hown hK hP 12 rfl rfl 15 (by decide) (hts (.fieldLink RX0 43 "PodGuideway$Ring" "podRider" "[I") (List.mem_of_getElem? (i := 16) rfl)) (fun _ h9 => h9) rfl dX0_copyFrom_148 ?_
  refine lv_aload_n hx hb dX0_copyFrom_151 rfl (lv_at hl 0 rfl) ?_
  refine va_get (D := D) (ci := 0) (v := .ref (a 10)) (C := RX0) (T := TX0) (N := 17) hx hb hts hin hown hK hP 0 rfl rfl 15 (by decide) (hts (.fieldLink RX0 43 "PodGuideway$Ring" "podRider" "[I") (List.mem_of_getElem? (i := 16) rfl)) (fun _ h9 => h9) rfl dX0_copyFrom_152 ?_
  obtain ⟨f35, hv34, hf⟩ := ob_some hf
  refine zc_mv2 (k0 := 22) (k := 10) (e1 := .inl (Z 0, 12, .inl f35)) rfl rfl (z_SD (As := [.ref (b 10), .ref (a 10)]) (rest := []) ⟨hx, hb, hml, hown, hts⟩ (m_X0_copyRow l D Z (b 10) 12 (a 10) 12 (T.2 9) (S33.2 9) f35 hv34) gX0_copyFrom_X0_copyRow rfl rfl rfl hds_X0_copyRow ⟨Nat.le_of_ble_eq_true rfl, Nat.le_of_ble_eq_true rfl⟩ hK (hP.sub (ws' := [((b 10), .inl (Z 0, 12, .inl (T.2 9))), ((a 10), .inl (Z 0, 12, .inl (S33.2 9)))]) [22, 10] rfl) (hD.sub (ws' := [((b 10), .inl (Z 0, 12, .inl (T.2 9))), ((a 10), .inl (Z 0, 12, .inl (S33.2 9)))]) [22, 10] (by decide) rfl) rfl hl.1 rfl (Nat.le_of_ble_eq_true rfl) dX0_copyFrom_155 ⟨Nat.le_of_ble_eq_true rfl, Nat.le_of_ble_eq_true rfl⟩) hP hD hS hA (fun H locs hP hD hS => ?_)
  obtain ⟨S36, eS36, hf⟩ := lt_ex hf
  have hP : va_P D vwCl (rwl Z a S36 ++ rwl Z b T) H := by rw [eS36]; exact hP
  have hD : va_D A (rwl Z a S36 ++ rwl Z b T) := by rw [eS36]; exact hD
  refine lv_aload_n hx hb dX0_copyFrom_158 rfl (lv_at hl 1 rfl) ?_
  refine va_get (D := D) (ci := 0) (v := .ref (b 11)) (C := RX0) (T := TX0) (N := 17) hx hb hts hin hown hK hP 12 rfl rfl 16 (by decide) (hts (.fieldLink RX0 46 "PodGuideway$Ring" "podBarred" "[I") (List.mem_of_getElem? (i := 17) rfl)) (fun _ h9 => h9) rfl dX0_copyFrom_159 ?_
  refine lv_aload_n hx hb dX0_copyFrom_162 rfl (lv_at hl 0 rfl) ?_
  refine va_get (D := D) (ci := 0) (v := .ref (a 11)) (C := RX0) (T := TX0) (N := 17) hx hb hts hin hown hK hP 0 rfl rfl 16 (by decide) (hts (.fieldLink RX0 46 "PodGuideway$Ring" "podBarred" "[I") (List.mem_of_getElem? (i := 17) rfl)) (fun _ h9 => h9) rfl dX0_copyFrom_163 ?_
  obtain ⟨f38, hv37, hf⟩ := ob_some hf
  refine zc_mv2 (k0 := 23) (k := 11) (e1 := .inl (Z 0, 12, .inl f38)) rfl rfl (z_SD (As := [.ref (b 11), .ref (a 11)]) (rest := []) ⟨hx, hb, hml, hown, hts⟩ (m_X0_copyRow l D Z (b 11) 12 (a 11) 12 (T.2 10) (S36.2 10) f38 hv37) gX0_copyFrom_X0_copyRow rfl rfl rfl hds_X0_copyRow ⟨Nat.le_of_ble_eq_true rfl, Nat.le_of_ble_eq_true rfl⟩ hK (hP.sub (ws' := [((b 11), .inl (Z 0, 12, .inl (T.2 10))), ((a 11), .inl (Z 0, 12, .inl (S36.2 10)))]) [23, 11] rfl) (hD.sub (ws' := [((b 11), .inl (Z 0, 12, .inl (T.2 10))), ((a 11), .inl (Z 0, 12, .inl (S36.2 10)))]) [23, 11] (by decide) rfl) rfl hl.1 rfl (Nat.le_of_ble_eq_true rfl) dX0_copyFrom_166 ⟨Nat.le_of_ble_eq_true rfl, Nat.le_of_ble_eq_true rfl⟩) hP hD hS hA (fun H locs hP hD hS => ?_)
  obtain ⟨S39, eS39, hf⟩ := lt_ex hf
  have hP : va_P D vwCl (rwl Z a S39 ++ rwl Z b T) H := by rw [eS39]; exact hP
  have hD : va_D A (rwl Z a S39 ++ rwl Z b T) := by rw [eS39]; exact hD
  exact zw_v hx hb hr hlk hP hD hS (congrArg (fun z => ((rwl Z a z ++ rwl Z b T) : va_W)) (Option.some.inj hf)) (Nat.le_of_ble_eq_true rfl) (Nat.le_of_ble_eq_true rfl) dX0_copyFrom_169
end
section
-- contracts with one more thing about the tables and the statics
def XOK (X : (Nat → Prop) → State → Prop) : Prop :=
  (∀ (A : Nat → Prop) (U : State) (g : JFrame) (mk : MethodId) (a : Array Value), X A U → X A (U.calling g mk a)) ∧
  ∀ (A A1 : Nat → Prop) (s U : State) (H : Heap) (locs : List Loc), X A s → va_S A s.heap H locs → (∀ q, A1 q → A q) → U.heap = H → s.WarmedH U.vm → X A1 U
def gPre (D : va_G) (Z : Nat → ClassId) (X : (Nat → Prop) → State → Prop) (w0 : va_W) (sz : Nat) : State → Prop := fun U => zPre D Z w0 sz U ∧ X (va_A w0 sz) U
theorem g_blind {D : va_G} {Z : Nat → ClassId} {X : (Nat → Prop) → State → Prop} {av : List Value} {w0 : va_W} {sz : Nat} (hX : XOK X) : FrameBlind (va_Pc av (gPre D Z X w0 sz)) := fun a U g mk q => by
  obtain ⟨q0, ⟨q1, qP, qK, qD⟩, qE⟩ := q
  exact ⟨q0, ⟨q1, qP, va_K.moved (u := U) (U := U.calling g mk a) (Vm.Alike.refl U.vm) qK, qD⟩, hX.1 _ _ _ _ _ qE⟩
def GWv (l : Launch) (y : MethodName) (ws : List Cond) (rm : Room) (D : va_G) (Z : Nat → ClassId) (X : (Nat → Prop) → State → Prop) (av : List Value) (w0 w1 : va_W) (mc ms : Nat) : Prop :=
  ∀ sz : Nat, Met l y ws rm (va_Pc av (gPre D Z X w0 sz)) (zMv D (va_A w0 sz) w1) mc ms (va_A w0 sz)
def GWi (l : Launch) (y : MethodName) (ws : List Cond) (rm : Room) (D : va_G) (Z : Nat → ClassId) (X : (Nat → Prop) → State → Prop) (av : List Value) (w0 w1 : va_W) (r : Int32) (mc ms : Nat) : Prop :=
  ∀ sz : Nat, Met l y ws rm (va_Pc av (gPre D Z X w0 sz)) (zMi D (va_A w0 sz) w1 r) mc ms (va_A w0 sz)
def GWl (l : Launch) (y : MethodName) (ws : List Cond) (rm : Room) (D : va_G) (Z : Nat → ClassId) (X : (Nat → Prop) → State → Prop) (av : List Value) (w0 w1 : va_W) (r : Int64) (mc ms : Nat) : Prop :=
  ∀ sz : Nat, Met l y ws rm (va_Pc av (gPre D Z X w0 sz)) (zMl D (va_A w0 sz) w1 r) mc ms (va_A w0 sz)
abbrev gRW (l : Launch) (y : MethodName) (cc : ByteArray) (nL : Nat) (ret : Option FieldType) (ws : List Cond) (rm : Room) (D : va_G) (Z : Nat → ClassId) (X : (Nat → Prop) → State → Prop) (av : List Value) (w0 : va_W) (mc ms : Nat) (Qc : (Nat → Prop) → Array Value → State → Outcome → State → Prop) : Prop :=
  ∀ (p : Program) (e : Env) (s : State) (m : MethodId) (below : List Frame) (meth : Method) (c : Code) (A : Nat → Prop), Cx p s m av.toArray meth c cc y.cls y.name nL ret ws → X A s → (∀ q : Nat, s.heap.size ≤ q → A q) → va_P D vwCl w0 s.heap → zK D Z s → va_D A w0 → va_S A s.heap s.heap [] → ∀ ls : Array Slot, lv_has ls nL (lv_args 0 av) → W p l e rm s m av.toArray below meth c s.heap [] 0 0 (MQ below (Qc A) av.toArray s mc ms A) (F0 m 0 ls [])
section PGG
variable {l : Launch} {y : MethodName} {ws ws' : List Cond} {rm : Room} {cc : ByteArray} {nL : Nat} {ret : Option FieldType} {av : List Value} {D : va_G} {Z : Nat → ClassId} {X : (Nat → Prop) → State → Prop} {w0 w1 : va_W} {mc ms : Nat}
theorem GWv.of (hy : plainFor y = true) (hw : ws = Cond.code y cc nL ret :: ws') (hn : (lg_sl av).length ≤ nL) (body : gRW l y cc nL ret ws rm D Z X av w0 mc ms (fun A => zMv D A w1)) : GWv l y ws rm D Z X av w0 w1 mc ms := fun sz => by
  refine z_open hy hw hn ?_
  intro p e s m below meth c C ⟨⟨hsz, hP, hK, hD⟩, hE⟩ ls hl
  subst hsz
  exact body p e s m below meth c (va_A w0 s.heap.size) C hE (fun _ h => Or.inr h) hP hK hD.self va_S.rf ls hl
theorem GWi.of {r : Int32} (hy : plainFor y = true) (hw : ws = Cond.code y cc nL ret :: ws') (hn : (lg_sl av).length ≤ nL) (body : gRW l y cc nL ret ws rm D Z X av w0 mc ms (fun A => zMi D A w1 r)) : GWi l y ws rm D Z X av w0 w1 r mc ms := fun sz => by
  refine z_open hy hw hn ?_
  intro p e s m below meth c C ⟨⟨hsz, hP, hK, hD⟩, hE⟩ ls hl
  subst hsz
  exact body p e s m below meth c (va_A w0 s.heap.size) C hE (fun _ h => Or.inr h) hP hK hD.self va_S.rf ls hl
theorem GWl.of {r : Int64} (hy : plainFor y = true) (hw : ws = Cond.code y cc nL ret :: ws') (hn : (lg_sl av).length ≤ nL) (body : gRW l y cc nL ret ws rm D Z X av w0 mc ms (fun A => zMl D A w1 r)) : GWl l y ws rm D Z X av w0 w1 r mc ms := fun sz => by
  refine z_open hy hw hn ?_
  intro p e s m below meth c C ⟨⟨hsz, hP, hK, hD⟩, hE⟩ ls hl
  subst hsz
  exact body p e s m below meth c (va_A w0 s.heap.size) C hE (fun _ h => Or.inr h) hP hK hD.self va_S.rf ls hl
end PGG
section PGGC
variable {p : Program} {l : Launch} {e : Env} {R : Room} {s : State} {m : MethodId} {args : Array Value} {below : List Frame} {meth : Method} {c : Code} {H : Heap} {locs : List Loc} {cells slots : Nat} {Q : State → Prop} {cc : ByteArray} {pc : Nat} {ls : Array Slot} {D : va_G} {Z : Nat → ClassId} {X : (Nat → Prop) → State → Prop} {w w0 w1 w2 wr : va_W} {A : Nat → Prop} {H0 : Heap} {mc ms nL n index maxL : Nat}
variable {y : MethodName} {bytes : ByteArray} {ret : Option FieldType} {wsy ws' Ts : List Cond} {rm : Room} {own C host : String} {b : Addr} {As rest st0 : List Value}
theorem g_pre {av : List Value} (hX : XOK X) (hE : X A s) (hS : va_S A s.heap H locs) (hF : ∀ q, va_A w0 H.size q → A q) (hK : zK D Z s) (hP : va_P D vwCl w0 H) (hD : va_D A w0) : ∀ U : State, U.heap = H → s.WarmedH U.vm → va_Pc av (gPre D Z X w0 H.size) av.toArray U :=
  fun U hU hW => ⟨rfl, ⟨by rw [hU], by rw [hU]; exact hP, va_K.moved hW.alike hK, hD.weaken (fun _ _ _ _ => trivial)⟩, hX.2 A _ s U H locs hE hS hF hU hW⟩
theorem z_hF {w0 : va_W} (hD : va_D A w0) (hS : va_S A H0 H locs) (hA : ∀ q, H0.size ≤ q → A q) : ∀ q, va_A w0 H.size q → A q := fun q h => h.elim (fun ⟨k, e, h⟩ => hD.2 k (q, e) h) (fun h => hA q (Nat.le_trans hS.1 h))
theorem z_VG {Qd : Nat → Array Value → State → Outcome → State → Prop} {fd : Nat → Addr → Prop} {q0 ci : Nat} {fs : List Value} {q : vw_C} (hX : XOK X) (hE : X A s) (hS : va_S A s.heap H locs) (hA : ∀ q, s.heap.size ≤ q → A q) (S : CallFix p m c cc nL s args Ts own) (hM : ∀ sz : Nat, Met l y wsy rm (va_Pc (.ref b :: As) (gPre D Z X w0 sz)) (Qd sz) mc ms (fd sz)) (hg : GoodIn Ts (wsV own index C y wsy)) (hw : wsy = Cond.code y bytes maxL ret :: ws') (hrc : rm.cells = mc) (hrs : rm.slots = ms)
    (hd : y.cls = C ∧ y.cls ≠ "java/lang/invoke/MethodHandle" ∧ y.cls ≠ "java/lang/invoke/VarHandle" ∧ (parseMethodDescriptor y.desc).map (fun d => d.parameters.length) = some n) (hR : rm.frames + 1 ≤ R.frames ∧ 8 + (maxL + 11) + rm.locals ≤ R.locals)
    (hK : zK D Z s) (hP : va_P D vwCl w0 H) (hD : va_D A w0) (hr : w0[q0]? = some (b, .inr (ci, fs))) (hc : vwCl[ci]? = some q) (hq : q.1 = C) (hn : As.length = n) (hsz : ls.size = nL) (hst : st0 = As.reverse ++ .ref b :: rest) (hroom : (rest.map fun v => v.category).sum ≤ 8) (hdg : decode cc pc = .ok (.invokevirtual index, 3)) (hf : cells + mc ≤ R.cells ∧ slots + ms ≤ R.slots) :
    va_Run p l e R s m args below meth c H locs cells slots mc ms (F0 m pc ls st0) rest (Qd H.size (Value.ref b :: As).toArray) (fd H.size) := by
  subst hq
  exact va_runV S (hM H.size) (cwV n S.2.2.2.2 hg hw hrc hrs hd hR) ⟨g_blind hX, va_recv hK hP hc hr, g_pre hX hE hS (z_hF hD hS hA) hK hP hD⟩ rfl hn hsz hst (lv_room hroom) hdg hf
end PGGC
-- what the reference's copies need of the tables
def mAO (U : State) : Prop := (Cond.arrayOver (.array .int)).before #[] U = true
theorem mAO.moved {u U : State} (hvm : u.vm.Alike U.vm) (h : mAO u) : mAO U := by
  obtain ⟨comp, c, k, h1, h2, h3, h4, h5⟩ := arrayOverA_spec h
  obtain ⟨k', hk', he⟩ := hvm.2.2 _ _ h3
  have hi : (U.vm.classes.findIdx? fun (x : Class) => match x.kind with | .array component _ => component == comp | _ => false) = some c := by
    rw [hvm.findIdx?_eq _ (fun _ => rfl)]
    exact h2
  have hkind : k'.kind = .array comp (.array .int) := by rw [he]; exact h4
  have f1 : U.vm.findClass (FieldType.array .int).toString = some comp := by rw [hvm.findClass]; exact h1
  have f2 : U.vm.findClass ("[" ++ (FieldType.array .int).toString) = some c := by rw [hvm.findClass]; exact h5
  unfold mAO Cond.before Cond.holds
  simp only [Cond.value]
  rw [f1, Option.bind_some]
  refine (congrArg (fun o : Option Nat => (o.bind (fun c => (U.vm.classes[c]?).map fun (k : Class) => match k.kind with | .array _ ty => decide (ty = FieldType.array .int) && decide (U.vm.findClass ("[" ++ (FieldType.array .int).toString) = some c) | _ => false) == some true)) hi).trans ?_
  simp [hk', hkind, f2]
def mE : (Nat → Prop) → State → Prop := fun _ U => va_Nw (.castable "[I" "java/lang/Cloneable") U ∧ mAO U
theorem mE_ok : XOK mE := ⟨fun A U g mk a h => ⟨va_Nw.same rfl (u := U) (U := U.calling g mk a) rfl h.1, mAO.moved (Vm.Alike.refl U.vm) h.2⟩, fun A A1 s U H locs h _ _ _ hW => ⟨va_Nw.warmC hW h.1, mAO.moved hW.alike h.2⟩⟩
theorem z_assign (vm : Vm) (c : ClassId) : vm.assignable c c = true := by
  show Vm.assignableAux vm 256 c c = true
  unfold Vm.assignableAux
  simp only [beq_self_eq_true, Bool.true_or]
/-- the class of the rows of rows: its kind -/
theorem mE_kind {D : va_G} {Z : Nat → ClassId} {s : State} (hK : zK D Z s) (h : mAO s) : ∃ kA kI : Class, s.vm.classes[Z 2]? = some kA ∧ kA.kind = .array (Z 0) (.array .int) ∧ s.vm.classes[Z 0]? = some kI := by
  obtain ⟨comp, c, k, h1, h2, h3, h4, h5⟩ := arrayOverA_spec h
  have e1 : s.vm.findClass ("[" ++ FieldType.int.toString) = some (Z 0) := (hK.2 0 (Z 0, .int) rfl).2
  have e2 : s.vm.findClass ("[" ++ (FieldType.array .int).toString) = some (Z 2) := (hK.2 2 (Z 2, .array .int) rfl).2
  have e3 : c = Z 2 := Option.some.inj (h5.symm.trans e2)
  have e4 : comp = Z 0 := Option.some.inj (h1.symm.trans (show s.vm.findClass (FieldType.array .int).toString = some (Z 0) from e1))
  subst e3
  subst e4
  obtain ⟨kI, hkI, -⟩ := Vm.findClass_spec h1
  exact ⟨k, kI, h3, h4, hkI⟩
section PGROWS
variable {p : Program} {l : Launch} {e : Env} {R : Room} {s : State} {m : MethodId} {args : Array Value} {below : List Frame} {meth : Method} {c : Code} {H : Heap} {locs : List Loc} {cells slots : Nat} {Q : State → Prop} {cc : ByteArray} {pc : Nat} {ls : Array Slot} {rest : List Value} {D : va_G} {Z : Nat → ClassId} {A : Nat → Prop} {ws : va_W} {H0 : Heap}
theorem z_newA {N1 : Nat} {n : Int32} {own : String} {index : Nat} (hx : p.tables.exec = Jvm.exec) (hb : c.code = cc) (hown : s.vm.findClass own = some m.cls) (hcl : (Cond.classLink own index "[I").before args s = true) (hao : mAO s) (hK : zK D Z s) (hP : va_P D vwCl ws H) (hD : va_D A ws) (hS : va_S A H0 H locs) (hA : ∀ q, H0.size ≤ q → A q)
    (hn : ¬ n < 0) (hN : n.toNatClampNeg = N1) (hbytes : N1 * 4 ≤ 536870912) (hcells : cells + 1 ≤ R.cells) (hslots : slots + N1 ≤ R.slots) (hdg : decode cc pc = .ok (.anewarray index, 3))
    (kk : ∀ (q : Nat) (H1 : Heap), va_P D vwCl (ws ++ [(q, .inl (Z 2, N1, .inr (.inr (.inr (.inr (fun _ => none))))))]) H1 → va_D A (ws ++ [(q, .inl (Z 2, N1, .inr (.inr (.inr (.inr (fun _ => none))))))]) → va_S A H0 H1 locs → W p l e R s m args below meth c H1 locs (cells + 1) (slots + N1) Q (F0 m (pc + 3) ls (.ref q :: rest))) : W p l e R s m args below meth c H locs cells slots Q (F0 m pc ls (.int n :: rest)) := by
  subst hN
  refine W.anewA (t := .int) hx hb hown hcl hao rfl hdg rfl hn hbytes hcells hslots fun cA kA comp f1 f2 f3 f4 => ?_
  have e2 : s.vm.findClass ("[" ++ (FieldType.array .int).toString) = some (Z 2) := (hK.2 2 (Z 2, .array .int) rfl).2
  have e3 : cA = Z 2 := Option.some.inj (f1.symm.trans e2)
  subst e3
  generalize hH1 : H.push ({ cls := Z 2, slots := Array.replicate n.toNatClampNeg .null, vm := .none } : Cell) = H1
  have z1 : H1.size = H.size + 1 := by rw [← hH1, Array.size_push]
  have e1 : H1[H.size]? = some (arrV (Z 2) n.toNatClampNeg (fun _ => .null)) := by rw [← hH1, Array.getElem?_push_size, ← arrV_new]
  have o1 : ∀ q : Nat, q < H.size → H1[q]? = H[q]? := fun q hq => by rw [← hH1, Array.getElem?_push, if_neg (Nat.ne_of_lt hq)]
  have hk : ∀ (k : Nat) (x : Nat × va_E), ws[k]? = some x → H1[x.1]? = H[x.1]? := fun k x hx => o1 x.1 ((hP k x hx).lt)
  refine kk H.size H1 ((hP.kept hk).app (fun k x hx => ?_)) (hD.push hP rfl (hA _ hS.1)) ⟨Nat.le_trans hS.1 (by omega), fun x h1 h2 => (o1 x (Nat.lt_of_lt_of_le h1 hS.1)).trans (hS.2.1 x h1 h2), hS.2.2⟩
  match k, hx with
  | 0, hx =>
    cases hx
    show H1[H.size]? = some (vp_cell _ _)
    rw [vp_cell_q, e1]
    rfl
  | k + 1, hx => simp at hx
theorem z_astA {q0 qk : Nat} {a v n n1 : Nat} {f : Nat → Option Nat} {g : Nat → Int32} {i : Int32} (hx : p.tables.exec = Jvm.exec) (hb : c.code = cc) (hao : mAO s) (hK : zK D Z s) (hP : va_P D vwCl ws H) (hD : va_D A ws) (hS : va_S A H0 H locs) (ha : ws[q0]? = some (a, .inl (Z 2, n, .inr (.inr (.inr (.inr f)))))) (hv : ws[qk]? = some (v, .inl (Z 0, n1, .inl g))) (hin : vp_in i n) (hdg : decode cc pc = .ok (.aastore, 1))
    (kk : ∀ (H1 : Heap) (locs1 : List Loc), va_P D vwCl (ws.set q0 (a, .inl (Z 2, n, .inr (.inr (.inr (.inr (va_up f i.toNatClampNeg (some v)))))))) H1 → va_D A (ws.set q0 (a, .inl (Z 2, n, .inr (.inr (.inr (.inr (va_up f i.toNatClampNeg (some v)))))))) → va_S A H0 H1 locs1 → W p l e R s m args below meth c H1 locs1 cells slots Q (F0 m (pc + 1) ls rest)) : W p l e R s m args below meth c H locs cells slots Q (F0 m pc ls (.ref v :: .int i :: .ref a :: rest)) := by
  have hlt : i.toNatClampNeg < n := Nat.not_le.mp fun q => hin (Or.inr q)
  have h0 : ¬ i < 0 := fun q => hin (Or.inl q)
  obtain ⟨kA, kI, k1, k2, k3⟩ := mE_kind hK hao
  have hcv : H[v]? = some (vp_cell (Z 0) (n1, .inl g)) := hP qk _ hv
  refine W.aast hx hb (hP q0 _ ha) (fun q h => by cases h) (fun h => by cases h) k1 k2 rfl k3 ⟨h0, by show _ < (arrV _ _ _).slots.size; rw [arrV_size]; exact hlt⟩ hcv (fun q h => by cases h) k3 (z_assign _ _) rfl rfl hdg fun H1 e z oq => ?_
  refine kk H1 _ (hP.set hD ha ?_ oq) (hD.set ha) (hS.put z oq (hD.2 q0 _ ha))
  show H1[a]? = some (vp_cell _ _)
  rw [e]
  show some ((vp_cell (Z 2) (n, .inr (.inr (.inr (.inr f))))).setSlot i.toNatClampNeg (.ref v)) = _
  rw [vp_cell_q, vp_cell_q, arrV_store]
  congr 2
  funext q
  by_cases hq : q = i.toNatClampNeg
  · subst hq
    simp [updV, va_up, va_rf]
  · simp [updV, va_up, hq]
theorem z_aldA {q0 : Nat} {a n : Nat} {f : Nat → Option Nat} {i : Int32} {v : Value} (hx : p.tables.exec = Jvm.exec) (hb : c.code = cc) (hK : zK D Z s) (hP : va_P D vwCl ws H) (ha : ws[q0]? = some (a, .inl (Z 2, n, .inr (.inr (.inr (.inr f)))))) (hin : vp_in i n) (hv : va_rf (f i.toNatClampNeg) = v) (hdg : decode cc pc = .ok (.aaload, 1))
    (kk : W p l e R s m args below meth c H locs cells slots Q (F0 m (pc + 1) ls (v :: rest))) : W p l e R s m args below meth c H locs cells slots Q (F0 m pc ls (.int i :: .ref a :: rest)) := by
  subst hv
  have hlt : i.toNatClampNeg < n := Nat.not_le.mp fun q => hin (Or.inr q)
  exact W.aald (v := va_rf (f i.toNatClampNeg)) (ty := .array .int) hx hb (hP q0 _ ha) ((hK.2 2 _ rfl).1 n (fun j => va_rf (f j))) rfl (fun q => by cases q) (by show ¬ (i < 0 ∨ (arrV _ _ _).slots.size ≤ _); rw [arrV_size]; exact hin) (by show (arrV _ _ _).slots[_]? = _; rw [arrV_read _ _ hlt]) rfl rfl hdg kk
/-- a clone of a row of ints, cast back -/
theorem z_clone {q0 : Nat} {a n : Nat} {f : Nat → Int32} {own : String} {index ix : Nat} {Ts : List Cond} (hx : p.tables.exec = Jvm.exec) (hb : c.code = cc) (hml : c.maxLocals = ls.size) (hown : s.vm.findClass own = some m.cls) (hts : ∀ w ∈ Ts, w.before args s = true)
    (w1 : Cond.methodLink own index ⟨"[I", "clone", "()Ljava/lang/Object;"⟩ ∈ Ts) (w2 : Cond.sameMethod "[I" "java/lang/Object" "clone" "()Ljava/lang/Object;" ∈ Ts) (w3 : Cond.native ⟨"java/lang/Object", "clone", "()Ljava/lang/Object;"⟩ ∈ Ts) (w4 : Cond.instanceMethod ⟨"java/lang/Object", "clone", "()Ljava/lang/Object;"⟩ ∈ Ts) (w5 : Cond.selects "[I" ⟨"[I", "clone", "()Ljava/lang/Object;"⟩ ⟨"java/lang/Object", "clone", "()Ljava/lang/Object;"⟩ ∈ Ts) (w6 : Cond.classLink own ix "[I" ∈ Ts) (hcl : va_Nw (.castable "[I" "java/lang/Cloneable") s)
    (hK : zK D Z s) (hP : va_P D vwCl ws H) (hD : va_D A ws) (hS : va_S A H0 H locs) (hA : ∀ q, H0.size ≤ q → A q) (ha : ws[q0]? = some (a, .inl (Z 0, n, .inl f)))
    (hframes : 1 ≤ R.frames) (hlocals : (rest.map fun v => v.category).sum + 14 ≤ R.locals) (hcells : cells + 1 ≤ R.cells) (hslots : slots + n ≤ R.slots) (hdg : decode cc pc = .ok (.invokevirtual index, 3)) (hdg2 : decode cc (pc + 3) = .ok (.checkcast ix, 3))
    (kk : ∀ (q : Nat) (H1 : Heap), va_P D vwCl (ws ++ [(q, .inl (Z 0, n, .inl f))]) H1 → va_D A (ws ++ [(q, .inl (Z 0, n, .inl f))]) → va_S A H0 H1 locs → W p l e R s m args below meth c H1 locs (cells + 1) (slots + n) Q (F0 m (pc + 3 + 3) ls (.ref q :: rest))) : W p l e R s m args below meth c H locs cells slots Q (F0 m pc ls (.ref a :: rest)) := by
  have hnm : s.vm.findClass "[I" = some (Z 0) := (hK.2 0 (Z 0, .int) rfl).2
  refine va_clone hx hb hml hown (hts _ w1) (hts _ w2) (hts _ w3) (hts _ w4) (hts _ w5) hcl hK hP hD hS hA q0 0 ha rfl hnm (fun i v h => ?_) hframes hlocals hcells hslots hdg (fun q H1 hK1 hP1 hD1 hS1 => ?_)
  · rw [vp_cell_i] at h
    simp only [arrV, Array.getElem?_ofFn] at h
    split at h
    · cases h; rfl
    · cases h
  · refine va_castA hx hb hown (hts _ w6) hP1 ws.length (x := (n, .inl f)) (cA := Z 0) (by simp) hnm hdg2 ?_
    exact kk q H1 hP1 hD1 hS1
theorem vp_cell_ext {cA : ClassId} {n : Nat} {f g : Nat → Int32} (h : ∀ j, j < n → f j = g j) : vp_cell cA (n, .inl f) = vp_cell cA (n, .inl g) := by
  rw [vp_cell_i, vp_cell_i]
  unfold arrV
  congr 1
  apply congrArg
  funext j
  show Value.int (f j.val) = Value.int (g j.val)
  rw [h j.val j.isLt]
/-- a row's contents matter in its places alone -/
theorem va_P.ext {k : Nat} {a n : Nat} {cA : ClassId} {f g : Nat → Int32} (hP : va_P D vwCl ws H) (hk : ws[k]? = some (a, .inl (cA, n, .inl f))) (h : ∀ j, j < n → f j = g j) : va_P D vwCl (ws.set k (a, .inl (cA, n, .inl g))) H := by
  intro j q hq
  by_cases hj : j = k
  · subst hj
    rw [List.getElem?_set_self (List.getElem?_eq_some_iff.mp hk).1] at hq
    cases hq
    have h0 : H[a]? = some (vp_cell cA (n, .inl f)) := hP j _ hk
    show H[a]? = some (vp_cell cA (n, .inl g))
    rw [h0, vp_cell_ext h]
  · rw [List.getElem?_set_ne (Ne.symm hj)] at hq
    exact hP j q hq
theorem va_cpy_all {f g : Nat → Int32} {n : Nat} : ∀ j, j < n → va_cpy f g 0 0 n j = f j := fun j hj => by
  unfold va_cpy
  rw [if_pos ⟨Nat.zero_le _, by omega⟩]
  congr 1
  omega
end PGROWS
end
section
def xNm : List (Nat × MethodName) := [(9, yX0_init), (34, yX0_stationAtPlace), (40, yX0_addStation), (51, yX0_firstBerth), (57, yX0_addPod), (64, yX0_waitingAt), (69, yX0_addRider), (75, yX0_berthOf), (78, yX0_goalOf), (85, yX0_setGoal), (88, yX0_placesOn), (95, yX0_tellPod), (98, yX0_tellStation), (106, yX0_tellRider), (109, yX0_podAtPlace), (112, yX0_tellCount), (118, yX0_arrivedInAll), (122, yX0_passMinute), (125, yX0_copyFrom), (133, yX0_stationThatAnswers), (136, yX0_waitingInAll), (139, yX0_waitedInAll)]
def xNf : List (Nat × String × String) := [(23, "stations", "I"), (46, "pods", "I")]
def xSt : List (Nat × String) := [(29, "there are 6 stations"), (38, "a station is there"), (49, "there are 12 pods"), (55, "no berth is free"), (67, "9 riders wait there"), (81, "the pod is not idle"), (83, "the pod is there"), (103, "no such rider"), (150, "no such place"), (152, "no such station"), (156, "both stations are the same"), (159, "no such pod"), (161, "nothing is told under this number"), (163, "minutes are not 1 to 100")]
def xCs : List String := ["java/lang/IllegalStateException", "java/lang/IndexOutOfBoundsException", "java/lang/IllegalArgumentException"]
def xDc : List String := ["java/lang/RuntimeException", "java/lang/Exception", "java/lang/Throwable"]
/-- what the class needs of the tables and the statics beside its world -/
def xE : (Nat → Prop) → State → Prop := fun A U =>
  vx_Zq Bundle.tN "UNASSIGNED_STACK" Bundle.steD A U U.heap ∧ vx_Zq Bundle.tN "SUPPRESSED_SENTINEL" Bundle.listD A U U.heap ∧ (∀ q ∈ xSt, ∃ sa : Nat, vk_R RX1 q.1 q.2 sa U) ∧ (∀ q ∈ xNm, va_Nw (.methodLinkNest RX1 q.1 q.2 RX1) U) ∧ (∀ q ∈ xNf, va_Nw (.fieldLinkNest RX1 q.1 RX0 q.2.1 q.2.2 RX1) U) ∧ (∀ E ∈ xCs, va_Nw (.castable E E) U) ∧ (∀ Y ∈ xDc, va_Nw (.declares (Bundle.initS Y)) U)
theorem xE_ok : XOK xE := by
  refine ⟨fun A U g mk a h => ?_, fun A A1 s U H locs h hS hF hU hW => ?_⟩
  · obtain ⟨h1, h2, h3, h4, h5, h6, h7⟩ := h
    exact ⟨vx_Zq.moved (u := U) (U := U.calling g mk a) (Vm.Alike.refl U.vm) h1, vx_Zq.moved (u := U) (U := U.calling g mk a) (Vm.Alike.refl U.vm) h2, fun q hq => by
      obtain ⟨sa, hs⟩ := h3 q hq
      exact ⟨sa, vk_R.same (u := U) (U := U.calling g mk a) rfl hs⟩, fun q hq => va_Nw.same rfl (u := U) (U := U.calling g mk a) rfl (h4 q hq), fun q hq => va_Nw.same rfl (u := U) (U := U.calling g mk a) rfl (h5 q hq), fun q hq => va_Nw.same rfl (u := U) (U := U.calling g mk a) rfl (h6 q hq), fun q hq => va_Nw.same rfl (u := U) (U := U.calling g mk a) rfl (h7 q hq)⟩
  · obtain ⟨h1, h2, h3, h4, h5, h6, h7⟩ := h
    subst hU
    exact ⟨vx_Zq.moved hW.alike ((h1.kept hS.2.1).narrow hF), vx_Zq.moved hW.alike ((h2.kept hS.2.1).narrow hF), fun q hq => by
      obtain ⟨sa, hs⟩ := h3 q hq
      exact ⟨sa, vk_R.warm hW hs⟩, fun q hq => va_Nw.warmM hW (h4 q hq), fun q hq => va_Nw.warmF hW (h5 q hq), fun q hq => va_Nw.warmC hW (h6 q hq), fun q hq => va_Nw.warmD hW (h7 q hq)⟩
-- results that are thrown
def obx {α : Type} (x : Option (Except String Unit)) (k : Option (Except String α)) : Option (Except String α) := match x with | none => none | some (.error E) => some (.error E) | some (.ok _) => k
theorem obx_ok {α : Type} {x : Option (Except String Unit)} {k : Option (Except String α)} {v : α} (h : obx x k = some (.ok v)) : x = some (.ok ()) ∧ k = some (.ok v) := by
  cases x with
  | none => cases h
  | some y => cases y with
    | error E => cases h
    | ok u => exact ⟨rfl, h⟩
theorem obx_er {α : Type} {x : Option (Except String Unit)} {k : Option (Except String α)} {E : String} (h : obx x k = some (.error E)) : x = some (.error E) ∨ (x = some (.ok ()) ∧ k = some (.error E)) := by
  cases x with
  | none => cases h
  | some y => cases y with
    | error E2 => cases h; exact Or.inl rfl
    | ok u => exact Or.inr ⟨rfl, h⟩
def okx {α : Type} (x : Option α) : Option (Except String α) := match x with | none => none | some v => some (.ok v)
theorem okx_ok {α : Type} {x : Option α} {v : α} (h : okx x = some (.ok v)) : x = some v := by
  cases x with
  | none => cases h
  | some y => cases h; rfl
theorem okx_er {α : Type} {x : Option α} {E : String} {P : Prop} (h : okx x = some (.error E)) : P := by
  cases x with
  | none => cases h
  | some y => cases h
theorem er_ok {α : Type} {E : String} {v : α} {P : Prop} (h : (some (.error E) : Option (Except String α)) = some (.ok v)) : P := by cases h
theorem ok_er {α : Type} {E : String} {v : α} {P : Prop} (h : (some (.ok v) : Option (Except String α)) = some (.error E)) : P := by cases h
theorem er_eq {α : Type} {E E2 : String} (h : (some (.error E) : Option (Except String α)) = some (.error E2)) : E = E2 := by cases h; rfl
theorem t3_1 {α β γ : Type} {a a' : α} {b b' : β} {c c' : γ} (h : some (a, b, c) = some (a', b', c')) : a = a' := by cases h; rfl
theorem t3_2 {α β γ : Type} {a a' : α} {b b' : β} {c c' : γ} (h : some (a, b, c) = some (a', b', c')) : b = b' := by cases h; rfl
theorem t3_3 {α β γ : Type} {a a' : α} {b b' : β} {c c' : γ} (h : some (a, b, c) = some (a', b', c')) : c = c' := by cases h; rfl
def ob3 {α β γ δ : Type} (x : Option (α × β × γ)) (k : α → β → γ → Option δ) : Option δ := match x with | none => none | some v => k v.1 v.2.1 v.2.2
theorem ob3_some {α β γ δ : Type} {x : Option (α × β × γ)} {k : α → β → γ → Option δ} {r : δ} (h : ob3 x k = some r) : ∃ a b c, x = some (a, b, c) ∧ k a b c = some r := by
  cases x with
  | none => cases h
  | some v => exact ⟨v.1, v.2.1, v.2.2, rfl, h⟩
-- the class: the ring now, the ring ahead
def owl (Z : Nat → ClassId) (o : Nat) (a b : Nat → Nat) (S T : RS) : va_W := (o, .inr (1, [.ref (a 0), .ref (b 0)])) :: (rwl Z a S ++ rwl Z b T)
theorem owl_eq {Z : Nat → ClassId} {o : Nat} {a b : Nat → Nat} {S S1 T T1 : RS} (h : S = S1) (h2 : T = T1) : owl Z o a b S T = owl Z o a b S1 T1 := by rw [h, h2]
theorem zI_now {Z : Nat → ClassId} {o : Nat} {a b : Nat → Nat} {S S1 T : RS} : zIn (owl Z o a b S T) (rwl Z a S) (rwl Z a S1) (owl Z o a b S1 T) ((o, .inr (1, [.ref (a 0), .ref (b 0)])) :: rwl Z b T) [1, 2, 3, 4, 5, 6, 7, 8, 9, 10, 11, 12] [0, 13, 14, 15, 16, 17, 18, 19, 20, 21, 22, 23, 24] [0, 13, 14, 15, 16, 17, 18, 19, 20, 21, 22, 23, 24, 1, 2, 3, 4, 5, 6, 7, 8, 9, 10, 11, 12] := ⟨rfl, rfl, by decide, by decide, by decide, rfl, by decide⟩
theorem zI_ahead {Z : Nat → ClassId} {o : Nat} {a b : Nat → Nat} {S T1 T : RS} : zIn (owl Z o a b S T) (rwl Z b T) (rwl Z b T1) (owl Z o a b S T1) ((o, .inr (1, [.ref (a 0), .ref (b 0)])) :: rwl Z a S) [13, 14, 15, 16, 17, 18, 19, 20, 21, 22, 23, 24] [0, 1, 2, 3, 4, 5, 6, 7, 8, 9, 10, 11, 12] [0, 1, 2, 3, 4, 5, 6, 7, 8, 9, 10, 11, 12, 13, 14, 15, 16, 17, 18, 19, 20, 21, 22, 23, 24] := ⟨rfl, rfl, by decide, by decide, by decide, rfl, by decide⟩
theorem zI_copy {Z : Nat → ClassId} {o : Nat} {a b : Nat → Nat} {S T1 T : RS} : zIn (owl Z o a b S T) (rwl Z b T ++ rwl Z a S) (rwl Z b T1 ++ rwl Z a S) (owl Z o a b S T1) [(o, .inr (1, [.ref (a 0), .ref (b 0)]))] [13, 14, 15, 16, 17, 18, 19, 20, 21, 22, 23, 24, 1, 2, 3, 4, 5, 6, 7, 8, 9, 10, 11, 12] [0] [0, 13, 14, 15, 16, 17, 18, 19, 20, 21, 22, 23, 24, 1, 2, 3, 4, 5, 6, 7, 8, 9, 10, 11, 12] := ⟨rfl, rfl, by decide, by decide, by decide, rfl, by decide⟩
-- reads alone, and throws
abbrev zQv (sz : Nat) : Array Value → State → Outcome → State → Prop := va_Qv (fun (_ : Unit) => True) (fun _ _ => True) (fun q => sz ≤ q)
abbrev zX (E : String) (sz : Nat) : String → State → State → Prop := vx_X (fun (_ : Unit) => True) (fun E2 _ _ => E2 = E) (fun q => sz ≤ q)
abbrev zNv : Array Value → State → Outcome → State → Prop := va_Qv (fun (_ : Unit) => False) (fun _ _ => True) (fun _ => True)
abbrev zNi : Array Value → State → Outcome → State → Prop := va_Qi (fun _ (_ : Unit) => False) (fun _ _ => True) (fun _ => True)
def GOv (l : Launch) (y : MethodName) (ws : List Cond) (rm : Room) (D : va_G) (Z : Nat → ClassId) (X : (Nat → Prop) → State → Prop) (av : List Value) (w0 : va_W) : Prop :=
  ∀ sz : Nat, Met l y ws rm (va_Pc av (gPre D Z X w0 sz)) (zQv sz) 0 0 (fun q => sz ≤ q)
def GOi (l : Launch) (y : MethodName) (ws : List Cond) (rm : Room) (D : va_G) (Z : Nat → ClassId) (X : (Nat → Prop) → State → Prop) (av : List Value) (w0 : va_W) (r : Int32) : Prop :=
  ∀ sz : Nat, Met l y ws rm (va_Pc av (gPre D Z X w0 sz)) (zQi r sz) 0 0 (fun q => sz ≤ q)
def GOl (l : Launch) (y : MethodName) (ws : List Cond) (rm : Room) (D : va_G) (Z : Nat → ClassId) (X : (Nat → Prop) → State → Prop) (av : List Value) (w0 : va_W) (r : Int64) : Prop :=
  ∀ sz : Nat, Met l y ws rm (va_Pc av (gPre D Z X w0 sz)) (zQl r sz) 0 0 (fun q => sz ≤ q)
def XTv (l : Launch) (y : MethodName) (ws : List Cond) (rm : Room) (D : va_G) (Z : Nat → ClassId) (X : (Nat → Prop) → State → Prop) (av : List Value) (w0 : va_W) (E : String) : Prop :=
  ∀ sz : Nat, vx_Met l y ws rm (va_Pc av (gPre D Z X w0 sz)) zNv (zX E sz) 1 6 (fun q => sz ≤ q)
def XTi (l : Launch) (y : MethodName) (ws : List Cond) (rm : Room) (D : va_G) (Z : Nat → ClassId) (X : (Nat → Prop) → State → Prop) (av : List Value) (w0 : va_W) (E : String) (mc ms : Nat) : Prop :=
  ∀ sz : Nat, vx_Met l y ws rm (va_Pc av (gPre D Z X w0 sz)) zNi (zX E sz) mc ms (fun q => sz ≤ q)
section PGX
variable {l : Launch} {y : MethodName} {ws ws' : List Cond} {rm : Room} {cc : ByteArray} {nL : Nat} {ret : Option FieldType} {av : List Value} {D : va_G} {Z : Nat → ClassId} {X : (Nat → Prop) → State → Prop} {w0 w1 : va_W} {mc ms : Nat}
theorem GOv.of (hy : plainFor y = true) (hw : ws = Cond.code y cc nL ret :: ws') (hn : (lg_sl av).length ≤ nL)
    (body : ∀ (p : Program) (e : Env) (s : State) (m : MethodId) (below : List Frame) (meth : Method) (c : Code) (A0 : Nat → Prop), Cx p s m av.toArray meth c cc y.cls y.name nL ret ws → X A0 s → (∀ q : Nat, s.heap.size ≤ q → A0 q) → (∀ q : Nat, s.heap.size ≤ q → (fun q : Nat => s.heap.size ≤ q) q) → va_P D vwCl w0 s.heap → zK D Z s → va_D A0 w0 → va_S (fun q : Nat => s.heap.size ≤ q) s.heap s.heap [] → ∀ ls : Array Slot, lv_has ls nL (lv_args 0 av) → W p l e rm s m av.toArray below meth c s.heap [] 0 0 (MQ below (zQv s.heap.size) av.toArray s 0 0 (fun q => s.heap.size ≤ q)) (F0 m 0 ls [])) : GOv l y ws rm D Z X av w0 := fun sz => by
  refine z_open hy hw hn ?_
  intro p e s m below meth c C ⟨⟨hsz, hP, hK, hD⟩, hE⟩ ls hl
  subst hsz
  exact body p e s m below meth c (va_A w0 s.heap.size) C hE (fun _ h => Or.inr h) (fun _ h => h) hP hK hD.self va_S.rf ls hl
theorem GOi.of {r : Int32} (hy : plainFor y = true) (hw : ws = Cond.code y cc nL ret :: ws') (hn : (lg_sl av).length ≤ nL)
    (body : ∀ (p : Program) (e : Env) (s : State) (m : MethodId) (below : List Frame) (meth : Method) (c : Code) (A0 : Nat → Prop), Cx p s m av.toArray meth c cc y.cls y.name nL ret ws → X A0 s → (∀ q : Nat, s.heap.size ≤ q → A0 q) → (∀ q : Nat, s.heap.size ≤ q → (fun q : Nat => s.heap.size ≤ q) q) → va_P D vwCl w0 s.heap → zK D Z s → va_D A0 w0 → va_S (fun q : Nat => s.heap.size ≤ q) s.heap s.heap [] → ∀ ls : Array Slot, lv_has ls nL (lv_args 0 av) → W p l e rm s m av.toArray below meth c s.heap [] 0 0 (MQ below (zQi r s.heap.size) av.toArray s 0 0 (fun q => s.heap.size ≤ q)) (F0 m 0 ls [])) : GOi l y ws rm D Z X av w0 r := fun sz => by
  refine z_open hy hw hn ?_
  intro p e s m below meth c C ⟨⟨hsz, hP, hK, hD⟩, hE⟩ ls hl
  subst hsz
  exact body p e s m below meth c (va_A w0 s.heap.size) C hE (fun _ h => Or.inr h) (fun _ h => h) hP hK hD.self va_S.rf ls hl
theorem GOl.of {r : Int64} (hy : plainFor y = true) (hw : ws = Cond.code y cc nL ret :: ws') (hn : (lg_sl av).length ≤ nL)
    (body : ∀ (p : Program) (e : Env) (s : State) (m : MethodId) (below : List Frame) (meth : Method) (c : Code) (A0 : Nat → Prop), Cx p s m av.toArray meth c cc y.cls y.name nL ret ws → X A0 s → (∀ q : Nat, s.heap.size ≤ q → A0 q) → (∀ q : Nat, s.heap.size ≤ q → (fun q : Nat => s.heap.size ≤ q) q) → va_P D vwCl w0 s.heap → zK D Z s → va_D A0 w0 → va_S (fun q : Nat => s.heap.size ≤ q) s.heap s.heap [] → ∀ ls : Array Slot, lv_has ls nL (lv_args 0 av) → W p l e rm s m av.toArray below meth c s.heap [] 0 0 (MQ below (zQl r s.heap.size) av.toArray s 0 0 (fun q => s.heap.size ≤ q)) (F0 m 0 ls [])) : GOl l y ws rm D Z X av w0 r := fun sz => by
  refine z_open hy hw hn ?_
  intro p e s m below meth c C ⟨⟨hsz, hP, hK, hD⟩, hE⟩ ls hl
  subst hsz
  exact body p e s m below meth c (va_A w0 s.heap.size) C hE (fun _ h => Or.inr h) (fun _ h => h) hP hK hD.self va_S.rf ls hl
theorem vx_open {B : State → Prop} {Qc : Array Value → State → Outcome → State → Prop} {XC : String → State → State → Prop} {free : Addr → Prop} (hy : plainName y.cls = true) (hw : ws = Cond.code y cc nL ret :: ws') (hn : (lg_sl av).length ≤ nL)
    (body : ∀ (p : Program) (e : Env) (s : State) (m : MethodId) (below : List Frame) (meth : Method) (c : Code), Cx p s m av.toArray meth c cc y.cls y.name nL ret ws → (∀ x ∈ c.exceptionTable.toList, False) → B s → ∀ ls : Array Slot, lv_has ls nL (lv_args 0 av) → W p l e rm s m av.toArray below meth c s.heap [] 0 0 (vx_MQ below Qc XC av.toArray s mc ms free) (F0 m 0 ls [])) : vx_Met l y ws rm (va_Pc av B) Qc XC mc ms free := by
  refine vx_ofW (cc := cc) (maxL := nL) (ret := ret) hy hw ?_
  intro p e s m args below meth c s₁ Bd hml hno hv
  obtain ⟨rfl, hB⟩ := hv
  have hl := lv_entry av (n := nL) hn
  rw [lg_entry_eq]
  generalize (lg_sl av ++ List.replicate (nL - (lg_sl av).length) Slot.unset).toArray = ls at hl ⊢
  exact body p e s m below meth c ⟨Bd.exec, Bd.bytes, Bd.returns, hml, findClass_of_methodNamed Bd.named, atoms_spec (ws := ws) Bd.pre, Bd.notSynchronized, (name_of_methodNamed Bd.named Bd.method).1⟩ hno hB ls hl
abbrev xBody (l : Launch) (y : MethodName) (cc : ByteArray) (nL : Nat) (ret : Option FieldType) (ws : List Cond) (rm : Room) (D : va_G) (Z : Nat → ClassId) (X : (Nat → Prop) → State → Prop) (av : List Value) (w0 : va_W) (mc ms : Nat) (Qc : Array Value → State → Outcome → State → Prop) (E : String) : Prop :=
  ∀ (p : Program) (e : Env) (s : State) (m : MethodId) (below : List Frame) (meth : Method) (c : Code) (A0 : Nat → Prop), Cx p s m av.toArray meth c cc y.cls y.name nL ret ws → (∀ x ∈ c.exceptionTable.toList, False) → X A0 s → (∀ q : Nat, s.heap.size ≤ q → A0 q) → (∀ q : Nat, s.heap.size ≤ q → (fun q : Nat => s.heap.size ≤ q) q) → va_P D vwCl w0 s.heap → zK D Z s → va_D A0 w0 → va_S (fun q : Nat => s.heap.size ≤ q) s.heap s.heap [] → ∀ ls : Array Slot, lv_has ls nL (lv_args 0 av) → W p l e rm s m av.toArray below meth c s.heap [] 0 0 (vx_MQ below Qc (zX E s.heap.size) av.toArray s mc ms (fun q => s.heap.size ≤ q)) (F0 m 0 ls [])
theorem XTv.of {E : String} (hy : plainName y.cls = true) (hw : ws = Cond.code y cc nL ret :: ws') (hn : (lg_sl av).length ≤ nL) (body : xBody l y cc nL ret ws rm D Z X av w0 1 6 zNv E) : XTv l y ws rm D Z X av w0 E := fun sz => by
  refine vx_open hy hw hn ?_
  intro p e s m below meth c C hno ⟨⟨hsz, hP, hK, hD⟩, hE⟩ ls hl
  subst hsz
  exact body p e s m below meth c (va_A w0 s.heap.size) C hno hE (fun _ h => Or.inr h) (fun _ h => h) hP hK hD.self va_S.rf ls hl
theorem XTi.of {E : String} (hy : plainName y.cls = true) (hw : ws = Cond.code y cc nL ret :: ws') (hn : (lg_sl av).length ≤ nL) (body : xBody l y cc nL ret ws rm D Z X av w0 mc ms zNi E) : XTi l y ws rm D Z X av w0 E mc ms := fun sz => by
  refine vx_open hy hw hn ?_
  intro p e s m below meth c C hno ⟨⟨hsz, hP, hK, hD⟩, hE⟩ ls hl
  subst hsz
  exact body p e s m below meth c (va_A w0 s.heap.size) C hno hE (fun _ h => Or.inr h) (fun _ h => h) hP hK hD.self va_S.rf ls hl
end PGX
section PGXC
variable {p : Program} {l : Launch} {e : Env} {R : Room} {s : State} {m : MethodId} {args : Array Value} {below : List Frame} {meth : Method} {c : Code} {H : Heap} {locs : List Loc} {cells slots : Nat} {Q : State → Prop} {cc : ByteArray} {pc : Nat} {ls : Array Slot} {D : va_G} {Z : Nat → ClassId} {X : (Nat → Prop) → State → Prop} {w w0 w1 w2 wr : va_W} {A : Nat → Prop} {H0 : Heap} {mc ms nL n index maxL : Nat} {a : Array Value}
variable {y : MethodName} {bytes : ByteArray} {ret : Option FieldType} {wsy ws' Ts : List Cond} {rm : Room} {own C host : String} {b : Addr} {As rest st0 : List Value}
theorem z_VN {Qd : Nat → Array Value → State → Outcome → State → Prop} {fd : Nat → Addr → Prop} {q0 ci : Nat} {fs : List Value} {q : vw_C} (S : CallFix p m c cc nL s args Ts own) (hM : ∀ sz : Nat, Met l y wsy rm (va_Pc (.ref b :: As) (zPre D Z w0 sz)) (Qd sz) mc ms (fd sz)) (hg : GoodIn Ts wsy) (hw : wsy = Cond.code y bytes maxL ret :: ws') (hrc : rm.cells = mc) (hrs : rm.slots = ms)
    (hl : va_Nw (.methodLinkNest own index y host) s) (hini : (Cond.initialized y.cls).before args s = true) (hinst : (Cond.instanceMethod y).before args s = true) (hsel : (Cond.selects C y y).before args s = true)
    (hd : y.cls = C ∧ y.cls ≠ "java/lang/invoke/MethodHandle" ∧ y.cls ≠ "java/lang/invoke/VarHandle" ∧ (parseMethodDescriptor y.desc).map (fun d => d.parameters.length) = some n) (hR : rm.frames + 1 ≤ R.frames ∧ 8 + (maxL + 11) + rm.locals ≤ R.locals)
    (hK : zK D Z s) (hP : va_P D vwCl w0 H) (hD : va_D A w0) (hr : w0[q0]? = some (b, .inr (ci, fs))) (hc : vwCl[ci]? = some q) (hq : q.1 = C) (hn : As.length = n) (hsz : ls.size = nL) (hst : st0 = As.reverse ++ .ref b :: rest) (hroom : (rest.map fun v => v.category).sum ≤ 8) (hdg : decode cc pc = .ok (.invokevirtual index, 3)) (hf : cells + mc ≤ R.cells ∧ slots + ms ≤ R.slots) :
    va_Run p l e R s m args below meth c H locs cells slots mc ms (F0 m pc ls st0) rest (Qd H.size (Value.ref b :: As).toArray) (fd H.size) := by
  subst hq
  exact va_runVN S (hM H.size) ⟨va_cnB n S.2.2.2.2 hg hw hrc hrs hl hini hd.2 hR, hinst, hsel⟩ ⟨z_blind, va_recv hK hP hc hr, z_pre hK hP hD⟩ rfl hn hsz hst (lv_room hroom) hdg hf
theorem va_S.up {A1 : Nat → Prop} (h : va_S A1 H0 H locs) (hA : ∀ q, A1 q → A q) : va_S A H0 H locs := ⟨h.1, fun q h1 h2 => h.2.1 q h1 (fun z => h2 (hA q z)), fun q hq => hA _ (h.2.2 q hq)⟩
/-- a call that reads alone, answers nothing -/
theorem zc_v (hr : va_Run p l e R s m args below meth c H locs cells slots mc ms (F0 m pc ls st0) rest (zQv H.size a) (fun q => H.size ≤ q)) (hP : va_P D vwCl w H) (hS : va_S A H0 H locs) (hA : ∀ q, H0.size ≤ q → A q)
    (kk : ∀ (H1 : Heap) (locs1 : List Loc), va_P D vwCl w H1 → va_S A H0 H1 locs1 → W p l e R s m args below meth c H1 locs1 (cells + mc) (slots + ms) Q (F0 m (pc + 3) ls rest)) : W p l e R s m args below meth c H locs cells slots Q (F0 m pc ls st0) := by
  refine va_callv hr hS (fun q h1 h2 => absurd h2 (Nat.not_le.mpr h1)) (fun q h => hA q (Nat.le_trans hS.1 h)) (fun u t H1 locs1 _ _ _ _ _ hk hS1 => ?_)
  exact kk H1 locs1 (hP.kept (fun k q hq => hk q.1 (hP k q hq).lt (Nat.not_le.mpr (hP k q hq).lt))) hS1
/-- an instance method of the own kind that throws -/
theorem z_VX {Qc : Array Value → State → Outcome → State → Prop} {XC : Nat → String → State → State → Prop} {fd : Nat → Addr → Prop} {q0 ci : Nat} {fs : List Value} {q : vw_C} (hX : XOK X) (hE : X A s) (hS : va_S A s.heap H locs) (hA : ∀ q, s.heap.size ≤ q → A q) (S : CallFix p m c cc nL s args Ts own) (hM : ∀ sz : Nat, vx_Met l y wsy rm (va_Pc (.ref b :: As) (gPre D Z X w0 sz)) Qc (XC sz) mc ms (fd sz)) (hg : GoodIn Ts (wsV own index C y wsy)) (hw : wsy = Cond.code y bytes maxL ret :: ws') (hrc : rm.cells = mc) (hrs : rm.slots = ms)
    (hd : y.cls = C ∧ y.cls ≠ "java/lang/invoke/MethodHandle" ∧ y.cls ≠ "java/lang/invoke/VarHandle" ∧ (parseMethodDescriptor y.desc).map (fun d => d.parameters.length) = some n) (hR : rm.frames + 1 ≤ R.frames ∧ 8 + (maxL + 11) + rm.locals ≤ R.locals)
    (hK : zK D Z s) (hP : va_P D vwCl w0 H) (hD : va_D A w0) (hr : w0[q0]? = some (b, .inr (ci, fs))) (hc : vwCl[ci]? = some q) (hq : q.1 = C) (hn : As.length = n) (hsz : ls.size = nL) (hst : st0 = As.reverse ++ .ref b :: rest) (hroom : (rest.map fun v => v.category).sum ≤ 8) (hdg : decode cc pc = .ok (.invokevirtual index, 3)) (hf : cells + mc ≤ R.cells ∧ slots + ms ≤ R.slots) :
    vx_Run p l e R s m args below meth c H locs cells slots mc ms (F0 m pc ls st0) rest (Qc (Value.ref b :: As).toArray) (XC H.size) (fd H.size) := by
  subst hq
  exact vx_runV S (hM H.size) (cwV n S.2.2.2.2 hg hw hrc hrs hd hR) ⟨g_blind hX, va_recv hK hP hc hr, g_pre hX hE hS (z_hF hD hS hA) hK hP hD⟩ rfl hn hsz hst (lv_room hroom) hdg hf
/-- a callee that throws for sure, in a method without handlers: the throw goes on -/
theorem zx_out {E : String} {Qx : Array Value → State → Outcome → State → Prop} (hno : ∀ x ∈ c.exceptionTable.toList, False) (hlk : meth.locks = false) (hr : vx_Run p l e R s m args below meth c H locs cells slots 1 6 (F0 m pc ls st0) rest (zNv a) (zX E H.size) (fun q => H.size ≤ q)) (hS : va_S (fun q : Nat => s.heap.size ≤ q) s.heap H locs) (h1 : cells + 1 ≤ mc) (h2 : slots + 6 ≤ ms) :
    W p l e R s m args below meth c H locs cells slots (vx_MQ below Qx (zX E s.heap.size) args s mc ms (fun q => s.heap.size ≤ q)) (F0 m pc ls st0) := by
  intro T hT X0
  rcases hr T hT X0 with ⟨v, st₀, t, T', L, h0, X', hL, e1, e2, ⟨⟨u, hv, hp, hb⟩, hF⟩, st⟩ | ⟨q, st₀, t, T', L, E2, ce, h0, X', hL, e1, e2, ⟨u, hp, hb, hF⟩, hce, hcv, hcl, st⟩
  · exact hp.elim
  · subst hb
    have hz : H.size ≤ T'.heap.size := by rw [e1, ← h0]; exact hF.1
    have hk : ∀ q : Nat, q < H.size → T'.heap[q]? = H[q]? := fun q h1 => by rw [e1, ← h0]; exact hF.2 q (by rw [h0]; exact h1) (Nat.not_le.mpr h1)
    obtain ⟨t2, a1, b1⟩ := vx_out (rest := rest) (pc := pc) (ls := ls) (Qc := Qx) (XC := zX E2 s.heap.size) (q := q) (ce := ce) (E := E2) (H := T'.heap) (locs := locs ++ L) (cells := cells + 1) (slots := slots + 6) (free := fun q => s.heap.size ≤ q) (mc := mc) (ms := ms) (fun x hx => (hno x hx).elim) hlk (by rw [e1]; exact hce) hcv hcl
      (fun t9 ht9 _ => ⟨(), trivial, rfl, by rw [ht9]; exact Nat.le_trans hS.1 hz, fun q h1 h2 => by rw [ht9, hk q (Nat.lt_of_lt_of_le h1 hS.1)]; exact hS.2.1 q h1 h2⟩)
      (fun z hz9 => (List.mem_append.mp hz9).elim (fun h => hS.2.2 z h) (fun h => Nat.le_trans hS.1 (hL z h))) h1 h2 T' rfl X'
    exact ⟨t2, st.trans a1, b1⟩
/-- throw new E("text") -/
theorem zx_throw {E text : String} {ik is ic : Nat} {Qx : Array Value → State → Outcome → State → Prop} {A0 : Nat → Prop} (hx : p.tables.exec = Jvm.exec) (hb : c.code = cc) (hl : l.stackTraces = false) (hown : s.vm.findClass RX1 = some m.cls) (hno : ∀ x ∈ c.exceptionTable.toList, False) (hlk : meth.locks = false) (hE : xE A0 s) (hA0 : ∀ q : Nat, s.heap.size ≤ q → A0 q)
    (hcls : Bundle.fit E = true) (hk : (Cond.classLink RX1 ik E).before args s = true) (hini : (Cond.initialized E).before args s = true) (hst : (is, text) ∈ xSt)
    (hat : ∀ w ∈ (vx_atS RX1 ic E ["java/lang/RuntimeException", "java/lang/Exception"]).filter goodWord, w.before args s = true) (hcs : E ∈ xCs) (hng : ∀ w ∈ (vx_atS RX1 ic E ["java/lang/RuntimeException", "java/lang/Exception"]).filter (fun w => !goodWord w), w ∈ [Cond.castable E E, Cond.declares (Bundle.initS "java/lang/RuntimeException"), Cond.declares (Bundle.initS "java/lang/Exception"), Cond.declares (Bundle.initS "java/lang/Throwable")])
    (hgood : ∀ w ∈ Cond.classLink RX1 ik E :: Cond.initialized E :: vx_atS RX1 ic E ["java/lang/RuntimeException", "java/lang/Exception"], vx_ot w = true)
    (hS : va_S (fun q : Nat => s.heap.size ≤ q) s.heap H locs) (hsize : ls.size = c.maxLocals)
    (d0 : decode cc pc = .ok (.new ik, 3)) (d3 : decode cc (pc + 3) = .ok (.dup, 1)) (d4 : decode cc (pc + 4) = .ok (.ldc is, 2)) (d6 : decode cc (pc + 6) = .ok (.invokespecial ic, 3)) (d9 : decode cc (pc + 9) = .ok (.athrow, 1))
    (hR1 : 5 < R.frames) (hR2 : (rest.map fun v => v.category).sum + 82 ≤ R.locals) (hR3 : cells + 1 ≤ R.cells) (hR4 : slots + 6 ≤ R.slots) (h1 : cells + 1 ≤ mc) (h2 : slots + 6 ≤ ms) :
    W p l e R s m args below meth c H locs cells slots (vx_MQ below Qx (zX E s.heap.size) args s mc ms (fun q => s.heap.size ≤ q)) (F0 m pc ls rest) := by
  obtain ⟨e1, e2, e3, -, -, e6, e7⟩ := hE
  obtain ⟨sa, hsa⟩ := e3 _ hst
  refine vx_throwS (A := fun q : Nat => s.heap.size ≤ q) (sa := sa) hx hb hl hown hcls (by decide +kernel) hk hini hsa (vx_hat hat hng (vx_c (va_Nw.use rfl (e6 E hcs)) (vx_c (va_Nw.use rfl (e7 _ (List.mem_of_getElem? (i := 0) rfl))) (vx_c (va_Nw.use rfl (e7 _ (List.mem_of_getElem? (i := 1) rfl))) (vx_c (va_Nw.use rfl (e7 _ (List.mem_of_getElem? (i := 2) rfl))) vx_n))))) hgood (e1.narrow hA0) (e2.narrow hA0) hS hsize d0 d3 d4 d6 d9 (fun x hx => (hno x hx).elim) hR1 hR2 hR3 hR4 hlk
    (fun t _ hz hk => ⟨(), trivial, rfl, Nat.le_trans hS.1 hz, fun q h1 h2 => by rw [hk q (Nat.lt_of_lt_of_le h1 hS.1)]; exact hS.2.1 q h1 h2⟩) hS.2.2 h1 h2
theorem zr_v (hx : p.tables.exec = Jvm.exec) (hb : c.code = cc) (hr : meth.sig.returnType = none) (hlk : meth.locks = false) (hS : va_S (fun q : Nat => s.heap.size ≤ q) s.heap H locs) (h1 : cells ≤ mc) (h2 : slots ≤ ms) (hdg : decode cc pc = .ok (.return_, 1)) : W p l e R s m args below meth c H locs cells slots (MQ below (zQv s.heap.size) args s mc ms (fun q => s.heap.size ≤ q)) (F0 m pc ls []) := by
  refine W.widen h1 h2 ?_
  exact W.vret hx hb hr (fun t ht hW => ⟨⟨(), rfl, trivial, trivial⟩, hS.F ht⟩) hS.2.2 hdg hlk
end PGXC
end
section
set_option maxRecDepth 20000 in
theorem ggX1_init_X0_init : GoodIn wsX1_init wsX0_init := goodIn_r _ [10, 11, 2, 3, 12, 13, 14, 15, 16, 17, 18, 19, 20, 21, 22, 23, 24, 25, 6, 26, 27, 28, 29, 30, 31, 32, 33, 34, 35, 36, 37, 38, 39, 40, 41, 42, 43, 44, 45, 46, 47, 48, 49, 50, 51] (by decide +kernel) (by decide +kernel)
set_option maxRecDepth 20000 in
theorem gX1_init_X0_init_n9 : GoodIn wsX1_init (wsX0_init) := ggX1_init_X0_init
theorem dX1_init_0 : decode cX1_init 0 = .ok (.aload_n 0, 1) := by decide +kernel
theorem dX1_init_1 : decode cX1_init 1 = .ok (.invokespecial 1, 3) := by decide +kernel
theorem dX1_init_4 : decode cX1_init 4 = .ok (.aload_n 0, 1) := by decide +kernel
theorem dX1_init_5 : decode cX1_init 5 = .ok (.new 7, 3) := by decide +kernel
theorem dX1_init_8 : decode cX1_init 8 = .ok (.dup, 1) := by decide +kernel
theorem dX1_init_9 : decode cX1_init 9 = .ok (.invokespecial 9, 3) := by decide +kernel
theorem dX1_init_12 : decode cX1_init 12 = .ok (.putfield 10, 3) := by decide +kernel
theorem dX1_init_15 : decode cX1_init 15 = .ok (.aload_n 0, 1) := by decide +kernel
theorem dX1_init_16 : decode cX1_init 16 = .ok (.new 7, 3) := by decide +kernel
theorem dX1_init_19 : decode cX1_init 19 = .ok (.dup, 1) := by decide +kernel
theorem dX1_init_20 : decode cX1_init 20 = .ok (.invokespecial 9, 3) := by decide +kernel
theorem dX1_init_23 : decode cX1_init 23 = .ok (.putfield 16, 3) := by decide +kernel
theorem dX1_init_26 : decode cX1_init 26 = .ok (.return_, 1) := by decide +kernel
set_option maxRecDepth 20000 in
theorem ggX1_build_X1_needPlace : GoodIn wsX1_build wsX1_needPlace := goodIn_ca (goodIn_r _ [8, 9, 10] (by decide +kernel) (by decide +kernel)) (goodIn_sub (fun _ h => List.mem_cons_of_mem _ (List.mem_append_right _ h)) (by decide +kernel))
set_option maxRecDepth 20000 in
theorem gX1_build_X1_needPlace : GoodIn wsX1_build (wsV RX1 19 RX1 yX1_needPlace wsX1_needPlace) := goodIn_app (goodIn_of _ (by decide +kernel)) ggX1_build_X1_needPlace
set_option maxRecDepth 20000 in
theorem ggX1_build_X0_stationAtPlace : GoodIn wsX1_build wsX0_stationAtPlace := goodIn_r _ [14, 15, 16, 17, 18, 12, 19, 20, 21, 22, 23, 32, 33, 34, 35, 36, 37, 38, 39, 40, 41, 42, 43, 44, 45, 46, 47, 48] (by decide +kernel) (by decide +kernel)
set_option maxRecDepth 20000 in
theorem gX1_build_X0_stationAtPlace_n34 : GoodIn wsX1_build (wsX0_stationAtPlace) := ggX1_build_X0_stationAtPlace
set_option maxRecDepth 20000 in
theorem ggX1_build_X0_addStation : GoodIn wsX1_build wsX0_addStation := goodIn_r _ [26, 15, 20, 27, 28, 12, 29, 32, 33, 34, 35, 36, 37, 38, 39, 40, 41, 42, 43, 44, 45, 46, 47, 48] (by decide +kernel) (by decide +kernel)
set_option maxRecDepth 20000 in
theorem gX1_build_X0_addStation_n40 : GoodIn wsX1_build (wsX0_addStation) := ggX1_build_X0_addStation
theorem dX1_build_0 : decode cX1_build 0 = .ok (.aload_n 0, 1) := by decide +kernel
theorem dX1_build_1 : decode cX1_build 1 = .ok (.iload_n 1, 1) := by decide +kernel
theorem dX1_build_2 : decode cX1_build 2 = .ok (.invokevirtual 19, 3) := by decide +kernel
theorem dX1_build_5 : decode cX1_build 5 = .ok (.aload_n 0, 1) := by decide +kernel
theorem dX1_build_6 : decode cX1_build 6 = .ok (.getfield 10, 3) := by decide +kernel
theorem dX1_build_9 : decode cX1_build 9 = .ok (.getfield 23, 3) := by decide +kernel
theorem dX1_build_12 : decode cX1_build 12 = .ok (.bipush 6, 2) := by decide +kernel
theorem dX1_build_14 : decode cX1_build 14 = .ok (.if_icmp .lt 13, 3) := by decide +kernel
theorem dX1_build_17 : decode cX1_build 17 = .ok (.new 27, 3) := by decide +kernel
theorem dX1_build_20 : decode cX1_build 20 = .ok (.dup, 1) := by decide +kernel
theorem dX1_build_21 : decode cX1_build 21 = .ok (.ldc 29, 2) := by decide +kernel
theorem dX1_build_23 : decode cX1_build 23 = .ok (.invokespecial 31, 3) := by decide +kernel
theorem dX1_build_26 : decode cX1_build 26 = .ok (.athrow, 1) := by decide +kernel
theorem dX1_build_27 : decode cX1_build 27 = .ok (.aload_n 0, 1) := by decide +kernel
theorem dX1_build_28 : decode cX1_build 28 = .ok (.getfield 10, 3) := by decide +kernel
theorem dX1_build_31 : decode cX1_build 31 = .ok (.iload_n 1, 1) := by decide +kernel
theorem dX1_build_32 : decode cX1_build 32 = .ok (.invokevirtual 34, 3) := by decide +kernel
theorem dX1_build_35 : decode cX1_build 35 = .ok (.iconst (-1), 1) := by decide +kernel
theorem dX1_build_36 : decode cX1_build 36 = .ok (.if_icmp .eq 13, 3) := by decide +kernel
theorem dX1_build_39 : decode cX1_build 39 = .ok (.new 27, 3) := by decide +kernel
theorem dX1_build_42 : decode cX1_build 42 = .ok (.dup, 1) := by decide +kernel
theorem dX1_build_43 : decode cX1_build 43 = .ok (.ldc 38, 2) := by decide +kernel
theorem dX1_build_45 : decode cX1_build 45 = .ok (.invokespecial 31, 3) := by decide +kernel
theorem dX1_build_48 : decode cX1_build 48 = .ok (.athrow, 1) := by decide +kernel
theorem dX1_build_49 : decode cX1_build 49 = .ok (.aload_n 0, 1) := by decide +kernel
theorem dX1_build_50 : decode cX1_build 50 = .ok (.getfield 10, 3) := by decide +kernel
theorem dX1_build_53 : decode cX1_build 53 = .ok (.iload_n 1, 1) := by decide +kernel
theorem dX1_build_54 : decode cX1_build 54 = .ok (.invokevirtual 40, 3) := by decide +kernel
theorem dX1_build_57 : decode cX1_build 57 = .ok (.ireturn, 1) := by decide +kernel
set_option maxRecDepth 20000 in
theorem ggX1_pod_X1_needStation : GoodIn wsX1_pod wsX1_needStation := goodIn_ca (goodIn_r _ [8, 9, 10, 3, 32, 33, 34, 35, 36, 37, 38, 39, 40, 41, 42, 43, 44, 45, 46, 47, 48, 49, 50] (by decide +kernel) (by decide +kernel)) (goodIn_sub (fun _ h => List.mem_cons_of_mem _ (List.mem_append_right _ h)) (by decide +kernel))
set_option maxRecDepth 20000 in
theorem gX1_pod_X1_needStation : GoodIn wsX1_pod (wsV RX1 43 RX1 yX1_needStation wsX1_needStation) := goodIn_app (goodIn_of _ (by decide +kernel)) ggX1_pod_X1_needStation
set_option maxRecDepth 20000 in
theorem ggX1_pod_X0_firstBerth : GoodIn wsX1_pod wsX0_firstBerth := goodIn_r _ [14, 15, 16, 17, 12, 18, 19, 20, 21, 22, 23, 34, 35, 36, 37, 38, 39, 40, 41, 42, 43, 44, 45, 46, 47, 48, 49, 50] (by decide +kernel) (by decide +kernel)
set_option maxRecDepth 20000 in
theorem gX1_pod_X0_firstBerth_n51 : GoodIn wsX1_pod (wsX0_firstBerth) := ggX1_pod_X0_firstBerth
set_option maxRecDepth 20000 in
theorem ggX1_pod_X0_addPod : GoodIn wsX1_pod wsX0_addPod := goodIn_r _ [26, 27, 19, 28, 11, 13, 12, 14, 15, 16, 17, 18, 20, 21, 22, 23, 29, 30, 31, 34, 35, 36, 37, 38, 39, 40, 41, 42, 43, 44, 45, 46, 47, 48, 49, 50] (by decide +kernel) (by decide +kernel)
set_option maxRecDepth 20000 in
theorem gX1_pod_X0_addPod_n57 : GoodIn wsX1_pod (wsX0_addPod) := ggX1_pod_X0_addPod
theorem dX1_pod_0 : decode cX1_pod 0 = .ok (.aload_n 0, 1) := by decide +kernel
theorem dX1_pod_1 : decode cX1_pod 1 = .ok (.iload_n 1, 1) := by decide +kernel
theorem dX1_pod_2 : decode cX1_pod 2 = .ok (.invokevirtual 43, 3) := by decide +kernel
theorem dX1_pod_5 : decode cX1_pod 5 = .ok (.aload_n 0, 1) := by decide +kernel
theorem dX1_pod_6 : decode cX1_pod 6 = .ok (.getfield 10, 3) := by decide +kernel
theorem dX1_pod_9 : decode cX1_pod 9 = .ok (.getfield 46, 3) := by decide +kernel
theorem dX1_pod_12 : decode cX1_pod 12 = .ok (.bipush 12, 2) := by decide +kernel
theorem dX1_pod_14 : decode cX1_pod 14 = .ok (.if_icmp .lt 13, 3) := by decide +kernel
theorem dX1_pod_17 : decode cX1_pod 17 = .ok (.new 27, 3) := by decide +kernel
theorem dX1_pod_20 : decode cX1_pod 20 = .ok (.dup, 1) := by decide +kernel
theorem dX1_pod_21 : decode cX1_pod 21 = .ok (.ldc 49, 2) := by decide +kernel
theorem dX1_pod_23 : decode cX1_pod 23 = .ok (.invokespecial 31, 3) := by decide +kernel
theorem dX1_pod_26 : decode cX1_pod 26 = .ok (.athrow, 1) := by decide +kernel
theorem dX1_pod_27 : decode cX1_pod 27 = .ok (.aload_n 0, 1) := by decide +kernel
theorem dX1_pod_28 : decode cX1_pod 28 = .ok (.getfield 10, 3) := by decide +kernel
theorem dX1_pod_31 : decode cX1_pod 31 = .ok (.iload_n 1, 1) := by decide +kernel
theorem dX1_pod_32 : decode cX1_pod 32 = .ok (.iconst 0, 1) := by decide +kernel
theorem dX1_pod_33 : decode cX1_pod 33 = .ok (.invokevirtual 51, 3) := by decide +kernel
theorem dX1_pod_36 : decode cX1_pod 36 = .ok (.iconst (-1), 1) := by decide +kernel
theorem dX1_pod_37 : decode cX1_pod 37 = .ok (.if_icmp .ne 13, 3) := by decide +kernel
theorem dX1_pod_40 : decode cX1_pod 40 = .ok (.new 27, 3) := by decide +kernel
theorem dX1_pod_43 : decode cX1_pod 43 = .ok (.dup, 1) := by decide +kernel
theorem dX1_pod_44 : decode cX1_pod 44 = .ok (.ldc 55, 2) := by decide +kernel
theorem dX1_pod_46 : decode cX1_pod 46 = .ok (.invokespecial 31, 3) := by decide +kernel
theorem dX1_pod_49 : decode cX1_pod 49 = .ok (.athrow, 1) := by decide +kernel
theorem dX1_pod_50 : decode cX1_pod 50 = .ok (.aload_n 0, 1) := by decide +kernel
theorem dX1_pod_51 : decode cX1_pod 51 = .ok (.getfield 10, 3) := by decide +kernel
theorem dX1_pod_54 : decode cX1_pod 54 = .ok (.iload_n 1, 1) := by decide +kernel
theorem dX1_pod_55 : decode cX1_pod 55 = .ok (.invokevirtual 57, 3) := by decide +kernel
theorem dX1_pod_58 : decode cX1_pod 58 = .ok (.ireturn, 1) := by decide +kernel
set_option maxRecDepth 20000 in
theorem ggX1_ride_X1_needTwoStations : GoodIn wsX1_ride wsX1_needTwoStations := goodIn_ca (goodIn_ca (goodIn_r _ [8, 9, 10, 11, 12, 13, 7, 14, 15, 16, 3, 41, 42, 43, 44, 45, 46, 47, 48, 49, 50, 51, 52, 53, 54, 55, 56, 57, 58, 59] (by decide +kernel) (by decide +kernel)) (goodIn_sub (fun _ h => List.mem_cons_of_mem _ (List.mem_append_left _ (List.mem_append_right _ h))) (by decide +kernel))) (goodIn_sub (fun _ h => List.mem_cons_of_mem _ (List.mem_append_right _ h)) (by decide +kernel))
set_option maxRecDepth 20000 in
theorem gX1_ride_X1_needTwoStations : GoodIn wsX1_ride (wsV RX1 60 RX1 yX1_needTwoStations wsX1_needTwoStations) := goodIn_app (goodIn_of _ (by decide +kernel)) ggX1_ride_X1_needTwoStations
set_option maxRecDepth 20000 in
theorem ggX1_ride_X0_waitingAt : GoodIn wsX1_ride wsX0_waitingAt := goodIn_r _ [20, 21, 22, 23, 24, 25, 26, 27, 18, 28, 43, 44, 45, 46, 47, 48, 49, 50, 51, 52, 53, 54, 55, 56, 57, 58, 59] (by decide +kernel) (by decide +kernel)
set_option maxRecDepth 20000 in
theorem gX1_ride_X0_waitingAt_n64 : GoodIn wsX1_ride (wsX0_waitingAt) := ggX1_ride_X0_waitingAt
set_option maxRecDepth 20000 in
theorem ggX1_ride_X0_addRider : GoodIn wsX1_ride wsX0_addRider := goodIn_r _ [31, 32, 33, 34, 35, 36, 21, 37, 17, 19, 18, 20, 22, 23, 24, 25, 26, 27, 28, 38, 39, 40, 43, 44, 45, 46, 47, 48, 49, 50, 51, 52, 53, 54, 55, 56, 57, 58, 59] (by decide +kernel) (by decide +kernel)
set_option maxRecDepth 20000 in
theorem gX1_ride_X0_addRider_n69 : GoodIn wsX1_ride (wsX0_addRider) := ggX1_ride_X0_addRider
theorem dX1_ride_0 : decode cX1_ride 0 = .ok (.aload_n 0, 1) := by decide +kernel
theorem dX1_ride_1 : decode cX1_ride 1 = .ok (.iload_n 1, 1) := by decide +kernel
theorem dX1_ride_2 : decode cX1_ride 2 = .ok (.iload_n 2, 1) := by decide +kernel
theorem dX1_ride_3 : decode cX1_ride 3 = .ok (.invokevirtual 60, 3) := by decide +kernel
theorem dX1_ride_6 : decode cX1_ride 6 = .ok (.aload_n 0, 1) := by decide +kernel
theorem dX1_ride_7 : decode cX1_ride 7 = .ok (.getfield 10, 3) := by decide +kernel
theorem dX1_ride_10 : decode cX1_ride 10 = .ok (.iload_n 1, 1) := by decide +kernel
theorem dX1_ride_11 : decode cX1_ride 11 = .ok (.invokevirtual 64, 3) := by decide +kernel
theorem dX1_ride_14 : decode cX1_ride 14 = .ok (.bipush 9, 2) := by decide +kernel
theorem dX1_ride_16 : decode cX1_ride 16 = .ok (.if_icmp .lt 13, 3) := by decide +kernel
theorem dX1_ride_19 : decode cX1_ride 19 = .ok (.new 27, 3) := by decide +kernel
theorem dX1_ride_22 : decode cX1_ride 22 = .ok (.dup, 1) := by decide +kernel
theorem dX1_ride_23 : decode cX1_ride 23 = .ok (.ldc 67, 2) := by decide +kernel
theorem dX1_ride_25 : decode cX1_ride 25 = .ok (.invokespecial 31, 3) := by decide +kernel
theorem dX1_ride_28 : decode cX1_ride 28 = .ok (.athrow, 1) := by decide +kernel
theorem dX1_ride_29 : decode cX1_ride 29 = .ok (.aload_n 0, 1) := by decide +kernel
theorem dX1_ride_30 : decode cX1_ride 30 = .ok (.getfield 10, 3) := by decide +kernel
theorem dX1_ride_33 : decode cX1_ride 33 = .ok (.iload_n 1, 1) := by decide +kernel
theorem dX1_ride_34 : decode cX1_ride 34 = .ok (.iload_n 2, 1) := by decide +kernel
theorem dX1_ride_35 : decode cX1_ride 35 = .ok (.invokevirtual 69, 3) := by decide +kernel
theorem dX1_ride_38 : decode cX1_ride 38 = .ok (.pop, 1) := by decide +kernel
theorem dX1_ride_39 : decode cX1_ride 39 = .ok (.aload_n 0, 1) := by decide +kernel
theorem dX1_ride_40 : decode cX1_ride 40 = .ok (.getfield 10, 3) := by decide +kernel
theorem dX1_ride_43 : decode cX1_ride 43 = .ok (.iload_n 1, 1) := by decide +kernel
theorem dX1_ride_44 : decode cX1_ride 44 = .ok (.invokevirtual 64, 3) := by decide +kernel
theorem dX1_ride_47 : decode cX1_ride 47 = .ok (.ireturn, 1) := by decide +kernel
set_option maxRecDepth 20000 in
theorem ggX1_send_X1_needPod : GoodIn wsX1_send wsX1_needPod := goodIn_ca (goodIn_r _ [8, 9, 10, 3, 48, 49, 50, 51, 52, 53, 54, 55, 56, 57, 58, 59, 60, 61, 62, 63, 64, 65, 66] (by decide +kernel) (by decide +kernel)) (goodIn_sub (fun _ h => List.mem_cons_of_mem _ (List.mem_append_right _ h)) (by decide +kernel))
set_option maxRecDepth 20000 in
theorem gX1_send_X1_needPod : GoodIn wsX1_send (wsV RX1 72 RX1 yX1_needPod wsX1_needPod) := goodIn_app (goodIn_of _ (by decide +kernel)) ggX1_send_X1_needPod
set_option maxRecDepth 20000 in
theorem ggX1_send_X1_needStation : GoodIn wsX1_send wsX1_needStation := goodIn_ca (goodIn_r _ [14, 9, 10, 3, 48, 49, 50, 51, 52, 53, 54, 55, 56, 57, 58, 59, 60, 61, 62, 63, 64, 65, 66] (by decide +kernel) (by decide +kernel)) (goodIn_sub (fun _ h => List.mem_cons_of_mem _ (List.mem_append_right _ h)) (by decide +kernel))
set_option maxRecDepth 20000 in
theorem gX1_send_X1_needStation : GoodIn wsX1_send (wsV RX1 43 RX1 yX1_needStation wsX1_needStation) := goodIn_app (goodIn_of _ (by decide +kernel)) ggX1_send_X1_needStation
set_option maxRecDepth 20000 in
theorem ggX1_send_X0_berthOf : GoodIn wsX1_send wsX0_berthOf := goodIn_r _ [18, 19, 20, 21, 16, 22, 50, 51, 52, 53, 54, 55, 56, 57, 58, 59, 60, 61, 62, 63, 64, 65, 66] (by decide +kernel) (by decide +kernel)
set_option maxRecDepth 20000 in
theorem gX1_send_X0_berthOf_n75 : GoodIn wsX1_send (wsX0_berthOf) := ggX1_send_X0_berthOf
set_option maxRecDepth 20000 in
theorem ggX1_send_X0_goalOf : GoodIn wsX1_send wsX0_goalOf := goodIn_r _ [25, 26, 27, 28, 16, 29, 50, 51, 52, 53, 54, 55, 56, 57, 58, 59, 60, 61, 62, 63, 64, 65, 66] (by decide +kernel) (by decide +kernel)
set_option maxRecDepth 20000 in
theorem gX1_send_X0_goalOf_n78 : GoodIn wsX1_send (wsX0_goalOf) := ggX1_send_X0_goalOf
set_option maxRecDepth 20000 in
theorem ggX1_send_X0_setGoal : GoodIn wsX1_send wsX0_setGoal := goodIn_r _ [32, 26, 33, 34, 16, 35, 50, 51, 52, 53, 54, 55, 56, 57, 58, 59, 60, 61, 62, 63, 64, 65, 66] (by decide +kernel) (by decide +kernel)
set_option maxRecDepth 20000 in
theorem gX1_send_X0_setGoal_n85 : GoodIn wsX1_send (wsX0_setGoal) := ggX1_send_X0_setGoal
set_option maxRecDepth 20000 in
theorem ggX1_send_X0_placesOn : GoodIn wsX1_send wsX0_placesOn := goodIn_r _ [38, 39, 40, 41, 16, 42, 43, 27, 28, 29, 44, 45, 46, 47, 50, 51, 52, 53, 54, 55, 56, 57, 58, 59, 60, 61, 62, 63, 64, 65, 66] (by decide +kernel) (by decide +kernel)
set_option maxRecDepth 20000 in
theorem gX1_send_X0_placesOn_n88 : GoodIn wsX1_send (wsX0_placesOn) := ggX1_send_X0_placesOn
theorem dX1_send_0 : decode cX1_send 0 = .ok (.aload_n 0, 1) := by decide +kernel
theorem dX1_send_1 : decode cX1_send 1 = .ok (.iload_n 1, 1) := by decide +kernel
theorem dX1_send_2 : decode cX1_send 2 = .ok (.invokevirtual 72, 3) := by decide +kernel
theorem dX1_send_5 : decode cX1_send 5 = .ok (.aload_n 0, 1) := by decide +kernel
theorem dX1_send_6 : decode cX1_send 6 = .ok (.iload_n 2, 1) := by decide +kernel
theorem dX1_send_7 : decode cX1_send 7 = .ok (.invokevirtual 43, 3) := by decide +kernel
theorem dX1_send_10 : decode cX1_send 10 = .ok (.aload_n 0, 1) := by decide +kernel
theorem dX1_send_11 : decode cX1_send 11 = .ok (.getfield 10, 3) := by decide +kernel
theorem dX1_send_14 : decode cX1_send 14 = .ok (.iload_n 1, 1) := by decide +kernel
theorem dX1_send_15 : decode cX1_send 15 = .ok (.invokevirtual 75, 3) := by decide +kernel
theorem dX1_send_18 : decode cX1_send 18 = .ok (.istore_n 3, 1) := by decide +kernel
theorem dX1_send_19 : decode cX1_send 19 = .ok (.iload_n 3, 1) := by decide +kernel
theorem dX1_send_20 : decode cX1_send 20 = .ok (.iconst (-1), 1) := by decide +kernel
theorem dX1_send_21 : decode cX1_send 21 = .ok (.if_icmp .eq 15, 3) := by decide +kernel
theorem dX1_send_24 : decode cX1_send 24 = .ok (.aload_n 0, 1) := by decide +kernel
theorem dX1_send_25 : decode cX1_send 25 = .ok (.getfield 10, 3) := by decide +kernel
theorem dX1_send_28 : decode cX1_send 28 = .ok (.iload_n 1, 1) := by decide +kernel
theorem dX1_send_29 : decode cX1_send 29 = .ok (.invokevirtual 78, 3) := by decide +kernel
theorem dX1_send_32 : decode cX1_send 32 = .ok (.iconst (-1), 1) := by decide +kernel
theorem dX1_send_33 : decode cX1_send 33 = .ok (.if_icmp .eq 13, 3) := by decide +kernel
theorem dX1_send_36 : decode cX1_send 36 = .ok (.new 27, 3) := by decide +kernel
theorem dX1_send_39 : decode cX1_send 39 = .ok (.dup, 1) := by decide +kernel
theorem dX1_send_40 : decode cX1_send 40 = .ok (.ldc 81, 2) := by decide +kernel
theorem dX1_send_42 : decode cX1_send 42 = .ok (.invokespecial 31, 3) := by decide +kernel
theorem dX1_send_45 : decode cX1_send 45 = .ok (.athrow, 1) := by decide +kernel
theorem dX1_send_46 : decode cX1_send 46 = .ok (.iload_n 3, 1) := by decide +kernel
theorem dX1_send_47 : decode cX1_send 47 = .ok (.iconst 3, 1) := by decide +kernel
theorem dX1_send_48 : decode cX1_send 48 = .ok (.idiv, 1) := by decide +kernel
theorem dX1_send_49 : decode cX1_send 49 = .ok (.istore 4, 2) := by decide +kernel
theorem dX1_send_51 : decode cX1_send 51 = .ok (.iload 4, 2) := by decide +kernel
theorem dX1_send_53 : decode cX1_send 53 = .ok (.iload_n 2, 1) := by decide +kernel
theorem dX1_send_54 : decode cX1_send 54 = .ok (.if_icmp .ne 13, 3) := by decide +kernel
theorem dX1_send_57 : decode cX1_send 57 = .ok (.new 27, 3) := by decide +kernel
theorem dX1_send_60 : decode cX1_send 60 = .ok (.dup, 1) := by decide +kernel
theorem dX1_send_61 : decode cX1_send 61 = .ok (.ldc 83, 2) := by decide +kernel
theorem dX1_send_63 : decode cX1_send 63 = .ok (.invokespecial 31, 3) := by decide +kernel
theorem dX1_send_66 : decode cX1_send 66 = .ok (.athrow, 1) := by decide +kernel
theorem dX1_send_67 : decode cX1_send 67 = .ok (.aload_n 0, 1) := by decide +kernel
theorem dX1_send_68 : decode cX1_send 68 = .ok (.getfield 10, 3) := by decide +kernel
theorem dX1_send_71 : decode cX1_send 71 = .ok (.iload_n 1, 1) := by decide +kernel
theorem dX1_send_72 : decode cX1_send 72 = .ok (.iload_n 2, 1) := by decide +kernel
theorem dX1_send_73 : decode cX1_send 73 = .ok (.invokevirtual 85, 3) := by decide +kernel
theorem dX1_send_76 : decode cX1_send 76 = .ok (.aload_n 0, 1) := by decide +kernel
theorem dX1_send_77 : decode cX1_send 77 = .ok (.getfield 10, 3) := by decide +kernel
theorem dX1_send_80 : decode cX1_send 80 = .ok (.iload 4, 2) := by decide +kernel
theorem dX1_send_82 : decode cX1_send 82 = .ok (.iload_n 2, 1) := by decide +kernel
theorem dX1_send_83 : decode cX1_send 83 = .ok (.invokevirtual 88, 3) := by decide +kernel
theorem dX1_send_86 : decode cX1_send 86 = .ok (.ireturn, 1) := by decide +kernel
set_option maxRecDepth 20000 in
theorem ggX1_told_X1_needPod : GoodIn wsX1_told wsX1_needPod := goodIn_ca (goodIn_r _ [6, 7, 8, 1, 36, 37, 38, 39, 40, 41, 42, 43, 44, 45, 46, 47, 48, 49, 50, 51, 52, 53, 54] (by decide +kernel) (by decide +kernel)) (goodIn_sub (fun _ h => List.mem_cons_of_mem _ (List.mem_append_right _ h)) (by decide +kernel))
set_option maxRecDepth 20000 in
theorem gX1_told_X1_needPod : GoodIn wsX1_told (wsV RX1 72 RX1 yX1_needPod wsX1_needPod) := goodIn_app (goodIn_of _ (by decide +kernel)) ggX1_told_X1_needPod
set_option maxRecDepth 20000 in
theorem ggX1_told_X1_needWhat : GoodIn wsX1_told wsX1_needWhat := goodIn_ca (goodIn_r _ [12, 7, 8] (by decide +kernel) (by decide +kernel)) (goodIn_sub (fun _ h => List.mem_cons_of_mem _ (List.mem_append_right _ h)) (by decide +kernel))
set_option maxRecDepth 20000 in
theorem gX1_told_X1_needWhat : GoodIn wsX1_told (wsV RX1 91 RX1 yX1_needWhat wsX1_needWhat) := goodIn_app (goodIn_of _ (by decide +kernel)) ggX1_told_X1_needWhat
set_option maxRecDepth 20000 in
theorem ggX1_told_X0_tellPod : GoodIn wsX1_told wsX0_tellPod := goodIn_r _ [16, 17, 18, 19, 20, 21, 22, 14, 23, 24, 25, 26, 27, 28, 29, 30, 31, 32, 33, 34, 35, 38, 39, 40, 41, 42, 43, 44, 45, 46, 47, 48, 49, 50, 51, 52, 53, 54] (by decide +kernel) (by decide +kernel)
set_option maxRecDepth 20000 in
theorem gX1_told_X0_tellPod_n95 : GoodIn wsX1_told (wsX0_tellPod) := ggX1_told_X0_tellPod
theorem dX1_told_0 : decode cX1_told 0 = .ok (.aload_n 0, 1) := by decide +kernel
theorem dX1_told_1 : decode cX1_told 1 = .ok (.iload_n 1, 1) := by decide +kernel
theorem dX1_told_2 : decode cX1_told 2 = .ok (.invokevirtual 72, 3) := by decide +kernel
theorem dX1_told_5 : decode cX1_told 5 = .ok (.aload_n 0, 1) := by decide +kernel
theorem dX1_told_6 : decode cX1_told 6 = .ok (.iload_n 2, 1) := by decide +kernel
theorem dX1_told_7 : decode cX1_told 7 = .ok (.iconst 0, 1) := by decide +kernel
theorem dX1_told_8 : decode cX1_told 8 = .ok (.iconst 5, 1) := by decide +kernel
theorem dX1_told_9 : decode cX1_told 9 = .ok (.invokevirtual 91, 3) := by decide +kernel
theorem dX1_told_12 : decode cX1_told 12 = .ok (.aload_n 0, 1) := by decide +kernel
theorem dX1_told_13 : decode cX1_told 13 = .ok (.getfield 10, 3) := by decide +kernel
theorem dX1_told_16 : decode cX1_told 16 = .ok (.iload_n 1, 1) := by decide +kernel
theorem dX1_told_17 : decode cX1_told 17 = .ok (.iload_n 2, 1) := by decide +kernel
theorem dX1_told_18 : decode cX1_told 18 = .ok (.invokevirtual 95, 3) := by decide +kernel
theorem dX1_told_21 : decode cX1_told 21 = .ok (.ireturn, 1) := by decide +kernel
set_option maxRecDepth 20000 in
theorem ggX1_station_X1_needStation : GoodIn wsX1_station wsX1_needStation := goodIn_ca (goodIn_r _ [6, 7, 8, 1, 65, 66, 67, 68, 69, 70, 71, 72, 73, 74, 75, 76, 77, 78, 79, 80, 81, 82, 83] (by decide +kernel) (by decide +kernel)) (goodIn_sub (fun _ h => List.mem_cons_of_mem _ (List.mem_append_right _ h)) (by decide +kernel))
set_option maxRecDepth 20000 in
theorem gX1_station_X1_needStation : GoodIn wsX1_station (wsV RX1 43 RX1 yX1_needStation wsX1_needStation) := goodIn_app (goodIn_of _ (by decide +kernel)) ggX1_station_X1_needStation
set_option maxRecDepth 20000 in
theorem ggX1_station_X1_needWhat : GoodIn wsX1_station wsX1_needWhat := goodIn_ca (goodIn_r _ [12, 7, 8] (by decide +kernel) (by decide +kernel)) (goodIn_sub (fun _ h => List.mem_cons_of_mem _ (List.mem_append_right _ h)) (by decide +kernel))
set_option maxRecDepth 20000 in
theorem gX1_station_X1_needWhat : GoodIn wsX1_station (wsV RX1 91 RX1 yX1_needWhat wsX1_needWhat) := goodIn_app (goodIn_of _ (by decide +kernel)) ggX1_station_X1_needWhat
set_option maxRecDepth 20000 in
theorem ggX1_station_X0_tellStation : GoodIn wsX1_station wsX0_tellStation := goodIn_r _ [16, 17, 18, 19, 20, 14, 21, 22, 23, 24, 25, 26, 27, 28, 29, 30, 31, 32, 33, 34, 35, 36, 37, 38, 39, 40, 41, 42, 43, 44, 45, 46, 47, 48, 49, 50, 51, 52, 53, 54, 55, 56, 57, 58, 59, 60, 61, 62, 63, 64, 67, 68, 69, 70, 71, 72, 73, 74, 75, 76, 77, 78, 79, 80, 81, 82, 83] (by decide +kernel) (by decide +kernel)
set_option maxRecDepth 20000 in
theorem gX1_station_X0_tellStation_n98 : GoodIn wsX1_station (wsX0_tellStation) := ggX1_station_X0_tellStation
theorem dX1_station_0 : decode cX1_station 0 = .ok (.aload_n 0, 1) := by decide +kernel
theorem dX1_station_1 : decode cX1_station 1 = .ok (.iload_n 1, 1) := by decide +kernel
theorem dX1_station_2 : decode cX1_station 2 = .ok (.invokevirtual 43, 3) := by decide +kernel
theorem dX1_station_5 : decode cX1_station 5 = .ok (.aload_n 0, 1) := by decide +kernel
theorem dX1_station_6 : decode cX1_station 6 = .ok (.iload_n 2, 1) := by decide +kernel
theorem dX1_station_7 : decode cX1_station 7 = .ok (.iconst 0, 1) := by decide +kernel
theorem dX1_station_8 : decode cX1_station 8 = .ok (.bipush 6, 2) := by decide +kernel
theorem dX1_station_10 : decode cX1_station 10 = .ok (.invokevirtual 91, 3) := by decide +kernel
theorem dX1_station_13 : decode cX1_station 13 = .ok (.aload_n 0, 1) := by decide +kernel
theorem dX1_station_14 : decode cX1_station 14 = .ok (.getfield 10, 3) := by decide +kernel
theorem dX1_station_17 : decode cX1_station 17 = .ok (.iload_n 1, 1) := by decide +kernel
theorem dX1_station_18 : decode cX1_station 18 = .ok (.iload_n 2, 1) := by decide +kernel
theorem dX1_station_19 : decode cX1_station 19 = .ok (.invokevirtual 98, 3) := by decide +kernel
theorem dX1_station_22 : decode cX1_station 22 = .ok (.ireturn, 1) := by decide +kernel
set_option maxRecDepth 20000 in
theorem ggX1_waits_X1_needStation : GoodIn wsX1_waits wsX1_needStation := goodIn_ca (goodIn_r _ [8, 1, 2, 3, 31, 32, 33, 34, 35, 36, 37, 38, 39, 40, 41, 42, 43, 44, 45, 46, 47, 48, 49] (by decide +kernel) (by decide +kernel)) (goodIn_sub (fun _ h => List.mem_cons_of_mem _ (List.mem_append_right _ h)) (by decide +kernel))
set_option maxRecDepth 20000 in
theorem gX1_waits_X1_needStation : GoodIn wsX1_waits (wsV RX1 43 RX1 yX1_needStation wsX1_needStation) := goodIn_app (goodIn_of _ (by decide +kernel)) ggX1_waits_X1_needStation
set_option maxRecDepth 20000 in
theorem ggX1_waits_X0_waitingAt : GoodIn wsX1_waits wsX0_waitingAt := goodIn_r _ [12, 13, 14, 15, 16, 17, 18, 19, 10, 20, 33, 34, 35, 36, 37, 38, 39, 40, 41, 42, 43, 44, 45, 46, 47, 48, 49] (by decide +kernel) (by decide +kernel)
set_option maxRecDepth 20000 in
theorem gX1_waits_X0_waitingAt_n64 : GoodIn wsX1_waits (wsX0_waitingAt) := ggX1_waits_X0_waitingAt
set_option maxRecDepth 20000 in
theorem ggX1_waits_X0_tellRider : GoodIn wsX1_waits wsX0_tellRider := goodIn_r _ [23, 24, 25, 26, 27, 10, 28, 29, 30, 18, 19, 20, 33, 34, 35, 36, 37, 38, 39, 40, 41, 42, 43, 44, 45, 46, 47, 48, 49] (by decide +kernel) (by decide +kernel)
set_option maxRecDepth 20000 in
theorem gX1_waits_X0_tellRider_n106 : GoodIn wsX1_waits (wsX0_tellRider) := ggX1_waits_X0_tellRider
theorem dX1_waits_0 : decode cX1_waits 0 = .ok (.aload_n 0, 1) := by decide +kernel
theorem dX1_waits_1 : decode cX1_waits 1 = .ok (.iload_n 1, 1) := by decide +kernel
theorem dX1_waits_2 : decode cX1_waits 2 = .ok (.invokevirtual 43, 3) := by decide +kernel
theorem dX1_waits_5 : decode cX1_waits 5 = .ok (.iload_n 2, 1) := by decide +kernel
theorem dX1_waits_6 : decode cX1_waits 6 = .ok (.ifCond .lt 15, 3) := by decide +kernel
theorem dX1_waits_9 : decode cX1_waits 9 = .ok (.iload_n 2, 1) := by decide +kernel
theorem dX1_waits_10 : decode cX1_waits 10 = .ok (.aload_n 0, 1) := by decide +kernel
theorem dX1_waits_11 : decode cX1_waits 11 = .ok (.getfield 10, 3) := by decide +kernel
theorem dX1_waits_14 : decode cX1_waits 14 = .ok (.iload_n 1, 1) := by decide +kernel
theorem dX1_waits_15 : decode cX1_waits 15 = .ok (.invokevirtual 64, 3) := by decide +kernel
theorem dX1_waits_18 : decode cX1_waits 18 = .ok (.if_icmp .lt 13, 3) := by decide +kernel
theorem dX1_waits_21 : decode cX1_waits 21 = .ok (.new 101, 3) := by decide +kernel
theorem dX1_waits_24 : decode cX1_waits 24 = .ok (.dup, 1) := by decide +kernel
theorem dX1_waits_25 : decode cX1_waits 25 = .ok (.ldc 103, 2) := by decide +kernel
theorem dX1_waits_27 : decode cX1_waits 27 = .ok (.invokespecial 105, 3) := by decide +kernel
theorem dX1_waits_30 : decode cX1_waits 30 = .ok (.athrow, 1) := by decide +kernel
theorem dX1_waits_31 : decode cX1_waits 31 = .ok (.aload_n 0, 1) := by decide +kernel
theorem dX1_waits_32 : decode cX1_waits 32 = .ok (.getfield 10, 3) := by decide +kernel
theorem dX1_waits_35 : decode cX1_waits 35 = .ok (.iload_n 1, 1) := by decide +kernel
theorem dX1_waits_36 : decode cX1_waits 36 = .ok (.iload_n 2, 1) := by decide +kernel
theorem dX1_waits_37 : decode cX1_waits 37 = .ok (.invokevirtual 106, 3) := by decide +kernel
theorem dX1_waits_40 : decode cX1_waits 40 = .ok (.ireturn, 1) := by decide +kernel
set_option maxRecDepth 20000 in
theorem ggX1_slot_X1_needPlace : GoodIn wsX1_slot wsX1_needPlace := goodIn_ca (goodIn_r _ [6, 7, 8] (by decide +kernel) (by decide +kernel)) (goodIn_sub (fun _ h => List.mem_cons_of_mem _ (List.mem_append_right _ h)) (by decide +kernel))
set_option maxRecDepth 20000 in
theorem gX1_slot_X1_needPlace : GoodIn wsX1_slot (wsV RX1 19 RX1 yX1_needPlace wsX1_needPlace) := goodIn_app (goodIn_of _ (by decide +kernel)) ggX1_slot_X1_needPlace
set_option maxRecDepth 20000 in
theorem ggX1_slot_X0_podAtPlace : GoodIn wsX1_slot wsX0_podAtPlace := goodIn_r _ [12, 13, 14, 15, 10, 16, 19, 20, 21, 22, 23, 24, 25, 26, 27, 28, 29, 30, 31, 32, 33, 34, 35] (by decide +kernel) (by decide +kernel)
set_option maxRecDepth 20000 in
theorem gX1_slot_X0_podAtPlace_n109 : GoodIn wsX1_slot (wsX0_podAtPlace) := ggX1_slot_X0_podAtPlace
theorem dX1_slot_0 : decode cX1_slot 0 = .ok (.aload_n 0, 1) := by decide +kernel
theorem dX1_slot_1 : decode cX1_slot 1 = .ok (.iload_n 1, 1) := by decide +kernel
theorem dX1_slot_2 : decode cX1_slot 2 = .ok (.invokevirtual 19, 3) := by decide +kernel
theorem dX1_slot_5 : decode cX1_slot 5 = .ok (.aload_n 0, 1) := by decide +kernel
theorem dX1_slot_6 : decode cX1_slot 6 = .ok (.getfield 10, 3) := by decide +kernel
theorem dX1_slot_9 : decode cX1_slot 9 = .ok (.iload_n 1, 1) := by decide +kernel
theorem dX1_slot_10 : decode cX1_slot 10 = .ok (.invokevirtual 109, 3) := by decide +kernel
theorem dX1_slot_13 : decode cX1_slot 13 = .ok (.ireturn, 1) := by decide +kernel
set_option maxRecDepth 20000 in
theorem ggX1_count_X1_needWhat : GoodIn wsX1_count wsX1_needWhat := goodIn_ca (goodIn_r _ [6, 7, 8] (by decide +kernel) (by decide +kernel)) (goodIn_sub (fun _ h => List.mem_cons_of_mem _ (List.mem_append_right _ h)) (by decide +kernel))
set_option maxRecDepth 20000 in
theorem gX1_count_X1_needWhat : GoodIn wsX1_count (wsV RX1 91 RX1 yX1_needWhat wsX1_needWhat) := goodIn_app (goodIn_of _ (by decide +kernel)) ggX1_count_X1_needWhat
set_option maxRecDepth 20000 in
theorem ggX1_count_X0_tellCount : GoodIn wsX1_count wsX0_tellCount := goodIn_r _ [12, 13, 14, 15, 16, 17, 18, 19, 20, 10, 21, 22, 23, 24, 25, 26, 27, 28, 29, 30, 31, 32, 33, 34, 35, 36, 37, 38, 39, 40, 41, 42, 43, 44, 45, 46, 47, 48, 49, 50, 51, 52, 55, 56, 57, 58, 59, 60, 61, 62, 63, 64, 65, 66, 67, 68, 69, 70, 71] (by decide +kernel) (by decide +kernel)
set_option maxRecDepth 20000 in
theorem gX1_count_X0_tellCount_n112 : GoodIn wsX1_count (wsX0_tellCount) := ggX1_count_X0_tellCount
theorem dX1_count_0 : decode cX1_count 0 = .ok (.aload_n 0, 1) := by decide +kernel
theorem dX1_count_1 : decode cX1_count 1 = .ok (.iload_n 1, 1) := by decide +kernel
theorem dX1_count_2 : decode cX1_count 2 = .ok (.iconst 0, 1) := by decide +kernel
theorem dX1_count_3 : decode cX1_count 3 = .ok (.bipush 8, 2) := by decide +kernel
theorem dX1_count_5 : decode cX1_count 5 = .ok (.invokevirtual 91, 3) := by decide +kernel
theorem dX1_count_8 : decode cX1_count 8 = .ok (.aload_n 0, 1) := by decide +kernel
theorem dX1_count_9 : decode cX1_count 9 = .ok (.getfield 10, 3) := by decide +kernel
theorem dX1_count_12 : decode cX1_count 12 = .ok (.iload_n 1, 1) := by decide +kernel
theorem dX1_count_13 : decode cX1_count 13 = .ok (.invokevirtual 112, 3) := by decide +kernel
theorem dX1_count_16 : decode cX1_count 16 = .ok (.ireturn, 1) := by decide +kernel
set_option maxRecDepth 20000 in
theorem ggX1_pass_X1_needMinutes : GoodIn wsX1_pass wsX1_needMinutes := goodIn_ca (goodIn_r _ [6, 7, 8] (by decide +kernel) (by decide +kernel)) (goodIn_sub (fun _ h => List.mem_cons_of_mem _ (List.mem_append_right _ h)) (by decide +kernel))
set_option maxRecDepth 20000 in
theorem gX1_pass_X1_needMinutes : GoodIn wsX1_pass (wsV RX1 115 RX1 yX1_needMinutes wsX1_needMinutes) := goodIn_app (goodIn_of _ (by decide +kernel)) ggX1_pass_X1_needMinutes
set_option maxRecDepth 20000 in
theorem ggX1_pass_X0_arrivedInAll : GoodIn wsX1_pass wsX0_arrivedInAll := goodIn_r _ [12, 13, 14, 15, 16, 10, 17, 120, 121, 122, 123, 124, 125, 126, 127, 128, 129, 130, 131, 132, 133, 134, 135, 136] (by decide +kernel) (by decide +kernel)
set_option maxRecDepth 20000 in
theorem gX1_pass_X0_arrivedInAll_n118 : GoodIn wsX1_pass (wsX0_arrivedInAll) := ggX1_pass_X0_arrivedInAll
set_option maxRecDepth 20000 in
theorem ggX1_pass_X0_passMinute : GoodIn wsX1_pass wsX0_passMinute := goodIn_r _ [20, 13, 21, 22, 23, 24, 10, 25, 26, 27, 28, 29, 30, 15, 16, 17, 31, 32, 33, 34, 35, 36, 37, 38, 39, 40, 14, 41, 42, 43, 44, 45, 46, 47, 48, 49, 50, 51, 52, 53, 54, 55, 56, 57, 58, 59, 60, 61, 62, 63, 64, 65, 66, 67, 68, 69, 70, 71, 72, 73, 74, 75, 76, 77, 78, 79, 80, 81, 82, 83, 84, 85, 86, 87, 88, 89, 90, 91, 92, 93, 94, 95, 96, 97, 98, 99, 100, 101, 102, 103, 104, 105, 106, 107, 108, 109, 110, 111, 112, 113, 114, 115, 116, 117, 120, 121, 122, 123, 124, 125, 126, 127, 128, 129, 130, 131, 132, 133, 134, 135, 136] (by decide +kernel) (by decide +kernel)
set_option maxRecDepth 20000 in
theorem gX1_pass_X0_passMinute_n122 : GoodIn wsX1_pass (wsX0_passMinute) := ggX1_pass_X0_passMinute
theorem dX1_pass_0 : decode cX1_pass 0 = .ok (.aload_n 0, 1) := by decide +kernel
theorem dX1_pass_1 : decode cX1_pass 1 = .ok (.iload_n 1, 1) := by decide +kernel
theorem dX1_pass_2 : decode cX1_pass 2 = .ok (.invokevirtual 115, 3) := by decide +kernel
theorem dX1_pass_5 : decode cX1_pass 5 = .ok (.aload_n 0, 1) := by decide +kernel
theorem dX1_pass_6 : decode cX1_pass 6 = .ok (.getfield 10, 3) := by decide +kernel
theorem dX1_pass_9 : decode cX1_pass 9 = .ok (.invokevirtual 118, 3) := by decide +kernel
theorem dX1_pass_12 : decode cX1_pass 12 = .ok (.istore_n 2, 1) := by decide +kernel
theorem dX1_pass_13 : decode cX1_pass 13 = .ok (.iconst 0, 1) := by decide +kernel
theorem dX1_pass_14 : decode cX1_pass 14 = .ok (.istore_n 3, 1) := by decide +kernel
theorem dX1_pass_15 : decode cX1_pass 15 = .ok (.iload_n 3, 1) := by decide +kernel
theorem dX1_pass_16 : decode cX1_pass 16 = .ok (.iload_n 1, 1) := by decide +kernel
theorem dX1_pass_17 : decode cX1_pass 17 = .ok (.if_icmp .ge 16, 3) := by decide +kernel
theorem dX1_pass_20 : decode cX1_pass 20 = .ok (.aload_n 0, 1) := by decide +kernel
theorem dX1_pass_21 : decode cX1_pass 21 = .ok (.getfield 10, 3) := by decide +kernel
theorem dX1_pass_24 : decode cX1_pass 24 = .ok (.invokevirtual 122, 3) := by decide +kernel
theorem dX1_pass_27 : decode cX1_pass 27 = .ok (.iinc 3 1, 3) := by decide +kernel
theorem dX1_pass_30 : decode cX1_pass 30 = .ok (.goto (-15), 3) := by decide +kernel
theorem dX1_pass_33 : decode cX1_pass 33 = .ok (.aload_n 0, 1) := by decide +kernel
theorem dX1_pass_34 : decode cX1_pass 34 = .ok (.getfield 10, 3) := by decide +kernel
theorem dX1_pass_37 : decode cX1_pass 37 = .ok (.invokevirtual 118, 3) := by decide +kernel
theorem dX1_pass_40 : decode cX1_pass 40 = .ok (.iload_n 2, 1) := by decide +kernel
theorem dX1_pass_41 : decode cX1_pass 41 = .ok (.isub, 1) := by decide +kernel
theorem dX1_pass_42 : decode cX1_pass 42 = .ok (.ireturn, 1) := by decide +kernel
set_option maxRecDepth 20000 in
theorem ggX1_when_X1_needPod : GoodIn wsX1_when wsX1_needPod := goodIn_ca (goodIn_r _ [7, 8, 9, 1, 126, 127, 128, 129, 130, 131, 132, 133, 134, 135, 136, 137, 138, 139, 140, 141, 142, 143, 144] (by decide +kernel) (by decide +kernel)) (goodIn_sub (fun _ h => List.mem_cons_of_mem _ (List.mem_append_right _ h)) (by decide +kernel))
set_option maxRecDepth 20000 in
theorem gX1_when_X1_needPod : GoodIn wsX1_when (wsV RX1 72 RX1 yX1_needPod wsX1_needPod) := goodIn_app (goodIn_of _ (by decide +kernel)) ggX1_when_X1_needPod
set_option maxRecDepth 20000 in
theorem ggX1_when_X0_goalOf : GoodIn wsX1_when wsX0_goalOf := goodIn_r _ [13, 14, 15, 16, 11, 17, 128, 129, 130, 131, 132, 133, 134, 135, 136, 137, 138, 139, 140, 141, 142, 143, 144] (by decide +kernel) (by decide +kernel)
set_option maxRecDepth 20000 in
theorem gX1_when_X0_goalOf_n78 : GoodIn wsX1_when (wsX0_goalOf) := ggX1_when_X0_goalOf
set_option maxRecDepth 20000 in
theorem ggX1_when_X0_copyFrom : GoodIn wsX1_when wsX0_copyFrom := goodIn_r _ [20, 21, 22, 23, 24, 25, 26, 27, 28, 29, 30, 31, 32, 33, 34, 14, 35, 36, 37, 38, 11, 39, 40, 41, 42, 43, 44, 45, 46, 47, 128, 129, 130, 131, 132, 133, 134, 135, 136, 137, 138, 139, 140, 141, 142, 143, 144] (by decide +kernel) (by decide +kernel)
set_option maxRecDepth 20000 in
theorem gX1_when_X0_copyFrom_n125 : GoodIn wsX1_when (wsX0_copyFrom) := ggX1_when_X0_copyFrom
set_option maxRecDepth 20000 in
theorem ggX1_when_X0_passMinute : GoodIn wsX1_when wsX0_passMinute := goodIn_r _ [50, 22, 21, 51, 52, 53, 11, 54, 27, 44, 45, 46, 47, 15, 16, 17, 55, 56, 57, 58, 59, 60, 61, 36, 28, 35, 30, 62, 63, 64, 65, 29, 66, 67, 68, 69, 70, 10, 12, 13, 14, 71, 72, 73, 74, 75, 76, 77, 78, 79, 80, 81, 82, 83, 84, 85, 86, 87, 88, 89, 90, 31, 91, 92, 42, 93, 94, 95, 96, 97, 32, 33, 26, 34, 98, 99, 100, 101, 102, 103, 104, 105, 25, 106, 107, 108, 109, 23, 110, 111, 112, 113, 114, 115, 116, 117, 118, 119, 120, 121, 122, 123, 124, 125, 128, 129, 130, 131, 132, 133, 134, 135, 136, 137, 138, 139, 140, 141, 142, 143, 144] (by decide +kernel) (by decide +kernel)
set_option maxRecDepth 20000 in
theorem gX1_when_X0_passMinute_n122 : GoodIn wsX1_when (wsX0_passMinute) := ggX1_when_X0_passMinute
theorem dX1_when_0 : decode cX1_when 0 = .ok (.aload_n 0, 1) := by decide +kernel
theorem dX1_when_1 : decode cX1_when 1 = .ok (.iload_n 1, 1) := by decide +kernel
theorem dX1_when_2 : decode cX1_when 2 = .ok (.invokevirtual 72, 3) := by decide +kernel
theorem dX1_when_5 : decode cX1_when 5 = .ok (.aload_n 0, 1) := by decide +kernel
theorem dX1_when_6 : decode cX1_when 6 = .ok (.getfield 10, 3) := by decide +kernel
theorem dX1_when_9 : decode cX1_when 9 = .ok (.iload_n 1, 1) := by decide +kernel
theorem dX1_when_10 : decode cX1_when 10 = .ok (.invokevirtual 78, 3) := by decide +kernel
theorem dX1_when_13 : decode cX1_when 13 = .ok (.istore_n 2, 1) := by decide +kernel
theorem dX1_when_14 : decode cX1_when 14 = .ok (.iload_n 2, 1) := by decide +kernel
theorem dX1_when_15 : decode cX1_when 15 = .ok (.iconst (-1), 1) := by decide +kernel
theorem dX1_when_16 : decode cX1_when 16 = .ok (.if_icmp .ne 5, 3) := by decide +kernel
theorem dX1_when_19 : decode cX1_when 19 = .ok (.iconst (-1), 1) := by decide +kernel
theorem dX1_when_20 : decode cX1_when 20 = .ok (.ireturn, 1) := by decide +kernel
theorem dX1_when_21 : decode cX1_when 21 = .ok (.aload_n 0, 1) := by decide +kernel
theorem dX1_when_22 : decode cX1_when 22 = .ok (.getfield 16, 3) := by decide +kernel
theorem dX1_when_25 : decode cX1_when 25 = .ok (.aload_n 0, 1) := by decide +kernel
theorem dX1_when_26 : decode cX1_when 26 = .ok (.getfield 10, 3) := by decide +kernel
theorem dX1_when_29 : decode cX1_when 29 = .ok (.invokevirtual 125, 3) := by decide +kernel
theorem dX1_when_32 : decode cX1_when 32 = .ok (.iconst 1, 1) := by decide +kernel
theorem dX1_when_33 : decode cX1_when 33 = .ok (.istore_n 3, 1) := by decide +kernel
theorem dX1_when_34 : decode cX1_when 34 = .ok (.iload_n 3, 1) := by decide +kernel
theorem dX1_when_35 : decode cX1_when 35 = .ok (.sipush 200, 3) := by decide +kernel
theorem dX1_when_38 : decode cX1_when 38 = .ok (.if_icmp .gt 30, 3) := by decide +kernel
theorem dX1_when_41 : decode cX1_when 41 = .ok (.aload_n 0, 1) := by decide +kernel
theorem dX1_when_42 : decode cX1_when 42 = .ok (.getfield 16, 3) := by decide +kernel
theorem dX1_when_45 : decode cX1_when 45 = .ok (.invokevirtual 122, 3) := by decide +kernel
theorem dX1_when_48 : decode cX1_when 48 = .ok (.aload_n 0, 1) := by decide +kernel
theorem dX1_when_49 : decode cX1_when 49 = .ok (.getfield 16, 3) := by decide +kernel
theorem dX1_when_52 : decode cX1_when 52 = .ok (.iload_n 1, 1) := by decide +kernel
theorem dX1_when_53 : decode cX1_when 53 = .ok (.invokevirtual 78, 3) := by decide +kernel
theorem dX1_when_56 : decode cX1_when 56 = .ok (.iload_n 2, 1) := by decide +kernel
theorem dX1_when_57 : decode cX1_when 57 = .ok (.if_icmp .eq 5, 3) := by decide +kernel
theorem dX1_when_60 : decode cX1_when 60 = .ok (.iload_n 3, 1) := by decide +kernel
theorem dX1_when_61 : decode cX1_when 61 = .ok (.ireturn, 1) := by decide +kernel
theorem dX1_when_62 : decode cX1_when 62 = .ok (.iinc 3 1, 3) := by decide +kernel
theorem dX1_when_65 : decode cX1_when 65 = .ok (.goto (-31), 3) := by decide +kernel
theorem dX1_when_68 : decode cX1_when 68 = .ok (.iconst (-1), 1) := by decide +kernel
theorem dX1_when_69 : decode cX1_when 69 = .ok (.ireturn, 1) := by decide +kernel
set_option maxRecDepth 20000 in
theorem ggX1_answers_X1_needStation : GoodIn wsX1_answers wsX1_needStation := goodIn_ca (goodIn_r _ [6, 7, 8, 1, 49, 50, 51, 52, 53, 54, 55, 56, 57, 58, 59, 60, 61, 62, 63, 64, 65, 66, 67] (by decide +kernel) (by decide +kernel)) (goodIn_sub (fun _ h => List.mem_cons_of_mem _ (List.mem_append_right _ h)) (by decide +kernel))
set_option maxRecDepth 20000 in
theorem gX1_answers_X1_needStation : GoodIn wsX1_answers (wsV RX1 43 RX1 yX1_needStation wsX1_needStation) := goodIn_app (goodIn_of _ (by decide +kernel)) ggX1_answers_X1_needStation
set_option maxRecDepth 20000 in
theorem ggX1_answers_X0_stationThatAnswers : GoodIn wsX1_answers wsX0_stationThatAnswers := goodIn_r _ [12, 13, 14, 15, 16, 10, 17, 18, 19, 20, 21, 22, 23, 24, 25, 26, 27, 28, 29, 30, 31, 32, 33, 34, 35, 36, 37, 38, 39, 40, 41, 42, 43, 44, 45, 46, 47, 48, 51, 52, 53, 54, 55, 56, 57, 58, 59, 60, 61, 62, 63, 64, 65, 66, 67] (by decide +kernel) (by decide +kernel)
set_option maxRecDepth 20000 in
theorem gX1_answers_X0_stationThatAnswers_n133 : GoodIn wsX1_answers (wsX0_stationThatAnswers) := ggX1_answers_X0_stationThatAnswers
theorem dX1_answers_0 : decode cX1_answers 0 = .ok (.aload_n 0, 1) := by decide +kernel
theorem dX1_answers_1 : decode cX1_answers 1 = .ok (.iload_n 1, 1) := by decide +kernel
theorem dX1_answers_2 : decode cX1_answers 2 = .ok (.invokevirtual 43, 3) := by decide +kernel
theorem dX1_answers_5 : decode cX1_answers 5 = .ok (.aload_n 0, 1) := by decide +kernel
theorem dX1_answers_6 : decode cX1_answers 6 = .ok (.getfield 10, 3) := by decide +kernel
theorem dX1_answers_9 : decode cX1_answers 9 = .ok (.iload_n 1, 1) := by decide +kernel
theorem dX1_answers_10 : decode cX1_answers 10 = .ok (.invokevirtual 133, 3) := by decide +kernel
theorem dX1_answers_13 : decode cX1_answers 13 = .ok (.ireturn, 1) := by decide +kernel
set_option maxRecDepth 20000 in
theorem ggX1_foresee_X1_needMinutes : GoodIn wsX1_foresee wsX1_needMinutes := goodIn_ca (goodIn_r _ [7, 8, 9] (by decide +kernel) (by decide +kernel)) (goodIn_sub (fun _ h => List.mem_cons_of_mem _ (List.mem_append_left _ (List.mem_append_right _ h))) (by decide +kernel))
set_option maxRecDepth 20000 in
theorem gX1_foresee_X1_needMinutes : GoodIn wsX1_foresee (wsV RX1 115 RX1 yX1_needMinutes wsX1_needMinutes) := goodIn_app (goodIn_of _ (by decide +kernel)) ggX1_foresee_X1_needMinutes
set_option maxRecDepth 20000 in
theorem ggX1_foresee_X1_needWhat : GoodIn wsX1_foresee wsX1_needWhat := goodIn_ca (goodIn_r _ [13, 14, 15] (by decide +kernel) (by decide +kernel)) (goodIn_sub (fun _ h => List.mem_cons_of_mem _ (List.mem_append_right _ h)) (by decide +kernel))
set_option maxRecDepth 20000 in
theorem gX1_foresee_X1_needWhat : GoodIn wsX1_foresee (wsV RX1 91 RX1 yX1_needWhat wsX1_needWhat) := goodIn_app (goodIn_of _ (by decide +kernel)) ggX1_foresee_X1_needWhat
set_option maxRecDepth 20000 in
theorem ggX1_foresee_X0_copyFrom : GoodIn wsX1_foresee wsX0_copyFrom := goodIn_r _ [19, 20, 21, 22, 23, 24, 25, 26, 27, 28, 29, 30, 31, 32, 33, 34, 35, 36, 37, 38, 17, 39, 40, 41, 42, 43, 44, 45, 46, 47, 153, 154, 155, 156, 157, 158, 159, 160, 161, 162, 163, 164, 165, 166, 167, 168, 169] (by decide +kernel) (by decide +kernel)
set_option maxRecDepth 20000 in
theorem gX1_foresee_X0_copyFrom_n125 : GoodIn wsX1_foresee (wsX0_copyFrom) := ggX1_foresee_X0_copyFrom
set_option maxRecDepth 20000 in
theorem ggX1_foresee_X0_passMinute : GoodIn wsX1_foresee wsX0_passMinute := goodIn_r _ [50, 21, 20, 51, 52, 53, 17, 54, 26, 44, 45, 46, 47, 55, 56, 57, 58, 59, 60, 61, 62, 63, 64, 36, 27, 35, 29, 65, 66, 67, 68, 28, 69, 70, 71, 72, 73, 74, 75, 76, 34, 77, 78, 79, 80, 81, 82, 83, 84, 85, 86, 87, 88, 89, 90, 91, 92, 93, 94, 95, 96, 30, 97, 98, 42, 99, 100, 101, 102, 103, 31, 32, 25, 33, 104, 105, 106, 107, 108, 109, 110, 111, 24, 112, 113, 114, 115, 22, 116, 117, 118, 119, 120, 121, 122, 123, 124, 125, 126, 127, 128, 129, 130, 131, 153, 154, 155, 156, 157, 158, 159, 160, 161, 162, 163, 164, 165, 166, 167, 168, 169] (by decide +kernel) (by decide +kernel)
set_option maxRecDepth 20000 in
theorem gX1_foresee_X0_passMinute_n122 : GoodIn wsX1_foresee (wsX0_passMinute) := ggX1_foresee_X0_passMinute
set_option maxRecDepth 20000 in
theorem ggX1_foresee_X0_tellCount : GoodIn wsX1_foresee wsX0_tellCount := goodIn_r _ [134, 20, 21, 22, 24, 25, 135, 136, 137, 17, 138, 93, 94, 95, 96, 30, 97, 98, 42, 99, 55, 56, 57, 139, 140, 141, 142, 35, 143, 144, 145, 146, 29, 147, 148, 149, 150, 69, 70, 71, 72, 26, 153, 154, 155, 156, 157, 158, 159, 160, 161, 162, 163, 164, 165, 166, 167, 168, 169] (by decide +kernel) (by decide +kernel)
set_option maxRecDepth 20000 in
theorem gX1_foresee_X0_tellCount_n112 : GoodIn wsX1_foresee (wsX0_tellCount) := ggX1_foresee_X0_tellCount
theorem dX1_foresee_0 : decode cX1_foresee 0 = .ok (.aload_n 0, 1) := by decide +kernel
theorem dX1_foresee_1 : decode cX1_foresee 1 = .ok (.iload_n 1, 1) := by decide +kernel
theorem dX1_foresee_2 : decode cX1_foresee 2 = .ok (.invokevirtual 115, 3) := by decide +kernel
theorem dX1_foresee_5 : decode cX1_foresee 5 = .ok (.aload_n 0, 1) := by decide +kernel
theorem dX1_foresee_6 : decode cX1_foresee 6 = .ok (.iload_n 2, 1) := by decide +kernel
theorem dX1_foresee_7 : decode cX1_foresee 7 = .ok (.iconst 3, 1) := by decide +kernel
theorem dX1_foresee_8 : decode cX1_foresee 8 = .ok (.bipush 7, 2) := by decide +kernel
theorem dX1_foresee_10 : decode cX1_foresee 10 = .ok (.invokevirtual 91, 3) := by decide +kernel
theorem dX1_foresee_13 : decode cX1_foresee 13 = .ok (.aload_n 0, 1) := by decide +kernel
theorem dX1_foresee_14 : decode cX1_foresee 14 = .ok (.getfield 16, 3) := by decide +kernel
theorem dX1_foresee_17 : decode cX1_foresee 17 = .ok (.aload_n 0, 1) := by decide +kernel
theorem dX1_foresee_18 : decode cX1_foresee 18 = .ok (.getfield 10, 3) := by decide +kernel
theorem dX1_foresee_21 : decode cX1_foresee 21 = .ok (.invokevirtual 125, 3) := by decide +kernel
theorem dX1_foresee_24 : decode cX1_foresee 24 = .ok (.iconst 0, 1) := by decide +kernel
theorem dX1_foresee_25 : decode cX1_foresee 25 = .ok (.istore_n 3, 1) := by decide +kernel
theorem dX1_foresee_26 : decode cX1_foresee 26 = .ok (.iload_n 3, 1) := by decide +kernel
theorem dX1_foresee_27 : decode cX1_foresee 27 = .ok (.iload_n 1, 1) := by decide +kernel
theorem dX1_foresee_28 : decode cX1_foresee 28 = .ok (.if_icmp .ge 16, 3) := by decide +kernel
theorem dX1_foresee_31 : decode cX1_foresee 31 = .ok (.aload_n 0, 1) := by decide +kernel
theorem dX1_foresee_32 : decode cX1_foresee 32 = .ok (.getfield 16, 3) := by decide +kernel
theorem dX1_foresee_35 : decode cX1_foresee 35 = .ok (.invokevirtual 122, 3) := by decide +kernel
theorem dX1_foresee_38 : decode cX1_foresee 38 = .ok (.iinc 3 1, 3) := by decide +kernel
theorem dX1_foresee_41 : decode cX1_foresee 41 = .ok (.goto (-15), 3) := by decide +kernel
theorem dX1_foresee_44 : decode cX1_foresee 44 = .ok (.aload_n 0, 1) := by decide +kernel
theorem dX1_foresee_45 : decode cX1_foresee 45 = .ok (.getfield 16, 3) := by decide +kernel
theorem dX1_foresee_48 : decode cX1_foresee 48 = .ok (.iload_n 2, 1) := by decide +kernel
theorem dX1_foresee_49 : decode cX1_foresee 49 = .ok (.invokevirtual 112, 3) := by decide +kernel
theorem dX1_foresee_52 : decode cX1_foresee 52 = .ok (.ireturn, 1) := by decide +kernel
set_option maxRecDepth 20000 in
theorem ggX1_mean_X0_waitingInAll : GoodIn wsX1_mean wsX0_waitingInAll := goodIn_r _ [5, 6, 7, 8, 9, 3, 10, 11, 12, 13, 14, 15, 16, 17, 18, 34, 35, 36, 37, 38, 39, 40, 41, 42, 43, 44, 45, 46, 47, 48, 49, 50] (by decide +kernel) (by decide +kernel)
set_option maxRecDepth 20000 in
theorem gX1_mean_X0_waitingInAll_n136 : GoodIn wsX1_mean (wsX0_waitingInAll) := ggX1_mean_X0_waitingInAll
set_option maxRecDepth 20000 in
theorem ggX1_mean_X0_waitedInAll : GoodIn wsX1_mean wsX0_waitedInAll := goodIn_r _ [21, 6, 22, 23, 24, 3, 25, 7, 8, 9, 10, 11, 12, 13, 14, 15, 16, 17, 18, 26, 27, 28, 29, 30, 31, 34, 35, 36, 37, 38, 39, 40, 41, 42, 43, 44, 45, 46, 47, 48, 49, 50] (by decide +kernel) (by decide +kernel)
set_option maxRecDepth 20000 in
theorem gX1_mean_X0_waitedInAll_n139 : GoodIn wsX1_mean (wsX0_waitedInAll) := ggX1_mean_X0_waitedInAll
theorem dX1_mean_0 : decode cX1_mean 0 = .ok (.aload_n 0, 1) := by decide +kernel
theorem dX1_mean_1 : decode cX1_mean 1 = .ok (.getfield 10, 3) := by decide +kernel
theorem dX1_mean_4 : decode cX1_mean 4 = .ok (.invokevirtual 136, 3) := by decide +kernel
theorem dX1_mean_7 : decode cX1_mean 7 = .ok (.istore_n 1, 1) := by decide +kernel
theorem dX1_mean_8 : decode cX1_mean 8 = .ok (.iload_n 1, 1) := by decide +kernel
theorem dX1_mean_9 : decode cX1_mean 9 = .ok (.ifCond .gt 5, 3) := by decide +kernel
theorem dX1_mean_12 : decode cX1_mean 12 = .ok (.dconst 0, 1) := by decide +kernel
theorem dX1_mean_13 : decode cX1_mean 13 = .ok (.dreturn, 1) := by decide +kernel
theorem dX1_mean_14 : decode cX1_mean 14 = .ok (.aload_n 0, 1) := by decide +kernel
theorem dX1_mean_15 : decode cX1_mean 15 = .ok (.getfield 10, 3) := by decide +kernel
theorem dX1_mean_18 : decode cX1_mean 18 = .ok (.invokevirtual 139, 3) := by decide +kernel
theorem dX1_mean_21 : decode cX1_mean 21 = .ok (.i2d, 1) := by decide +kernel
theorem dX1_mean_22 : decode cX1_mean 22 = .ok (.iload_n 1, 1) := by decide +kernel
theorem dX1_mean_23 : decode cX1_mean 23 = .ok (.i2d, 1) := by decide +kernel
theorem dX1_mean_24 : decode cX1_mean 24 = .ok (.ddiv, 1) := by decide +kernel
theorem dX1_mean_25 : decode cX1_mean 25 = .ok (.dreturn, 1) := by decide +kernel
theorem dX1_needPlace_0 : decode cX1_needPlace 0 = .ok (.iload_n 1, 1) := by decide +kernel
theorem dX1_needPlace_1 : decode cX1_needPlace 1 = .ok (.ifCond .lt 9, 3) := by decide +kernel
theorem dX1_needPlace_4 : decode cX1_needPlace 4 = .ok (.iload_n 1, 1) := by decide +kernel
theorem dX1_needPlace_5 : decode cX1_needPlace 5 = .ok (.bipush 24, 2) := by decide +kernel
theorem dX1_needPlace_7 : decode cX1_needPlace 7 = .ok (.if_icmp .lt 13, 3) := by decide +kernel
theorem dX1_needPlace_10 : decode cX1_needPlace 10 = .ok (.new 101, 3) := by decide +kernel
theorem dX1_needPlace_13 : decode cX1_needPlace 13 = .ok (.dup, 1) := by decide +kernel
theorem dX1_needPlace_14 : decode cX1_needPlace 14 = .ok (.ldc 150, 2) := by decide +kernel
theorem dX1_needPlace_16 : decode cX1_needPlace 16 = .ok (.invokespecial 105, 3) := by decide +kernel
theorem dX1_needPlace_19 : decode cX1_needPlace 19 = .ok (.athrow, 1) := by decide +kernel
theorem dX1_needPlace_20 : decode cX1_needPlace 20 = .ok (.return_, 1) := by decide +kernel
theorem dX1_needStation_0 : decode cX1_needStation 0 = .ok (.iload_n 1, 1) := by decide +kernel
theorem dX1_needStation_1 : decode cX1_needStation 1 = .ok (.ifCond .lt 14, 3) := by decide +kernel
theorem dX1_needStation_4 : decode cX1_needStation 4 = .ok (.iload_n 1, 1) := by decide +kernel
theorem dX1_needStation_5 : decode cX1_needStation 5 = .ok (.aload_n 0, 1) := by decide +kernel
theorem dX1_needStation_6 : decode cX1_needStation 6 = .ok (.getfield 10, 3) := by decide +kernel
theorem dX1_needStation_9 : decode cX1_needStation 9 = .ok (.getfield 23, 3) := by decide +kernel
theorem dX1_needStation_12 : decode cX1_needStation 12 = .ok (.if_icmp .lt 13, 3) := by decide +kernel
theorem dX1_needStation_15 : decode cX1_needStation 15 = .ok (.new 101, 3) := by decide +kernel
theorem dX1_needStation_18 : decode cX1_needStation 18 = .ok (.dup, 1) := by decide +kernel
theorem dX1_needStation_19 : decode cX1_needStation 19 = .ok (.ldc 152, 2) := by decide +kernel
theorem dX1_needStation_21 : decode cX1_needStation 21 = .ok (.invokespecial 105, 3) := by decide +kernel
theorem dX1_needStation_24 : decode cX1_needStation 24 = .ok (.athrow, 1) := by decide +kernel
theorem dX1_needStation_25 : decode cX1_needStation 25 = .ok (.return_, 1) := by decide +kernel
set_option maxRecDepth 20000 in
theorem ggX1_needTwoStations_X1_needStation : GoodIn wsX1_needTwoStations wsX1_needStation := goodIn_ca (goodIn_r _ [7, 8, 9, 10, 11, 12, 13, 14, 15, 16, 17, 18, 19, 20, 21, 22, 23, 24, 25, 26, 27, 28, 29] (by decide +kernel) (by decide +kernel)) (goodIn_sub (fun _ h => List.mem_cons_of_mem _ (List.mem_append_right _ h)) (by decide +kernel))
set_option maxRecDepth 20000 in
theorem gX1_needTwoStations_X1_needStation : GoodIn wsX1_needTwoStations (wsV RX1 43 RX1 yX1_needStation wsX1_needStation) := goodIn_app (goodIn_of _ (by decide +kernel)) ggX1_needTwoStations_X1_needStation
theorem dX1_needTwoStations_0 : decode cX1_needTwoStations 0 = .ok (.aload_n 0, 1) := by decide +kernel
theorem dX1_needTwoStations_1 : decode cX1_needTwoStations 1 = .ok (.iload_n 1, 1) := by decide +kernel
theorem dX1_needTwoStations_2 : decode cX1_needTwoStations 2 = .ok (.invokevirtual 43, 3) := by decide +kernel
theorem dX1_needTwoStations_5 : decode cX1_needTwoStations 5 = .ok (.aload_n 0, 1) := by decide +kernel
theorem dX1_needTwoStations_6 : decode cX1_needTwoStations 6 = .ok (.iload_n 2, 1) := by decide +kernel
theorem dX1_needTwoStations_7 : decode cX1_needTwoStations 7 = .ok (.invokevirtual 43, 3) := by decide +kernel
theorem dX1_needTwoStations_10 : decode cX1_needTwoStations 10 = .ok (.iload_n 1, 1) := by decide +kernel
theorem dX1_needTwoStations_11 : decode cX1_needTwoStations 11 = .ok (.iload_n 2, 1) := by decide +kernel
theorem dX1_needTwoStations_12 : decode cX1_needTwoStations 12 = .ok (.if_icmp .ne 13, 3) := by decide +kernel
theorem dX1_needTwoStations_15 : decode cX1_needTwoStations 15 = .ok (.new 154, 3) := by decide +kernel
theorem dX1_needTwoStations_18 : decode cX1_needTwoStations 18 = .ok (.dup, 1) := by decide +kernel
theorem dX1_needTwoStations_19 : decode cX1_needTwoStations 19 = .ok (.ldc 156, 2) := by decide +kernel
theorem dX1_needTwoStations_21 : decode cX1_needTwoStations 21 = .ok (.invokespecial 158, 3) := by decide +kernel
theorem dX1_needTwoStations_24 : decode cX1_needTwoStations 24 = .ok (.athrow, 1) := by decide +kernel
theorem dX1_needTwoStations_25 : decode cX1_needTwoStations 25 = .ok (.return_, 1) := by decide +kernel
theorem dX1_needPod_0 : decode cX1_needPod 0 = .ok (.iload_n 1, 1) := by decide +kernel
theorem dX1_needPod_1 : decode cX1_needPod 1 = .ok (.ifCond .lt 14, 3) := by decide +kernel
theorem dX1_needPod_4 : decode cX1_needPod 4 = .ok (.iload_n 1, 1) := by decide +kernel
theorem dX1_needPod_5 : decode cX1_needPod 5 = .ok (.aload_n 0, 1) := by decide +kernel
theorem dX1_needPod_6 : decode cX1_needPod 6 = .ok (.getfield 10, 3) := by decide +kernel
theorem dX1_needPod_9 : decode cX1_needPod 9 = .ok (.getfield 46, 3) := by decide +kernel
theorem dX1_needPod_12 : decode cX1_needPod 12 = .ok (.if_icmp .lt 13, 3) := by decide +kernel
theorem dX1_needPod_15 : decode cX1_needPod 15 = .ok (.new 101, 3) := by decide +kernel
theorem dX1_needPod_18 : decode cX1_needPod 18 = .ok (.dup, 1) := by decide +kernel
theorem dX1_needPod_19 : decode cX1_needPod 19 = .ok (.ldc 159, 2) := by decide +kernel
theorem dX1_needPod_21 : decode cX1_needPod 21 = .ok (.invokespecial 105, 3) := by decide +kernel
theorem dX1_needPod_24 : decode cX1_needPod 24 = .ok (.athrow, 1) := by decide +kernel
theorem dX1_needPod_25 : decode cX1_needPod 25 = .ok (.return_, 1) := by decide +kernel
theorem dX1_needWhat_0 : decode cX1_needWhat 0 = .ok (.iload_n 1, 1) := by decide +kernel
theorem dX1_needWhat_1 : decode cX1_needWhat 1 = .ok (.iload_n 2, 1) := by decide +kernel
theorem dX1_needWhat_2 : decode cX1_needWhat 2 = .ok (.if_icmp .lt 8, 3) := by decide +kernel
theorem dX1_needWhat_5 : decode cX1_needWhat 5 = .ok (.iload_n 1, 1) := by decide +kernel
theorem dX1_needWhat_6 : decode cX1_needWhat 6 = .ok (.iload_n 3, 1) := by decide +kernel
theorem dX1_needWhat_7 : decode cX1_needWhat 7 = .ok (.if_icmp .le 13, 3) := by decide +kernel
theorem dX1_needWhat_10 : decode cX1_needWhat 10 = .ok (.new 101, 3) := by decide +kernel
theorem dX1_needWhat_13 : decode cX1_needWhat 13 = .ok (.dup, 1) := by decide +kernel
theorem dX1_needWhat_14 : decode cX1_needWhat 14 = .ok (.ldc 161, 2) := by decide +kernel
theorem dX1_needWhat_16 : decode cX1_needWhat 16 = .ok (.invokespecial 105, 3) := by decide +kernel
theorem dX1_needWhat_19 : decode cX1_needWhat 19 = .ok (.athrow, 1) := by decide +kernel
theorem dX1_needWhat_20 : decode cX1_needWhat 20 = .ok (.return_, 1) := by decide +kernel
theorem dX1_needMinutes_0 : decode cX1_needMinutes 0 = .ok (.iload_n 1, 1) := by decide +kernel
theorem dX1_needMinutes_1 : decode cX1_needMinutes 1 = .ok (.iconst 1, 1) := by decide +kernel
theorem dX1_needMinutes_2 : decode cX1_needMinutes 2 = .ok (.if_icmp .lt 9, 3) := by decide +kernel
theorem dX1_needMinutes_5 : decode cX1_needMinutes 5 = .ok (.iload_n 1, 1) := by decide +kernel
theorem dX1_needMinutes_6 : decode cX1_needMinutes 6 = .ok (.bipush 100, 2) := by decide +kernel
theorem dX1_needMinutes_8 : decode cX1_needMinutes 8 = .ok (.if_icmp .le 13, 3) := by decide +kernel
theorem dX1_needMinutes_11 : decode cX1_needMinutes 11 = .ok (.new 154, 3) := by decide +kernel
theorem dX1_needMinutes_14 : decode cX1_needMinutes 14 = .ok (.dup, 1) := by decide +kernel
theorem dX1_needMinutes_15 : decode cX1_needMinutes 15 = .ok (.ldc 163, 2) := by decide +kernel
theorem dX1_needMinutes_17 : decode cX1_needMinutes 17 = .ok (.invokespecial 158, 3) := by decide +kernel
theorem dX1_needMinutes_20 : decode cX1_needMinutes 20 = .ok (.athrow, 1) := by decide +kernel
theorem dX1_needMinutes_21 : decode cX1_needMinutes 21 = .ok (.return_, 1) := by decide +kernel
end
section
theorem ng_31 : ∀ w ∈ (vx_atS RX1 31 "java/lang/IllegalStateException" ["java/lang/RuntimeException", "java/lang/Exception"]).filter (fun w => !goodWord w), w ∈ [Cond.castable "java/lang/IllegalStateException" "java/lang/IllegalStateException", Cond.declares (Bundle.initS "java/lang/RuntimeException"), Cond.declares (Bundle.initS "java/lang/Exception"), Cond.declares (Bundle.initS "java/lang/Throwable")] := by decide +kernel
theorem ng_105 : ∀ w ∈ (vx_atS RX1 105 "java/lang/IndexOutOfBoundsException" ["java/lang/RuntimeException", "java/lang/Exception"]).filter (fun w => !goodWord w), w ∈ [Cond.castable "java/lang/IndexOutOfBoundsException" "java/lang/IndexOutOfBoundsException", Cond.declares (Bundle.initS "java/lang/RuntimeException"), Cond.declares (Bundle.initS "java/lang/Exception"), Cond.declares (Bundle.initS "java/lang/Throwable")] := by decide +kernel
theorem ng_158 : ∀ w ∈ (vx_atS RX1 158 "java/lang/IllegalArgumentException" ["java/lang/RuntimeException", "java/lang/Exception"]).filter (fun w => !goodWord w), w ∈ [Cond.castable "java/lang/IllegalArgumentException" "java/lang/IllegalArgumentException", Cond.declares (Bundle.initS "java/lang/RuntimeException"), Cond.declares (Bundle.initS "java/lang/Exception"), Cond.declares (Bundle.initS "java/lang/Throwable")] := by decide +kernel
theorem gd_101_105 : ∀ w ∈ Cond.classLink RX1 101 "java/lang/IndexOutOfBoundsException" :: Cond.initialized "java/lang/IndexOutOfBoundsException" :: vx_atS RX1 105 "java/lang/IndexOutOfBoundsException" ["java/lang/RuntimeException", "java/lang/Exception"], vx_ot w = true := by decide +kernel
theorem gd_154_158 : ∀ w ∈ Cond.classLink RX1 154 "java/lang/IllegalArgumentException" :: Cond.initialized "java/lang/IllegalArgumentException" :: vx_atS RX1 158 "java/lang/IllegalArgumentException" ["java/lang/RuntimeException", "java/lang/Exception"], vx_ot w = true := by decide +kernel
theorem gd_27_31 : ∀ w ∈ Cond.classLink RX1 27 "java/lang/IllegalStateException" :: Cond.initialized "java/lang/IllegalStateException" :: vx_atS RX1 31 "java/lang/IllegalStateException" ["java/lang/RuntimeException", "java/lang/Exception"], vx_ot w = true := by decide +kernel
def f_X1_needPlace (S T : RS) (p1 : Int32) : Option (Except String (Unit)) :=
  if p1 < 0 then
    some (.error "java/lang/IndexOutOfBoundsException")
  else
    if p1 < 24 then
      okx (
        some ())
    else
      some (.error "java/lang/IndexOutOfBoundsException")
abbrev rm_X1_needPlace : Room := { frames := 6, cells := 0, slots := 0, locals := 90 }
abbrev rm_X1_needPlace_er : Room := { frames := 6, cells := 1, slots := 6, locals := 90 }
theorem hdv_X1_needPlace : yX1_needPlace.cls = RX1 ∧ yX1_needPlace.cls ≠ "java/lang/invoke/MethodHandle" ∧ yX1_needPlace.cls ≠ "java/lang/invoke/VarHandle" ∧ (parseMethodDescriptor yX1_needPlace.desc).map (fun d => d.parameters.length) = some 1 := by decide +kernel
set_option maxHeartbeats 4000000 in
set_option maxRecDepth 100000 in
theorem ok_X1_needPlace (l : Launch) (D : va_G) (Z : Nat → ClassId) (o : Nat) (a b : Nat → Nat) (S T : RS) (p1 : Int32)  (hf : f_X1_needPlace S T p1 = some (.ok ())) : GOv l yX1_needPlace wsX1_needPlace rm_X1_needPlace D Z xE [.ref o, .int p1] (owl Z o a b S T) := by
  refine GOv.of (cc := cX1_needPlace) (nL := 2) (ret := none) (by decide +kernel) rfl (Nat.le_of_ble_eq_true rfl) ?_
  intro p e s m below meth c A0 hC hE hA0 hA hP hK hD hS ls hl
  obtain ⟨hx, hb, hr, hml, hown, hts, hlk, -⟩ := hC
  have hown : s.vm.findClass RX1 = some m.cls := hown
  have hNm := hE.2.2.2.1
  have hNf := hE.2.2.2.2.1
  have hl : lv_has ls 2 [(0, .ref o), (1, .int p1)] := hl
  unfold f_X1_needPlace at hf
  refine lv_iload_n hx hb dX1_needPlace_0 rfl (lv_at hl 1 rfl) ?_
  refine lv_if_lt (tgt := 10) hx hb dX1_needPlace_1 (by decide) (fun c1 => ?_) (fun c1 => ?_)
  · have hf := if_t hf c1
    exact er_ok hf
  · have hf := if_f hf c1
    refine lv_iload_n hx hb dX1_needPlace_4 rfl (lv_at hl 1 rfl) ?_
    refine lv_bipush (v := 24) hx hb dX1_needPlace_5 (by decide) ?_
    refine lv_icmp_lt (tgt := 20) hx hb dX1_needPlace_7 (by decide) (fun c2 => ?_) (fun c2 => ?_)
    · have hf := if_t hf c2
      have hf := okx_ok hf
      exact zr_v hx hb hr hlk hS (Nat.le_of_ble_eq_true rfl) (Nat.le_of_ble_eq_true rfl) dX1_needPlace_20
    · have hf := if_f hf c2
      exact er_ok hf

def f_X1_needStation (S T : RS) (p1 : Int32) : Option (Except String (Unit)) :=
  if p1 < 0 then
    some (.error "java/lang/IndexOutOfBoundsException")
  else
    if p1 < (S.1 1) then
      okx (
        some ())
    else
      some (.error "java/lang/IndexOutOfBoundsException")
abbrev rm_X1_needStation : Room := { frames := 6, cells := 0, slots := 0, locals := 90 }
abbrev rm_X1_needStation_er : Room := { frames := 6, cells := 1, slots := 6, locals := 90 }
theorem hdv_X1_needStation : yX1_needStation.cls = RX1 ∧ yX1_needStation.cls ≠ "java/lang/invoke/MethodHandle" ∧ yX1_needStation.cls ≠ "java/lang/invoke/VarHandle" ∧ (parseMethodDescriptor yX1_needStation.desc).map (fun d => d.parameters.length) = some 1 := by decide +kernel
set_option maxHeartbeats 4000000 in
set_option maxRecDepth 100000 in
theorem ok_X1_needStation (l : Launch) (D : va_G) (Z : Nat → ClassId) (o : Nat) (a b : Nat → Nat) (S T : RS) (p1 : Int32)  (hf : f_X1_needStation S T p1 = some (.ok ())) : GOv l yX1_needStation wsX1_needStation rm_X1_needStation D Z xE [.ref o, .int p1] (owl Z o a b S T) := by
  refine GOv.of (cc := cX1_needStation) (nL := 2) (ret := none) (by decide +kernel) rfl (Nat.le_of_ble_eq_true rfl) ?_
  intro p e s m below meth c A0 hC hE hA0 hA hP hK hD hS ls hl
  obtain ⟨hx, hb, hr, hml, hown, hts, hlk, -⟩ := hC
  have hown : s.vm.findClass RX1 = some m.cls := hown
  have hNm := hE.2.2.2.1
  have hNf := hE.2.2.2.2.1
  have hin1 : ∀ w ∈ wsX10, w ∈ wsX1_needStation := fun w h => List.mem_cons_of_mem _ (List.mem_append_left _ (List.mem_append_left _ (List.mem_append_right _ h)))
  have hin0 : ∀ w ∈ wsX00, w ∈ wsX1_needStation := fun w h => List.mem_cons_of_mem _ (List.mem_append_left _ (List.mem_append_right _ h))
  have hl : lv_has ls 2 [(0, .ref o), (1, .int p1)] := hl
  unfold f_X1_needStation at hf
  refine lv_iload_n hx hb dX1_needStation_0 rfl (lv_at hl 1 rfl) ?_
  refine lv_if_lt (tgt := 15) hx hb dX1_needStation_1 (by decide) (fun c1 => ?_) (fun c1 => ?_)
  · have hf := if_t hf c1
    exact er_ok hf
  · have hf := if_f hf c1
    refine lv_iload_n hx hb dX1_needStation_4 rfl (lv_at hl 1 rfl) ?_
    refine lv_aload_n hx hb dX1_needStation_5 rfl (lv_at hl 0 rfl) ?_
    refine va_get (D := D) (ci := 1) (v := .ref (a 0)) (C := RX1) (T := TX1) (N := 2) hx hb hts hin1 hown hK hP 0 rfl rfl 0 (by decide) (hts (.fieldLink RX1 10 "PodGuideway" "now" "LPodGuideway$Ring;") (List.mem_of_getElem? (i := 3) rfl)) (fun _ h9 => h9) rfl dX1_needStation_6 ?_
    refine va_getN (D := D) (ci := 0) (v := .int (S.1 1)) (C := RX0) (T := TX0) (N := 17) hx hb hts hin0 hown hK hP 1 rfl rfl 1 (by decide) (va_Nw.use rfl (hNf (23, "stations", "I") (List.mem_of_getElem? (i := 0) rfl))) (fun _ h9 => h9) rfl dX1_needStation_9 ?_
    refine lv_icmp_lt (tgt := 25) hx hb dX1_needStation_12 (by decide) (fun c2 => ?_) (fun c2 => ?_)
    · have hf := if_t hf c2
      have hf := okx_ok hf
      exact zr_v hx hb hr hlk hS (Nat.le_of_ble_eq_true rfl) (Nat.le_of_ble_eq_true rfl) dX1_needStation_25
    · have hf := if_f hf c2
      exact er_ok hf

def f_X1_needTwoStations (S T : RS) (p1 : Int32) (p2 : Int32) : Option (Except String (Unit)) :=
  obx (f_X1_needStation S T p1) (
  obx (f_X1_needStation S T p2) (
  if p1 = p2 then
    some (.error "java/lang/IllegalArgumentException")
  else
    okx (
      some ())))
abbrev rm_X1_needTwoStations : Room := { frames := 7, cells := 0, slots := 0, locals := 111 }
abbrev rm_X1_needTwoStations_er : Room := { frames := 7, cells := 1, slots := 6, locals := 111 }
theorem hdv_X1_needTwoStations : yX1_needTwoStations.cls = RX1 ∧ yX1_needTwoStations.cls ≠ "java/lang/invoke/MethodHandle" ∧ yX1_needTwoStations.cls ≠ "java/lang/invoke/VarHandle" ∧ (parseMethodDescriptor yX1_needTwoStations.desc).map (fun d => d.parameters.length) = some 2 := by decide +kernel
set_option maxHeartbeats 4000000 in
set_option maxRecDepth 100000 in
theorem ok_X1_needTwoStations (l : Launch) (D : va_G) (Z : Nat → ClassId) (o : Nat) (a b : Nat → Nat) (S T : RS) (p1 : Int32) (p2 : Int32)  (hf : f_X1_needTwoStations S T p1 p2 = some (.ok ())) : GOv l yX1_needTwoStations wsX1_needTwoStations rm_X1_needTwoStations D Z xE [.ref o, .int p1, .int p2] (owl Z o a b S T) := by
  refine GOv.of (cc := cX1_needTwoStations) (nL := 3) (ret := none) (by decide +kernel) rfl (Nat.le_of_ble_eq_true rfl) ?_
  intro p e s m below meth c A0 hC hE hA0 hA hP hK hD hS ls hl
  obtain ⟨hx, hb, hr, hml, hown, hts, hlk, -⟩ := hC
  have hown : s.vm.findClass RX1 = some m.cls := hown
  have hNm := hE.2.2.2.1
  have hNf := hE.2.2.2.2.1
  have hin1 : ∀ w ∈ wsX10, w ∈ wsX1_needTwoStations := fun w h => List.mem_cons_of_mem _ (List.mem_append_left _ (List.mem_append_left _ (List.mem_append_left _ (List.mem_append_right _ h))))
  have hin0 : ∀ w ∈ wsX00, w ∈ wsX1_needTwoStations := fun w h => List.mem_cons_of_mem _ (List.mem_append_left _ (List.mem_append_left _ (List.mem_append_right _ h)))
  have hl : lv_has ls 3 [(0, .ref o), (1, .int p1), (2, .int p2)] := hl
  unfold f_X1_needTwoStations at hf
  refine lv_aload_n hx hb dX1_needTwoStations_0 rfl (lv_at hl 0 rfl) ?_
  refine lv_iload_n hx hb dX1_needTwoStations_1 rfl (lv_at hl 1 rfl) ?_
  obtain ⟨hv1, hf⟩ := obx_ok hf
  refine zc_v (z_VG (As := [.int p1]) (rest := []) (q0 := 0) (ci := 1) xE_ok hE (hS.up hA0) hA0 ⟨hx, hb, hml, hown, hts⟩ (ok_X1_needStation l D Z o a b S T p1 hv1) gX1_needTwoStations_X1_needStation rfl rfl rfl hdv_X1_needStation ⟨Nat.le_of_ble_eq_true rfl, Nat.le_of_ble_eq_true rfl⟩ hK hP hD rfl rfl rfl rfl hl.1 rfl (Nat.le_of_ble_eq_true rfl) dX1_needTwoStations_2 ⟨Nat.le_of_ble_eq_true rfl, Nat.le_of_ble_eq_true rfl⟩) hP hS hA (fun H locs hP hS => ?_)
  refine lv_aload_n hx hb dX1_needTwoStations_5 rfl (lv_at hl 0 rfl) ?_
  refine lv_iload_n hx hb dX1_needTwoStations_6 rfl (lv_at hl 2 rfl) ?_
  obtain ⟨hv2, hf⟩ := obx_ok hf
  refine zc_v (z_VG (As := [.int p2]) (rest := []) (q0 := 0) (ci := 1) xE_ok hE (hS.up hA0) hA0 ⟨hx, hb, hml, hown, hts⟩ (ok_X1_needStation l D Z o a b S T p2 hv2) gX1_needTwoStations_X1_needStation rfl rfl rfl hdv_X1_needStation ⟨Nat.le_of_ble_eq_true rfl, Nat.le_of_ble_eq_true rfl⟩ hK hP hD rfl rfl rfl rfl hl.1 rfl (Nat.le_of_ble_eq_true rfl) dX1_needTwoStations_7 ⟨Nat.le_of_ble_eq_true rfl, Nat.le_of_ble_eq_true rfl⟩) hP hS hA (fun H locs hP hS => ?_)
  refine lv_iload_n hx hb dX1_needTwoStations_10 rfl (lv_at hl 1 rfl) ?_
  refine lv_iload_n hx hb dX1_needTwoStations_11 rfl (lv_at hl 2 rfl) ?_
  refine lv_icmp_ne (tgt := 25) hx hb dX1_needTwoStations_12 (by decide) (fun c3 => ?_) (fun c3 => ?_)
  · have hf := if_f hf c3
    have hf := okx_ok hf
    exact zr_v hx hb hr hlk hS (Nat.le_of_ble_eq_true rfl) (Nat.le_of_ble_eq_true rfl) dX1_needTwoStations_25
  · have hf := if_t hf c3
    exact er_ok hf

def f_X1_needPod (S T : RS) (p1 : Int32) : Option (Except String (Unit)) :=
  if p1 < 0 then
    some (.error "java/lang/IndexOutOfBoundsException")
  else
    if p1 < (S.1 2) then
      okx (
        some ())
    else
      some (.error "java/lang/IndexOutOfBoundsException")
abbrev rm_X1_needPod : Room := { frames := 6, cells := 0, slots := 0, locals := 90 }
abbrev rm_X1_needPod_er : Room := { frames := 6, cells := 1, slots := 6, locals := 90 }
theorem hdv_X1_needPod : yX1_needPod.cls = RX1 ∧ yX1_needPod.cls ≠ "java/lang/invoke/MethodHandle" ∧ yX1_needPod.cls ≠ "java/lang/invoke/VarHandle" ∧ (parseMethodDescriptor yX1_needPod.desc).map (fun d => d.parameters.length) = some 1 := by decide +kernel
set_option maxHeartbeats 4000000 in
set_option maxRecDepth 100000 in
theorem ok_X1_needPod (l : Launch) (D : va_G) (Z : Nat → ClassId) (o : Nat) (a b : Nat → Nat) (S T : RS) (p1 : Int32)  (hf : f_X1_needPod S T p1 = some (.ok ())) : GOv l yX1_needPod wsX1_needPod rm_X1_needPod D Z xE [.ref o, .int p1] (owl Z o a b S T) := by
  refine GOv.of (cc := cX1_needPod) (nL := 2) (ret := none) (by decide +kernel) rfl (Nat.le_of_ble_eq_true rfl) ?_
  intro p e s m below meth c A0 hC hE hA0 hA hP hK hD hS ls hl
  obtain ⟨hx, hb, hr, hml, hown, hts, hlk, -⟩ := hC
  have hown : s.vm.findClass RX1 = some m.cls := hown
  have hNm := hE.2.2.2.1
  have hNf := hE.2.2.2.2.1
  have hin1 : ∀ w ∈ wsX10, w ∈ wsX1_needPod := fun w h => List.mem_cons_of_mem _ (List.mem_append_left _ (List.mem_append_left _ (List.mem_append_right _ h)))
  have hin0 : ∀ w ∈ wsX00, w ∈ wsX1_needPod := fun w h => List.mem_cons_of_mem _ (List.mem_append_left _ (List.mem_append_right _ h))
  have hl : lv_has ls 2 [(0, .ref o), (1, .int p1)] := hl
  unfold f_X1_needPod at hf
  refine lv_iload_n hx hb dX1_needPod_0 rfl (lv_at hl 1 rfl) ?_
  refine lv_if_lt (tgt := 15) hx hb dX1_needPod_1 (by decide) (fun c1 => ?_) (fun c1 => ?_)
  · have hf := if_t hf c1
    exact er_ok hf
  · have hf := if_f hf c1
    refine lv_iload_n hx hb dX1_needPod_4 rfl (lv_at hl 1 rfl) ?_
    refine lv_aload_n hx hb dX1_needPod_5 rfl (lv_at hl 0 rfl) ?_
    refine va_get (D := D) (ci := 1) (v := .ref (a 0)) (C := RX1) (T := TX1) (N := 2) hx hb hts hin1 hown hK hP 0 rfl rfl 0 (by decide) (hts (.fieldLink RX1 10 "PodGuideway" "now" "LPodGuideway$Ring;") (List.mem_of_getElem? (i := 3) rfl)) (fun _ h9 => h9) rfl dX1_needPod_6 ?_
    refine va_getN (D := D) (ci := 0) (v := .int (S.1 2)) (C := RX0) (T := TX0) (N := 17) hx hb hts hin0 hown hK hP 1 rfl rfl 2 (by decide) (va_Nw.use rfl (hNf (46, "pods", "I") (List.mem_of_getElem? (i := 1) rfl))) (fun _ h9 => h9) rfl dX1_needPod_9 ?_
    refine lv_icmp_lt (tgt := 25) hx hb dX1_needPod_12 (by decide) (fun c2 => ?_) (fun c2 => ?_)
    · have hf := if_t hf c2
      have hf := okx_ok hf
      exact zr_v hx hb hr hlk hS (Nat.le_of_ble_eq_true rfl) (Nat.le_of_ble_eq_true rfl) dX1_needPod_25
    · have hf := if_f hf c2
      exact er_ok hf

def f_X1_needWhat (S T : RS) (p1 : Int32) (p2 : Int32) (p3 : Int32) : Option (Except String (Unit)) :=
  if p1 < p2 then
    some (.error "java/lang/IndexOutOfBoundsException")
  else
    if p1 ≤ p3 then
      okx (
        some ())
    else
      some (.error "java/lang/IndexOutOfBoundsException")
abbrev rm_X1_needWhat : Room := { frames := 6, cells := 0, slots := 0, locals := 90 }
abbrev rm_X1_needWhat_er : Room := { frames := 6, cells := 1, slots := 6, locals := 90 }
theorem hdv_X1_needWhat : yX1_needWhat.cls = RX1 ∧ yX1_needWhat.cls ≠ "java/lang/invoke/MethodHandle" ∧ yX1_needWhat.cls ≠ "java/lang/invoke/VarHandle" ∧ (parseMethodDescriptor yX1_needWhat.desc).map (fun d => d.parameters.length) = some 3 := by decide +kernel
set_option maxHeartbeats 4000000 in
set_option maxRecDepth 100000 in
theorem ok_X1_needWhat (l : Launch) (D : va_G) (Z : Nat → ClassId) (o : Nat) (a b : Nat → Nat) (S T : RS) (p1 : Int32) (p2 : Int32) (p3 : Int32)  (hf : f_X1_needWhat S T p1 p2 p3 = some (.ok ())) : GOv l yX1_needWhat wsX1_needWhat rm_X1_needWhat D Z xE [.ref o, .int p1, .int p2, .int p3] (owl Z o a b S T) := by
  refine GOv.of (cc := cX1_needWhat) (nL := 4) (ret := none) (by decide +kernel) rfl (Nat.le_of_ble_eq_true rfl) ?_
  intro p e s m below meth c A0 hC hE hA0 hA hP hK hD hS ls hl
  obtain ⟨hx, hb, hr, hml, hown, hts, hlk, -⟩ := hC
  have hown : s.vm.findClass RX1 = some m.cls := hown
  have hNm := hE.2.2.2.1
  have hNf := hE.2.2.2.2.1
  have hl : lv_has ls 4 [(0, .ref o), (1, .int p1), (2, .int p2), (3, .int p3)] := hl
  unfold f_X1_needWhat at hf
  refine lv_iload_n hx hb dX1_needWhat_0 rfl (lv_at hl 1 rfl) ?_
  refine lv_iload_n hx hb dX1_needWhat_1 rfl (lv_at hl 2 rfl) ?_
  refine lv_icmp_lt (tgt := 10) hx hb dX1_needWhat_2 (by decide) (fun c1 => ?_) (fun c1 => ?_)
  · have hf := if_t hf c1
    exact er_ok hf
  · have hf := if_f hf c1
    refine lv_iload_n hx hb dX1_needWhat_5 rfl (lv_at hl 1 rfl) ?_
    refine lv_iload_n hx hb dX1_needWhat_6 rfl (lv_at hl 3 rfl) ?_
    refine lv_icmp_le (tgt := 20) hx hb dX1_needWhat_7 (by decide) (fun c2 => ?_) (fun c2 => ?_)
    · have hf := if_t hf c2
      have hf := okx_ok hf
      exact zr_v hx hb hr hlk hS (Nat.le_of_ble_eq_true rfl) (Nat.le_of_ble_eq_true rfl) dX1_needWhat_20
    · have hf := if_f hf c2
      exact er_ok hf

def f_X1_needMinutes (S T : RS) (p1 : Int32) : Option (Except String (Unit)) :=
  if p1 < 1 then
    some (.error "java/lang/IllegalArgumentException")
  else
    if p1 ≤ 100 then
      okx (
        some ())
    else
      some (.error "java/lang/IllegalArgumentException")
abbrev rm_X1_needMinutes : Room := { frames := 6, cells := 0, slots := 0, locals := 90 }
abbrev rm_X1_needMinutes_er : Room := { frames := 6, cells := 1, slots := 6, locals := 90 }
theorem hdv_X1_needMinutes : yX1_needMinutes.cls = RX1 ∧ yX1_needMinutes.cls ≠ "java/lang/invoke/MethodHandle" ∧ yX1_needMinutes.cls ≠ "java/lang/invoke/VarHandle" ∧ (parseMethodDescriptor yX1_needMinutes.desc).map (fun d => d.parameters.length) = some 1 := by decide +kernel
set_option maxHeartbeats 4000000 in
set_option maxRecDepth 100000 in
theorem ok_X1_needMinutes (l : Launch) (D : va_G) (Z : Nat → ClassId) (o : Nat) (a b : Nat → Nat) (S T : RS) (p1 : Int32)  (hf : f_X1_needMinutes S T p1 = some (.ok ())) : GOv l yX1_needMinutes wsX1_needMinutes rm_X1_needMinutes D Z xE [.ref o, .int p1] (owl Z o a b S T) := by
  refine GOv.of (cc := cX1_needMinutes) (nL := 2) (ret := none) (by decide +kernel) rfl (Nat.le_of_ble_eq_true rfl) ?_
  intro p e s m below meth c A0 hC hE hA0 hA hP hK hD hS ls hl
  obtain ⟨hx, hb, hr, hml, hown, hts, hlk, -⟩ := hC
  have hown : s.vm.findClass RX1 = some m.cls := hown
  have hNm := hE.2.2.2.1
  have hNf := hE.2.2.2.2.1
  have hl : lv_has ls 2 [(0, .ref o), (1, .int p1)] := hl
  unfold f_X1_needMinutes at hf
  refine lv_iload_n hx hb dX1_needMinutes_0 rfl (lv_at hl 1 rfl) ?_
  refine lv_iconst (v := 1) hx hb dX1_needMinutes_1 (by decide) ?_
  refine lv_icmp_lt (tgt := 11) hx hb dX1_needMinutes_2 (by decide) (fun c1 => ?_) (fun c1 => ?_)
  · have hf := if_t hf c1
    exact er_ok hf
  · have hf := if_f hf c1
    refine lv_iload_n hx hb dX1_needMinutes_5 rfl (lv_at hl 1 rfl) ?_
    refine lv_bipush (v := 100) hx hb dX1_needMinutes_6 (by decide) ?_
    refine lv_icmp_le (tgt := 21) hx hb dX1_needMinutes_8 (by decide) (fun c2 => ?_) (fun c2 => ?_)
    · have hf := if_t hf c2
      have hf := okx_ok hf
      exact zr_v hx hb hr hlk hS (Nat.le_of_ble_eq_true rfl) (Nat.le_of_ble_eq_true rfl) dX1_needMinutes_21
    · have hf := if_f hf c2
      exact er_ok hf

def f_X1_build (S T : RS) (p1 : Int32) : Option (Except String (Int32 × RS × RS)) :=
  obx (f_X1_needPlace S T p1) (
  if (S.1 1) < 6 then
    ob (f_X0_stationAtPlace S p1) fun v4 =>
    if v4 = (-1) then
      okx (
        ob2 (f_X0_addStation S p1) fun v8 S7 =>
        some (v8, S7, T))
    else
      some (.error "java/lang/IllegalStateException")
  else
    some (.error "java/lang/IllegalStateException"))
abbrev rm_X1_build : Room := { frames := 7, cells := 0, slots := 0, locals := 111 }
abbrev rm_X1_build_er : Room := { frames := 7, cells := 1, slots := 6, locals := 111 }
theorem hdv_X1_build : yX1_build.cls = RX1 ∧ yX1_build.cls ≠ "java/lang/invoke/MethodHandle" ∧ yX1_build.cls ≠ "java/lang/invoke/VarHandle" ∧ (parseMethodDescriptor yX1_build.desc).map (fun d => d.parameters.length) = some 1 := by decide +kernel
set_option maxHeartbeats 4000000 in
set_option maxRecDepth 100000 in
theorem ok_X1_build (l : Launch) (D : va_G) (Z : Nat → ClassId) (o : Nat) (a b : Nat → Nat) (S T : RS) (p1 : Int32) (r : Int32) (S' T' : RS) (hf : f_X1_build S T p1 = some (.ok (r, S', T'))) : GWi l yX1_build wsX1_build rm_X1_build D Z xE [.ref o, .int p1] (owl Z o a b S T) (owl Z o a b S' T') r 0 0 := by
  refine GWi.of (cc := cX1_build) (nL := 2) (ret := (some .int)) (by decide +kernel) rfl (Nat.le_of_ble_eq_true rfl) ?_
  intro p e s m below meth c A hC hE hA hP hK hD hS ls hl
  obtain ⟨hx, hb, hr, hml, hown, hts, hlk, -⟩ := hC
  have hown : s.vm.findClass RX1 = some m.cls := hown
  have hNm := hE.2.2.2.1
  have hNf := hE.2.2.2.2.1
  have hin1 : ∀ w ∈ wsX10, w ∈ wsX1_build := fun w h => List.mem_cons_of_mem _ (List.mem_append_left _ (List.mem_append_left _ (List.mem_append_left _ (List.mem_append_right _ h))))
  have hin0 : ∀ w ∈ wsX00, w ∈ wsX1_build := fun w h => List.mem_cons_of_mem _ (List.mem_append_left _ (List.mem_append_left _ (List.mem_append_right _ h)))
  have hl : lv_has ls 2 [(0, .ref o), (1, .int p1)] := hl
  unfold f_X1_build at hf
  refine lv_aload_n hx hb dX1_build_0 rfl (lv_at hl 0 rfl) ?_
  refine lv_iload_n hx hb dX1_build_1 rfl (lv_at hl 1 rfl) ?_
  obtain ⟨hv1, hf⟩ := obx_ok hf
  refine zc_v (z_VG (As := [.int p1]) (rest := []) (q0 := 0) (ci := 1) xE_ok hE hS hA ⟨hx, hb, hml, hown, hts⟩ (ok_X1_needPlace l D Z o a b S T p1 hv1) gX1_build_X1_needPlace rfl rfl rfl hdv_X1_needPlace ⟨Nat.le_of_ble_eq_true rfl, Nat.le_of_ble_eq_true rfl⟩ hK hP hD rfl rfl rfl rfl hl.1 rfl (Nat.le_of_ble_eq_true rfl) dX1_build_2 ⟨Nat.le_of_ble_eq_true rfl, Nat.le_of_ble_eq_true rfl⟩) hP hS hA (fun H locs hP hS => ?_)
  refine lv_aload_n hx hb dX1_build_5 rfl (lv_at hl 0 rfl) ?_
  refine va_get (D := D) (ci := 1) (v := .ref (a 0)) (C := RX1) (T := TX1) (N := 2) hx hb hts hin1 hown hK hP 0 rfl rfl 0 (by decide) (hts (.fieldLink RX1 10 "PodGuideway" "now" "LPodGuideway$Ring;") (List.mem_of_getElem? (i := 3) rfl)) (fun _ h9 => h9) rfl dX1_build_6 ?_
  refine va_getN (D := D) (ci := 0) (v := .int (S.1 1)) (C := RX0) (T := TX0) (N := 17) hx hb hts hin0 hown hK hP 1 rfl rfl 1 (by decide) (va_Nw.use rfl (hNf (23, "stations", "I") (List.mem_of_getElem? (i := 0) rfl))) (fun _ h9 => h9) rfl dX1_build_9 ?_
  refine lv_bipush (v := 6) hx hb dX1_build_12 (by decide) ?_
  refine lv_icmp_lt (tgt := 27) hx hb dX1_build_14 (by decide) (fun c2 => ?_) (fun c2 => ?_)
  · have hf := if_t hf c2
    refine lv_aload_n hx hb dX1_build_27 rfl (lv_at hl 0 rfl) ?_
    refine va_get (D := D) (ci := 1) (v := .ref (a 0)) (C := RX1) (T := TX1) (N := 2) hx hb hts hin1 hown hK hP 0 rfl rfl 0 (by decide) (hts (.fieldLink RX1 10 "PodGuideway" "now" "LPodGuideway$Ring;") (List.mem_of_getElem? (i := 3) rfl)) (fun _ h9 => h9) rfl dX1_build_28 ?_
    refine lv_iload_n hx hb dX1_build_31 rfl (lv_at hl 1 rfl) ?_
    obtain ⟨v4, hv3, hf⟩ := ob_some hf
    refine zc_i (z_VN (As := [.int p1]) (rest := []) (q0 := 0) (ci := 0) ⟨hx, hb, hml, hown, hts⟩ (m_X0_stationAtPlace l D Z a S p1 v4 hv3) gX1_build_X0_stationAtPlace_n34 rfl rfl rfl (hNm (34, yX0_stationAtPlace) (List.mem_of_getElem? (i := 1) rfl)) (hts (.initialized RX0) (List.mem_of_getElem? (i := 12) rfl)) (hts (.instanceMethod yX0_stationAtPlace) (List.mem_of_getElem? (i := 11) rfl)) (hts (.selects RX0 yX0_stationAtPlace yX0_stationAtPlace) (List.mem_of_getElem? (i := 13) rfl)) hdv_X0_stationAtPlace ⟨Nat.le_of_ble_eq_true rfl, Nat.le_of_ble_eq_true rfl⟩ hK (hP.sub (ws' := (rwl Z a S)) [1, 2, 3, 4, 5, 6, 7, 8, 9, 10, 11, 12] rfl) (hD.sub (ws' := (rwl Z a S)) [1, 2, 3, 4, 5, 6, 7, 8, 9, 10, 11, 12] (by decide) rfl) rfl rfl rfl rfl hl.1 rfl (Nat.le_of_ble_eq_true rfl) dX1_build_32 ⟨Nat.le_of_ble_eq_true rfl, Nat.le_of_ble_eq_true rfl⟩) hP hS hA (fun H locs hP hS => ?_)
    refine lv_iconst (v := (-1)) hx hb dX1_build_35 (by decide) ?_
    refine lv_icmp_eq (tgt := 49) hx hb dX1_build_36 (by decide) (fun c5 => ?_) (fun c5 => ?_)
    · have hf := if_t hf c5
      have hf := okx_ok hf
      refine lv_aload_n hx hb dX1_build_49 rfl (lv_at hl 0 rfl) ?_
      refine va_get (D := D) (ci := 1) (v := .ref (a 0)) (C := RX1) (T := TX1) (N := 2) hx hb hts hin1 hown hK hP 0 rfl rfl 0 (by decide) (hts (.fieldLink RX1 10 "PodGuideway" "now" "LPodGuideway$Ring;") (List.mem_of_getElem? (i := 3) rfl)) (fun _ h9 => h9) rfl dX1_build_50 ?_
      refine lv_iload_n hx hb dX1_build_53 rfl (lv_at hl 1 rfl) ?_
      obtain ⟨v8, S7, hv6, hf⟩ := ob2_some hf
      refine zc_mi zI_now (z_VN (As := [.int p1]) (rest := []) (q0 := 0) (ci := 0) ⟨hx, hb, hml, hown, hts⟩ (m_X0_addStation l D Z a S p1 S7 v8 hv6) gX1_build_X0_addStation_n40 rfl rfl rfl (hNm (40, yX0_addStation) (List.mem_of_getElem? (i := 2) rfl)) (hts (.initialized RX0) (List.mem_of_getElem? (i := 12) rfl)) (hts (.instanceMethod yX0_addStation) (List.mem_of_getElem? (i := 24) rfl)) (hts (.selects RX0 yX0_addStation yX0_addStation) (List.mem_of_getElem? (i := 25) rfl)) hdv_X0_addStation ⟨Nat.le_of_ble_eq_true rfl, Nat.le_of_ble_eq_true rfl⟩ hK (hP.sub (ws' := (rwl Z a S)) [1, 2, 3, 4, 5, 6, 7, 8, 9, 10, 11, 12] rfl) (hD.sub (ws' := (rwl Z a S)) [1, 2, 3, 4, 5, 6, 7, 8, 9, 10, 11, 12] (by decide) rfl) rfl rfl rfl rfl hl.1 rfl (Nat.le_of_ble_eq_true rfl) dX1_build_54 ⟨Nat.le_of_ble_eq_true rfl, Nat.le_of_ble_eq_true rfl⟩) hP hD hS hA (fun H locs hP hD hS => ?_)
      exact zw_i hx hb hr hlk hP hD hS (owl_eq (t3_2 hf) (t3_3 hf)) (t3_1 hf) (Nat.le_of_ble_eq_true rfl) (Nat.le_of_ble_eq_true rfl) dX1_build_57
    · have hf := if_f hf c5
      exact er_ok hf
  · have hf := if_f hf c2
    exact er_ok hf

def f_X1_pod (S T : RS) (p1 : Int32) : Option (Except String (Int32 × RS × RS)) :=
  obx (f_X1_needStation S T p1) (
  if (S.1 2) < 12 then
    ob (f_X0_firstBerth S p1 0) fun v4 =>
    if v4 = (-1) then
      some (.error "java/lang/IllegalStateException")
    else
      okx (
        ob2 (f_X0_addPod S p1) fun v8 S7 =>
        some (v8, S7, T))
  else
    some (.error "java/lang/IllegalStateException"))
abbrev rm_X1_pod : Room := { frames := 7, cells := 0, slots := 0, locals := 111 }
abbrev rm_X1_pod_er : Room := { frames := 7, cells := 1, slots := 6, locals := 111 }
theorem hdv_X1_pod : yX1_pod.cls = RX1 ∧ yX1_pod.cls ≠ "java/lang/invoke/MethodHandle" ∧ yX1_pod.cls ≠ "java/lang/invoke/VarHandle" ∧ (parseMethodDescriptor yX1_pod.desc).map (fun d => d.parameters.length) = some 1 := by decide +kernel
set_option maxHeartbeats 4000000 in
set_option maxRecDepth 100000 in
theorem ok_X1_pod (l : Launch) (D : va_G) (Z : Nat → ClassId) (o : Nat) (a b : Nat → Nat) (S T : RS) (p1 : Int32) (r : Int32) (S' T' : RS) (hf : f_X1_pod S T p1 = some (.ok (r, S', T'))) : GWi l yX1_pod wsX1_pod rm_X1_pod D Z xE [.ref o, .int p1] (owl Z o a b S T) (owl Z o a b S' T') r 0 0 := by
  refine GWi.of (cc := cX1_pod) (nL := 2) (ret := (some .int)) (by decide +kernel) rfl (Nat.le_of_ble_eq_true rfl) ?_
  intro p e s m below meth c A hC hE hA hP hK hD hS ls hl
  obtain ⟨hx, hb, hr, hml, hown, hts, hlk, -⟩ := hC
  have hown : s.vm.findClass RX1 = some m.cls := hown
  have hNm := hE.2.2.2.1
  have hNf := hE.2.2.2.2.1
  have hin1 : ∀ w ∈ wsX10, w ∈ wsX1_pod := fun w h => List.mem_cons_of_mem _ (List.mem_append_left _ (List.mem_append_left _ (List.mem_append_left _ (List.mem_append_right _ h))))
  have hin0 : ∀ w ∈ wsX00, w ∈ wsX1_pod := fun w h => List.mem_cons_of_mem _ (List.mem_append_left _ (List.mem_append_left _ (List.mem_append_right _ h)))
  have hl : lv_has ls 2 [(0, .ref o), (1, .int p1)] := hl
  unfold f_X1_pod at hf
  refine lv_aload_n hx hb dX1_pod_0 rfl (lv_at hl 0 rfl) ?_
  refine lv_iload_n hx hb dX1_pod_1 rfl (lv_at hl 1 rfl) ?_
  obtain ⟨hv1, hf⟩ := obx_ok hf
  refine zc_v (z_VG (As := [.int p1]) (rest := []) (q0 := 0) (ci := 1) xE_ok hE hS hA ⟨hx, hb, hml, hown, hts⟩ (ok_X1_needStation l D Z o a b S T p1 hv1) gX1_pod_X1_needStation rfl rfl rfl hdv_X1_needStation ⟨Nat.le_of_ble_eq_true rfl, Nat.le_of_ble_eq_true rfl⟩ hK hP hD rfl rfl rfl rfl hl.1 rfl (Nat.le_of_ble_eq_true rfl) dX1_pod_2 ⟨Nat.le_of_ble_eq_true rfl, Nat.le_of_ble_eq_true rfl⟩) hP hS hA (fun H locs hP hS => ?_)
  refine lv_aload_n hx hb dX1_pod_5 rfl (lv_at hl 0 rfl) ?_
  refine va_get (D := D) (ci := 1) (v := .ref (a 0)) (C := RX1) (T := TX1) (N := 2) hx hb hts hin1 hown hK hP 0 rfl rfl 0 (by decide) (hts (.fieldLink RX1 10 "PodGuideway" "now" "LPodGuideway$Ring;") (List.mem_of_getElem? (i := 3) rfl)) (fun _ h9 => h9) rfl dX1_pod_6 ?_
  refine va_getN (D := D) (ci := 0) (v := .int (S.1 2)) (C := RX0) (T := TX0) (N := 17) hx hb hts hin0 hown hK hP 1 rfl rfl 2 (by decide) (va_Nw.use rfl (hNf (46, "pods", "I") (List.mem_of_getElem? (i := 1) rfl))) (fun _ h9 => h9) rfl dX1_pod_9 ?_
  refine lv_bipush (v := 12) hx hb dX1_pod_12 (by decide) ?_
  refine lv_icmp_lt (tgt := 27) hx hb dX1_pod_14 (by decide) (fun c2 => ?_) (fun c2 => ?_)
  · have hf := if_t hf c2
    refine lv_aload_n hx hb dX1_pod_27 rfl (lv_at hl 0 rfl) ?_
    refine va_get (D := D) (ci := 1) (v := .ref (a 0)) (C := RX1) (T := TX1) (N := 2) hx hb hts hin1 hown hK hP 0 rfl rfl 0 (by decide) (hts (.fieldLink RX1 10 "PodGuideway" "now" "LPodGuideway$Ring;") (List.mem_of_getElem? (i := 3) rfl)) (fun _ h9 => h9) rfl dX1_pod_28 ?_
    refine lv_iload_n hx hb dX1_pod_31 rfl (lv_at hl 1 rfl) ?_
    refine lv_iconst (v := 0) hx hb dX1_pod_32 (by decide) ?_
    obtain ⟨v4, hv3, hf⟩ := ob_some hf
    refine zc_i (z_VN (As := [.int p1, .int 0]) (rest := []) (q0 := 0) (ci := 0) ⟨hx, hb, hml, hown, hts⟩ (m_X0_firstBerth l D Z a S p1 0 v4 hv3) gX1_pod_X0_firstBerth_n51 rfl rfl rfl (hNm (51, yX0_firstBerth) (List.mem_of_getElem? (i := 3) rfl)) (hts (.initialized RX0) (List.mem_of_getElem? (i := 12) rfl)) (hts (.instanceMethod yX0_firstBerth) (List.mem_of_getElem? (i := 11) rfl)) (hts (.selects RX0 yX0_firstBerth yX0_firstBerth) (List.mem_of_getElem? (i := 13) rfl)) hdv_X0_firstBerth ⟨Nat.le_of_ble_eq_true rfl, Nat.le_of_ble_eq_true rfl⟩ hK (hP.sub (ws' := (rwl Z a S)) [1, 2, 3, 4, 5, 6, 7, 8, 9, 10, 11, 12] rfl) (hD.sub (ws' := (rwl Z a S)) [1, 2, 3, 4, 5, 6, 7, 8, 9, 10, 11, 12] (by decide) rfl) rfl rfl rfl rfl hl.1 rfl (Nat.le_of_ble_eq_true rfl) dX1_pod_33 ⟨Nat.le_of_ble_eq_true rfl, Nat.le_of_ble_eq_true rfl⟩) hP hS hA (fun H locs hP hS => ?_)
    refine lv_iconst (v := (-1)) hx hb dX1_pod_36 (by decide) ?_
    refine lv_icmp_ne (tgt := 50) hx hb dX1_pod_37 (by decide) (fun c5 => ?_) (fun c5 => ?_)
    · have hf := if_f hf c5
      have hf := okx_ok hf
      refine lv_aload_n hx hb dX1_pod_50 rfl (lv_at hl 0 rfl) ?_
      refine va_get (D := D) (ci := 1) (v := .ref (a 0)) (C := RX1) (T := TX1) (N := 2) hx hb hts hin1 hown hK hP 0 rfl rfl 0 (by decide) (hts (.fieldLink RX1 10 "PodGuideway" "now" "LPodGuideway$Ring;") (List.mem_of_getElem? (i := 3) rfl)) (fun _ h9 => h9) rfl dX1_pod_51 ?_
      refine lv_iload_n hx hb dX1_pod_54 rfl (lv_at hl 1 rfl) ?_
      obtain ⟨v8, S7, hv6, hf⟩ := ob2_some hf
      refine zc_mi zI_now (z_VN (As := [.int p1]) (rest := []) (q0 := 0) (ci := 0) ⟨hx, hb, hml, hown, hts⟩ (m_X0_addPod l D Z a S p1 S7 v8 hv6) gX1_pod_X0_addPod_n57 rfl rfl rfl (hNm (57, yX0_addPod) (List.mem_of_getElem? (i := 4) rfl)) (hts (.initialized RX0) (List.mem_of_getElem? (i := 12) rfl)) (hts (.instanceMethod yX0_addPod) (List.mem_of_getElem? (i := 24) rfl)) (hts (.selects RX0 yX0_addPod yX0_addPod) (List.mem_of_getElem? (i := 25) rfl)) hdv_X0_addPod ⟨Nat.le_of_ble_eq_true rfl, Nat.le_of_ble_eq_true rfl⟩ hK (hP.sub (ws' := (rwl Z a S)) [1, 2, 3, 4, 5, 6, 7, 8, 9, 10, 11, 12] rfl) (hD.sub (ws' := (rwl Z a S)) [1, 2, 3, 4, 5, 6, 7, 8, 9, 10, 11, 12] (by decide) rfl) rfl rfl rfl rfl hl.1 rfl (Nat.le_of_ble_eq_true rfl) dX1_pod_55 ⟨Nat.le_of_ble_eq_true rfl, Nat.le_of_ble_eq_true rfl⟩) hP hD hS hA (fun H locs hP hD hS => ?_)
      exact zw_i hx hb hr hlk hP hD hS (owl_eq (t3_2 hf) (t3_3 hf)) (t3_1 hf) (Nat.le_of_ble_eq_true rfl) (Nat.le_of_ble_eq_true rfl) dX1_pod_58
    · have hf := if_t hf c5
      exact er_ok hf
  · have hf := if_f hf c2
    exact er_ok hf

def f_X1_ride (S T : RS) (p1 : Int32) (p2 : Int32) : Option (Except String (Int32 × RS × RS)) :=
  obx (f_X1_needTwoStations S T p1 p2) (
  ob (f_X0_waitingAt S p1) fun v3 =>
  if v3 < 9 then
    okx (
      ob2 (f_X0_addRider S p1 p2) fun v7 S6 =>
      ob (f_X0_waitingAt S6 p1) fun v9 =>
      some (v9, S6, T))
  else
    some (.error "java/lang/IllegalStateException"))
abbrev rm_X1_ride : Room := { frames := 8, cells := 0, slots := 0, locals := 133 }
abbrev rm_X1_ride_er : Room := { frames := 8, cells := 1, slots := 6, locals := 133 }
theorem hdv_X1_ride : yX1_ride.cls = RX1 ∧ yX1_ride.cls ≠ "java/lang/invoke/MethodHandle" ∧ yX1_ride.cls ≠ "java/lang/invoke/VarHandle" ∧ (parseMethodDescriptor yX1_ride.desc).map (fun d => d.parameters.length) = some 2 := by decide +kernel
set_option maxHeartbeats 4000000 in
set_option maxRecDepth 100000 in
theorem ok_X1_ride (l : Launch) (D : va_G) (Z : Nat → ClassId) (o : Nat) (a b : Nat → Nat) (S T : RS) (p1 : Int32) (p2 : Int32) (r : Int32) (S' T' : RS) (hf : f_X1_ride S T p1 p2 = some (.ok (r, S', T'))) : GWi l yX1_ride wsX1_ride rm_X1_ride D Z xE [.ref o, .int p1, .int p2] (owl Z o a b S T) (owl Z o a b S' T') r 0 0 := by
  refine GWi.of (cc := cX1_ride) (nL := 3) (ret := (some .int)) (by decide +kernel) rfl (Nat.le_of_ble_eq_true rfl) ?_
  intro p e s m below meth c A hC hE hA hP hK hD hS ls hl
  obtain ⟨hx, hb, hr, hml, hown, hts, hlk, -⟩ := hC
  have hown : s.vm.findClass RX1 = some m.cls := hown
  have hNm := hE.2.2.2.1
  have hNf := hE.2.2.2.2.1
  have hin1 : ∀ w ∈ wsX10, w ∈ wsX1_ride := fun w h => List.mem_cons_of_mem _ (List.mem_append_left _ (List.mem_append_left _ (List.mem_append_left _ (List.mem_append_left _ (List.mem_append_right _ h)))))
  have hin0 : ∀ w ∈ wsX00, w ∈ wsX1_ride := fun w h => List.mem_cons_of_mem _ (List.mem_append_left _ (List.mem_append_left _ (List.mem_append_left _ (List.mem_append_right _ h))))
  have hl : lv_has ls 3 [(0, .ref o), (1, .int p1), (2, .int p2)] := hl
  unfold f_X1_ride at hf
  refine lv_aload_n hx hb dX1_ride_0 rfl (lv_at hl 0 rfl) ?_
  refine lv_iload_n hx hb dX1_ride_1 rfl (lv_at hl 1 rfl) ?_
  refine lv_iload_n hx hb dX1_ride_2 rfl (lv_at hl 2 rfl) ?_
  obtain ⟨hv1, hf⟩ := obx_ok hf
  refine zc_v (z_VG (As := [.int p1, .int p2]) (rest := []) (q0 := 0) (ci := 1) xE_ok hE hS hA ⟨hx, hb, hml, hown, hts⟩ (ok_X1_needTwoStations l D Z o a b S T p1 p2 hv1) gX1_ride_X1_needTwoStations rfl rfl rfl hdv_X1_needTwoStations ⟨Nat.le_of_ble_eq_true rfl, Nat.le_of_ble_eq_true rfl⟩ hK hP hD rfl rfl rfl rfl hl.1 rfl (Nat.le_of_ble_eq_true rfl) dX1_ride_3 ⟨Nat.le_of_ble_eq_true rfl, Nat.le_of_ble_eq_true rfl⟩) hP hS hA (fun H locs hP hS => ?_)
  refine lv_aload_n hx hb dX1_ride_6 rfl (lv_at hl 0 rfl) ?_
  refine va_get (D := D) (ci := 1) (v := .ref (a 0)) (C := RX1) (T := TX1) (N := 2) hx hb hts hin1 hown hK hP 0 rfl rfl 0 (by decide) (hts (.fieldLink RX1 10 "PodGuideway" "now" "LPodGuideway$Ring;") (List.mem_of_getElem? (i := 3) rfl)) (fun _ h9 => h9) rfl dX1_ride_7 ?_
  refine lv_iload_n hx hb dX1_ride_10 rfl (lv_at hl 1 rfl) ?_
  obtain ⟨v3, hv2, hf⟩ := ob_some hf
  refine zc_i (z_VN (As := [.int p1]) (rest := []) (q0 := 0) (ci := 0) ⟨hx, hb, hml, hown, hts⟩ (m_X0_waitingAt l D Z a S p1 v3 hv2) gX1_ride_X0_waitingAt_n64 rfl rfl rfl (hNm (64, yX0_waitingAt) (List.mem_of_getElem? (i := 5) rfl)) (hts (.initialized RX0) (List.mem_of_getElem? (i := 18) rfl)) (hts (.instanceMethod yX0_waitingAt) (List.mem_of_getElem? (i := 17) rfl)) (hts (.selects RX0 yX0_waitingAt yX0_waitingAt) (List.mem_of_getElem? (i := 19) rfl)) hdv_X0_waitingAt ⟨Nat.le_of_ble_eq_true rfl, Nat.le_of_ble_eq_true rfl⟩ hK (hP.sub (ws' := (rwl Z a S)) [1, 2, 3, 4, 5, 6, 7, 8, 9, 10, 11, 12] rfl) (hD.sub (ws' := (rwl Z a S)) [1, 2, 3, 4, 5, 6, 7, 8, 9, 10, 11, 12] (by decide) rfl) rfl rfl rfl rfl hl.1 rfl (Nat.le_of_ble_eq_true rfl) dX1_ride_11 ⟨Nat.le_of_ble_eq_true rfl, Nat.le_of_ble_eq_true rfl⟩) hP hS hA (fun H locs hP hS => ?_)
  refine lv_bipush (v := 9) hx hb dX1_ride_14 (by decide) ?_
  refine lv_icmp_lt (tgt := 29) hx hb dX1_ride_16 (by decide) (fun c4 => ?_) (fun c4 => ?_)
  · have hf := if_t hf c4
    have hf := okx_ok hf
    refine lv_aload_n hx hb dX1_ride_29 rfl (lv_at hl 0 rfl) ?_
    refine va_get (D := D) (ci := 1) (v := .ref (a 0)) (C := RX1) (T := TX1) (N := 2) hx hb hts hin1 hown hK hP 0 rfl rfl 0 (by decide) (hts (.fieldLink RX1 10 "PodGuideway" "now" "LPodGuideway$Ring;") (List.mem_of_getElem? (i := 3) rfl)) (fun _ h9 => h9) rfl dX1_ride_30 ?_
    refine lv_iload_n hx hb dX1_ride_33 rfl (lv_at hl 1 rfl) ?_
    refine lv_iload_n hx hb dX1_ride_34 rfl (lv_at hl 2 rfl) ?_
    obtain ⟨v7, S6, hv5, hf⟩ := ob2_some hf
    refine zc_mi zI_now (z_VN (As := [.int p1, .int p2]) (rest := []) (q0 := 0) (ci := 0) ⟨hx, hb, hml, hown, hts⟩ (m_X0_addRider l D Z a S p1 p2 S6 v7 hv5) gX1_ride_X0_addRider_n69 rfl rfl rfl (hNm (69, yX0_addRider) (List.mem_of_getElem? (i := 6) rfl)) (hts (.initialized RX0) (List.mem_of_getElem? (i := 18) rfl)) (hts (.instanceMethod yX0_addRider) (List.mem_of_getElem? (i := 29) rfl)) (hts (.selects RX0 yX0_addRider yX0_addRider) (List.mem_of_getElem? (i := 30) rfl)) hdv_X0_addRider ⟨Nat.le_of_ble_eq_true rfl, Nat.le_of_ble_eq_true rfl⟩ hK (hP.sub (ws' := (rwl Z a S)) [1, 2, 3, 4, 5, 6, 7, 8, 9, 10, 11, 12] rfl) (hD.sub (ws' := (rwl Z a S)) [1, 2, 3, 4, 5, 6, 7, 8, 9, 10, 11, 12] (by decide) rfl) rfl rfl rfl rfl hl.1 rfl (Nat.le_of_ble_eq_true rfl) dX1_ride_35 ⟨Nat.le_of_ble_eq_true rfl, Nat.le_of_ble_eq_true rfl⟩) hP hD hS hA (fun H locs hP hD hS => ?_)
    refine lv_pop hx hb dX1_ride_38 rfl ?_
    refine lv_aload_n hx hb dX1_ride_39 rfl (lv_at hl 0 rfl) ?_
    refine va_get (D := D) (ci := 1) (v := .ref (a 0)) (C := RX1) (T := TX1) (N := 2) hx hb hts hin1 hown hK hP 0 rfl rfl 0 (by decide) (hts (.fieldLink RX1 10 "PodGuideway" "now" "LPodGuideway$Ring;") (List.mem_of_getElem? (i := 3) rfl)) (fun _ h9 => h9) rfl dX1_ride_40 ?_
    refine lv_iload_n hx hb dX1_ride_43 rfl (lv_at hl 1 rfl) ?_
    obtain ⟨v9, hv8, hf⟩ := ob_some hf
    refine zc_i (z_VN (As := [.int p1]) (rest := []) (q0 := 0) (ci := 0) ⟨hx, hb, hml, hown, hts⟩ (m_X0_waitingAt l D Z a S6 p1 v9 hv8) gX1_ride_X0_waitingAt_n64 rfl rfl rfl (hNm (64, yX0_waitingAt) (List.mem_of_getElem? (i := 5) rfl)) (hts (.initialized RX0) (List.mem_of_getElem? (i := 18) rfl)) (hts (.instanceMethod yX0_waitingAt) (List.mem_of_getElem? (i := 17) rfl)) (hts (.selects RX0 yX0_waitingAt yX0_waitingAt) (List.mem_of_getElem? (i := 19) rfl)) hdv_X0_waitingAt ⟨Nat.le_of_ble_eq_true rfl, Nat.le_of_ble_eq_true rfl⟩ hK (hP.sub (ws' := (rwl Z a S6)) [1, 2, 3, 4, 5, 6, 7, 8, 9, 10, 11, 12] rfl) (hD.sub (ws' := (rwl Z a S6)) [1, 2, 3, 4, 5, 6, 7, 8, 9, 10, 11, 12] (by decide) rfl) rfl rfl rfl rfl hl.1 rfl (Nat.le_of_ble_eq_true rfl) dX1_ride_44 ⟨Nat.le_of_ble_eq_true rfl, Nat.le_of_ble_eq_true rfl⟩) hP hS hA (fun H locs hP hS => ?_)
    exact zw_i hx hb hr hlk hP hD hS (owl_eq (t3_2 hf) (t3_3 hf)) (t3_1 hf) (Nat.le_of_ble_eq_true rfl) (Nat.le_of_ble_eq_true rfl) dX1_ride_47
  · have hf := if_f hf c4
    exact er_ok hf

def f_X1_send (S T : RS) (p1 : Int32) (p2 : Int32) : Option (Except String (Int32 × RS × RS)) :=
  obx (f_X1_needPod S T p1) (
  obx (f_X1_needStation S T p2) (
  ob (f_X0_berthOf S p1) fun v4 =>
  if v4 = (-1) then
    some (.error "java/lang/IllegalStateException")
  else
    ob (f_X0_goalOf S p1) fun v7 =>
    if v7 = (-1) then
      if (v4 / 3) = p2 then
        some (.error "java/lang/IllegalStateException")
      else
        okx (
          ob (f_X0_setGoal S p1 p2) fun S11 =>
          ob (f_X0_placesOn S11 (v4 / 3) p2) fun v13 =>
          some (v13, S11, T))
    else
      some (.error "java/lang/IllegalStateException")))
abbrev rm_X1_send : Room := { frames := 7, cells := 0, slots := 0, locals := 111 }
abbrev rm_X1_send_er : Room := { frames := 7, cells := 1, slots := 6, locals := 111 }
theorem hdv_X1_send : yX1_send.cls = RX1 ∧ yX1_send.cls ≠ "java/lang/invoke/MethodHandle" ∧ yX1_send.cls ≠ "java/lang/invoke/VarHandle" ∧ (parseMethodDescriptor yX1_send.desc).map (fun d => d.parameters.length) = some 2 := by decide +kernel
set_option maxHeartbeats 4000000 in
set_option maxRecDepth 100000 in
theorem ok_X1_send (l : Launch) (D : va_G) (Z : Nat → ClassId) (o : Nat) (a b : Nat → Nat) (S T : RS) (p1 : Int32) (p2 : Int32) (r : Int32) (S' T' : RS) (hf : f_X1_send S T p1 p2 = some (.ok (r, S', T'))) : GWi l yX1_send wsX1_send rm_X1_send D Z xE [.ref o, .int p1, .int p2] (owl Z o a b S T) (owl Z o a b S' T') r 0 0 := by
  refine GWi.of (cc := cX1_send) (nL := 5) (ret := (some .int)) (by decide +kernel) rfl (Nat.le_of_ble_eq_true rfl) ?_
  intro p e s m below meth c A hC hE hA hP hK hD hS ls hl
  obtain ⟨hx, hb, hr, hml, hown, hts, hlk, -⟩ := hC
  have hown : s.vm.findClass RX1 = some m.cls := hown
  have hNm := hE.2.2.2.1
  have hNf := hE.2.2.2.2.1
  have hin1 : ∀ w ∈ wsX10, w ∈ wsX1_send := fun w h => List.mem_cons_of_mem _ (List.mem_append_left _ (List.mem_append_left _ (List.mem_append_left _ (List.mem_append_right _ h))))
  have hin0 : ∀ w ∈ wsX00, w ∈ wsX1_send := fun w h => List.mem_cons_of_mem _ (List.mem_append_left _ (List.mem_append_left _ (List.mem_append_right _ h)))
  have hl : lv_has ls 5 [(0, .ref o), (1, .int p1), (2, .int p2)] := hl
  unfold f_X1_send at hf
  refine lv_aload_n hx hb dX1_send_0 rfl (lv_at hl 0 rfl) ?_
  refine lv_iload_n hx hb dX1_send_1 rfl (lv_at hl 1 rfl) ?_
  obtain ⟨hv1, hf⟩ := obx_ok hf
  refine zc_v (z_VG (As := [.int p1]) (rest := []) (q0 := 0) (ci := 1) xE_ok hE hS hA ⟨hx, hb, hml, hown, hts⟩ (ok_X1_needPod l D Z o a b S T p1 hv1) gX1_send_X1_needPod rfl rfl rfl hdv_X1_needPod ⟨Nat.le_of_ble_eq_true rfl, Nat.le_of_ble_eq_true rfl⟩ hK hP hD rfl rfl rfl rfl hl.1 rfl (Nat.le_of_ble_eq_true rfl) dX1_send_2 ⟨Nat.le_of_ble_eq_true rfl, Nat.le_of_ble_eq_true rfl⟩) hP hS hA (fun H locs hP hS => ?_)
  refine lv_aload_n hx hb dX1_send_5 rfl (lv_at hl 0 rfl) ?_
  refine lv_iload_n hx hb dX1_send_6 rfl (lv_at hl 2 rfl) ?_
  obtain ⟨hv2, hf⟩ := obx_ok hf
  refine zc_v (z_VG (As := [.int p2]) (rest := []) (q0 := 0) (ci := 1) xE_ok hE hS hA ⟨hx, hb, hml, hown, hts⟩ (ok_X1_needStation l D Z o a b S T p2 hv2) gX1_send_X1_needStation rfl rfl rfl hdv_X1_needStation ⟨Nat.le_of_ble_eq_true rfl, Nat.le_of_ble_eq_true rfl⟩ hK hP hD rfl rfl rfl rfl hl.1 rfl (Nat.le_of_ble_eq_true rfl) dX1_send_7 ⟨Nat.le_of_ble_eq_true rfl, Nat.le_of_ble_eq_true rfl⟩) hP hS hA (fun H locs hP hS => ?_)
  refine lv_aload_n hx hb dX1_send_10 rfl (lv_at hl 0 rfl) ?_
  refine va_get (D := D) (ci := 1) (v := .ref (a 0)) (C := RX1) (T := TX1) (N := 2) hx hb hts hin1 hown hK hP 0 rfl rfl 0 (by decide) (hts (.fieldLink RX1 10 "PodGuideway" "now" "LPodGuideway$Ring;") (List.mem_of_getElem? (i := 3) rfl)) (fun _ h9 => h9) rfl dX1_send_11 ?_
  refine lv_iload_n hx hb dX1_send_14 rfl (lv_at hl 1 rfl) ?_
  obtain ⟨v4, hv3, hf⟩ := ob_some hf
  refine zc_i (z_VN (As := [.int p1]) (rest := []) (q0 := 0) (ci := 0) ⟨hx, hb, hml, hown, hts⟩ (m_X0_berthOf l D Z a S p1 v4 hv3) gX1_send_X0_berthOf_n75 rfl rfl rfl (hNm (75, yX0_berthOf) (List.mem_of_getElem? (i := 7) rfl)) (hts (.initialized RX0) (List.mem_of_getElem? (i := 16) rfl)) (hts (.instanceMethod yX0_berthOf) (List.mem_of_getElem? (i := 15) rfl)) (hts (.selects RX0 yX0_berthOf yX0_berthOf) (List.mem_of_getElem? (i := 17) rfl)) hdv_X0_berthOf ⟨Nat.le_of_ble_eq_true rfl, Nat.le_of_ble_eq_true rfl⟩ hK (hP.sub (ws' := (rwl Z a S)) [1, 2, 3, 4, 5, 6, 7, 8, 9, 10, 11, 12] rfl) (hD.sub (ws' := (rwl Z a S)) [1, 2, 3, 4, 5, 6, 7, 8, 9, 10, 11, 12] (by decide) rfl) rfl rfl rfl rfl hl.1 rfl (Nat.le_of_ble_eq_true rfl) dX1_send_15 ⟨Nat.le_of_ble_eq_true rfl, Nat.le_of_ble_eq_true rfl⟩) hP hS hA (fun H locs hP hS => ?_)
  refine lv_istore_n (lv' := [(3, .int v4), (0, .ref o), (1, .int p1), (2, .int p2)]) hx hb dX1_send_18 rfl hl (by decide) rfl (fun ls hl => ?_)
  refine lv_iload_n hx hb dX1_send_19 rfl (lv_at hl 0 rfl) ?_
  refine lv_iconst (v := (-1)) hx hb dX1_send_20 (by decide) ?_
  refine lv_icmp_eq (tgt := 36) hx hb dX1_send_21 (by decide) (fun c5 => ?_) (fun c5 => ?_)
  · have hf := if_t hf c5
    exact er_ok hf
  · have hf := if_f hf c5
    refine lv_aload_n hx hb dX1_send_24 rfl (lv_at hl 1 rfl) ?_
    refine va_get (D := D) (ci := 1) (v := .ref (a 0)) (C := RX1) (T := TX1) (N := 2) hx hb hts hin1 hown hK hP 0 rfl rfl 0 (by decide) (hts (.fieldLink RX1 10 "PodGuideway" "now" "LPodGuideway$Ring;") (List.mem_of_getElem? (i := 3) rfl)) (fun _ h9 => h9) rfl dX1_send_25 ?_
    refine lv_iload_n hx hb dX1_send_28 rfl (lv_at hl 2 rfl) ?_
    obtain ⟨v7, hv6, hf⟩ := ob_some hf
    refine zc_i (z_VN (As := [.int p1]) (rest := []) (q0 := 0) (ci := 0) ⟨hx, hb, hml, hown, hts⟩ (m_X0_goalOf l D Z a S p1 v7 hv6) gX1_send_X0_goalOf_n78 rfl rfl rfl (hNm (78, yX0_goalOf) (List.mem_of_getElem? (i := 8) rfl)) (hts (.initialized RX0) (List.mem_of_getElem? (i := 16) rfl)) (hts (.instanceMethod yX0_goalOf) (List.mem_of_getElem? (i := 23) rfl)) (hts (.selects RX0 yX0_goalOf yX0_goalOf) (List.mem_of_getElem? (i := 24) rfl)) hdv_X0_goalOf ⟨Nat.le_of_ble_eq_true rfl, Nat.le_of_ble_eq_true rfl⟩ hK (hP.sub (ws' := (rwl Z a S)) [1, 2, 3, 4, 5, 6, 7, 8, 9, 10, 11, 12] rfl) (hD.sub (ws' := (rwl Z a S)) [1, 2, 3, 4, 5, 6, 7, 8, 9, 10, 11, 12] (by decide) rfl) rfl rfl rfl rfl hl.1 rfl (Nat.le_of_ble_eq_true rfl) dX1_send_29 ⟨Nat.le_of_ble_eq_true rfl, Nat.le_of_ble_eq_true rfl⟩) hP hS hA (fun H locs hP hS => ?_)
    refine lv_iconst (v := (-1)) hx hb dX1_send_32 (by decide) ?_
    refine lv_icmp_eq (tgt := 46) hx hb dX1_send_33 (by decide) (fun c8 => ?_) (fun c8 => ?_)
    · have hf := if_t hf c8
      refine lv_iload_n hx hb dX1_send_46 rfl (lv_at hl 0 rfl) ?_
      refine lv_iconst (v := 3) hx hb dX1_send_47 (by decide) ?_
      refine lv_idiv hx hb dX1_send_48 (by decide) ?_
      refine lv_istore (lv' := [(4, .int (v4 / 3)), (3, .int v4), (0, .ref o), (1, .int p1), (2, .int p2)]) hx hb dX1_send_49 hl (by decide) rfl (fun ls hl => ?_)
      refine lv_iload hx hb dX1_send_51 (lv_at hl 0 rfl) ?_
      refine lv_iload_n hx hb dX1_send_53 rfl (lv_at hl 4 rfl) ?_
      refine lv_icmp_ne (tgt := 67) hx hb dX1_send_54 (by decide) (fun c9 => ?_) (fun c9 => ?_)
      · have hf := if_f hf c9
        have hf := okx_ok hf
        refine lv_aload_n hx hb dX1_send_67 rfl (lv_at hl 2 rfl) ?_
        refine va_get (D := D) (ci := 1) (v := .ref (a 0)) (C := RX1) (T := TX1) (N := 2) hx hb hts hin1 hown hK hP 0 rfl rfl 0 (by decide) (hts (.fieldLink RX1 10 "PodGuideway" "now" "LPodGuideway$Ring;") (List.mem_of_getElem? (i := 3) rfl)) (fun _ h9 => h9) rfl dX1_send_68 ?_
        refine lv_iload_n hx hb dX1_send_71 rfl (lv_at hl 3 rfl) ?_
        refine lv_iload_n hx hb dX1_send_72 rfl (lv_at hl 4 rfl) ?_
        obtain ⟨S11, hv10, hf⟩ := ob_some hf
        refine zc_mv zI_now (z_VN (As := [.int p1, .int p2]) (rest := []) (q0 := 0) (ci := 0) ⟨hx, hb, hml, hown, hts⟩ (m_X0_setGoal l D Z a S p1 p2 S11 hv10) gX1_send_X0_setGoal_n85 rfl rfl rfl (hNm (85, yX0_setGoal) (List.mem_of_getElem? (i := 9) rfl)) (hts (.initialized RX0) (List.mem_of_getElem? (i := 16) rfl)) (hts (.instanceMethod yX0_setGoal) (List.mem_of_getElem? (i := 30) rfl)) (hts (.selects RX0 yX0_setGoal yX0_setGoal) (List.mem_of_getElem? (i := 31) rfl)) hdv_X0_setGoal ⟨Nat.le_of_ble_eq_true rfl, Nat.le_of_ble_eq_true rfl⟩ hK (hP.sub (ws' := (rwl Z a S)) [1, 2, 3, 4, 5, 6, 7, 8, 9, 10, 11, 12] rfl) (hD.sub (ws' := (rwl Z a S)) [1, 2, 3, 4, 5, 6, 7, 8, 9, 10, 11, 12] (by decide) rfl) rfl rfl rfl rfl hl.1 rfl (Nat.le_of_ble_eq_true rfl) dX1_send_73 ⟨Nat.le_of_ble_eq_true rfl, Nat.le_of_ble_eq_true rfl⟩) hP hD hS hA (fun H locs hP hD hS => ?_)
        refine lv_aload_n hx hb dX1_send_76 rfl (lv_at hl 2 rfl) ?_
        refine va_get (D := D) (ci := 1) (v := .ref (a 0)) (C := RX1) (T := TX1) (N := 2) hx hb hts hin1 hown hK hP 0 rfl rfl 0 (by decide) (hts (.fieldLink RX1 10 "PodGuideway" "now" "LPodGuideway$Ring;") (List.mem_of_getElem? (i := 3) rfl)) (fun _ h9 => h9) rfl dX1_send_77 ?_
        refine lv_iload hx hb dX1_send_80 (lv_at hl 0 rfl) ?_
        refine lv_iload_n hx hb dX1_send_82 rfl (lv_at hl 4 rfl) ?_
        obtain ⟨v13, hv12, hf⟩ := ob_some hf
        refine zc_i (z_VN (As := [.int (v4 / 3), .int p2]) (rest := []) (q0 := 0) (ci := 0) ⟨hx, hb, hml, hown, hts⟩ (m_X0_placesOn l D Z a S11 (v4 / 3) p2 v13 hv12) gX1_send_X0_placesOn_n88 rfl rfl rfl (hNm (88, yX0_placesOn) (List.mem_of_getElem? (i := 10) rfl)) (hts (.initialized RX0) (List.mem_of_getElem? (i := 16) rfl)) (hts (.instanceMethod yX0_placesOn) (List.mem_of_getElem? (i := 36) rfl)) (hts (.selects RX0 yX0_placesOn yX0_placesOn) (List.mem_of_getElem? (i := 37) rfl)) hdv_X0_placesOn ⟨Nat.le_of_ble_eq_true rfl, Nat.le_of_ble_eq_true rfl⟩ hK (hP.sub (ws' := (rwl Z a S11)) [1, 2, 3, 4, 5, 6, 7, 8, 9, 10, 11, 12] rfl) (hD.sub (ws' := (rwl Z a S11)) [1, 2, 3, 4, 5, 6, 7, 8, 9, 10, 11, 12] (by decide) rfl) rfl rfl rfl rfl hl.1 rfl (Nat.le_of_ble_eq_true rfl) dX1_send_83 ⟨Nat.le_of_ble_eq_true rfl, Nat.le_of_ble_eq_true rfl⟩) hP hS hA (fun H locs hP hS => ?_)
        exact zw_i hx hb hr hlk hP hD hS (owl_eq (t3_2 hf) (t3_3 hf)) (t3_1 hf) (Nat.le_of_ble_eq_true rfl) (Nat.le_of_ble_eq_true rfl) dX1_send_86
      · have hf := if_t hf c9
        exact er_ok hf
    · have hf := if_f hf c8
      exact er_ok hf

def f_X1_told (S T : RS) (p1 : Int32) (p2 : Int32) : Option (Except String (Int32)) :=
  obx (f_X1_needPod S T p1) (
  obx (f_X1_needWhat S T p2 0 5) (
  okx (
    ob (f_X0_tellPod S p1 p2) fun v4 =>
    some v4)))
abbrev rm_X1_told : Room := { frames := 7, cells := 0, slots := 0, locals := 113 }
abbrev rm_X1_told_er : Room := { frames := 7, cells := 1, slots := 6, locals := 113 }
theorem hdv_X1_told : yX1_told.cls = RX1 ∧ yX1_told.cls ≠ "java/lang/invoke/MethodHandle" ∧ yX1_told.cls ≠ "java/lang/invoke/VarHandle" ∧ (parseMethodDescriptor yX1_told.desc).map (fun d => d.parameters.length) = some 2 := by decide +kernel
set_option maxHeartbeats 4000000 in
set_option maxRecDepth 100000 in
theorem ok_X1_told (l : Launch) (D : va_G) (Z : Nat → ClassId) (o : Nat) (a b : Nat → Nat) (S T : RS) (p1 : Int32) (p2 : Int32) (r : Int32) (hf : f_X1_told S T p1 p2 = some (.ok r)) : GOi l yX1_told wsX1_told rm_X1_told D Z xE [.ref o, .int p1, .int p2] (owl Z o a b S T) r := by
  refine GOi.of (cc := cX1_told) (nL := 3) (ret := (some .int)) (by decide +kernel) rfl (Nat.le_of_ble_eq_true rfl) ?_
  intro p e s m below meth c A0 hC hE hA0 hA hP hK hD hS ls hl
  obtain ⟨hx, hb, hr, hml, hown, hts, hlk, -⟩ := hC
  have hown : s.vm.findClass RX1 = some m.cls := hown
  have hNm := hE.2.2.2.1
  have hNf := hE.2.2.2.2.1
  have hin1 : ∀ w ∈ wsX10, w ∈ wsX1_told := fun w h => List.mem_cons_of_mem _ (List.mem_append_left _ (List.mem_append_left _ (List.mem_append_right _ h)))
  have hin0 : ∀ w ∈ wsX00, w ∈ wsX1_told := fun w h => List.mem_cons_of_mem _ (List.mem_append_left _ (List.mem_append_right _ h))
  have hl : lv_has ls 3 [(0, .ref o), (1, .int p1), (2, .int p2)] := hl
  unfold f_X1_told at hf
  refine lv_aload_n hx hb dX1_told_0 rfl (lv_at hl 0 rfl) ?_
  refine lv_iload_n hx hb dX1_told_1 rfl (lv_at hl 1 rfl) ?_
  obtain ⟨hv1, hf⟩ := obx_ok hf
  refine zc_v (z_VG (As := [.int p1]) (rest := []) (q0 := 0) (ci := 1) xE_ok hE (hS.up hA0) hA0 ⟨hx, hb, hml, hown, hts⟩ (ok_X1_needPod l D Z o a b S T p1 hv1) gX1_told_X1_needPod rfl rfl rfl hdv_X1_needPod ⟨Nat.le_of_ble_eq_true rfl, Nat.le_of_ble_eq_true rfl⟩ hK hP hD rfl rfl rfl rfl hl.1 rfl (Nat.le_of_ble_eq_true rfl) dX1_told_2 ⟨Nat.le_of_ble_eq_true rfl, Nat.le_of_ble_eq_true rfl⟩) hP hS hA (fun H locs hP hS => ?_)
  refine lv_aload_n hx hb dX1_told_5 rfl (lv_at hl 0 rfl) ?_
  refine lv_iload_n hx hb dX1_told_6 rfl (lv_at hl 2 rfl) ?_
  refine lv_iconst (v := 0) hx hb dX1_told_7 (by decide) ?_
  refine lv_iconst (v := 5) hx hb dX1_told_8 (by decide) ?_
  obtain ⟨hv2, hf⟩ := obx_ok hf
  refine zc_v (z_VG (As := [.int p2, .int 0, .int 5]) (rest := []) (q0 := 0) (ci := 1) xE_ok hE (hS.up hA0) hA0 ⟨hx, hb, hml, hown, hts⟩ (ok_X1_needWhat l D Z o a b S T p2 0 5 hv2) gX1_told_X1_needWhat rfl rfl rfl hdv_X1_needWhat ⟨Nat.le_of_ble_eq_true rfl, Nat.le_of_ble_eq_true rfl⟩ hK hP hD rfl rfl rfl rfl hl.1 rfl (Nat.le_of_ble_eq_true rfl) dX1_told_9 ⟨Nat.le_of_ble_eq_true rfl, Nat.le_of_ble_eq_true rfl⟩) hP hS hA (fun H locs hP hS => ?_)
  have hf := okx_ok hf
  refine lv_aload_n hx hb dX1_told_12 rfl (lv_at hl 0 rfl) ?_
  refine va_get (D := D) (ci := 1) (v := .ref (a 0)) (C := RX1) (T := TX1) (N := 2) hx hb hts hin1 hown hK hP 0 rfl rfl 0 (by decide) (hts (.fieldLink RX1 10 "PodGuideway" "now" "LPodGuideway$Ring;") (List.mem_of_getElem? (i := 1) rfl)) (fun _ h9 => h9) rfl dX1_told_13 ?_
  refine lv_iload_n hx hb dX1_told_16 rfl (lv_at hl 1 rfl) ?_
  refine lv_iload_n hx hb dX1_told_17 rfl (lv_at hl 2 rfl) ?_
  obtain ⟨v4, hv3, hf⟩ := ob_some hf
  refine zc_i (z_VN (As := [.int p1, .int p2]) (rest := []) (q0 := 0) (ci := 0) ⟨hx, hb, hml, hown, hts⟩ (m_X0_tellPod l D Z a S p1 p2 v4 hv3) gX1_told_X0_tellPod_n95 rfl rfl rfl (hNm (95, yX0_tellPod) (List.mem_of_getElem? (i := 11) rfl)) (hts (.initialized RX0) (List.mem_of_getElem? (i := 14) rfl)) (hts (.instanceMethod yX0_tellPod) (List.mem_of_getElem? (i := 13) rfl)) (hts (.selects RX0 yX0_tellPod yX0_tellPod) (List.mem_of_getElem? (i := 15) rfl)) hdv_X0_tellPod ⟨Nat.le_of_ble_eq_true rfl, Nat.le_of_ble_eq_true rfl⟩ hK (hP.sub (ws' := (rwl Z a S)) [1, 2, 3, 4, 5, 6, 7, 8, 9, 10, 11, 12] rfl) (hD.sub (ws' := (rwl Z a S)) [1, 2, 3, 4, 5, 6, 7, 8, 9, 10, 11, 12] (by decide) rfl) rfl rfl rfl rfl hl.1 rfl (Nat.le_of_ble_eq_true rfl) dX1_told_18 ⟨Nat.le_of_ble_eq_true rfl, Nat.le_of_ble_eq_true rfl⟩) hP hS hA (fun H locs hP hS => ?_)
  exact zr_i hx hb hr hlk hS (Option.some.inj hf) dX1_told_21

def f_X1_station (S T : RS) (p1 : Int32) (p2 : Int32) : Option (Except String (Int32)) :=
  obx (f_X1_needStation S T p1) (
  obx (f_X1_needWhat S T p2 0 6) (
  okx (
    ob (f_X0_tellStation S p1 p2) fun v4 =>
    some v4)))
abbrev rm_X1_station : Room := { frames := 7, cells := 0, slots := 0, locals := 113 }
abbrev rm_X1_station_er : Room := { frames := 7, cells := 1, slots := 6, locals := 113 }
theorem hdv_X1_station : yX1_station.cls = RX1 ∧ yX1_station.cls ≠ "java/lang/invoke/MethodHandle" ∧ yX1_station.cls ≠ "java/lang/invoke/VarHandle" ∧ (parseMethodDescriptor yX1_station.desc).map (fun d => d.parameters.length) = some 2 := by decide +kernel
set_option maxHeartbeats 4000000 in
set_option maxRecDepth 100000 in
theorem ok_X1_station (l : Launch) (D : va_G) (Z : Nat → ClassId) (o : Nat) (a b : Nat → Nat) (S T : RS) (p1 : Int32) (p2 : Int32) (r : Int32) (hf : f_X1_station S T p1 p2 = some (.ok r)) : GOi l yX1_station wsX1_station rm_X1_station D Z xE [.ref o, .int p1, .int p2] (owl Z o a b S T) r := by
  refine GOi.of (cc := cX1_station) (nL := 3) (ret := (some .int)) (by decide +kernel) rfl (Nat.le_of_ble_eq_true rfl) ?_
  intro p e s m below meth c A0 hC hE hA0 hA hP hK hD hS ls hl
  obtain ⟨hx, hb, hr, hml, hown, hts, hlk, -⟩ := hC
  have hown : s.vm.findClass RX1 = some m.cls := hown
  have hNm := hE.2.2.2.1
  have hNf := hE.2.2.2.2.1
  have hin1 : ∀ w ∈ wsX10, w ∈ wsX1_station := fun w h => List.mem_cons_of_mem _ (List.mem_append_left _ (List.mem_append_left _ (List.mem_append_right _ h)))
  have hin0 : ∀ w ∈ wsX00, w ∈ wsX1_station := fun w h => List.mem_cons_of_mem _ (List.mem_append_left _ (List.mem_append_right _ h))
  have hl : lv_has ls 3 [(0, .ref o), (1, .int p1), (2, .int p2)] := hl
  unfold f_X1_station at hf
  refine lv_aload_n hx hb dX1_station_0 rfl (lv_at hl 0 rfl) ?_
  refine lv_iload_n hx hb dX1_station_1 rfl (lv_at hl 1 rfl) ?_
  obtain ⟨hv1, hf⟩ := obx_ok hf
  refine zc_v (z_VG (As := [.int p1]) (rest := []) (q0 := 0) (ci := 1) xE_ok hE (hS.up hA0) hA0 ⟨hx, hb, hml, hown, hts⟩ (ok_X1_needStation l D Z o a b S T p1 hv1) gX1_station_X1_needStation rfl rfl rfl hdv_X1_needStation ⟨Nat.le_of_ble_eq_true rfl, Nat.le_of_ble_eq_true rfl⟩ hK hP hD rfl rfl rfl rfl hl.1 rfl (Nat.le_of_ble_eq_true rfl) dX1_station_2 ⟨Nat.le_of_ble_eq_true rfl, Nat.le_of_ble_eq_true rfl⟩) hP hS hA (fun H locs hP hS => ?_)
  refine lv_aload_n hx hb dX1_station_5 rfl (lv_at hl 0 rfl) ?_
  refine lv_iload_n hx hb dX1_station_6 rfl (lv_at hl 2 rfl) ?_
  refine lv_iconst (v := 0) hx hb dX1_station_7 (by decide) ?_
  refine lv_bipush (v := 6) hx hb dX1_station_8 (by decide) ?_
  obtain ⟨hv2, hf⟩ := obx_ok hf
  refine zc_v (z_VG (As := [.int p2, .int 0, .int 6]) (rest := []) (q0 := 0) (ci := 1) xE_ok hE (hS.up hA0) hA0 ⟨hx, hb, hml, hown, hts⟩ (ok_X1_needWhat l D Z o a b S T p2 0 6 hv2) gX1_station_X1_needWhat rfl rfl rfl hdv_X1_needWhat ⟨Nat.le_of_ble_eq_true rfl, Nat.le_of_ble_eq_true rfl⟩ hK hP hD rfl rfl rfl rfl hl.1 rfl (Nat.le_of_ble_eq_true rfl) dX1_station_10 ⟨Nat.le_of_ble_eq_true rfl, Nat.le_of_ble_eq_true rfl⟩) hP hS hA (fun H locs hP hS => ?_)
  have hf := okx_ok hf
  refine lv_aload_n hx hb dX1_station_13 rfl (lv_at hl 0 rfl) ?_
  refine va_get (D := D) (ci := 1) (v := .ref (a 0)) (C := RX1) (T := TX1) (N := 2) hx hb hts hin1 hown hK hP 0 rfl rfl 0 (by decide) (hts (.fieldLink RX1 10 "PodGuideway" "now" "LPodGuideway$Ring;") (List.mem_of_getElem? (i := 1) rfl)) (fun _ h9 => h9) rfl dX1_station_14 ?_
  refine lv_iload_n hx hb dX1_station_17 rfl (lv_at hl 1 rfl) ?_
  refine lv_iload_n hx hb dX1_station_18 rfl (lv_at hl 2 rfl) ?_
  obtain ⟨v4, hv3, hf⟩ := ob_some hf
  refine zc_i (z_VN (As := [.int p1, .int p2]) (rest := []) (q0 := 0) (ci := 0) ⟨hx, hb, hml, hown, hts⟩ (m_X0_tellStation l D Z a S p1 p2 v4 hv3) gX1_station_X0_tellStation_n98 rfl rfl rfl (hNm (98, yX0_tellStation) (List.mem_of_getElem? (i := 12) rfl)) (hts (.initialized RX0) (List.mem_of_getElem? (i := 14) rfl)) (hts (.instanceMethod yX0_tellStation) (List.mem_of_getElem? (i := 13) rfl)) (hts (.selects RX0 yX0_tellStation yX0_tellStation) (List.mem_of_getElem? (i := 15) rfl)) hdv_X0_tellStation ⟨Nat.le_of_ble_eq_true rfl, Nat.le_of_ble_eq_true rfl⟩ hK (hP.sub (ws' := (rwl Z a S)) [1, 2, 3, 4, 5, 6, 7, 8, 9, 10, 11, 12] rfl) (hD.sub (ws' := (rwl Z a S)) [1, 2, 3, 4, 5, 6, 7, 8, 9, 10, 11, 12] (by decide) rfl) rfl rfl rfl rfl hl.1 rfl (Nat.le_of_ble_eq_true rfl) dX1_station_19 ⟨Nat.le_of_ble_eq_true rfl, Nat.le_of_ble_eq_true rfl⟩) hP hS hA (fun H locs hP hS => ?_)
  exact zr_i hx hb hr hlk hS (Option.some.inj hf) dX1_station_22

def f_X1_waits (S T : RS) (p1 : Int32) (p2 : Int32) : Option (Except String (Int32)) :=
  obx (f_X1_needStation S T p1) (
  if p2 < 0 then
    some (.error "java/lang/IndexOutOfBoundsException")
  else
    ob (f_X0_waitingAt S p1) fun v4 =>
    if p2 < v4 then
      okx (
        ob (f_X0_tellRider S p1 p2) fun v7 =>
        some v7)
    else
      some (.error "java/lang/IndexOutOfBoundsException"))
abbrev rm_X1_waits : Room := { frames := 7, cells := 0, slots := 0, locals := 111 }
abbrev rm_X1_waits_er : Room := { frames := 7, cells := 1, slots := 6, locals := 111 }
theorem hdv_X1_waits : yX1_waits.cls = RX1 ∧ yX1_waits.cls ≠ "java/lang/invoke/MethodHandle" ∧ yX1_waits.cls ≠ "java/lang/invoke/VarHandle" ∧ (parseMethodDescriptor yX1_waits.desc).map (fun d => d.parameters.length) = some 2 := by decide +kernel
set_option maxHeartbeats 4000000 in
set_option maxRecDepth 100000 in
theorem ok_X1_waits (l : Launch) (D : va_G) (Z : Nat → ClassId) (o : Nat) (a b : Nat → Nat) (S T : RS) (p1 : Int32) (p2 : Int32) (r : Int32) (hf : f_X1_waits S T p1 p2 = some (.ok r)) : GOi l yX1_waits wsX1_waits rm_X1_waits D Z xE [.ref o, .int p1, .int p2] (owl Z o a b S T) r := by
  refine GOi.of (cc := cX1_waits) (nL := 3) (ret := (some .int)) (by decide +kernel) rfl (Nat.le_of_ble_eq_true rfl) ?_
  intro p e s m below meth c A0 hC hE hA0 hA hP hK hD hS ls hl
  obtain ⟨hx, hb, hr, hml, hown, hts, hlk, -⟩ := hC
  have hown : s.vm.findClass RX1 = some m.cls := hown
  have hNm := hE.2.2.2.1
  have hNf := hE.2.2.2.2.1
  have hin1 : ∀ w ∈ wsX10, w ∈ wsX1_waits := fun w h => List.mem_cons_of_mem _ (List.mem_append_left _ (List.mem_append_left _ (List.mem_append_right _ h)))
  have hin0 : ∀ w ∈ wsX00, w ∈ wsX1_waits := fun w h => List.mem_cons_of_mem _ (List.mem_append_left _ (List.mem_append_right _ h))
  have hl : lv_has ls 3 [(0, .ref o), (1, .int p1), (2, .int p2)] := hl
  unfold f_X1_waits at hf
  refine lv_aload_n hx hb dX1_waits_0 rfl (lv_at hl 0 rfl) ?_
  refine lv_iload_n hx hb dX1_waits_1 rfl (lv_at hl 1 rfl) ?_
  obtain ⟨hv1, hf⟩ := obx_ok hf
  refine zc_v (z_VG (As := [.int p1]) (rest := []) (q0 := 0) (ci := 1) xE_ok hE (hS.up hA0) hA0 ⟨hx, hb, hml, hown, hts⟩ (ok_X1_needStation l D Z o a b S T p1 hv1) gX1_waits_X1_needStation rfl rfl rfl hdv_X1_needStation ⟨Nat.le_of_ble_eq_true rfl, Nat.le_of_ble_eq_true rfl⟩ hK hP hD rfl rfl rfl rfl hl.1 rfl (Nat.le_of_ble_eq_true rfl) dX1_waits_2 ⟨Nat.le_of_ble_eq_true rfl, Nat.le_of_ble_eq_true rfl⟩) hP hS hA (fun H locs hP hS => ?_)
  refine lv_iload_n hx hb dX1_waits_5 rfl (lv_at hl 2 rfl) ?_
  refine lv_if_lt (tgt := 21) hx hb dX1_waits_6 (by decide) (fun c2 => ?_) (fun c2 => ?_)
  · have hf := if_t hf c2
    exact er_ok hf
  · have hf := if_f hf c2
    refine lv_iload_n hx hb dX1_waits_9 rfl (lv_at hl 2 rfl) ?_
    refine lv_aload_n hx hb dX1_waits_10 rfl (lv_at hl 0 rfl) ?_
    refine va_get (D := D) (ci := 1) (v := .ref (a 0)) (C := RX1) (T := TX1) (N := 2) hx hb hts hin1 hown hK hP 0 rfl rfl 0 (by decide) (hts (.fieldLink RX1 10 "PodGuideway" "now" "LPodGuideway$Ring;") (List.mem_of_getElem? (i := 3) rfl)) (fun _ h9 => h9) rfl dX1_waits_11 ?_
    refine lv_iload_n hx hb dX1_waits_14 rfl (lv_at hl 1 rfl) ?_
    obtain ⟨v4, hv3, hf⟩ := ob_some hf
    refine zc_i (z_VN (As := [.int p1]) (rest := [.int p2]) (q0 := 0) (ci := 0) ⟨hx, hb, hml, hown, hts⟩ (m_X0_waitingAt l D Z a S p1 v4 hv3) gX1_waits_X0_waitingAt_n64 rfl rfl rfl (hNm (64, yX0_waitingAt) (List.mem_of_getElem? (i := 5) rfl)) (hts (.initialized RX0) (List.mem_of_getElem? (i := 10) rfl)) (hts (.instanceMethod yX0_waitingAt) (List.mem_of_getElem? (i := 9) rfl)) (hts (.selects RX0 yX0_waitingAt yX0_waitingAt) (List.mem_of_getElem? (i := 11) rfl)) hdv_X0_waitingAt ⟨Nat.le_of_ble_eq_true rfl, Nat.le_of_ble_eq_true rfl⟩ hK (hP.sub (ws' := (rwl Z a S)) [1, 2, 3, 4, 5, 6, 7, 8, 9, 10, 11, 12] rfl) (hD.sub (ws' := (rwl Z a S)) [1, 2, 3, 4, 5, 6, 7, 8, 9, 10, 11, 12] (by decide) rfl) rfl rfl rfl rfl hl.1 rfl (Nat.le_of_ble_eq_true rfl) dX1_waits_15 ⟨Nat.le_of_ble_eq_true rfl, Nat.le_of_ble_eq_true rfl⟩) hP hS hA (fun H locs hP hS => ?_)
    refine lv_icmp_lt (tgt := 31) hx hb dX1_waits_18 (by decide) (fun c5 => ?_) (fun c5 => ?_)
    · have hf := if_t hf c5
      have hf := okx_ok hf
      refine lv_aload_n hx hb dX1_waits_31 rfl (lv_at hl 0 rfl) ?_
      refine va_get (D := D) (ci := 1) (v := .ref (a 0)) (C := RX1) (T := TX1) (N := 2) hx hb hts hin1 hown hK hP 0 rfl rfl 0 (by decide) (hts (.fieldLink RX1 10 "PodGuideway" "now" "LPodGuideway$Ring;") (List.mem_of_getElem? (i := 3) rfl)) (fun _ h9 => h9) rfl dX1_waits_32 ?_
      refine lv_iload_n hx hb dX1_waits_35 rfl (lv_at hl 1 rfl) ?_
      refine lv_iload_n hx hb dX1_waits_36 rfl (lv_at hl 2 rfl) ?_
      obtain ⟨v7, hv6, hf⟩ := ob_some hf
      refine zc_i (z_VN (As := [.int p1, .int p2]) (rest := []) (q0 := 0) (ci := 0) ⟨hx, hb, hml, hown, hts⟩ (m_X0_tellRider l D Z a S p1 p2 v7 hv6) gX1_waits_X0_tellRider_n106 rfl rfl rfl (hNm (106, yX0_tellRider) (List.mem_of_getElem? (i := 13) rfl)) (hts (.initialized RX0) (List.mem_of_getElem? (i := 10) rfl)) (hts (.instanceMethod yX0_tellRider) (List.mem_of_getElem? (i := 21) rfl)) (hts (.selects RX0 yX0_tellRider yX0_tellRider) (List.mem_of_getElem? (i := 22) rfl)) hdv_X0_tellRider ⟨Nat.le_of_ble_eq_true rfl, Nat.le_of_ble_eq_true rfl⟩ hK (hP.sub (ws' := (rwl Z a S)) [1, 2, 3, 4, 5, 6, 7, 8, 9, 10, 11, 12] rfl) (hD.sub (ws' := (rwl Z a S)) [1, 2, 3, 4, 5, 6, 7, 8, 9, 10, 11, 12] (by decide) rfl) rfl rfl rfl rfl hl.1 rfl (Nat.le_of_ble_eq_true rfl) dX1_waits_37 ⟨Nat.le_of_ble_eq_true rfl, Nat.le_of_ble_eq_true rfl⟩) hP hS hA (fun H locs hP hS => ?_)
      exact zr_i hx hb hr hlk hS (Option.some.inj hf) dX1_waits_40
    · have hf := if_f hf c5
      exact er_ok hf

def f_X1_slot (S T : RS) (p1 : Int32) : Option (Except String (Int32)) :=
  obx (f_X1_needPlace S T p1) (
  okx (
    ob (f_X0_podAtPlace S p1) fun v3 =>
    some v3))
abbrev rm_X1_slot : Room := { frames := 7, cells := 0, slots := 0, locals := 111 }
abbrev rm_X1_slot_er : Room := { frames := 7, cells := 1, slots := 6, locals := 111 }
theorem hdv_X1_slot : yX1_slot.cls = RX1 ∧ yX1_slot.cls ≠ "java/lang/invoke/MethodHandle" ∧ yX1_slot.cls ≠ "java/lang/invoke/VarHandle" ∧ (parseMethodDescriptor yX1_slot.desc).map (fun d => d.parameters.length) = some 1 := by decide +kernel
set_option maxHeartbeats 4000000 in
set_option maxRecDepth 100000 in
theorem ok_X1_slot (l : Launch) (D : va_G) (Z : Nat → ClassId) (o : Nat) (a b : Nat → Nat) (S T : RS) (p1 : Int32) (r : Int32) (hf : f_X1_slot S T p1 = some (.ok r)) : GOi l yX1_slot wsX1_slot rm_X1_slot D Z xE [.ref o, .int p1] (owl Z o a b S T) r := by
  refine GOi.of (cc := cX1_slot) (nL := 2) (ret := (some .int)) (by decide +kernel) rfl (Nat.le_of_ble_eq_true rfl) ?_
  intro p e s m below meth c A0 hC hE hA0 hA hP hK hD hS ls hl
  obtain ⟨hx, hb, hr, hml, hown, hts, hlk, -⟩ := hC
  have hown : s.vm.findClass RX1 = some m.cls := hown
  have hNm := hE.2.2.2.1
  have hNf := hE.2.2.2.2.1
  have hin1 : ∀ w ∈ wsX10, w ∈ wsX1_slot := fun w h => List.mem_cons_of_mem _ (List.mem_append_left _ (List.mem_append_left _ (List.mem_append_right _ h)))
  have hin0 : ∀ w ∈ wsX00, w ∈ wsX1_slot := fun w h => List.mem_cons_of_mem _ (List.mem_append_left _ (List.mem_append_right _ h))
  have hl : lv_has ls 2 [(0, .ref o), (1, .int p1)] := hl
  unfold f_X1_slot at hf
  refine lv_aload_n hx hb dX1_slot_0 rfl (lv_at hl 0 rfl) ?_
  refine lv_iload_n hx hb dX1_slot_1 rfl (lv_at hl 1 rfl) ?_
  obtain ⟨hv1, hf⟩ := obx_ok hf
  refine zc_v (z_VG (As := [.int p1]) (rest := []) (q0 := 0) (ci := 1) xE_ok hE (hS.up hA0) hA0 ⟨hx, hb, hml, hown, hts⟩ (ok_X1_needPlace l D Z o a b S T p1 hv1) gX1_slot_X1_needPlace rfl rfl rfl hdv_X1_needPlace ⟨Nat.le_of_ble_eq_true rfl, Nat.le_of_ble_eq_true rfl⟩ hK hP hD rfl rfl rfl rfl hl.1 rfl (Nat.le_of_ble_eq_true rfl) dX1_slot_2 ⟨Nat.le_of_ble_eq_true rfl, Nat.le_of_ble_eq_true rfl⟩) hP hS hA (fun H locs hP hS => ?_)
  have hf := okx_ok hf
  refine lv_aload_n hx hb dX1_slot_5 rfl (lv_at hl 0 rfl) ?_
  refine va_get (D := D) (ci := 1) (v := .ref (a 0)) (C := RX1) (T := TX1) (N := 2) hx hb hts hin1 hown hK hP 0 rfl rfl 0 (by decide) (hts (.fieldLink RX1 10 "PodGuideway" "now" "LPodGuideway$Ring;") (List.mem_of_getElem? (i := 1) rfl)) (fun _ h9 => h9) rfl dX1_slot_6 ?_
  refine lv_iload_n hx hb dX1_slot_9 rfl (lv_at hl 1 rfl) ?_
  obtain ⟨v3, hv2, hf⟩ := ob_some hf
  refine zc_i (z_VN (As := [.int p1]) (rest := []) (q0 := 0) (ci := 0) ⟨hx, hb, hml, hown, hts⟩ (m_X0_podAtPlace l D Z a S p1 v3 hv2) gX1_slot_X0_podAtPlace_n109 rfl rfl rfl (hNm (109, yX0_podAtPlace) (List.mem_of_getElem? (i := 14) rfl)) (hts (.initialized RX0) (List.mem_of_getElem? (i := 10) rfl)) (hts (.instanceMethod yX0_podAtPlace) (List.mem_of_getElem? (i := 9) rfl)) (hts (.selects RX0 yX0_podAtPlace yX0_podAtPlace) (List.mem_of_getElem? (i := 11) rfl)) hdv_X0_podAtPlace ⟨Nat.le_of_ble_eq_true rfl, Nat.le_of_ble_eq_true rfl⟩ hK (hP.sub (ws' := (rwl Z a S)) [1, 2, 3, 4, 5, 6, 7, 8, 9, 10, 11, 12] rfl) (hD.sub (ws' := (rwl Z a S)) [1, 2, 3, 4, 5, 6, 7, 8, 9, 10, 11, 12] (by decide) rfl) rfl rfl rfl rfl hl.1 rfl (Nat.le_of_ble_eq_true rfl) dX1_slot_10 ⟨Nat.le_of_ble_eq_true rfl, Nat.le_of_ble_eq_true rfl⟩) hP hS hA (fun H locs hP hS => ?_)
  exact zr_i hx hb hr hlk hS (Option.some.inj hf) dX1_slot_13

def f_X1_count (S T : RS) (p1 : Int32) : Option (Except String (Int32)) :=
  obx (f_X1_needWhat S T p1 0 8) (
  okx (
    ob (f_X0_tellCount S p1) fun v3 =>
    some v3))
abbrev rm_X1_count : Room := { frames := 7, cells := 0, slots := 0, locals := 113 }
abbrev rm_X1_count_er : Room := { frames := 7, cells := 1, slots := 6, locals := 113 }
theorem hdv_X1_count : yX1_count.cls = RX1 ∧ yX1_count.cls ≠ "java/lang/invoke/MethodHandle" ∧ yX1_count.cls ≠ "java/lang/invoke/VarHandle" ∧ (parseMethodDescriptor yX1_count.desc).map (fun d => d.parameters.length) = some 1 := by decide +kernel
set_option maxHeartbeats 4000000 in
set_option maxRecDepth 100000 in
theorem ok_X1_count (l : Launch) (D : va_G) (Z : Nat → ClassId) (o : Nat) (a b : Nat → Nat) (S T : RS) (p1 : Int32) (r : Int32) (hf : f_X1_count S T p1 = some (.ok r)) : GOi l yX1_count wsX1_count rm_X1_count D Z xE [.ref o, .int p1] (owl Z o a b S T) r := by
  refine GOi.of (cc := cX1_count) (nL := 2) (ret := (some .int)) (by decide +kernel) rfl (Nat.le_of_ble_eq_true rfl) ?_
  intro p e s m below meth c A0 hC hE hA0 hA hP hK hD hS ls hl
  obtain ⟨hx, hb, hr, hml, hown, hts, hlk, -⟩ := hC
  have hown : s.vm.findClass RX1 = some m.cls := hown
  have hNm := hE.2.2.2.1
  have hNf := hE.2.2.2.2.1
  have hin1 : ∀ w ∈ wsX10, w ∈ wsX1_count := fun w h => List.mem_cons_of_mem _ (List.mem_append_left _ (List.mem_append_left _ (List.mem_append_right _ h)))
  have hin0 : ∀ w ∈ wsX00, w ∈ wsX1_count := fun w h => List.mem_cons_of_mem _ (List.mem_append_left _ (List.mem_append_right _ h))
  have hl : lv_has ls 2 [(0, .ref o), (1, .int p1)] := hl
  unfold f_X1_count at hf
  refine lv_aload_n hx hb dX1_count_0 rfl (lv_at hl 0 rfl) ?_
  refine lv_iload_n hx hb dX1_count_1 rfl (lv_at hl 1 rfl) ?_
  refine lv_iconst (v := 0) hx hb dX1_count_2 (by decide) ?_
  refine lv_bipush (v := 8) hx hb dX1_count_3 (by decide) ?_
  obtain ⟨hv1, hf⟩ := obx_ok hf
  refine zc_v (z_VG (As := [.int p1, .int 0, .int 8]) (rest := []) (q0 := 0) (ci := 1) xE_ok hE (hS.up hA0) hA0 ⟨hx, hb, hml, hown, hts⟩ (ok_X1_needWhat l D Z o a b S T p1 0 8 hv1) gX1_count_X1_needWhat rfl rfl rfl hdv_X1_needWhat ⟨Nat.le_of_ble_eq_true rfl, Nat.le_of_ble_eq_true rfl⟩ hK hP hD rfl rfl rfl rfl hl.1 rfl (Nat.le_of_ble_eq_true rfl) dX1_count_5 ⟨Nat.le_of_ble_eq_true rfl, Nat.le_of_ble_eq_true rfl⟩) hP hS hA (fun H locs hP hS => ?_)
  have hf := okx_ok hf
  refine lv_aload_n hx hb dX1_count_8 rfl (lv_at hl 0 rfl) ?_
  refine va_get (D := D) (ci := 1) (v := .ref (a 0)) (C := RX1) (T := TX1) (N := 2) hx hb hts hin1 hown hK hP 0 rfl rfl 0 (by decide) (hts (.fieldLink RX1 10 "PodGuideway" "now" "LPodGuideway$Ring;") (List.mem_of_getElem? (i := 1) rfl)) (fun _ h9 => h9) rfl dX1_count_9 ?_
  refine lv_iload_n hx hb dX1_count_12 rfl (lv_at hl 1 rfl) ?_
  obtain ⟨v3, hv2, hf⟩ := ob_some hf
  refine zc_i (z_VN (As := [.int p1]) (rest := []) (q0 := 0) (ci := 0) ⟨hx, hb, hml, hown, hts⟩ (m_X0_tellCount l D Z a S p1 v3 hv2) gX1_count_X0_tellCount_n112 rfl rfl rfl (hNm (112, yX0_tellCount) (List.mem_of_getElem? (i := 15) rfl)) (hts (.initialized RX0) (List.mem_of_getElem? (i := 10) rfl)) (hts (.instanceMethod yX0_tellCount) (List.mem_of_getElem? (i := 9) rfl)) (hts (.selects RX0 yX0_tellCount yX0_tellCount) (List.mem_of_getElem? (i := 11) rfl)) hdv_X0_tellCount ⟨Nat.le_of_ble_eq_true rfl, Nat.le_of_ble_eq_true rfl⟩ hK (hP.sub (ws' := (rwl Z a S)) [1, 2, 3, 4, 5, 6, 7, 8, 9, 10, 11, 12] rfl) (hD.sub (ws' := (rwl Z a S)) [1, 2, 3, 4, 5, 6, 7, 8, 9, 10, 11, 12] (by decide) rfl) rfl rfl rfl rfl hl.1 rfl (Nat.le_of_ble_eq_true rfl) dX1_count_13 ⟨Nat.le_of_ble_eq_true rfl, Nat.le_of_ble_eq_true rfl⟩) hP hS hA (fun H locs hP hS => ?_)
  exact zr_i hx hb hr hlk hS (Option.some.inj hf) dX1_count_16

def f_X1_pass_L15   : Nat → Int32 → Int32 → Int32 → RS → RS → Option (Int32 × RS × RS)
  | 0, _, _, _, _, _ => none
  | n + 1, x1, x2, x3, S, T =>
    if x1 ≤ x3 then
      ob (f_X0_arrivedInAll S) fun v6 =>
      some ((v6 - x2), S, T)
    else
      ob (f_X0_passMinute S) fun S8 =>
      f_X1_pass_L15 n x1 x2 (x3 + 1) S8 T
def f_X1_pass (S T : RS) (p1 : Int32) : Option (Except String (Int32 × RS × RS)) :=
  obx (f_X1_needMinutes S T p1) (
  okx (
    ob (f_X0_arrivedInAll S) fun v3 =>
    f_X1_pass_L15 FU p1 v3 0 S T))
abbrev rm_X1_pass : Room := { frames := 7, cells := 0, slots := 0, locals := 135 }
abbrev rm_X1_pass_er : Room := { frames := 7, cells := 1, slots := 6, locals := 135 }
theorem hdv_X1_pass : yX1_pass.cls = RX1 ∧ yX1_pass.cls ≠ "java/lang/invoke/MethodHandle" ∧ yX1_pass.cls ≠ "java/lang/invoke/VarHandle" ∧ (parseMethodDescriptor yX1_pass.desc).map (fun d => d.parameters.length) = some 1 := by decide +kernel
set_option maxHeartbeats 4000000 in
set_option maxRecDepth 100000 in
theorem ok_X1_pass (l : Launch) (D : va_G) (Z : Nat → ClassId) (o : Nat) (a b : Nat → Nat) (S T : RS) (p1 : Int32) (r : Int32) (S' T' : RS) (hf : f_X1_pass S T p1 = some (.ok (r, S', T'))) : GWi l yX1_pass wsX1_pass rm_X1_pass D Z xE [.ref o, .int p1] (owl Z o a b S T) (owl Z o a b S' T') r 0 0 := by
  refine GWi.of (cc := cX1_pass) (nL := 4) (ret := (some .int)) (by decide +kernel) rfl (Nat.le_of_ble_eq_true rfl) ?_
  intro p e s m below meth c A hC hE hA hP hK hD hS ls hl
  obtain ⟨hx, hb, hr, hml, hown, hts, hlk, -⟩ := hC
  have hown : s.vm.findClass RX1 = some m.cls := hown
  have hNm := hE.2.2.2.1
  have hNf := hE.2.2.2.2.1
  have hin1 : ∀ w ∈ wsX10, w ∈ wsX1_pass := fun w h => List.mem_cons_of_mem _ (List.mem_append_left _ (List.mem_append_left _ (List.mem_append_right _ h)))
  have hin0 : ∀ w ∈ wsX00, w ∈ wsX1_pass := fun w h => List.mem_cons_of_mem _ (List.mem_append_left _ (List.mem_append_right _ h))
  have hl : lv_has ls 4 [(0, .ref o), (1, .int p1)] := hl
  have L15 : ∀ (n : Nat) (x1 : Int32) (x2 : Int32) (x3 : Int32) (S : RS) (T : RS) (H : Heap) (locs : List Loc), va_P D vwCl (owl Z o a b S T) H → va_D A (owl Z o a b S T) → va_S A s.heap H locs → ∀ ls : Array Slot, lv_has ls 4 [(0, .ref o), (1, .int x1), (2, .int x2), (3, .int x3)] → f_X1_pass_L15 n x1 x2 x3 S T = some (r, S', T') → W p l e rm_X1_pass s m ([.ref o, .int p1] : List Value).toArray below meth c H locs 0 0 (MQ below (zMi D A (owl Z o a b S' T') r) ([.ref o, .int p1] : List Value).toArray s 0 0 A) (F0 m 15 ls []) := by
    intro n
    induction n with
    | zero =>
      intro x1 x2 x3 S T H locs hP hD hS ls hl hf
      exact no_r hf
    | succ n ih =>
      intro x1 x2 x3 S T H locs hP hD hS ls hl hf
      rw [f_X1_pass_L15] at hf
      refine lv_iload_n hx hb dX1_pass_15 rfl (lv_at hl 3 rfl) ?_
      refine lv_iload_n hx hb dX1_pass_16 rfl (lv_at hl 1 rfl) ?_
      refine lv_icmp_ge (tgt := 33) hx hb dX1_pass_17 (by decide) (fun c4 => ?_) (fun c4 => ?_)
      · have hf := if_t hf c4
        refine lv_aload_n hx hb dX1_pass_33 rfl (lv_at hl 0 rfl) ?_
        refine va_get (D := D) (ci := 1) (v := .ref (a 0)) (C := RX1) (T := TX1) (N := 2) hx hb hts hin1 hown hK hP 0 rfl rfl 0 (by decide) (hts (.fieldLink RX1 10 "PodGuideway" "now" "LPodGuideway$Ring;") (List.mem_of_getElem? (i := 1) rfl)) (fun _ h9 => h9) rfl dX1_pass_34 ?_
        obtain ⟨v6, hv5, hf⟩ := ob_some hf
        refine zc_i (z_VN (As := []) (rest := []) (q0 := 0) (ci := 0) ⟨hx, hb, hml, hown, hts⟩ (m_X0_arrivedInAll l D Z a S v6 hv5) gX1_pass_X0_arrivedInAll_n118 rfl rfl rfl (hNm (118, yX0_arrivedInAll) (List.mem_of_getElem? (i := 16) rfl)) (hts (.initialized RX0) (List.mem_of_getElem? (i := 10) rfl)) (hts (.instanceMethod yX0_arrivedInAll) (List.mem_of_getElem? (i := 9) rfl)) (hts (.selects RX0 yX0_arrivedInAll yX0_arrivedInAll) (List.mem_of_getElem? (i := 11) rfl)) hdv_X0_arrivedInAll ⟨Nat.le_of_ble_eq_true rfl, Nat.le_of_ble_eq_true rfl⟩ hK (hP.sub (ws' := (rwl Z a S)) [1, 2, 3, 4, 5, 6, 7, 8, 9, 10, 11, 12] rfl) (hD.sub (ws' := (rwl Z a S)) [1, 2, 3, 4, 5, 6, 7, 8, 9, 10, 11, 12] (by decide) rfl) rfl rfl rfl rfl hl.1 rfl (Nat.le_of_ble_eq_true rfl) dX1_pass_37 ⟨Nat.le_of_ble_eq_true rfl, Nat.le_of_ble_eq_true rfl⟩) hP hS hA (fun H locs hP hS => ?_)
        refine lv_iload_n hx hb dX1_pass_40 rfl (lv_at hl 2 rfl) ?_
        refine lv_isub hx hb dX1_pass_41 ?_
        exact zw_i hx hb hr hlk hP hD hS (owl_eq (t3_2 hf) (t3_3 hf)) (t3_1 hf) (Nat.le_of_ble_eq_true rfl) (Nat.le_of_ble_eq_true rfl) dX1_pass_42
      · have hf := if_f hf c4
        refine lv_aload_n hx hb dX1_pass_20 rfl (lv_at hl 0 rfl) ?_
        refine va_get (D := D) (ci := 1) (v := .ref (a 0)) (C := RX1) (T := TX1) (N := 2) hx hb hts hin1 hown hK hP 0 rfl rfl 0 (by decide) (hts (.fieldLink RX1 10 "PodGuideway" "now" "LPodGuideway$Ring;") (List.mem_of_getElem? (i := 1) rfl)) (fun _ h9 => h9) rfl dX1_pass_21 ?_
        obtain ⟨S8, hv7, hf⟩ := ob_some hf
        refine zc_mv zI_now (z_VN (As := []) (rest := []) (q0 := 0) (ci := 0) ⟨hx, hb, hml, hown, hts⟩ (m_X0_passMinute l D Z a S S8 hv7) gX1_pass_X0_passMinute_n122 rfl rfl rfl (hNm (122, yX0_passMinute) (List.mem_of_getElem? (i := 17) rfl)) (hts (.initialized RX0) (List.mem_of_getElem? (i := 10) rfl)) (hts (.instanceMethod yX0_passMinute) (List.mem_of_getElem? (i := 18) rfl)) (hts (.selects RX0 yX0_passMinute yX0_passMinute) (List.mem_of_getElem? (i := 19) rfl)) hdv_X0_passMinute ⟨Nat.le_of_ble_eq_true rfl, Nat.le_of_ble_eq_true rfl⟩ hK (hP.sub (ws' := (rwl Z a S)) [1, 2, 3, 4, 5, 6, 7, 8, 9, 10, 11, 12] rfl) (hD.sub (ws' := (rwl Z a S)) [1, 2, 3, 4, 5, 6, 7, 8, 9, 10, 11, 12] (by decide) rfl) rfl rfl rfl rfl hl.1 rfl (Nat.le_of_ble_eq_true rfl) dX1_pass_24 ⟨Nat.le_of_ble_eq_true rfl, Nat.le_of_ble_eq_true rfl⟩) hP hD hS hA (fun H locs hP hD hS => ?_)
        refine lv_iinc (v := (x3 + 1)) (lv' := [(3, .int (x3 + 1)), (0, .ref o), (1, .int x1), (2, .int x2)]) hx hb dX1_pass_27 hl (k := 3) rfl rfl (by decide) rfl (fun ls hl => ?_)
        refine lv_goto (tgt := 15) hx hb dX1_pass_30 (by decide) ?_
        exact ih x1 x2 (x3 + 1) S8 T _ _ hP hD hS ls (lv_sub hl [1, 2, 3, 0] rfl) hf
  unfold f_X1_pass at hf
  refine lv_aload_n hx hb dX1_pass_0 rfl (lv_at hl 0 rfl) ?_
  refine lv_iload_n hx hb dX1_pass_1 rfl (lv_at hl 1 rfl) ?_
  obtain ⟨hv1, hf⟩ := obx_ok hf
  refine zc_v (z_VG (As := [.int p1]) (rest := []) (q0 := 0) (ci := 1) xE_ok hE hS hA ⟨hx, hb, hml, hown, hts⟩ (ok_X1_needMinutes l D Z o a b S T p1 hv1) gX1_pass_X1_needMinutes rfl rfl rfl hdv_X1_needMinutes ⟨Nat.le_of_ble_eq_true rfl, Nat.le_of_ble_eq_true rfl⟩ hK hP hD rfl rfl rfl rfl hl.1 rfl (Nat.le_of_ble_eq_true rfl) dX1_pass_2 ⟨Nat.le_of_ble_eq_true rfl, Nat.le_of_ble_eq_true rfl⟩) hP hS hA (fun H locs hP hS => ?_)
  have hf := okx_ok hf
  refine lv_aload_n hx hb dX1_pass_5 rfl (lv_at hl 0 rfl) ?_
  refine va_get (D := D) (ci := 1) (v := .ref (a 0)) (C := RX1) (T := TX1) (N := 2) hx hb hts hin1 hown hK hP 0 rfl rfl 0 (by decide) (hts (.fieldLink RX1 10 "PodGuideway" "now" "LPodGuideway$Ring;") (List.mem_of_getElem? (i := 1) rfl)) (fun _ h9 => h9) rfl dX1_pass_6 ?_
  obtain ⟨v3, hv2, hf⟩ := ob_some hf
  refine zc_i (z_VN (As := []) (rest := []) (q0 := 0) (ci := 0) ⟨hx, hb, hml, hown, hts⟩ (m_X0_arrivedInAll l D Z a S v3 hv2) gX1_pass_X0_arrivedInAll_n118 rfl rfl rfl (hNm (118, yX0_arrivedInAll) (List.mem_of_getElem? (i := 16) rfl)) (hts (.initialized RX0) (List.mem_of_getElem? (i := 10) rfl)) (hts (.instanceMethod yX0_arrivedInAll) (List.mem_of_getElem? (i := 9) rfl)) (hts (.selects RX0 yX0_arrivedInAll yX0_arrivedInAll) (List.mem_of_getElem? (i := 11) rfl)) hdv_X0_arrivedInAll ⟨Nat.le_of_ble_eq_true rfl, Nat.le_of_ble_eq_true rfl⟩ hK (hP.sub (ws' := (rwl Z a S)) [1, 2, 3, 4, 5, 6, 7, 8, 9, 10, 11, 12] rfl) (hD.sub (ws' := (rwl Z a S)) [1, 2, 3, 4, 5, 6, 7, 8, 9, 10, 11, 12] (by decide) rfl) rfl rfl rfl rfl hl.1 rfl (Nat.le_of_ble_eq_true rfl) dX1_pass_9 ⟨Nat.le_of_ble_eq_true rfl, Nat.le_of_ble_eq_true rfl⟩) hP hS hA (fun H locs hP hS => ?_)
  refine lv_istore_n (lv' := [(2, .int v3), (0, .ref o), (1, .int p1)]) hx hb dX1_pass_12 rfl hl (by decide) rfl (fun ls hl => ?_)
  refine lv_iconst (v := 0) hx hb dX1_pass_13 (by decide) ?_
  refine lv_istore_n (lv' := [(3, .int 0), (2, .int v3), (0, .ref o), (1, .int p1)]) hx hb dX1_pass_14 rfl hl (by decide) rfl (fun ls hl => ?_)
  exact L15 FU p1 v3 0 S T _ _ hP hD hS ls (lv_sub hl [2, 3, 1, 0] rfl) hf

def f_X1_when_L34   : Nat → Int32 → Int32 → Int32 → RS → RS → Option (Int32 × RS × RS)
  | 0, _, _, _, _, _ => none
  | n + 1, x1, x2, x3, S, T =>
    if 200 < x3 then
      some ((-1), S, T)
    else
      ob (f_X0_passMinute T) fun T9 =>
      ob (f_X0_goalOf T9 x1) fun v11 =>
      if v11 = x2 then
        f_X1_when_L34 n x1 x2 (x3 + 1) S T9
      else
        some (x3, S, T9)
def f_X1_when (S T : RS) (p1 : Int32) : Option (Except String (Int32 × RS × RS)) :=
  obx (f_X1_needPod S T p1) (
  okx (
    ob (f_X0_goalOf S p1) fun v3 =>
    if v3 = (-1) then
      some ((-1), S, T)
    else
      ob (f_X0_copyFrom T S) fun T6 =>
      f_X1_when_L34 FU p1 v3 1 S T6))
abbrev rm_X1_when : Room := { frames := 7, cells := 0, slots := 0, locals := 135 }
abbrev rm_X1_when_er : Room := { frames := 7, cells := 1, slots := 6, locals := 135 }
theorem hdv_X1_when : yX1_when.cls = RX1 ∧ yX1_when.cls ≠ "java/lang/invoke/MethodHandle" ∧ yX1_when.cls ≠ "java/lang/invoke/VarHandle" ∧ (parseMethodDescriptor yX1_when.desc).map (fun d => d.parameters.length) = some 1 := by decide +kernel
set_option maxHeartbeats 4000000 in
set_option maxRecDepth 100000 in
theorem ok_X1_when (l : Launch) (D : va_G) (Z : Nat → ClassId) (o : Nat) (a b : Nat → Nat) (S T : RS) (p1 : Int32) (r : Int32) (S' T' : RS) (hf : f_X1_when S T p1 = some (.ok (r, S', T'))) : GWi l yX1_when wsX1_when rm_X1_when D Z xE [.ref o, .int p1] (owl Z o a b S T) (owl Z o a b S' T') r 0 0 := by
  refine GWi.of (cc := cX1_when) (nL := 4) (ret := (some .int)) (by decide +kernel) rfl (Nat.le_of_ble_eq_true rfl) ?_
  intro p e s m below meth c A hC hE hA hP hK hD hS ls hl
  obtain ⟨hx, hb, hr, hml, hown, hts, hlk, -⟩ := hC
  have hown : s.vm.findClass RX1 = some m.cls := hown
  have hNm := hE.2.2.2.1
  have hNf := hE.2.2.2.2.1
  have hin1 : ∀ w ∈ wsX10, w ∈ wsX1_when := fun w h => List.mem_cons_of_mem _ (List.mem_append_left _ (List.mem_append_left _ (List.mem_append_right _ h)))
  have hin0 : ∀ w ∈ wsX00, w ∈ wsX1_when := fun w h => List.mem_cons_of_mem _ (List.mem_append_left _ (List.mem_append_right _ h))
  have hl : lv_has ls 4 [(0, .ref o), (1, .int p1)] := hl
  have L34 : ∀ (n : Nat) (x1 : Int32) (x2 : Int32) (x3 : Int32) (S : RS) (T : RS) (H : Heap) (locs : List Loc), va_P D vwCl (owl Z o a b S T) H → va_D A (owl Z o a b S T) → va_S A s.heap H locs → ∀ ls : Array Slot, lv_has ls 4 [(0, .ref o), (1, .int x1), (2, .int x2), (3, .int x3)] → f_X1_when_L34 n x1 x2 x3 S T = some (r, S', T') → W p l e rm_X1_when s m ([.ref o, .int p1] : List Value).toArray below meth c H locs 0 0 (MQ below (zMi D A (owl Z o a b S' T') r) ([.ref o, .int p1] : List Value).toArray s 0 0 A) (F0 m 34 ls []) := by
    intro n
    induction n with
    | zero =>
      intro x1 x2 x3 S T H locs hP hD hS ls hl hf
      exact no_r hf
    | succ n ih =>
      intro x1 x2 x3 S T H locs hP hD hS ls hl hf
      rw [f_X1_when_L34] at hf
      refine lv_iload_n hx hb dX1_when_34 rfl (lv_at hl 3 rfl) ?_
      refine lv_sipush (v := 200) hx hb dX1_when_35 (by decide) ?_
      refine lv_icmp_gt (tgt := 68) hx hb dX1_when_38 (by decide) (fun c7 => ?_) (fun c7 => ?_)
      · have hf := if_t hf c7
        refine lv_iconst (v := (-1)) hx hb dX1_when_68 (by decide) ?_
        exact zw_i hx hb hr hlk hP hD hS (owl_eq (t3_2 hf) (t3_3 hf)) (t3_1 hf) (Nat.le_of_ble_eq_true rfl) (Nat.le_of_ble_eq_true rfl) dX1_when_69
      · have hf := if_f hf c7
        refine lv_aload_n hx hb dX1_when_41 rfl (lv_at hl 0 rfl) ?_
        refine va_get (D := D) (ci := 1) (v := .ref (b 0)) (C := RX1) (T := TX1) (N := 2) hx hb hts hin1 hown hK hP 0 rfl rfl 1 (by decide) (hts (.fieldLink RX1 16 "PodGuideway" "ahead" "LPodGuideway$Ring;") (List.mem_of_getElem? (i := 2) rfl)) (fun _ h9 => h9) rfl dX1_when_42 ?_
        obtain ⟨T9, hv8, hf⟩ := ob_some hf
        refine zc_mv zI_ahead (z_VN (As := []) (rest := []) (q0 := 0) (ci := 0) ⟨hx, hb, hml, hown, hts⟩ (m_X0_passMinute l D Z b T T9 hv8) gX1_when_X0_passMinute_n122 rfl rfl rfl (hNm (122, yX0_passMinute) (List.mem_of_getElem? (i := 17) rfl)) (hts (.initialized RX0) (List.mem_of_getElem? (i := 11) rfl)) (hts (.instanceMethod yX0_passMinute) (List.mem_of_getElem? (i := 48) rfl)) (hts (.selects RX0 yX0_passMinute yX0_passMinute) (List.mem_of_getElem? (i := 49) rfl)) hdv_X0_passMinute ⟨Nat.le_of_ble_eq_true rfl, Nat.le_of_ble_eq_true rfl⟩ hK (hP.sub (ws' := (rwl Z b T)) [13, 14, 15, 16, 17, 18, 19, 20, 21, 22, 23, 24] rfl) (hD.sub (ws' := (rwl Z b T)) [13, 14, 15, 16, 17, 18, 19, 20, 21, 22, 23, 24] (by decide) rfl) rfl rfl rfl rfl hl.1 rfl (Nat.le_of_ble_eq_true rfl) dX1_when_45 ⟨Nat.le_of_ble_eq_true rfl, Nat.le_of_ble_eq_true rfl⟩) hP hD hS hA (fun H locs hP hD hS => ?_)
        refine lv_aload_n hx hb dX1_when_48 rfl (lv_at hl 0 rfl) ?_
        refine va_get (D := D) (ci := 1) (v := .ref (b 0)) (C := RX1) (T := TX1) (N := 2) hx hb hts hin1 hown hK hP 0 rfl rfl 1 (by decide) (hts (.fieldLink RX1 16 "PodGuideway" "ahead" "LPodGuideway$Ring;") (List.mem_of_getElem? (i := 2) rfl)) (fun _ h9 => h9) rfl dX1_when_49 ?_
        refine lv_iload_n hx hb dX1_when_52 rfl (lv_at hl 1 rfl) ?_
        obtain ⟨v11, hv10, hf⟩ := ob_some hf
        refine zc_i (z_VN (As := [.int x1]) (rest := []) (q0 := 0) (ci := 0) ⟨hx, hb, hml, hown, hts⟩ (m_X0_goalOf l D Z b T9 x1 v11 hv10) gX1_when_X0_goalOf_n78 rfl rfl rfl (hNm (78, yX0_goalOf) (List.mem_of_getElem? (i := 8) rfl)) (hts (.initialized RX0) (List.mem_of_getElem? (i := 11) rfl)) (hts (.instanceMethod yX0_goalOf) (List.mem_of_getElem? (i := 10) rfl)) (hts (.selects RX0 yX0_goalOf yX0_goalOf) (List.mem_of_getElem? (i := 12) rfl)) hdv_X0_goalOf ⟨Nat.le_of_ble_eq_true rfl, Nat.le_of_ble_eq_true rfl⟩ hK (hP.sub (ws' := (rwl Z b T9)) [13, 14, 15, 16, 17, 18, 19, 20, 21, 22, 23, 24] rfl) (hD.sub (ws' := (rwl Z b T9)) [13, 14, 15, 16, 17, 18, 19, 20, 21, 22, 23, 24] (by decide) rfl) rfl rfl rfl rfl hl.1 rfl (Nat.le_of_ble_eq_true rfl) dX1_when_53 ⟨Nat.le_of_ble_eq_true rfl, Nat.le_of_ble_eq_true rfl⟩) hP hS hA (fun H locs hP hS => ?_)
        refine lv_iload_n hx hb dX1_when_56 rfl (lv_at hl 2 rfl) ?_
        refine lv_icmp_eq (tgt := 62) hx hb dX1_when_57 (by decide) (fun c12 => ?_) (fun c12 => ?_)
        · have hf := if_t hf c12
          refine lv_iinc (v := (x3 + 1)) (lv' := [(3, .int (x3 + 1)), (0, .ref o), (1, .int x1), (2, .int x2)]) hx hb dX1_when_62 hl (k := 3) rfl rfl (by decide) rfl (fun ls hl => ?_)
          refine lv_goto (tgt := 34) hx hb dX1_when_65 (by decide) ?_
          exact ih x1 x2 (x3 + 1) S T9 _ _ hP hD hS ls (lv_sub hl [1, 2, 3, 0] rfl) hf
        · have hf := if_f hf c12
          refine lv_iload_n hx hb dX1_when_60 rfl (lv_at hl 3 rfl) ?_
          exact zw_i hx hb hr hlk hP hD hS (owl_eq (t3_2 hf) (t3_3 hf)) (t3_1 hf) (Nat.le_of_ble_eq_true rfl) (Nat.le_of_ble_eq_true rfl) dX1_when_61
  unfold f_X1_when at hf
  refine lv_aload_n hx hb dX1_when_0 rfl (lv_at hl 0 rfl) ?_
  refine lv_iload_n hx hb dX1_when_1 rfl (lv_at hl 1 rfl) ?_
  obtain ⟨hv1, hf⟩ := obx_ok hf
  refine zc_v (z_VG (As := [.int p1]) (rest := []) (q0 := 0) (ci := 1) xE_ok hE hS hA ⟨hx, hb, hml, hown, hts⟩ (ok_X1_needPod l D Z o a b S T p1 hv1) gX1_when_X1_needPod rfl rfl rfl hdv_X1_needPod ⟨Nat.le_of_ble_eq_true rfl, Nat.le_of_ble_eq_true rfl⟩ hK hP hD rfl rfl rfl rfl hl.1 rfl (Nat.le_of_ble_eq_true rfl) dX1_when_2 ⟨Nat.le_of_ble_eq_true rfl, Nat.le_of_ble_eq_true rfl⟩) hP hS hA (fun H locs hP hS => ?_)
  have hf := okx_ok hf
  refine lv_aload_n hx hb dX1_when_5 rfl (lv_at hl 0 rfl) ?_
  refine va_get (D := D) (ci := 1) (v := .ref (a 0)) (C := RX1) (T := TX1) (N := 2) hx hb hts hin1 hown hK hP 0 rfl rfl 0 (by decide) (hts (.fieldLink RX1 10 "PodGuideway" "now" "LPodGuideway$Ring;") (List.mem_of_getElem? (i := 1) rfl)) (fun _ h9 => h9) rfl dX1_when_6 ?_
  refine lv_iload_n hx hb dX1_when_9 rfl (lv_at hl 1 rfl) ?_
  obtain ⟨v3, hv2, hf⟩ := ob_some hf
  refine zc_i (z_VN (As := [.int p1]) (rest := []) (q0 := 0) (ci := 0) ⟨hx, hb, hml, hown, hts⟩ (m_X0_goalOf l D Z a S p1 v3 hv2) gX1_when_X0_goalOf_n78 rfl rfl rfl (hNm (78, yX0_goalOf) (List.mem_of_getElem? (i := 8) rfl)) (hts (.initialized RX0) (List.mem_of_getElem? (i := 11) rfl)) (hts (.instanceMethod yX0_goalOf) (List.mem_of_getElem? (i := 10) rfl)) (hts (.selects RX0 yX0_goalOf yX0_goalOf) (List.mem_of_getElem? (i := 12) rfl)) hdv_X0_goalOf ⟨Nat.le_of_ble_eq_true rfl, Nat.le_of_ble_eq_true rfl⟩ hK (hP.sub (ws' := (rwl Z a S)) [1, 2, 3, 4, 5, 6, 7, 8, 9, 10, 11, 12] rfl) (hD.sub (ws' := (rwl Z a S)) [1, 2, 3, 4, 5, 6, 7, 8, 9, 10, 11, 12] (by decide) rfl) rfl rfl rfl rfl hl.1 rfl (Nat.le_of_ble_eq_true rfl) dX1_when_10 ⟨Nat.le_of_ble_eq_true rfl, Nat.le_of_ble_eq_true rfl⟩) hP hS hA (fun H locs hP hS => ?_)
  refine lv_istore_n (lv' := [(2, .int v3), (0, .ref o), (1, .int p1)]) hx hb dX1_when_13 rfl hl (by decide) rfl (fun ls hl => ?_)
  refine lv_iload_n hx hb dX1_when_14 rfl (lv_at hl 0 rfl) ?_
  refine lv_iconst (v := (-1)) hx hb dX1_when_15 (by decide) ?_
  refine lv_icmp_ne (tgt := 21) hx hb dX1_when_16 (by decide) (fun c4 => ?_) (fun c4 => ?_)
  · have hf := if_f hf c4
    refine lv_aload_n hx hb dX1_when_21 rfl (lv_at hl 1 rfl) ?_
    refine va_get (D := D) (ci := 1) (v := .ref (b 0)) (C := RX1) (T := TX1) (N := 2) hx hb hts hin1 hown hK hP 0 rfl rfl 1 (by decide) (hts (.fieldLink RX1 16 "PodGuideway" "ahead" "LPodGuideway$Ring;") (List.mem_of_getElem? (i := 2) rfl)) (fun _ h9 => h9) rfl dX1_when_22 ?_
    refine lv_aload_n hx hb dX1_when_25 rfl (lv_at hl 1 rfl) ?_
    refine va_get (D := D) (ci := 1) (v := .ref (a 0)) (C := RX1) (T := TX1) (N := 2) hx hb hts hin1 hown hK hP 0 rfl rfl 0 (by decide) (hts (.fieldLink RX1 10 "PodGuideway" "now" "LPodGuideway$Ring;") (List.mem_of_getElem? (i := 1) rfl)) (fun _ h9 => h9) rfl dX1_when_26 ?_
    obtain ⟨T6, hv5, hf⟩ := ob_some hf
    refine zc_mv zI_copy (z_VN (As := [.ref (a 0)]) (rest := []) (q0 := 0) (ci := 0) ⟨hx, hb, hml, hown, hts⟩ (m_X0_copyFrom l D Z b a T S T6 hv5) gX1_when_X0_copyFrom_n125 rfl rfl rfl (hNm (125, yX0_copyFrom) (List.mem_of_getElem? (i := 18) rfl)) (hts (.initialized RX0) (List.mem_of_getElem? (i := 11) rfl)) (hts (.instanceMethod yX0_copyFrom) (List.mem_of_getElem? (i := 18) rfl)) (hts (.selects RX0 yX0_copyFrom yX0_copyFrom) (List.mem_of_getElem? (i := 19) rfl)) hdv_X0_copyFrom ⟨Nat.le_of_ble_eq_true rfl, Nat.le_of_ble_eq_true rfl⟩ hK (hP.sub (ws' := (rwl Z b T ++ rwl Z a S)) [13, 14, 15, 16, 17, 18, 19, 20, 21, 22, 23, 24, 1, 2, 3, 4, 5, 6, 7, 8, 9, 10, 11, 12] rfl) (hD.sub (ws' := (rwl Z b T ++ rwl Z a S)) [13, 14, 15, 16, 17, 18, 19, 20, 21, 22, 23, 24, 1, 2, 3, 4, 5, 6, 7, 8, 9, 10, 11, 12] (by decide) rfl) rfl rfl rfl rfl hl.1 rfl (Nat.le_of_ble_eq_true rfl) dX1_when_29 ⟨Nat.le_of_ble_eq_true rfl, Nat.le_of_ble_eq_true rfl⟩) hP hD hS hA (fun H locs hP hD hS => ?_)
    refine lv_iconst (v := 1) hx hb dX1_when_32 (by decide) ?_
    refine lv_istore_n (lv' := [(3, .int 1), (2, .int v3), (0, .ref o), (1, .int p1)]) hx hb dX1_when_33 rfl hl (by decide) rfl (fun ls hl => ?_)
    exact L34 FU p1 v3 1 S T6 _ _ hP hD hS ls (lv_sub hl [2, 3, 1, 0] rfl) hf
  · have hf := if_t hf c4
    refine lv_iconst (v := (-1)) hx hb dX1_when_19 (by decide) ?_
    exact zw_i hx hb hr hlk hP hD hS (owl_eq (t3_2 hf) (t3_3 hf)) (t3_1 hf) (Nat.le_of_ble_eq_true rfl) (Nat.le_of_ble_eq_true rfl) dX1_when_20

def f_X1_answers (S T : RS) (p1 : Int32) : Option (Except String (Int32)) :=
  obx (f_X1_needStation S T p1) (
  okx (
    ob (f_X0_stationThatAnswers S p1) fun v3 =>
    some v3))
abbrev rm_X1_answers : Room := { frames := 7, cells := 0, slots := 0, locals := 111 }
abbrev rm_X1_answers_er : Room := { frames := 7, cells := 1, slots := 6, locals := 111 }
theorem hdv_X1_answers : yX1_answers.cls = RX1 ∧ yX1_answers.cls ≠ "java/lang/invoke/MethodHandle" ∧ yX1_answers.cls ≠ "java/lang/invoke/VarHandle" ∧ (parseMethodDescriptor yX1_answers.desc).map (fun d => d.parameters.length) = some 1 := by decide +kernel
set_option maxHeartbeats 4000000 in
set_option maxRecDepth 100000 in
theorem ok_X1_answers (l : Launch) (D : va_G) (Z : Nat → ClassId) (o : Nat) (a b : Nat → Nat) (S T : RS) (p1 : Int32) (r : Int32) (hf : f_X1_answers S T p1 = some (.ok r)) : GOi l yX1_answers wsX1_answers rm_X1_answers D Z xE [.ref o, .int p1] (owl Z o a b S T) r := by
  refine GOi.of (cc := cX1_answers) (nL := 2) (ret := (some .int)) (by decide +kernel) rfl (Nat.le_of_ble_eq_true rfl) ?_
  intro p e s m below meth c A0 hC hE hA0 hA hP hK hD hS ls hl
  obtain ⟨hx, hb, hr, hml, hown, hts, hlk, -⟩ := hC
  have hown : s.vm.findClass RX1 = some m.cls := hown
  have hNm := hE.2.2.2.1
  have hNf := hE.2.2.2.2.1
  have hin1 : ∀ w ∈ wsX10, w ∈ wsX1_answers := fun w h => List.mem_cons_of_mem _ (List.mem_append_left _ (List.mem_append_left _ (List.mem_append_right _ h)))
  have hin0 : ∀ w ∈ wsX00, w ∈ wsX1_answers := fun w h => List.mem_cons_of_mem _ (List.mem_append_left _ (List.mem_append_right _ h))
  have hl : lv_has ls 2 [(0, .ref o), (1, .int p1)] := hl
  unfold f_X1_answers at hf
  refine lv_aload_n hx hb dX1_answers_0 rfl (lv_at hl 0 rfl) ?_
  refine lv_iload_n hx hb dX1_answers_1 rfl (lv_at hl 1 rfl) ?_
  obtain ⟨hv1, hf⟩ := obx_ok hf
  refine zc_v (z_VG (As := [.int p1]) (rest := []) (q0 := 0) (ci := 1) xE_ok hE (hS.up hA0) hA0 ⟨hx, hb, hml, hown, hts⟩ (ok_X1_needStation l D Z o a b S T p1 hv1) gX1_answers_X1_needStation rfl rfl rfl hdv_X1_needStation ⟨Nat.le_of_ble_eq_true rfl, Nat.le_of_ble_eq_true rfl⟩ hK hP hD rfl rfl rfl rfl hl.1 rfl (Nat.le_of_ble_eq_true rfl) dX1_answers_2 ⟨Nat.le_of_ble_eq_true rfl, Nat.le_of_ble_eq_true rfl⟩) hP hS hA (fun H locs hP hS => ?_)
  have hf := okx_ok hf
  refine lv_aload_n hx hb dX1_answers_5 rfl (lv_at hl 0 rfl) ?_
  refine va_get (D := D) (ci := 1) (v := .ref (a 0)) (C := RX1) (T := TX1) (N := 2) hx hb hts hin1 hown hK hP 0 rfl rfl 0 (by decide) (hts (.fieldLink RX1 10 "PodGuideway" "now" "LPodGuideway$Ring;") (List.mem_of_getElem? (i := 1) rfl)) (fun _ h9 => h9) rfl dX1_answers_6 ?_
  refine lv_iload_n hx hb dX1_answers_9 rfl (lv_at hl 1 rfl) ?_
  obtain ⟨v3, hv2, hf⟩ := ob_some hf
  refine zc_i (z_VN (As := [.int p1]) (rest := []) (q0 := 0) (ci := 0) ⟨hx, hb, hml, hown, hts⟩ (m_X0_stationThatAnswers l D Z a S p1 v3 hv2) gX1_answers_X0_stationThatAnswers_n133 rfl rfl rfl (hNm (133, yX0_stationThatAnswers) (List.mem_of_getElem? (i := 19) rfl)) (hts (.initialized RX0) (List.mem_of_getElem? (i := 10) rfl)) (hts (.instanceMethod yX0_stationThatAnswers) (List.mem_of_getElem? (i := 9) rfl)) (hts (.selects RX0 yX0_stationThatAnswers yX0_stationThatAnswers) (List.mem_of_getElem? (i := 11) rfl)) hdv_X0_stationThatAnswers ⟨Nat.le_of_ble_eq_true rfl, Nat.le_of_ble_eq_true rfl⟩ hK (hP.sub (ws' := (rwl Z a S)) [1, 2, 3, 4, 5, 6, 7, 8, 9, 10, 11, 12] rfl) (hD.sub (ws' := (rwl Z a S)) [1, 2, 3, 4, 5, 6, 7, 8, 9, 10, 11, 12] (by decide) rfl) rfl rfl rfl rfl hl.1 rfl (Nat.le_of_ble_eq_true rfl) dX1_answers_10 ⟨Nat.le_of_ble_eq_true rfl, Nat.le_of_ble_eq_true rfl⟩) hP hS hA (fun H locs hP hS => ?_)
  exact zr_i hx hb hr hlk hS (Option.some.inj hf) dX1_answers_13

def f_X1_foresee_L26   : Nat → Int32 → Int32 → Int32 → RS → RS → Option (Int32 × RS × RS)
  | 0, _, _, _, _, _ => none
  | n + 1, x1, x2, x3, S, T =>
    if x1 ≤ x3 then
      ob (f_X0_tellCount T x2) fun v7 =>
      some (v7, S, T)
    else
      ob (f_X0_passMinute T) fun T9 =>
      f_X1_foresee_L26 n x1 x2 (x3 + 1) S T9
def f_X1_foresee (S T : RS) (p1 : Int32) (p2 : Int32) : Option (Except String (Int32 × RS × RS)) :=
  obx (f_X1_needMinutes S T p1) (
  obx (f_X1_needWhat S T p2 3 7) (
  okx (
    ob (f_X0_copyFrom T S) fun T4 =>
    f_X1_foresee_L26 FU p1 p2 0 S T4)))
abbrev rm_X1_foresee : Room := { frames := 7, cells := 0, slots := 0, locals := 135 }
abbrev rm_X1_foresee_er : Room := { frames := 7, cells := 1, slots := 6, locals := 135 }
theorem hdv_X1_foresee : yX1_foresee.cls = RX1 ∧ yX1_foresee.cls ≠ "java/lang/invoke/MethodHandle" ∧ yX1_foresee.cls ≠ "java/lang/invoke/VarHandle" ∧ (parseMethodDescriptor yX1_foresee.desc).map (fun d => d.parameters.length) = some 2 := by decide +kernel
set_option maxHeartbeats 4000000 in
set_option maxRecDepth 100000 in
theorem ok_X1_foresee (l : Launch) (D : va_G) (Z : Nat → ClassId) (o : Nat) (a b : Nat → Nat) (S T : RS) (p1 : Int32) (p2 : Int32) (r : Int32) (S' T' : RS) (hf : f_X1_foresee S T p1 p2 = some (.ok (r, S', T'))) : GWi l yX1_foresee wsX1_foresee rm_X1_foresee D Z xE [.ref o, .int p1, .int p2] (owl Z o a b S T) (owl Z o a b S' T') r 0 0 := by
  refine GWi.of (cc := cX1_foresee) (nL := 4) (ret := (some .int)) (by decide +kernel) rfl (Nat.le_of_ble_eq_true rfl) ?_
  intro p e s m below meth c A hC hE hA hP hK hD hS ls hl
  obtain ⟨hx, hb, hr, hml, hown, hts, hlk, -⟩ := hC
  have hown : s.vm.findClass RX1 = some m.cls := hown
  have hNm := hE.2.2.2.1
  have hNf := hE.2.2.2.2.1
  have hin1 : ∀ w ∈ wsX10, w ∈ wsX1_foresee := fun w h => List.mem_cons_of_mem _ (List.mem_append_left _ (List.mem_append_left _ (List.mem_append_left _ (List.mem_append_right _ h))))
  have hin0 : ∀ w ∈ wsX00, w ∈ wsX1_foresee := fun w h => List.mem_cons_of_mem _ (List.mem_append_left _ (List.mem_append_left _ (List.mem_append_right _ h)))
  have hl : lv_has ls 4 [(0, .ref o), (1, .int p1), (2, .int p2)] := hl
  have L26 : ∀ (n : Nat) (x1 : Int32) (x2 : Int32) (x3 : Int32) (S : RS) (T : RS) (H : Heap) (locs : List Loc), va_P D vwCl (owl Z o a b S T) H → va_D A (owl Z o a b S T) → va_S A s.heap H locs → ∀ ls : Array Slot, lv_has ls 4 [(0, .ref o), (1, .int x1), (2, .int x2), (3, .int x3)] → f_X1_foresee_L26 n x1 x2 x3 S T = some (r, S', T') → W p l e rm_X1_foresee s m ([.ref o, .int p1, .int p2] : List Value).toArray below meth c H locs 0 0 (MQ below (zMi D A (owl Z o a b S' T') r) ([.ref o, .int p1, .int p2] : List Value).toArray s 0 0 A) (F0 m 26 ls []) := by
    intro n
    induction n with
    | zero =>
      intro x1 x2 x3 S T H locs hP hD hS ls hl hf
      exact no_r hf
    | succ n ih =>
      intro x1 x2 x3 S T H locs hP hD hS ls hl hf
      rw [f_X1_foresee_L26] at hf
      refine lv_iload_n hx hb dX1_foresee_26 rfl (lv_at hl 3 rfl) ?_
      refine lv_iload_n hx hb dX1_foresee_27 rfl (lv_at hl 1 rfl) ?_
      refine lv_icmp_ge (tgt := 44) hx hb dX1_foresee_28 (by decide) (fun c5 => ?_) (fun c5 => ?_)
      · have hf := if_t hf c5
        refine lv_aload_n hx hb dX1_foresee_44 rfl (lv_at hl 0 rfl) ?_
        refine va_get (D := D) (ci := 1) (v := .ref (b 0)) (C := RX1) (T := TX1) (N := 2) hx hb hts hin1 hown hK hP 0 rfl rfl 1 (by decide) (hts (.fieldLink RX1 16 "PodGuideway" "ahead" "LPodGuideway$Ring;") (List.mem_of_getElem? (i := 1) rfl)) (fun _ h9 => h9) rfl dX1_foresee_45 ?_
        refine lv_iload_n hx hb dX1_foresee_48 rfl (lv_at hl 2 rfl) ?_
        obtain ⟨v7, hv6, hf⟩ := ob_some hf
        refine zc_i (z_VN (As := [.int x2]) (rest := []) (q0 := 0) (ci := 0) ⟨hx, hb, hml, hown, hts⟩ (m_X0_tellCount l D Z b T x2 v7 hv6) gX1_foresee_X0_tellCount_n112 rfl rfl rfl (hNm (112, yX0_tellCount) (List.mem_of_getElem? (i := 15) rfl)) (hts (.initialized RX0) (List.mem_of_getElem? (i := 17) rfl)) (hts (.instanceMethod yX0_tellCount) (List.mem_of_getElem? (i := 132) rfl)) (hts (.selects RX0 yX0_tellCount yX0_tellCount) (List.mem_of_getElem? (i := 133) rfl)) hdv_X0_tellCount ⟨Nat.le_of_ble_eq_true rfl, Nat.le_of_ble_eq_true rfl⟩ hK (hP.sub (ws' := (rwl Z b T)) [13, 14, 15, 16, 17, 18, 19, 20, 21, 22, 23, 24] rfl) (hD.sub (ws' := (rwl Z b T)) [13, 14, 15, 16, 17, 18, 19, 20, 21, 22, 23, 24] (by decide) rfl) rfl rfl rfl rfl hl.1 rfl (Nat.le_of_ble_eq_true rfl) dX1_foresee_49 ⟨Nat.le_of_ble_eq_true rfl, Nat.le_of_ble_eq_true rfl⟩) hP hS hA (fun H locs hP hS => ?_)
        exact zw_i hx hb hr hlk hP hD hS (owl_eq (t3_2 hf) (t3_3 hf)) (t3_1 hf) (Nat.le_of_ble_eq_true rfl) (Nat.le_of_ble_eq_true rfl) dX1_foresee_52
      · have hf := if_f hf c5
        refine lv_aload_n hx hb dX1_foresee_31 rfl (lv_at hl 0 rfl) ?_
        refine va_get (D := D) (ci := 1) (v := .ref (b 0)) (C := RX1) (T := TX1) (N := 2) hx hb hts hin1 hown hK hP 0 rfl rfl 1 (by decide) (hts (.fieldLink RX1 16 "PodGuideway" "ahead" "LPodGuideway$Ring;") (List.mem_of_getElem? (i := 1) rfl)) (fun _ h9 => h9) rfl dX1_foresee_32 ?_
        obtain ⟨T9, hv8, hf⟩ := ob_some hf
        refine zc_mv zI_ahead (z_VN (As := []) (rest := []) (q0 := 0) (ci := 0) ⟨hx, hb, hml, hown, hts⟩ (m_X0_passMinute l D Z b T T9 hv8) gX1_foresee_X0_passMinute_n122 rfl rfl rfl (hNm (122, yX0_passMinute) (List.mem_of_getElem? (i := 17) rfl)) (hts (.initialized RX0) (List.mem_of_getElem? (i := 17) rfl)) (hts (.instanceMethod yX0_passMinute) (List.mem_of_getElem? (i := 48) rfl)) (hts (.selects RX0 yX0_passMinute yX0_passMinute) (List.mem_of_getElem? (i := 49) rfl)) hdv_X0_passMinute ⟨Nat.le_of_ble_eq_true rfl, Nat.le_of_ble_eq_true rfl⟩ hK (hP.sub (ws' := (rwl Z b T)) [13, 14, 15, 16, 17, 18, 19, 20, 21, 22, 23, 24] rfl) (hD.sub (ws' := (rwl Z b T)) [13, 14, 15, 16, 17, 18, 19, 20, 21, 22, 23, 24] (by decide) rfl) rfl rfl rfl rfl hl.1 rfl (Nat.le_of_ble_eq_true rfl) dX1_foresee_35 ⟨Nat.le_of_ble_eq_true rfl, Nat.le_of_ble_eq_true rfl⟩) hP hD hS hA (fun H locs hP hD hS => ?_)
        refine lv_iinc (v := (x3 + 1)) (lv' := [(3, .int (x3 + 1)), (0, .ref o), (1, .int x1), (2, .int x2)]) hx hb dX1_foresee_38 hl (k := 3) rfl rfl (by decide) rfl (fun ls hl => ?_)
        refine lv_goto (tgt := 26) hx hb dX1_foresee_41 (by decide) ?_
        exact ih x1 x2 (x3 + 1) S T9 _ _ hP hD hS ls (lv_sub hl [1, 2, 3, 0] rfl) hf
  unfold f_X1_foresee at hf
  refine lv_aload_n hx hb dX1_foresee_0 rfl (lv_at hl 0 rfl) ?_
  refine lv_iload_n hx hb dX1_foresee_1 rfl (lv_at hl 1 rfl) ?_
  obtain ⟨hv1, hf⟩ := obx_ok hf
  refine zc_v (z_VG (As := [.int p1]) (rest := []) (q0 := 0) (ci := 1) xE_ok hE hS hA ⟨hx, hb, hml, hown, hts⟩ (ok_X1_needMinutes l D Z o a b S T p1 hv1) gX1_foresee_X1_needMinutes rfl rfl rfl hdv_X1_needMinutes ⟨Nat.le_of_ble_eq_true rfl, Nat.le_of_ble_eq_true rfl⟩ hK hP hD rfl rfl rfl rfl hl.1 rfl (Nat.le_of_ble_eq_true rfl) dX1_foresee_2 ⟨Nat.le_of_ble_eq_true rfl, Nat.le_of_ble_eq_true rfl⟩) hP hS hA (fun H locs hP hS => ?_)
  refine lv_aload_n hx hb dX1_foresee_5 rfl (lv_at hl 0 rfl) ?_
  refine lv_iload_n hx hb dX1_foresee_6 rfl (lv_at hl 2 rfl) ?_
  refine lv_iconst (v := 3) hx hb dX1_foresee_7 (by decide) ?_
  refine lv_bipush (v := 7) hx hb dX1_foresee_8 (by decide) ?_
  obtain ⟨hv2, hf⟩ := obx_ok hf
  refine zc_v (z_VG (As := [.int p2, .int 3, .int 7]) (rest := []) (q0 := 0) (ci := 1) xE_ok hE hS hA ⟨hx, hb, hml, hown, hts⟩ (ok_X1_needWhat l D Z o a b S T p2 3 7 hv2) gX1_foresee_X1_needWhat rfl rfl rfl hdv_X1_needWhat ⟨Nat.le_of_ble_eq_true rfl, Nat.le_of_ble_eq_true rfl⟩ hK hP hD rfl rfl rfl rfl hl.1 rfl (Nat.le_of_ble_eq_true rfl) dX1_foresee_10 ⟨Nat.le_of_ble_eq_true rfl, Nat.le_of_ble_eq_true rfl⟩) hP hS hA (fun H locs hP hS => ?_)
  have hf := okx_ok hf
  refine lv_aload_n hx hb dX1_foresee_13 rfl (lv_at hl 0 rfl) ?_
  refine va_get (D := D) (ci := 1) (v := .ref (b 0)) (C := RX1) (T := TX1) (N := 2) hx hb hts hin1 hown hK hP 0 rfl rfl 1 (by decide) (hts (.fieldLink RX1 16 "PodGuideway" "ahead" "LPodGuideway$Ring;") (List.mem_of_getElem? (i := 1) rfl)) (fun _ h9 => h9) rfl dX1_foresee_14 ?_
  refine lv_aload_n hx hb dX1_foresee_17 rfl (lv_at hl 0 rfl) ?_
  refine va_get (D := D) (ci := 1) (v := .ref (a 0)) (C := RX1) (T := TX1) (N := 2) hx hb hts hin1 hown hK hP 0 rfl rfl 0 (by decide) (hts (.fieldLink RX1 10 "PodGuideway" "now" "LPodGuideway$Ring;") (List.mem_of_getElem? (i := 2) rfl)) (fun _ h9 => h9) rfl dX1_foresee_18 ?_
  obtain ⟨T4, hv3, hf⟩ := ob_some hf
  refine zc_mv zI_copy (z_VN (As := [.ref (a 0)]) (rest := []) (q0 := 0) (ci := 0) ⟨hx, hb, hml, hown, hts⟩ (m_X0_copyFrom l D Z b a T S T4 hv3) gX1_foresee_X0_copyFrom_n125 rfl rfl rfl (hNm (125, yX0_copyFrom) (List.mem_of_getElem? (i := 18) rfl)) (hts (.initialized RX0) (List.mem_of_getElem? (i := 17) rfl)) (hts (.instanceMethod yX0_copyFrom) (List.mem_of_getElem? (i := 16) rfl)) (hts (.selects RX0 yX0_copyFrom yX0_copyFrom) (List.mem_of_getElem? (i := 18) rfl)) hdv_X0_copyFrom ⟨Nat.le_of_ble_eq_true rfl, Nat.le_of_ble_eq_true rfl⟩ hK (hP.sub (ws' := (rwl Z b T ++ rwl Z a S)) [13, 14, 15, 16, 17, 18, 19, 20, 21, 22, 23, 24, 1, 2, 3, 4, 5, 6, 7, 8, 9, 10, 11, 12] rfl) (hD.sub (ws' := (rwl Z b T ++ rwl Z a S)) [13, 14, 15, 16, 17, 18, 19, 20, 21, 22, 23, 24, 1, 2, 3, 4, 5, 6, 7, 8, 9, 10, 11, 12] (by decide) rfl) rfl rfl rfl rfl hl.1 rfl (Nat.le_of_ble_eq_true rfl) dX1_foresee_21 ⟨Nat.le_of_ble_eq_true rfl, Nat.le_of_ble_eq_true rfl⟩) hP hD hS hA (fun H locs hP hD hS => ?_)
  refine lv_iconst (v := 0) hx hb dX1_foresee_24 (by decide) ?_
  refine lv_istore_n (lv' := [(3, .int 0), (0, .ref o), (1, .int p1), (2, .int p2)]) hx hb dX1_foresee_25 rfl hl (by decide) rfl (fun ls hl => ?_)
  exact L26 FU p1 p2 0 S T4 _ _ hP hD hS ls (lv_sub hl [1, 2, 3, 0] rfl) hf
end
section
def f_J7_fill_53178_L5  (wn : Nat) : Nat → Int32 → Int32 → Int32 → (Nat → Int32) → Option ((Nat → Int32))
  | 0, _, _, _, _ => none
  | n + 1, x1, x2, x3, f =>
    if x3 ≤ x2 then
      some f
    else
      if x2 < 0 ∨ wn ≤ x2.toNatClampNeg then none else
      lt (upd f x2.toNatClampNeg x1) fun (f3 : Nat → Int32) =>
      f_J7_fill_53178_L5 wn n x1 (x2 + 1) x3 f3
def f_J7_fill_53178 (wn : Nat) (f : (Nat → Int32)) (p1 : Int32) : Option ((Nat → Int32)) :=
  f_J7_fill_53178_L5 wn FU p1 0 (nI wn) f
abbrev rm_J7_fill_53178 : Room := { frames := 0, cells := 0, slots := 0, locals := 0 }
theorem hds_J7_fill_53178 : yJ7_fill_53178.cls ≠ "java/lang/invoke/MethodHandle" ∧ yJ7_fill_53178.cls ≠ "java/lang/invoke/VarHandle" ∧ (parseMethodDescriptor yJ7_fill_53178.desc).map (fun d => d.parameters.length) = some 2 := by decide +kernel
set_option maxHeartbeats 4000000 in
set_option maxRecDepth 100000 in
theorem m_J7_fill_53178 (l : Launch) (D : va_G) (Z : Nat → ClassId) (q wn : Nat) (f : (Nat → Int32)) (p1 : Int32) (f' : (Nat → Int32)) (hf : f_J7_fill_53178 wn f p1 = some f') : RWv l yJ7_fill_53178 wsJ7_fill_53178 rm_J7_fill_53178 D Z [.ref q, .int p1] [(q, .inl (Z 0, wn, .inl f))] [(q, .inl (Z 0, wn, .inl (f')))] 0 0 := by
  refine RWv.of (cc := cJ7_fill_53178) (nL := 4) (ret := none) (by decide +kernel) rfl (Nat.le_of_ble_eq_true rfl) ?_
  intro p e s m below meth c A hC hA hP hK hD hS ls hl
  obtain ⟨hx, hb, hr, hml, hown, hts, hlk, -⟩ := hC
  have hown : s.vm.findClass RJ7 = some m.cls := hown
  have hl : lv_has ls 4 [(0, .ref q), (1, .int p1)] := hl
  have L5 : ∀ (n : Nat) (x1 : Int32) (x2 : Int32) (x3 : Int32) (f : (Nat → Int32)) (H : Heap) (locs : List Loc), va_P D vwCl [(q, .inl (Z 0, wn, .inl f))] H → va_D A [(q, .inl (Z 0, wn, .inl f))] → va_S A s.heap H locs → ∀ ls : Array Slot, lv_has ls 4 [(0, .ref q), (1, .int x1), (2, .int x2), (3, .int x3)] → f_J7_fill_53178_L5 wn n x1 x2 x3 f = some f' → W p l e rm_J7_fill_53178 s m ([.ref q, .int p1] : List Value).toArray below meth c H locs 0 0 (MQ below (zMv D A [(q, .inl (Z 0, wn, .inl (f')))]) ([.ref q, .int p1] : List Value).toArray s 0 0 A) (F0 m 5 ls []) := by
    intro n
    induction n with
    | zero =>
      intro x1 x2 x3 f H locs hP hD hS ls hl hf
      exact no_r hf
    | succ n ih =>
      intro x1 x2 x3 f H locs hP hD hS ls hl hf
      rw [f_J7_fill_53178_L5] at hf
      refine lv_iload_n hx hb dJ7_fill_53178_5 rfl (lv_at hl 2 rfl) ?_
      refine lv_iload_n hx hb dJ7_fill_53178_6 rfl (lv_at hl 3 rfl) ?_
      refine lv_icmp_ge (tgt := 20) hx hb dJ7_fill_53178_7 (by decide) (fun c1 => ?_) (fun c1 => ?_)
      · have hf := if_t hf c1
        exact zw_v hx hb hr hlk hP hD hS (congrArg (fun z => ([(q, .inl (Z 0, wn, .inl z))] : va_W)) (Option.some.inj hf)) (Nat.le_of_ble_eq_true rfl) (Nat.le_of_ble_eq_true rfl) dJ7_fill_53178_20
      · have hf := if_f hf c1
        refine lv_aload_n hx hb dJ7_fill_53178_10 rfl (lv_at hl 0 rfl) ?_
        refine lv_iload_n hx hb dJ7_fill_53178_11 rfl (lv_at hl 2 rfl) ?_
        refine lv_iload_n hx hb dJ7_fill_53178_12 rfl (lv_at hl 1 rfl) ?_
        obtain ⟨hg2, hf⟩ := if_g hf
        refine va_iast hx hb hK hP hD hS 0 0 rfl rfl hg2 dJ7_fill_53178_13 (fun H locs hP hD hS => ?_)
        obtain ⟨f3, ef3, hf⟩ := lt_ex hf
        have hP : va_P D vwCl [(q, .inl (Z 0, wn, .inl f3))] H := by rw [ef3]; exact hP
        have hD : va_D A [(q, .inl (Z 0, wn, .inl f3))] := by rw [ef3]; exact hD
        refine lv_iinc (v := (x2 + 1)) (lv' := [(2, .int (x2 + 1)), (0, .ref q), (1, .int x1), (3, .int x3)]) hx hb dJ7_fill_53178_14 hl (k := 2) rfl rfl (by decide) rfl (fun ls hl => ?_)
        refine lv_goto (tgt := 5) hx hb dJ7_fill_53178_17 (by decide) ?_
        exact ih x1 (x2 + 1) x3 f3 _ _ hP hD hS ls (lv_sub hl [1, 2, 0, 3] rfl) hf
  unfold f_J7_fill_53178 at hf
  refine lv_iconst (v := 0) hx hb dJ7_fill_53178_0 (by decide) ?_
  refine lv_istore_n (lv' := [(2, .int 0), (0, .ref q), (1, .int p1)]) hx hb dJ7_fill_53178_1 rfl hl (by decide) rfl (fun ls hl => ?_)
  refine lv_aload_n hx hb dJ7_fill_53178_2 rfl (lv_at hl 1 rfl) ?_
  refine va_alen (v := (nI wn)) hx hb hK hP 0 0 rfl rfl rfl dJ7_fill_53178_3 ?_
  refine lv_istore_n (lv' := [(3, .int (nI wn)), (2, .int 0), (0, .ref q), (1, .int p1)]) hx hb dJ7_fill_53178_4 rfl hl (by decide) rfl (fun ls hl => ?_)
  exact L5 FU p1 0 (nI wn) f _ _ hP hD hS ls (lv_sub hl [2, 3, 1, 0] rfl) hf

theorem fill_L {n : Nat} (hn : n < 2 ^ 31) (v : Int32) : ∀ (k i fuel : Nat) (f : Nat → Int32), i + k = n → k < fuel → (∀ j, j < i → f j = v) → ∃ g, f_J7_fill_53178_L5 n fuel v (nI i) (nI n) f = some g ∧ ∀ j, j < n → g j = v := by
  intro k
  induction k with
  | zero =>
    intro i fuel f hi hk hf
    obtain ⟨fu, rfl⟩ : ∃ z, fuel = z + 1 := ⟨fuel - 1, by omega⟩
    refine ⟨f, ?_, fun j hj => hf j (by omega)⟩
    rw [f_J7_fill_53178_L5, if_pos (nI_le (by omega) (by omega))]
  | succ k ih =>
    intro i fuel f hi hk hf
    obtain ⟨fu, rfl⟩ : ∃ z, fuel = z + 1 := ⟨fuel - 1, by omega⟩
    obtain ⟨g, h1, h2⟩ := ih (i + 1) fu (upd f i v) (by omega) (by omega) (fun j hj => by
      unfold upd
      by_cases h : j = i
      · rw [if_pos h]
      · rw [if_neg h]; exact hf j (by omega))
    refine ⟨g, ?_, h2⟩
    rw [f_J7_fill_53178_L5, if_neg (nI_ge (by omega) (by omega)), if_neg (vp_in_nI (by omega) (by omega)), nI_clamp (by omega)]
    show f_J7_fill_53178_L5 n fu v (nI i + 1) (nI n) (upd f i v) = some g
    rw [nI_1]
    exact h1
theorem fill_ok {n : Nat} (hn : n < 1000) (f : Nat → Int32) (v : Int32) : ∃ g, f_J7_fill_53178 n f v = some g ∧ ∀ j, j < n → g j = v := fill_L (by omega) v n 0 FU f (by omega) (by show n < 2000; omega) (fun j hj => absurd hj (Nat.not_lt_zero _))
section PGCT
variable {p : Program} {l : Launch} {e : Env} {R : Room} {s : State} {m : MethodId} {args : Array Value} {below : List Frame} {meth : Method} {c : Code} {H : Heap} {locs : List Loc} {cells slots : Nat} {Q : State → Prop} {cc : ByteArray} {pc : Nat} {ls : Array Slot} {D : va_G} {Z : Nat → ClassId} {w : va_W} {A : Nat → Prop} {H0 : Heap} {mc ms : Nat} {a : Array Value} {rest st0 : List Value} {x : va_E}
theorem zc_rn (hr : va_Run p l e R s m args below meth c H locs cells slots mc ms (F0 m pc ls st0) rest (va_Qr (fun (_ : Unit) => True) (fun _ q t => va_P D vwCl [(q, x)] t.heap ∧ va_D (fun z => H.size ≤ z) [(q, x)]) (fun q => H.size ≤ q) a) (fun q => H.size ≤ q)) (hP : va_P D vwCl w H) (hD : va_D A w) (hS : va_S A H0 H locs) (hA : ∀ q, H0.size ≤ q → A q)
    (kk : ∀ (q : Nat) (H1 : Heap) (locs1 : List Loc), va_P D vwCl (w ++ [(q, x)]) H1 → va_D A (w ++ [(q, x)]) → va_S A H0 H1 locs1 → W p l e R s m args below meth c H1 locs1 (cells + mc) (slots + ms) Q (F0 m (pc + 3) ls (.ref q :: rest))) : W p l e R s m args below meth c H locs cells slots Q (F0 m pc ls st0) := by
  refine va_callr hr hS (fun q h1 h2 => absurd h2 (Nat.not_le.mpr h1)) (fun q h => hA q (Nat.le_trans hS.1 h)) (fun u q t H1 locs1 ht _ _ hB _ hk hS1 => ?_)
  obtain ⟨h1, h2⟩ := hB
  rw [ht] at h1
  refine kk q H1 locs1 ((hP.kept (fun k q hq => hk q.1 (hP k q hq).lt (Nat.not_le.mpr (hP k q hq).lt))).app h1) (hD.app (h2.weaken (fun _ q _ h => hA q.1 (Nat.le_trans hS.1 h))) (fun i j p q hp hq e => ?_)) hS1
  have g1 := (hP i p hp).lt
  have g2 := h2.2 j q hq
  rw [e] at g1
  exact absurd g1 (Nat.not_lt.mpr g2)
end PGCT
theorem hds_X0_emptyRow : yX0_emptyRow.cls ≠ "java/lang/invoke/MethodHandle" ∧ yX0_emptyRow.cls ≠ "java/lang/invoke/VarHandle" ∧ (parseMethodDescriptor yX0_emptyRow.desc).map (fun d => d.parameters.length) = some 1 := by decide +kernel
set_option maxHeartbeats 4000000 in
set_option maxRecDepth 100000 in
theorem m_X0_emptyRow (l : Launch) (D : va_G) (Z : Nat → ClassId) (len : Int32) (n : Nat) (h1 : (if (0 : Int32) < len then len else 0) = len) (h2 : ¬ len < 0) (h3 : len.toNatClampNeg = n) (h4 : n < 1000) (h5 : Int32.ofNat n = len) : ∀ sz : Nat, Met l yX0_emptyRow wsX0_emptyRow ({ frames := 3, cells := 1, slots := n, locals := 80 }) (va_Pc [.int len] (zPre D Z [] sz)) (va_Qr (fun (_ : Unit) => True) (fun _ q t => va_P D vwCl [(q, .inl (Z 0, n, .inl (fun _ => -1)))] t.heap ∧ va_D (fun z => sz ≤ z) [(q, .inl (Z 0, n, .inl (fun _ => -1)))]) (fun q => sz ≤ q)) 1 n (fun q => sz ≤ q) := fun sz => by
  refine z_open (cc := cX0_emptyRow) (nL := 2) (ret := (some (.array .int))) (by decide +kernel) rfl (Nat.le_of_ble_eq_true rfl) ?_
  intro p e s m below meth c hC hB ls hl
  obtain ⟨hsz, hP, hK, hD0⟩ := hB
  subst hsz
  obtain ⟨hx, hb, hr, hml, hown, hts, hlk, -⟩ := hC
  have hown : s.vm.findClass RX0 = some m.cls := hown
  obtain ⟨g, hg, hg1⟩ := fill_ok h4 (fun _ => 0) (-1)
  have hD : va_D (fun q : Nat => s.heap.size ≤ q) [] := hD0.weaken (fun k q h _ => by simp at h)
  have hA : ∀ q : Nat, s.heap.size ≤ q → (fun q : Nat => s.heap.size ≤ q) q := fun _ h => h
  have hS : va_S (fun q : Nat => s.heap.size ≤ q) s.heap s.heap [] := va_S.rf
  have hl : lv_has ls 2 [(0, .int len)] := hl
  refine lv_iconst (v := 0) hx hb dX0_emptyRow_0 (by decide) ?_
  refine lv_iload_n hx hb dX0_emptyRow_1 rfl (lv_at hl 0 rfl) ?_
  refine va_mmax hx hb (hml.trans hl.1.symm) hown (hts (.methodLink RX0 146 Lib.Math.max.name) (List.mem_of_getElem? (i := 1) rfl)) (hts (.static Lib.Math.max.name) (List.mem_of_getElem? (i := 2) rfl)) (hts (.initialized "java/lang/Math") (List.mem_of_getElem? (i := 3) rfl)) (hts (.code Lib.Math.max.name Lib.Math.max.code 2 (some .int)) (List.mem_of_getElem? (i := 4) rfl)) (Nat.le_of_ble_eq_true rfl) (Nat.le_of_ble_eq_true rfl) (Nat.zero_le _) (Nat.zero_le _) dX0_emptyRow_2 ?_
  rw [h1]
  refine z_newa (N1 := n) hx hb (hts (.arrayClass .int) (List.mem_of_getElem? (i := 5) rfl)) hK hP hD hS hA h2 h3 (by omega) (Nat.le_of_ble_eq_true rfl) (by show 0 + n ≤ n; omega) dX0_emptyRow_5 (fun q H hP hD hS => ?_)
  refine lv_astore_n (lv' := [(1, .ref q), (0, .int len)]) hx hb dX0_emptyRow_7 rfl hl (by decide) rfl (fun ls hl => ?_)
  refine lv_aload_n hx hb dX0_emptyRow_8 rfl (lv_at hl 0 rfl) ?_
  refine lv_iconst (v := (-1)) hx hb dX0_emptyRow_9 (by decide) ?_
  refine zc_mv1 (k := 0) (e1 := .inl (Z 0, n, .inl g)) rfl (z_SD (As := [.ref q, .int (-1)]) (rest := []) ⟨hx, hb, hml, hown, hts⟩ (m_J7_fill_53178 l D Z q n (fun _ => 0) (-1) g hg) gX0_emptyRow_J7_fill_53178 rfl rfl rfl hds_J7_fill_53178 ⟨Nat.le_of_ble_eq_true rfl, Nat.le_of_ble_eq_true rfl⟩ hK hP hD rfl hl.1 rfl (Nat.le_of_ble_eq_true rfl) dX0_emptyRow_10 ⟨Nat.le_of_ble_eq_true rfl, by show 0 + n + 0 ≤ n; omega⟩) hP hD hS hA (fun H locs hP hD hS => ?_)
  have hP := va_P.ext (k := 0) (a := q) (n := n) (g := fun _ => -1) hP rfl hg1
  have hD := hD.set (p := 0) (a := q) (e := .inl (Z 0, n, .inl (fun _ => -1))) rfl
  have hP : va_P D vwCl [(q, .inl (Z 0, n, .inl (fun _ => -1)))] H := hP
  have hD : va_D (fun q : Nat => s.heap.size ≤ q) [(q, .inl (Z 0, n, .inl (fun _ => -1)))] := hD
  refine lv_aload_n hx hb dX0_emptyRow_13 rfl (lv_at hl 0 rfl) ?_
  refine W.widen (k := 1) (n := n) (Nat.le_of_ble_eq_true rfl) (by show 0 + n + 0 ≤ n; omega) ?_
  exact W.aret hx hb hr (Or.inr ⟨_, rfl⟩) (Or.inr ⟨_, rfl⟩) (fun t ht hW => ⟨⟨(), q, rfl, trivial, by rw [ht]; exact hP, hD⟩, hS.F ht⟩) hS.2.2 dX0_emptyRow_14 hlk
def rI0 : RS := (fun _ => 0, fun k => match k with | 0 => fun _ => -1 | 1 => fun _ => -1 | 8 => fun _ => -1 | 9 => fun _ => -1 | _ => fun _ => 0)
def mI0 : RS := (fun _ => 0, fun k => match k with | 3 => (fun j => if j = 3 then -1 else 0) | _ => fun _ => 0)
abbrev rm_X0_init : Room := { frames := 4, cells := 11, slots := 258, locals := 140 }
theorem hdi_X0_init : yX0_init.cls ≠ "java/lang/invoke/MethodHandle" ∧ yX0_init.cls ≠ "java/lang/invoke/VarHandle" ∧ (parseMethodDescriptor yX0_init.desc).map (fun d => d.parameters.length) = some 0 := by decide +kernel
set_option maxHeartbeats 4000000 in
set_option maxRecDepth 100000 in
theorem m_X0_init (l : Launch) (D : va_G) (Z : Nat → ClassId) (h0 : Nat) : ∀ sz : Nat, Met l yX0_init wsX0_init rm_X0_init (va_Pc [.ref h0] (zPre D Z [(h0, .inr (0, [.int 0, .int 0, .int 0, .int 0, .int 0, .int 0, .null, .null, .null, .null, .null, .null, .null, .null, .null, .null, .null]))] sz)) (va_Qv (fun (a : Nat → Nat) => a 0 = h0) (fun a t => va_P D vwCl (rwl Z a rI0) t.heap ∧ va_D (va_A [(h0, .inr (0, [.int 0, .int 0, .int 0, .int 0, .int 0, .int 0, .null, .null, .null, .null, .null, .null, .null, .null, .null, .null, .null]))] sz) (rwl Z a rI0)) (va_A [(h0, .inr (0, [.int 0, .int 0, .int 0, .int 0, .int 0, .int 0, .null, .null, .null, .null, .null, .null, .null, .null, .null, .null, .null]))] sz)) 11 258 (va_A [(h0, .inr (0, [.int 0, .int 0, .int 0, .int 0, .int 0, .int 0, .null, .null, .null, .null, .null, .null, .null, .null, .null, .null, .null]))] sz) := fun sz => by
  refine z_open (cc := cX0_init) (nL := 1) (ret := none) (by decide +kernel) rfl (Nat.le_of_ble_eq_true rfl) ?_
  intro p e s m below meth c hC hB ls hl
  obtain ⟨hsz, hP, hK, hD0⟩ := hB
  subst hsz
  obtain ⟨hx, hb, hr, hml, hown, hts, hlk, hinn⟩ := hC
  have hown : s.vm.findClass RX0 = some m.cls := hown
  have hinn : meth.name = "<init>" := hinn
  have hD := hD0.self (sz := s.heap.size)
  generalize hAe : va_A [(h0, .inr (0, [.int 0, .int 0, .int 0, .int 0, .int 0, .int 0, .null, .null, .null, .null, .null, .null, .null, .null, .null, .null, .null]))] s.heap.size = A at hD ⊢
  have hA : ∀ q : Nat, s.heap.size ≤ q → A q := fun q h => by rw [← hAe]; exact Or.inr h
  have hS : va_S A s.heap s.heap [] := va_S.rf
  have hin : ∀ w ∈ wsX00, w ∈ wsX0_init := fun w h => List.mem_cons_of_mem _ (List.mem_append_right _ h)
  have hl : lv_has ls 1 [(0, .ref h0)] := hl
  refine lv_aload_n hx hb dX0_init_0 rfl (lv_at hl 0 rfl) ?_
  refine W.objInit hx hb hown (hts (.methodLink RX0 3 objectInit) (List.mem_of_getElem? (i := 1) rfl)) (hts (.instanceMethod objectInit) (List.mem_of_getElem? (i := 2) rfl)) (hts _ (List.mem_of_getElem? (i := 3) rfl)) rfl (by rw [hml]; exact hl.1) rfl dX0_init_1 (Nat.le_of_ble_eq_true rfl) (Nat.le_of_ble_eq_true rfl) ?_
  refine W.eq (g2 := F0 m 4 ls []) rfl ?_
  refine lv_aload_n hx hb dX0_init_4 rfl (lv_at hl 0 rfl) ?_
  refine lv_bipush (v := 24) hx hb dX0_init_5 (by decide) ?_
  refine zc_rn (z_SD (As := [.int 24]) (rest := [.ref h0]) (w0 := []) ⟨hx, hb, hml, hown, hts⟩ (m_X0_emptyRow l D Z 24 24 (by decide) (by decide) (by decide) (by decide) (by decide)) gX0_init_X0_emptyRow rfl rfl rfl hds_X0_emptyRow ⟨Nat.le_of_ble_eq_true rfl, Nat.le_of_ble_eq_true rfl⟩ hK (hP.sub (ws' := []) [] rfl) (hD.sub (ws' := []) [] (by decide) rfl) rfl hl.1 rfl (Nat.le_of_ble_eq_true rfl) dX0_init_7 ⟨Nat.le_of_ble_eq_true rfl, Nat.le_of_ble_eq_true rfl⟩) hP hD hS hA (fun q1 H locs hP hD hS => ?_)
  have hP : va_P D vwCl [(h0, .inr (0, [.int 0, .int 0, .int 0, .int 0, .int 0, .int 0, .null, .null, .null, .null, .null, .null, .null, .null, .null, .null, .null])), (q1, .inl (Z 0, 24, .inl (fun _ => -1)))] H := hP
  have hD : va_D A [(h0, .inr (0, [.int 0, .int 0, .int 0, .int 0, .int 0, .int 0, .null, .null, .null, .null, .null, .null, .null, .null, .null, .null, .null])), (q1, .inl (Z 0, 24, .inl (fun _ => -1)))] := hD
  refine va_putF (D := D) (ci := 0) (v := .ref q1) (ty := .array .int) (C := RX0) (T := TX0) (N := 17) hx hb hts hin tyX0 tyX0_ok nmX0 hown hK hP hD hS 0 rfl rfl 6 (by decide) (hts (.fieldLink RX0 15 "PodGuideway$Ring" "podInSlot" "[I") (List.mem_of_getElem? (i := 4) rfl)) (fun _ h9 => h9) rfl hinn rfl (by decide +kernel) rfl rfl (Nat.le_of_ble_eq_true rfl) dX0_init_10 (fun H locs hP hD hS => ?_)
  have hP : va_P D vwCl [(h0, .inr (0, [.int 0, .int 0, .int 0, .int 0, .int 0, .int 0, .ref q1, .null, .null, .null, .null, .null, .null, .null, .null, .null, .null])), (q1, .inl (Z 0, 24, .inl (fun _ => -1)))] H := hP
  have hD : va_D A [(h0, .inr (0, [.int 0, .int 0, .int 0, .int 0, .int 0, .int 0, .ref q1, .null, .null, .null, .null, .null, .null, .null, .null, .null, .null])), (q1, .inl (Z 0, 24, .inl (fun _ => -1)))] := hD
  refine lv_aload_n hx hb dX0_init_13 rfl (lv_at hl 0 rfl) ?_
  refine lv_bipush (v := 18) hx hb dX0_init_14 (by decide) ?_
  refine zc_rn (z_SD (As := [.int 18]) (rest := [.ref h0]) (w0 := []) ⟨hx, hb, hml, hown, hts⟩ (m_X0_emptyRow l D Z 18 18 (by decide) (by decide) (by decide) (by decide) (by decide)) gX0_init_X0_emptyRow rfl rfl rfl hds_X0_emptyRow ⟨Nat.le_of_ble_eq_true rfl, Nat.le_of_ble_eq_true rfl⟩ hK (hP.sub (ws' := []) [] rfl) (hD.sub (ws' := []) [] (by decide) rfl) rfl hl.1 rfl (Nat.le_of_ble_eq_true rfl) dX0_init_16 ⟨Nat.le_of_ble_eq_true rfl, Nat.le_of_ble_eq_true rfl⟩) hP hD hS hA (fun q2 H locs hP hD hS => ?_)
  have hP : va_P D vwCl [(h0, .inr (0, [.int 0, .int 0, .int 0, .int 0, .int 0, .int 0, .ref q1, .null, .null, .null, .null, .null, .null, .null, .null, .null, .null])), (q1, .inl (Z 0, 24, .inl (fun _ => -1))), (q2, .inl (Z 0, 18, .inl (fun _ => -1)))] H := hP
  have hD : va_D A [(h0, .inr (0, [.int 0, .int 0, .int 0, .int 0, .int 0, .int 0, .ref q1, .null, .null, .null, .null, .null, .null, .null, .null, .null, .null])), (q1, .inl (Z 0, 24, .inl (fun _ => -1))), (q2, .inl (Z 0, 18, .inl (fun _ => -1)))] := hD
  refine va_putF (D := D) (ci := 0) (v := .ref q2) (ty := .array .int) (C := RX0) (T := TX0) (N := 17) hx hb hts hin tyX0 tyX0_ok nmX0 hown hK hP hD hS 0 rfl rfl 7 (by decide) (hts (.fieldLink RX0 19 "PodGuideway$Ring" "podInBerth" "[I") (List.mem_of_getElem? (i := 5) rfl)) (fun _ h9 => h9) rfl hinn rfl (by decide +kernel) rfl rfl (Nat.le_of_ble_eq_true rfl) dX0_init_19 (fun H locs hP hD hS => ?_)
  have hP : va_P D vwCl [(h0, .inr (0, [.int 0, .int 0, .int 0, .int 0, .int 0, .int 0, .ref q1, .ref q2, .null, .null, .null, .null, .null, .null, .null, .null, .null])), (q1, .inl (Z 0, 24, .inl (fun _ => -1))), (q2, .inl (Z 0, 18, .inl (fun _ => -1)))] H := hP
  have hD : va_D A [(h0, .inr (0, [.int 0, .int 0, .int 0, .int 0, .int 0, .int 0, .ref q1, .ref q2, .null, .null, .null, .null, .null, .null, .null, .null, .null])), (q1, .inl (Z 0, 24, .inl (fun _ => -1))), (q2, .inl (Z 0, 18, .inl (fun _ => -1)))] := hD
  refine lv_aload_n hx hb dX0_init_22 rfl (lv_at hl 0 rfl) ?_
  refine lv_bipush (v := 6) hx hb dX0_init_23 (by decide) ?_
  refine z_newa (N1 := 6) hx hb (hts (.arrayClass .int) (List.mem_of_getElem? (i := 6) rfl)) hK hP hD hS hA (by decide) (by decide) (by decide) (Nat.le_of_ble_eq_true rfl) (Nat.le_of_ble_eq_true rfl) dX0_init_25 (fun q3 H hP hD hS => ?_)
  have hP : va_P D vwCl [(h0, .inr (0, [.int 0, .int 0, .int 0, .int 0, .int 0, .int 0, .ref q1, .ref q2, .null, .null, .null, .null, .null, .null, .null, .null, .null])), (q1, .inl (Z 0, 24, .inl (fun _ => -1))), (q2, .inl (Z 0, 18, .inl (fun _ => -1))), (q3, .inl (Z 0, 6, .inl (fun _ => 0)))] H := hP
  have hD : va_D A [(h0, .inr (0, [.int 0, .int 0, .int 0, .int 0, .int 0, .int 0, .ref q1, .ref q2, .null, .null, .null, .null, .null, .null, .null, .null, .null])), (q1, .inl (Z 0, 24, .inl (fun _ => -1))), (q2, .inl (Z 0, 18, .inl (fun _ => -1))), (q3, .inl (Z 0, 6, .inl (fun _ => 0)))] := hD
  refine va_putF (D := D) (ci := 0) (v := .ref q3) (ty := .array .int) (C := RX0) (T := TX0) (N := 17) hx hb hts hin tyX0 tyX0_ok nmX0 hown hK hP hD hS 0 rfl rfl 8 (by decide) (hts (.fieldLink RX0 22 "PodGuideway$Ring" "stationPlace" "[I") (List.mem_of_getElem? (i := 7) rfl)) (fun _ h9 => h9) rfl hinn rfl (by decide +kernel) rfl rfl (Nat.le_of_ble_eq_true rfl) dX0_init_27 (fun H locs hP hD hS => ?_)
  have hP : va_P D vwCl [(h0, .inr (0, [.int 0, .int 0, .int 0, .int 0, .int 0, .int 0, .ref q1, .ref q2, .ref q3, .null, .null, .null, .null, .null, .null, .null, .null])), (q1, .inl (Z 0, 24, .inl (fun _ => -1))), (q2, .inl (Z 0, 18, .inl (fun _ => -1))), (q3, .inl (Z 0, 6, .inl (fun _ => 0)))] H := hP
  have hD : va_D A [(h0, .inr (0, [.int 0, .int 0, .int 0, .int 0, .int 0, .int 0, .ref q1, .ref q2, .ref q3, .null, .null, .null, .null, .null, .null, .null, .null])), (q1, .inl (Z 0, 24, .inl (fun _ => -1))), (q2, .inl (Z 0, 18, .inl (fun _ => -1))), (q3, .inl (Z 0, 6, .inl (fun _ => 0)))] := hD
  refine lv_aload_n hx hb dX0_init_30 rfl (lv_at hl 0 rfl) ?_
  refine lv_bipush (v := 6) hx hb dX0_init_31 (by decide) ?_
  refine z_newa (N1 := 6) hx hb (hts (.arrayClass .int) (List.mem_of_getElem? (i := 6) rfl)) hK hP hD hS hA (by decide) (by decide) (by decide) (Nat.le_of_ble_eq_true rfl) (Nat.le_of_ble_eq_true rfl) dX0_init_33 (fun q4 H hP hD hS => ?_)
  have hP : va_P D vwCl [(h0, .inr (0, [.int 0, .int 0, .int 0, .int 0, .int 0, .int 0, .ref q1, .ref q2, .ref q3, .null, .null, .null, .null, .null, .null, .null, .null])), (q1, .inl (Z 0, 24, .inl (fun _ => -1))), (q2, .inl (Z 0, 18, .inl (fun _ => -1))), (q3, .inl (Z 0, 6, .inl (fun _ => 0))), (q4, .inl (Z 0, 6, .inl (fun _ => 0)))] H := hP
  have hD : va_D A [(h0, .inr (0, [.int 0, .int 0, .int 0, .int 0, .int 0, .int 0, .ref q1, .ref q2, .ref q3, .null, .null, .null, .null, .null, .null, .null, .null])), (q1, .inl (Z 0, 24, .inl (fun _ => -1))), (q2, .inl (Z 0, 18, .inl (fun _ => -1))), (q3, .inl (Z 0, 6, .inl (fun _ => 0))), (q4, .inl (Z 0, 6, .inl (fun _ => 0)))] := hD
  refine va_putF (D := D) (ci := 0) (v := .ref q4) (ty := .array .int) (C := RX0) (T := TX0) (N := 17) hx hb hts hin tyX0 tyX0_ok nmX0 hown hK hP hD hS 0 rfl rfl 9 (by decide) (hts (.fieldLink RX0 25 "PodGuideway$Ring" "stationArrived" "[I") (List.mem_of_getElem? (i := 8) rfl)) (fun _ h9 => h9) rfl hinn rfl (by decide +kernel) rfl rfl (Nat.le_of_ble_eq_true rfl) dX0_init_35 (fun H locs hP hD hS => ?_)
  have hP : va_P D vwCl [(h0, .inr (0, [.int 0, .int 0, .int 0, .int 0, .int 0, .int 0, .ref q1, .ref q2, .ref q3, .ref q4, .null, .null, .null, .null, .null, .null, .null])), (q1, .inl (Z 0, 24, .inl (fun _ => -1))), (q2, .inl (Z 0, 18, .inl (fun _ => -1))), (q3, .inl (Z 0, 6, .inl (fun _ => 0))), (q4, .inl (Z 0, 6, .inl (fun _ => 0)))] H := hP
  have hD : va_D A [(h0, .inr (0, [.int 0, .int 0, .int 0, .int 0, .int 0, .int 0, .ref q1, .ref q2, .ref q3, .ref q4, .null, .null, .null, .null, .null, .null, .null])), (q1, .inl (Z 0, 24, .inl (fun _ => -1))), (q2, .inl (Z 0, 18, .inl (fun _ => -1))), (q3, .inl (Z 0, 6, .inl (fun _ => 0))), (q4, .inl (Z 0, 6, .inl (fun _ => 0)))] := hD
  refine lv_aload_n hx hb dX0_init_38 rfl (lv_at hl 0 rfl) ?_
  refine lv_bipush (v := 6) hx hb dX0_init_39 (by decide) ?_
  refine z_newa (N1 := 6) hx hb (hts (.arrayClass .int) (List.mem_of_getElem? (i := 6) rfl)) hK hP hD hS hA (by decide) (by decide) (by decide) (Nat.le_of_ble_eq_true rfl) (Nat.le_of_ble_eq_true rfl) dX0_init_41 (fun q5 H hP hD hS => ?_)
  have hP : va_P D vwCl [(h0, .inr (0, [.int 0, .int 0, .int 0, .int 0, .int 0, .int 0, .ref q1, .ref q2, .ref q3, .ref q4, .null, .null, .null, .null, .null, .null, .null])), (q1, .inl (Z 0, 24, .inl (fun _ => -1))), (q2, .inl (Z 0, 18, .inl (fun _ => -1))), (q3, .inl (Z 0, 6, .inl (fun _ => 0))), (q4, .inl (Z 0, 6, .inl (fun _ => 0))), (q5, .inl (Z 0, 6, .inl (fun _ => 0)))] H := hP
  have hD : va_D A [(h0, .inr (0, [.int 0, .int 0, .int 0, .int 0, .int 0, .int 0, .ref q1, .ref q2, .ref q3, .ref q4, .null, .null, .null, .null, .null, .null, .null])), (q1, .inl (Z 0, 24, .inl (fun _ => -1))), (q2, .inl (Z 0, 18, .inl (fun _ => -1))), (q3, .inl (Z 0, 6, .inl (fun _ => 0))), (q4, .inl (Z 0, 6, .inl (fun _ => 0))), (q5, .inl (Z 0, 6, .inl (fun _ => 0)))] := hD
  refine va_putF (D := D) (ci := 0) (v := .ref q5) (ty := .array .int) (C := RX0) (T := TX0) (N := 17) hx hb hts hin tyX0 tyX0_ok nmX0 hown hK hP hD hS 0 rfl rfl 10 (by decide) (hts (.fieldLink RX0 28 "PodGuideway$Ring" "stationWaiting" "[I") (List.mem_of_getElem? (i := 9) rfl)) (fun _ h9 => h9) rfl hinn rfl (by decide +kernel) rfl rfl (Nat.le_of_ble_eq_true rfl) dX0_init_43 (fun H locs hP hD hS => ?_)
  have hP : va_P D vwCl [(h0, .inr (0, [.int 0, .int 0, .int 0, .int 0, .int 0, .int 0, .ref q1, .ref q2, .ref q3, .ref q4, .ref q5, .null, .null, .null, .null, .null, .null])), (q1, .inl (Z 0, 24, .inl (fun _ => -1))), (q2, .inl (Z 0, 18, .inl (fun _ => -1))), (q3, .inl (Z 0, 6, .inl (fun _ => 0))), (q4, .inl (Z 0, 6, .inl (fun _ => 0))), (q5, .inl (Z 0, 6, .inl (fun _ => 0)))] H := hP
  have hD : va_D A [(h0, .inr (0, [.int 0, .int 0, .int 0, .int 0, .int 0, .int 0, .ref q1, .ref q2, .ref q3, .ref q4, .ref q5, .null, .null, .null, .null, .null, .null])), (q1, .inl (Z 0, 24, .inl (fun _ => -1))), (q2, .inl (Z 0, 18, .inl (fun _ => -1))), (q3, .inl (Z 0, 6, .inl (fun _ => 0))), (q4, .inl (Z 0, 6, .inl (fun _ => 0))), (q5, .inl (Z 0, 6, .inl (fun _ => 0)))] := hD
  refine lv_aload_n hx hb dX0_init_46 rfl (lv_at hl 0 rfl) ?_
  refine lv_bipush (v := 54) hx hb dX0_init_47 (by decide) ?_
  refine z_newa (N1 := 54) hx hb (hts (.arrayClass .int) (List.mem_of_getElem? (i := 6) rfl)) hK hP hD hS hA (by decide) (by decide) (by decide) (Nat.le_of_ble_eq_true rfl) (Nat.le_of_ble_eq_true rfl) dX0_init_49 (fun q6 H hP hD hS => ?_)
  have hP : va_P D vwCl [(h0, .inr (0, [.int 0, .int 0, .int 0, .int 0, .int 0, .int 0, .ref q1, .ref q2, .ref q3, .ref q4, .ref q5, .null, .null, .null, .null, .null, .null])), (q1, .inl (Z 0, 24, .inl (fun _ => -1))), (q2, .inl (Z 0, 18, .inl (fun _ => -1))), (q3, .inl (Z 0, 6, .inl (fun _ => 0))), (q4, .inl (Z 0, 6, .inl (fun _ => 0))), (q5, .inl (Z 0, 6, .inl (fun _ => 0))), (q6, .inl (Z 0, 54, .inl (fun _ => 0)))] H := hP
  have hD : va_D A [(h0, .inr (0, [.int 0, .int 0, .int 0, .int 0, .int 0, .int 0, .ref q1, .ref q2, .ref q3, .ref q4, .ref q5, .null, .null, .null, .null, .null, .null])), (q1, .inl (Z 0, 24, .inl (fun _ => -1))), (q2, .inl (Z 0, 18, .inl (fun _ => -1))), (q3, .inl (Z 0, 6, .inl (fun _ => 0))), (q4, .inl (Z 0, 6, .inl (fun _ => 0))), (q5, .inl (Z 0, 6, .inl (fun _ => 0))), (q6, .inl (Z 0, 54, .inl (fun _ => 0)))] := hD
  refine va_putF (D := D) (ci := 0) (v := .ref q6) (ty := .array .int) (C := RX0) (T := TX0) (N := 17) hx hb hts hin tyX0 tyX0_ok nmX0 hown hK hP hD hS 0 rfl rfl 11 (by decide) (hts (.fieldLink RX0 31 "PodGuideway$Ring" "riderNumber" "[I") (List.mem_of_getElem? (i := 10) rfl)) (fun _ h9 => h9) rfl hinn rfl (by decide +kernel) rfl rfl (Nat.le_of_ble_eq_true rfl) dX0_init_51 (fun H locs hP hD hS => ?_)
  have hP : va_P D vwCl [(h0, .inr (0, [.int 0, .int 0, .int 0, .int 0, .int 0, .int 0, .ref q1, .ref q2, .ref q3, .ref q4, .ref q5, .ref q6, .null, .null, .null, .null, .null])), (q1, .inl (Z 0, 24, .inl (fun _ => -1))), (q2, .inl (Z 0, 18, .inl (fun _ => -1))), (q3, .inl (Z 0, 6, .inl (fun _ => 0))), (q4, .inl (Z 0, 6, .inl (fun _ => 0))), (q5, .inl (Z 0, 6, .inl (fun _ => 0))), (q6, .inl (Z 0, 54, .inl (fun _ => 0)))] H := hP
  have hD : va_D A [(h0, .inr (0, [.int 0, .int 0, .int 0, .int 0, .int 0, .int 0, .ref q1, .ref q2, .ref q3, .ref q4, .ref q5, .ref q6, .null, .null, .null, .null, .null])), (q1, .inl (Z 0, 24, .inl (fun _ => -1))), (q2, .inl (Z 0, 18, .inl (fun _ => -1))), (q3, .inl (Z 0, 6, .inl (fun _ => 0))), (q4, .inl (Z 0, 6, .inl (fun _ => 0))), (q5, .inl (Z 0, 6, .inl (fun _ => 0))), (q6, .inl (Z 0, 54, .inl (fun _ => 0)))] := hD
  refine lv_aload_n hx hb dX0_init_54 rfl (lv_at hl 0 rfl) ?_
  refine lv_bipush (v := 54) hx hb dX0_init_55 (by decide) ?_
  refine z_newa (N1 := 54) hx hb (hts (.arrayClass .int) (List.mem_of_getElem? (i := 6) rfl)) hK hP hD hS hA (by decide) (by decide) (by decide) (Nat.le_of_ble_eq_true rfl) (Nat.le_of_ble_eq_true rfl) dX0_init_57 (fun q7 H hP hD hS => ?_)
  have hP : va_P D vwCl [(h0, .inr (0, [.int 0, .int 0, .int 0, .int 0, .int 0, .int 0, .ref q1, .ref q2, .ref q3, .ref q4, .ref q5, .ref q6, .null, .null, .null, .null, .null])), (q1, .inl (Z 0, 24, .inl (fun _ => -1))), (q2, .inl (Z 0, 18, .inl (fun _ => -1))), (q3, .inl (Z 0, 6, .inl (fun _ => 0))), (q4, .inl (Z 0, 6, .inl (fun _ => 0))), (q5, .inl (Z 0, 6, .inl (fun _ => 0))), (q6, .inl (Z 0, 54, .inl (fun _ => 0))), (q7, .inl (Z 0, 54, .inl (fun _ => 0)))] H := hP
  have hD : va_D A [(h0, .inr (0, [.int 0, .int 0, .int 0, .int 0, .int 0, .int 0, .ref q1, .ref q2, .ref q3, .ref q4, .ref q5, .ref q6, .null, .null, .null, .null, .null])), (q1, .inl (Z 0, 24, .inl (fun _ => -1))), (q2, .inl (Z 0, 18, .inl (fun _ => -1))), (q3, .inl (Z 0, 6, .inl (fun _ => 0))), (q4, .inl (Z 0, 6, .inl (fun _ => 0))), (q5, .inl (Z 0, 6, .inl (fun _ => 0))), (q6, .inl (Z 0, 54, .inl (fun _ => 0))), (q7, .inl (Z 0, 54, .inl (fun _ => 0)))] := hD
  refine va_putF (D := D) (ci := 0) (v := .ref q7) (ty := .array .int) (C := RX0) (T := TX0) (N := 17) hx hb hts hin tyX0 tyX0_ok nmX0 hown hK hP hD hS 0 rfl rfl 12 (by decide) (hts (.fieldLink RX0 34 "PodGuideway$Ring" "riderGoal" "[I") (List.mem_of_getElem? (i := 11) rfl)) (fun _ h9 => h9) rfl hinn rfl (by decide +kernel) rfl rfl (Nat.le_of_ble_eq_true rfl) dX0_init_59 (fun H locs hP hD hS => ?_)
  have hP : va_P D vwCl [(h0, .inr (0, [.int 0, .int 0, .int 0, .int 0, .int 0, .int 0, .ref q1, .ref q2, .ref q3, .ref q4, .ref q5, .ref q6, .ref q7, .null, .null, .null, .null])), (q1, .inl (Z 0, 24, .inl (fun _ => -1))), (q2, .inl (Z 0, 18, .inl (fun _ => -1))), (q3, .inl (Z 0, 6, .inl (fun _ => 0))), (q4, .inl (Z 0, 6, .inl (fun _ => 0))), (q5, .inl (Z 0, 6, .inl (fun _ => 0))), (q6, .inl (Z 0, 54, .inl (fun _ => 0))), (q7, .inl (Z 0, 54, .inl (fun _ => 0)))] H := hP
  have hD : va_D A [(h0, .inr (0, [.int 0, .int 0, .int 0, .int 0, .int 0, .int 0, .ref q1, .ref q2, .ref q3, .ref q4, .ref q5, .ref q6, .ref q7, .null, .null, .null, .null])), (q1, .inl (Z 0, 24, .inl (fun _ => -1))), (q2, .inl (Z 0, 18, .inl (fun _ => -1))), (q3, .inl (Z 0, 6, .inl (fun _ => 0))), (q4, .inl (Z 0, 6, .inl (fun _ => 0))), (q5, .inl (Z 0, 6, .inl (fun _ => 0))), (q6, .inl (Z 0, 54, .inl (fun _ => 0))), (q7, .inl (Z 0, 54, .inl (fun _ => 0)))] := hD
  refine lv_aload_n hx hb dX0_init_62 rfl (lv_at hl 0 rfl) ?_
  refine lv_bipush (v := 54) hx hb dX0_init_63 (by decide) ?_
  refine z_newa (N1 := 54) hx hb (hts (.arrayClass .int) (List.mem_of_getElem? (i := 6) rfl)) hK hP hD hS hA (by decide) (by decide) (by decide) (Nat.le_of_ble_eq_true rfl) (Nat.le_of_ble_eq_true rfl) dX0_init_65 (fun q8 H hP hD hS => ?_)
  have hP : va_P D vwCl [(h0, .inr (0, [.int 0, .int 0, .int 0, .int 0, .int 0, .int 0, .ref q1, .ref q2, .ref q3, .ref q4, .ref q5, .ref q6, .ref q7, .null, .null, .null, .null])), (q1, .inl (Z 0, 24, .inl (fun _ => -1))), (q2, .inl (Z 0, 18, .inl (fun _ => -1))), (q3, .inl (Z 0, 6, .inl (fun _ => 0))), (q4, .inl (Z 0, 6, .inl (fun _ => 0))), (q5, .inl (Z 0, 6, .inl (fun _ => 0))), (q6, .inl (Z 0, 54, .inl (fun _ => 0))), (q7, .inl (Z 0, 54, .inl (fun _ => 0))), (q8, .inl (Z 0, 54, .inl (fun _ => 0)))] H := hP
  have hD : va_D A [(h0, .inr (0, [.int 0, .int 0, .int 0, .int 0, .int 0, .int 0, .ref q1, .ref q2, .ref q3, .ref q4, .ref q5, .ref q6, .ref q7, .null, .null, .null, .null])), (q1, .inl (Z 0, 24, .inl (fun _ => -1))), (q2, .inl (Z 0, 18, .inl (fun _ => -1))), (q3, .inl (Z 0, 6, .inl (fun _ => 0))), (q4, .inl (Z 0, 6, .inl (fun _ => 0))), (q5, .inl (Z 0, 6, .inl (fun _ => 0))), (q6, .inl (Z 0, 54, .inl (fun _ => 0))), (q7, .inl (Z 0, 54, .inl (fun _ => 0))), (q8, .inl (Z 0, 54, .inl (fun _ => 0)))] := hD
  refine va_putF (D := D) (ci := 0) (v := .ref q8) (ty := .array .int) (C := RX0) (T := TX0) (N := 17) hx hb hts hin tyX0 tyX0_ok nmX0 hown hK hP hD hS 0 rfl rfl 13 (by decide) (hts (.fieldLink RX0 37 "PodGuideway$Ring" "riderCame" "[I") (List.mem_of_getElem? (i := 12) rfl)) (fun _ h9 => h9) rfl hinn rfl (by decide +kernel) rfl rfl (Nat.le_of_ble_eq_true rfl) dX0_init_67 (fun H locs hP hD hS => ?_)
  have hP : va_P D vwCl [(h0, .inr (0, [.int 0, .int 0, .int 0, .int 0, .int 0, .int 0, .ref q1, .ref q2, .ref q3, .ref q4, .ref q5, .ref q6, .ref q7, .ref q8, .null, .null, .null])), (q1, .inl (Z 0, 24, .inl (fun _ => -1))), (q2, .inl (Z 0, 18, .inl (fun _ => -1))), (q3, .inl (Z 0, 6, .inl (fun _ => 0))), (q4, .inl (Z 0, 6, .inl (fun _ => 0))), (q5, .inl (Z 0, 6, .inl (fun _ => 0))), (q6, .inl (Z 0, 54, .inl (fun _ => 0))), (q7, .inl (Z 0, 54, .inl (fun _ => 0))), (q8, .inl (Z 0, 54, .inl (fun _ => 0)))] H := hP
  have hD : va_D A [(h0, .inr (0, [.int 0, .int 0, .int 0, .int 0, .int 0, .int 0, .ref q1, .ref q2, .ref q3, .ref q4, .ref q5, .ref q6, .ref q7, .ref q8, .null, .null, .null])), (q1, .inl (Z 0, 24, .inl (fun _ => -1))), (q2, .inl (Z 0, 18, .inl (fun _ => -1))), (q3, .inl (Z 0, 6, .inl (fun _ => 0))), (q4, .inl (Z 0, 6, .inl (fun _ => 0))), (q5, .inl (Z 0, 6, .inl (fun _ => 0))), (q6, .inl (Z 0, 54, .inl (fun _ => 0))), (q7, .inl (Z 0, 54, .inl (fun _ => 0))), (q8, .inl (Z 0, 54, .inl (fun _ => 0)))] := hD
  refine lv_aload_n hx hb dX0_init_70 rfl (lv_at hl 0 rfl) ?_
  refine lv_bipush (v := 12) hx hb dX0_init_71 (by decide) ?_
  refine zc_rn (z_SD (As := [.int 12]) (rest := [.ref h0]) (w0 := []) ⟨hx, hb, hml, hown, hts⟩ (m_X0_emptyRow l D Z 12 12 (by decide) (by decide) (by decide) (by decide) (by decide)) gX0_init_X0_emptyRow rfl rfl rfl hds_X0_emptyRow ⟨Nat.le_of_ble_eq_true rfl, Nat.le_of_ble_eq_true rfl⟩ hK (hP.sub (ws' := []) [] rfl) (hD.sub (ws' := []) [] (by decide) rfl) rfl hl.1 rfl (Nat.le_of_ble_eq_true rfl) dX0_init_73 ⟨Nat.le_of_ble_eq_true rfl, Nat.le_of_ble_eq_true rfl⟩) hP hD hS hA (fun q9 H locs hP hD hS => ?_)
  have hP : va_P D vwCl [(h0, .inr (0, [.int 0, .int 0, .int 0, .int 0, .int 0, .int 0, .ref q1, .ref q2, .ref q3, .ref q4, .ref q5, .ref q6, .ref q7, .ref q8, .null, .null, .null])), (q1, .inl (Z 0, 24, .inl (fun _ => -1))), (q2, .inl (Z 0, 18, .inl (fun _ => -1))), (q3, .inl (Z 0, 6, .inl (fun _ => 0))), (q4, .inl (Z 0, 6, .inl (fun _ => 0))), (q5, .inl (Z 0, 6, .inl (fun _ => 0))), (q6, .inl (Z 0, 54, .inl (fun _ => 0))), (q7, .inl (Z 0, 54, .inl (fun _ => 0))), (q8, .inl (Z 0, 54, .inl (fun _ => 0))), (q9, .inl (Z 0, 12, .inl (fun _ => -1)))] H := hP
  have hD : va_D A [(h0, .inr (0, [.int 0, .int 0, .int 0, .int 0, .int 0, .int 0, .ref q1, .ref q2, .ref q3, .ref q4, .ref q5, .ref q6, .ref q7, .ref q8, .null, .null, .null])), (q1, .inl (Z 0, 24, .inl (fun _ => -1))), (q2, .inl (Z 0, 18, .inl (fun _ => -1))), (q3, .inl (Z 0, 6, .inl (fun _ => 0))), (q4, .inl (Z 0, 6, .inl (fun _ => 0))), (q5, .inl (Z 0, 6, .inl (fun _ => 0))), (q6, .inl (Z 0, 54, .inl (fun _ => 0))), (q7, .inl (Z 0, 54, .inl (fun _ => 0))), (q8, .inl (Z 0, 54, .inl (fun _ => 0))), (q9, .inl (Z 0, 12, .inl (fun _ => -1)))] := hD
  refine va_putF (D := D) (ci := 0) (v := .ref q9) (ty := .array .int) (C := RX0) (T := TX0) (N := 17) hx hb hts hin tyX0 tyX0_ok nmX0 hown hK hP hD hS 0 rfl rfl 14 (by decide) (hts (.fieldLink RX0 40 "PodGuideway$Ring" "podGoal" "[I") (List.mem_of_getElem? (i := 13) rfl)) (fun _ h9 => h9) rfl hinn rfl (by decide +kernel) rfl rfl (Nat.le_of_ble_eq_true rfl) dX0_init_76 (fun H locs hP hD hS => ?_)
  have hP : va_P D vwCl [(h0, .inr (0, [.int 0, .int 0, .int 0, .int 0, .int 0, .int 0, .ref q1, .ref q2, .ref q3, .ref q4, .ref q5, .ref q6, .ref q7, .ref q8, .ref q9, .null, .null])), (q1, .inl (Z 0, 24, .inl (fun _ => -1))), (q2, .inl (Z 0, 18, .inl (fun _ => -1))), (q3, .inl (Z 0, 6, .inl (fun _ => 0))), (q4, .inl (Z 0, 6, .inl (fun _ => 0))), (q5, .inl (Z 0, 6, .inl (fun _ => 0))), (q6, .inl (Z 0, 54, .inl (fun _ => 0))), (q7, .inl (Z 0, 54, .inl (fun _ => 0))), (q8, .inl (Z 0, 54, .inl (fun _ => 0))), (q9, .inl (Z 0, 12, .inl (fun _ => -1)))] H := hP
  have hD : va_D A [(h0, .inr (0, [.int 0, .int 0, .int 0, .int 0, .int 0, .int 0, .ref q1, .ref q2, .ref q3, .ref q4, .ref q5, .ref q6, .ref q7, .ref q8, .ref q9, .null, .null])), (q1, .inl (Z 0, 24, .inl (fun _ => -1))), (q2, .inl (Z 0, 18, .inl (fun _ => -1))), (q3, .inl (Z 0, 6, .inl (fun _ => 0))), (q4, .inl (Z 0, 6, .inl (fun _ => 0))), (q5, .inl (Z 0, 6, .inl (fun _ => 0))), (q6, .inl (Z 0, 54, .inl (fun _ => 0))), (q7, .inl (Z 0, 54, .inl (fun _ => 0))), (q8, .inl (Z 0, 54, .inl (fun _ => 0))), (q9, .inl (Z 0, 12, .inl (fun _ => -1)))] := hD
  refine lv_aload_n hx hb dX0_init_79 rfl (lv_at hl 0 rfl) ?_
  refine lv_bipush (v := 12) hx hb dX0_init_80 (by decide) ?_
  refine zc_rn (z_SD (As := [.int 12]) (rest := [.ref h0]) (w0 := []) ⟨hx, hb, hml, hown, hts⟩ (m_X0_emptyRow l D Z 12 12 (by decide) (by decide) (by decide) (by decide) (by decide)) gX0_init_X0_emptyRow rfl rfl rfl hds_X0_emptyRow ⟨Nat.le_of_ble_eq_true rfl, Nat.le_of_ble_eq_true rfl⟩ hK (hP.sub (ws' := []) [] rfl) (hD.sub (ws' := []) [] (by decide) rfl) rfl hl.1 rfl (Nat.le_of_ble_eq_true rfl) dX0_init_82 ⟨Nat.le_of_ble_eq_true rfl, Nat.le_of_ble_eq_true rfl⟩) hP hD hS hA (fun q10 H locs hP hD hS => ?_)
  have hP : va_P D vwCl [(h0, .inr (0, [.int 0, .int 0, .int 0, .int 0, .int 0, .int 0, .ref q1, .ref q2, .ref q3, .ref q4, .ref q5, .ref q6, .ref q7, .ref q8, .ref q9, .null, .null])), (q1, .inl (Z 0, 24, .inl (fun _ => -1))), (q2, .inl (Z 0, 18, .inl (fun _ => -1))), (q3, .inl (Z 0, 6, .inl (fun _ => 0))), (q4, .inl (Z 0, 6, .inl (fun _ => 0))), (q5, .inl (Z 0, 6, .inl (fun _ => 0))), (q6, .inl (Z 0, 54, .inl (fun _ => 0))), (q7, .inl (Z 0, 54, .inl (fun _ => 0))), (q8, .inl (Z 0, 54, .inl (fun _ => 0))), (q9, .inl (Z 0, 12, .inl (fun _ => -1))), (q10, .inl (Z 0, 12, .inl (fun _ => -1)))] H := hP
  have hD : va_D A [(h0, .inr (0, [.int 0, .int 0, .int 0, .int 0, .int 0, .int 0, .ref q1, .ref q2, .ref q3, .ref q4, .ref q5, .ref q6, .ref q7, .ref q8, .ref q9, .null, .null])), (q1, .inl (Z 0, 24, .inl (fun _ => -1))), (q2, .inl (Z 0, 18, .inl (fun _ => -1))), (q3, .inl (Z 0, 6, .inl (fun _ => 0))), (q4, .inl (Z 0, 6, .inl (fun _ => 0))), (q5, .inl (Z 0, 6, .inl (fun _ => 0))), (q6, .inl (Z 0, 54, .inl (fun _ => 0))), (q7, .inl (Z 0, 54, .inl (fun _ => 0))), (q8, .inl (Z 0, 54, .inl (fun _ => 0))), (q9, .inl (Z 0, 12, .inl (fun _ => -1))), (q10, .inl (Z 0, 12, .inl (fun _ => -1)))] := hD
  refine va_putF (D := D) (ci := 0) (v := .ref q10) (ty := .array .int) (C := RX0) (T := TX0) (N := 17) hx hb hts hin tyX0 tyX0_ok nmX0 hown hK hP hD hS 0 rfl rfl 15 (by decide) (hts (.fieldLink RX0 43 "PodGuideway$Ring" "podRider" "[I") (List.mem_of_getElem? (i := 14) rfl)) (fun _ h9 => h9) rfl hinn rfl (by decide +kernel) rfl rfl (Nat.le_of_ble_eq_true rfl) dX0_init_85 (fun H locs hP hD hS => ?_)
  have hP : va_P D vwCl [(h0, .inr (0, [.int 0, .int 0, .int 0, .int 0, .int 0, .int 0, .ref q1, .ref q2, .ref q3, .ref q4, .ref q5, .ref q6, .ref q7, .ref q8, .ref q9, .ref q10, .null])), (q1, .inl (Z 0, 24, .inl (fun _ => -1))), (q2, .inl (Z 0, 18, .inl (fun _ => -1))), (q3, .inl (Z 0, 6, .inl (fun _ => 0))), (q4, .inl (Z 0, 6, .inl (fun _ => 0))), (q5, .inl (Z 0, 6, .inl (fun _ => 0))), (q6, .inl (Z 0, 54, .inl (fun _ => 0))), (q7, .inl (Z 0, 54, .inl (fun _ => 0))), (q8, .inl (Z 0, 54, .inl (fun _ => 0))), (q9, .inl (Z 0, 12, .inl (fun _ => -1))), (q10, .inl (Z 0, 12, .inl (fun _ => -1)))] H := hP
  have hD : va_D A [(h0, .inr (0, [.int 0, .int 0, .int 0, .int 0, .int 0, .int 0, .ref q1, .ref q2, .ref q3, .ref q4, .ref q5, .ref q6, .ref q7, .ref q8, .ref q9, .ref q10, .null])), (q1, .inl (Z 0, 24, .inl (fun _ => -1))), (q2, .inl (Z 0, 18, .inl (fun _ => -1))), (q3, .inl (Z 0, 6, .inl (fun _ => 0))), (q4, .inl (Z 0, 6, .inl (fun _ => 0))), (q5, .inl (Z 0, 6, .inl (fun _ => 0))), (q6, .inl (Z 0, 54, .inl (fun _ => 0))), (q7, .inl (Z 0, 54, .inl (fun _ => 0))), (q8, .inl (Z 0, 54, .inl (fun _ => 0))), (q9, .inl (Z 0, 12, .inl (fun _ => -1))), (q10, .inl (Z 0, 12, .inl (fun _ => -1)))] := hD
  refine lv_aload_n hx hb dX0_init_88 rfl (lv_at hl 0 rfl) ?_
  refine lv_bipush (v := 12) hx hb dX0_init_89 (by decide) ?_
  refine z_newa (N1 := 12) hx hb (hts (.arrayClass .int) (List.mem_of_getElem? (i := 6) rfl)) hK hP hD hS hA (by decide) (by decide) (by decide) (Nat.le_of_ble_eq_true rfl) (Nat.le_of_ble_eq_true rfl) dX0_init_91 (fun q11 H hP hD hS => ?_)
  have hP : va_P D vwCl [(h0, .inr (0, [.int 0, .int 0, .int 0, .int 0, .int 0, .int 0, .ref q1, .ref q2, .ref q3, .ref q4, .ref q5, .ref q6, .ref q7, .ref q8, .ref q9, .ref q10, .null])), (q1, .inl (Z 0, 24, .inl (fun _ => -1))), (q2, .inl (Z 0, 18, .inl (fun _ => -1))), (q3, .inl (Z 0, 6, .inl (fun _ => 0))), (q4, .inl (Z 0, 6, .inl (fun _ => 0))), (q5, .inl (Z 0, 6, .inl (fun _ => 0))), (q6, .inl (Z 0, 54, .inl (fun _ => 0))), (q7, .inl (Z 0, 54, .inl (fun _ => 0))), (q8, .inl (Z 0, 54, .inl (fun _ => 0))), (q9, .inl (Z 0, 12, .inl (fun _ => -1))), (q10, .inl (Z 0, 12, .inl (fun _ => -1))), (q11, .inl (Z 0, 12, .inl (fun _ => 0)))] H := hP
  have hD : va_D A [(h0, .inr (0, [.int 0, .int 0, .int 0, .int 0, .int 0, .int 0, .ref q1, .ref q2, .ref q3, .ref q4, .ref q5, .ref q6, .ref q7, .ref q8, .ref q9, .ref q10, .null])), (q1, .inl (Z 0, 24, .inl (fun _ => -1))), (q2, .inl (Z 0, 18, .inl (fun _ => -1))), (q3, .inl (Z 0, 6, .inl (fun _ => 0))), (q4, .inl (Z 0, 6, .inl (fun _ => 0))), (q5, .inl (Z 0, 6, .inl (fun _ => 0))), (q6, .inl (Z 0, 54, .inl (fun _ => 0))), (q7, .inl (Z 0, 54, .inl (fun _ => 0))), (q8, .inl (Z 0, 54, .inl (fun _ => 0))), (q9, .inl (Z 0, 12, .inl (fun _ => -1))), (q10, .inl (Z 0, 12, .inl (fun _ => -1))), (q11, .inl (Z 0, 12, .inl (fun _ => 0)))] := hD
  refine va_putF (D := D) (ci := 0) (v := .ref q11) (ty := .array .int) (C := RX0) (T := TX0) (N := 17) hx hb hts hin tyX0 tyX0_ok nmX0 hown hK hP hD hS 0 rfl rfl 16 (by decide) (hts (.fieldLink RX0 46 "PodGuideway$Ring" "podBarred" "[I") (List.mem_of_getElem? (i := 15) rfl)) (fun _ h9 => h9) rfl hinn rfl (by decide +kernel) rfl rfl (Nat.le_of_ble_eq_true rfl) dX0_init_93 (fun H locs hP hD hS => ?_)
  have hP : va_P D vwCl [(h0, .inr (0, [.int 0, .int 0, .int 0, .int 0, .int 0, .int 0, .ref q1, .ref q2, .ref q3, .ref q4, .ref q5, .ref q6, .ref q7, .ref q8, .ref q9, .ref q10, .ref q11])), (q1, .inl (Z 0, 24, .inl (fun _ => -1))), (q2, .inl (Z 0, 18, .inl (fun _ => -1))), (q3, .inl (Z 0, 6, .inl (fun _ => 0))), (q4, .inl (Z 0, 6, .inl (fun _ => 0))), (q5, .inl (Z 0, 6, .inl (fun _ => 0))), (q6, .inl (Z 0, 54, .inl (fun _ => 0))), (q7, .inl (Z 0, 54, .inl (fun _ => 0))), (q8, .inl (Z 0, 54, .inl (fun _ => 0))), (q9, .inl (Z 0, 12, .inl (fun _ => -1))), (q10, .inl (Z 0, 12, .inl (fun _ => -1))), (q11, .inl (Z 0, 12, .inl (fun _ => 0)))] H := hP
  have hD : va_D A [(h0, .inr (0, [.int 0, .int 0, .int 0, .int 0, .int 0, .int 0, .ref q1, .ref q2, .ref q3, .ref q4, .ref q5, .ref q6, .ref q7, .ref q8, .ref q9, .ref q10, .ref q11])), (q1, .inl (Z 0, 24, .inl (fun _ => -1))), (q2, .inl (Z 0, 18, .inl (fun _ => -1))), (q3, .inl (Z 0, 6, .inl (fun _ => 0))), (q4, .inl (Z 0, 6, .inl (fun _ => 0))), (q5, .inl (Z 0, 6, .inl (fun _ => 0))), (q6, .inl (Z 0, 54, .inl (fun _ => 0))), (q7, .inl (Z 0, 54, .inl (fun _ => 0))), (q8, .inl (Z 0, 54, .inl (fun _ => 0))), (q9, .inl (Z 0, 12, .inl (fun _ => -1))), (q10, .inl (Z 0, 12, .inl (fun _ => -1))), (q11, .inl (Z 0, 12, .inl (fun _ => 0)))] := hD
  obtain ⟨a, ha⟩ : ∃ a : Nat → Nat, a = fun k => match k with | 0 => h0 | 1 => q1 | 2 => q2 | 3 => q3 | 4 => q4 | 5 => q5 | 6 => q6 | 7 => q7 | 8 => q8 | 9 => q9 | 10 => q10 | _ => q11 := ⟨_, rfl⟩
  have hP : va_P D vwCl (rwl Z a rI0) H := by rw [ha]; exact hP
  have hD : va_D A (rwl Z a rI0) := by rw [ha]; exact hD
  refine W.widen (k := 11) (n := 258) (Nat.le_of_ble_eq_true rfl) (Nat.le_of_ble_eq_true rfl) ?_
  exact W.vret hx hb hr (fun t ht hW => ⟨⟨a, rfl, congrFun ha 0, by rw [ht]; exact hP, hD⟩, hS.F ht⟩) hS.2.2 dX0_init_96 hlk
abbrev rm_X1_init : Room := { frames := 5, cells := 24, slots := 550, locals := 180 }
theorem hdi_X1_init : yX1_init.cls ≠ "java/lang/invoke/MethodHandle" ∧ yX1_init.cls ≠ "java/lang/invoke/VarHandle" ∧ (parseMethodDescriptor yX1_init.desc).map (fun d => d.parameters.length) = some 0 := by decide +kernel
set_option maxHeartbeats 4000000 in
set_option maxRecDepth 100000 in
theorem m_X1_init (l : Launch) (D : va_G) (Z : Nat → ClassId) (o : Nat) : ∀ sz : Nat, Met l yX1_init wsX1_init rm_X1_init (va_Pc [.ref o] (gPre D Z xE [(o, .inr (1, [.null, .null]))] sz)) (va_Qv (fun (_ : (Nat → Nat) × (Nat → Nat)) => True) (fun u t => va_P D vwCl (owl Z o u.1 u.2 rI0 rI0) t.heap ∧ va_D (va_A [(o, .inr (1, [.null, .null]))] sz) (owl Z o u.1 u.2 rI0 rI0)) (va_A [(o, .inr (1, [.null, .null]))] sz)) 24 550 (va_A [(o, .inr (1, [.null, .null]))] sz) := fun sz => by
  refine z_open (cc := cX1_init) (nL := 1) (ret := none) (by decide +kernel) rfl (Nat.le_of_ble_eq_true rfl) ?_
  intro p e s m below meth c hC hB ls hl
  obtain ⟨⟨hsz, hP, hK, hD0⟩, hE⟩ := hB
  subst hsz
  obtain ⟨hx, hb, hr, hml, hown, hts, hlk, hinn⟩ := hC
  have hown : s.vm.findClass RX1 = some m.cls := hown
  have hinn : meth.name = "<init>" := hinn
  have hNm := hE.2.2.2.1
  have hD := hD0.self (sz := s.heap.size)
  generalize hAe : va_A [(o, .inr (1, [.null, .null]))] s.heap.size = A at hD ⊢
  have hA : ∀ q : Nat, s.heap.size ≤ q → A q := fun q h => by rw [← hAe]; exact Or.inr h
  have hS : va_S A s.heap s.heap [] := va_S.rf
  have hin1 : ∀ w ∈ wsX10, w ∈ wsX1_init := fun w h => List.mem_cons_of_mem _ (List.mem_append_right _ h)
  have hin0 : ∀ w ∈ wsX00, w ∈ wsX1_init := fun w h => List.mem_cons_of_mem _ (List.mem_append_left _ (List.mem_append_right _ h))
  have hl : lv_has ls 1 [(0, .ref o)] := hl
  refine lv_aload_n hx hb dX1_init_0 rfl (lv_at hl 0 rfl) ?_
  refine W.objInit hx hb hown (hts (.methodLink RX1 1 objectInit) (List.mem_of_getElem? (i := 1) rfl)) (hts (.instanceMethod objectInit) (List.mem_of_getElem? (i := 2) rfl)) (hts _ (List.mem_of_getElem? (i := 3) rfl)) rfl (by rw [hml]; exact hl.1) rfl dX1_init_1 (Nat.le_of_ble_eq_true rfl) (Nat.le_of_ble_eq_true rfl) ?_
  refine W.eq (g2 := F0 m 4 ls []) rfl ?_
  refine lv_aload_n hx hb dX1_init_4 rfl (lv_at hl 0 rfl) ?_
  refine va_new (ci := 0) (fs := [.int 0, .int 0, .int 0, .int 0, .int 0, .int 0, .null, .null, .null, .null, .null, .null, .null, .null, .null, .null, .null]) (C := RX0) (T := TX0) (N := 17) hx hb hts hin0 tyX0 tyX0_ok hown (hts (.classLink RX1 7 RX0) (List.mem_of_getElem? (i := 4) rfl)) (hts (.instantiable RX0 17) (List.mem_of_getElem? (i := 5) rfl)) (hts (.initialized RX0) (List.mem_of_getElem? (i := 6) rfl)) hK hP hD hS hA rfl (fun j hj => co_dec (N := 17) (P := fun j => defaultValue (tyX0 j) = vp_V [.int 0, .int 0, .int 0, .int 0, .int 0, .int 0, .null, .null, .null, .null, .null, .null, .null, .null, .null, .null, .null] j) (by decide) hj) (Nat.le_of_ble_eq_true rfl) (Nat.le_of_ble_eq_true rfl) dX1_init_5 (fun ada H hP hD hS => ?_)
  have hP : va_P D vwCl ([(o, .inr (1, [.null, .null]))] ++ [(ada, .inr (0, [.int 0, .int 0, .int 0, .int 0, .int 0, .int 0, .null, .null, .null, .null, .null, .null, .null, .null, .null, .null, .null]))]) H := hP
  have hD : va_D A ([(o, .inr (1, [.null, .null]))] ++ [(ada, .inr (0, [.int 0, .int 0, .int 0, .int 0, .int 0, .int 0, .null, .null, .null, .null, .null, .null, .null, .null, .null, .null, .null]))]) := hD
  refine lv_dup hx hb dX1_init_8 rfl ?_
  have hPc := hP.sub (ws' := [(ada, .inr (0, [.int 0, .int 0, .int 0, .int 0, .int 0, .int 0, .null, .null, .null, .null, .null, .null, .null, .null, .null, .null, .null]))]) [1] rfl
  have hDc := hD.sub (ws' := [(ada, .inr (0, [.int 0, .int 0, .int 0, .int 0, .int 0, .int 0, .null, .null, .null, .null, .null, .null, .null, .null, .null, .null, .null]))]) [1] (by decide) rfl
  have hFc := va_free (wc := [(ada, .inr (0, [.int 0, .int 0, .int 0, .int 0, .int 0, .int 0, .null, .null, .null, .null, .null, .null, .null, .null, .null, .null, .null]))]) hD hS hA [1] rfl
  refine va_callv (va_runIN (As := []) (rest := [.ref ada, .ref o]) ⟨hx, hb, hml, hown, hts⟩ (m_X0_init l D Z ada H.size) ⟨va_cnB 0 hts gX1_init_X0_init_n9 rfl rfl rfl (hNm (9, yX0_init) (List.mem_of_getElem? (i := 0) rfl)) (hts (.initialized RX0) (List.mem_of_getElem? (i := 6) rfl)) hdi_X0_init ⟨Nat.le_of_ble_eq_true rfl, Nat.le_of_ble_eq_true rfl⟩, rfl, (hts (.instanceMethod yX0_init) (List.mem_of_getElem? (i := 9) rfl))⟩ ⟨z_blind, z_pre hK hPc hDc⟩ rfl rfl hl.1 rfl (lv_room (Nat.le_of_ble_eq_true rfl)) dX1_init_9 ⟨Nat.le_of_ble_eq_true rfl, Nat.le_of_ble_eq_true rfl⟩) hS (fun q _ h => hFc q h) hFc (fun a t H1 locs ht _ hw hB _ hk1 hS => ?_)
  obtain ⟨hP1, hD1⟩ := hB
  rw [ht] at hP1
  obtain ⟨hP, hD⟩ := va_join (wr := [(o, .inr (1, [.null, .null]))]) (w1 := rwl Z a rI0) hP hD [1] [0] rfl rfl (by decide) (by decide) hk1 hFc hP1 hD1
  rw [← hw]
  refine va_putF (D := D) (ci := 1) (v := .ref (a 0)) (ty := .object RX0) (C := RX1) (T := TX1) (N := 2) hx hb hts hin1 tyX1 tyX1_ok nmX1 hown hK hP hD hS 0 rfl rfl 0 (by decide) (hts (.fieldLink RX1 10 "PodGuideway" "now" "LPodGuideway$Ring;") (List.mem_of_getElem? (i := 7) rfl)) (fun _ h9 => h9) rfl hinn rfl (by decide +kernel) rfl rfl (Nat.le_of_ble_eq_true rfl) dX1_init_12 (fun H locs hP hD hS => ?_)
  have hP : va_P D vwCl ((o, .inr (1, [.ref (a 0), .null])) :: rwl Z a rI0) H := hP
  have hD : va_D A ((o, .inr (1, [.ref (a 0), .null])) :: rwl Z a rI0) := hD
  refine lv_aload_n hx hb dX1_init_15 rfl (lv_at hl 0 rfl) ?_
  refine va_new (ci := 0) (fs := [.int 0, .int 0, .int 0, .int 0, .int 0, .int 0, .null, .null, .null, .null, .null, .null, .null, .null, .null, .null, .null]) (C := RX0) (T := TX0) (N := 17) hx hb hts hin0 tyX0 tyX0_ok hown (hts (.classLink RX1 7 RX0) (List.mem_of_getElem? (i := 4) rfl)) (hts (.instantiable RX0 17) (List.mem_of_getElem? (i := 5) rfl)) (hts (.initialized RX0) (List.mem_of_getElem? (i := 6) rfl)) hK hP hD hS hA rfl (fun j hj => co_dec (N := 17) (P := fun j => defaultValue (tyX0 j) = vp_V [.int 0, .int 0, .int 0, .int 0, .int 0, .int 0, .null, .null, .null, .null, .null, .null, .null, .null, .null, .null, .null] j) (by decide) hj) (Nat.le_of_ble_eq_true rfl) (Nat.le_of_ble_eq_true rfl) dX1_init_16 (fun adb H hP hD hS => ?_)
  have hP : va_P D vwCl (((o, .inr (1, [.ref (a 0), .null])) :: rwl Z a rI0) ++ [(adb, .inr (0, [.int 0, .int 0, .int 0, .int 0, .int 0, .int 0, .null, .null, .null, .null, .null, .null, .null, .null, .null, .null, .null]))]) H := hP
  have hD : va_D A (((o, .inr (1, [.ref (a 0), .null])) :: rwl Z a rI0) ++ [(adb, .inr (0, [.int 0, .int 0, .int 0, .int 0, .int 0, .int 0, .null, .null, .null, .null, .null, .null, .null, .null, .null, .null, .null]))]) := hD
  refine lv_dup hx hb dX1_init_19 rfl ?_
  have hPc := hP.sub (ws' := [(adb, .inr (0, [.int 0, .int 0, .int 0, .int 0, .int 0, .int 0, .null, .null, .null, .null, .null, .null, .null, .null, .null, .null, .null]))]) [13] rfl
  have hDc := hD.sub (ws' := [(adb, .inr (0, [.int 0, .int 0, .int 0, .int 0, .int 0, .int 0, .null, .null, .null, .null, .null, .null, .null, .null, .null, .null, .null]))]) [13] (by decide) rfl
  have hFc := va_free (wc := [(adb, .inr (0, [.int 0, .int 0, .int 0, .int 0, .int 0, .int 0, .null, .null, .null, .null, .null, .null, .null, .null, .null, .null, .null]))]) hD hS hA [13] rfl
  refine va_callv (va_runIN (As := []) (rest := [.ref adb, .ref o]) ⟨hx, hb, hml, hown, hts⟩ (m_X0_init l D Z adb H.size) ⟨va_cnB 0 hts gX1_init_X0_init_n9 rfl rfl rfl (hNm (9, yX0_init) (List.mem_of_getElem? (i := 0) rfl)) (hts (.initialized RX0) (List.mem_of_getElem? (i := 6) rfl)) hdi_X0_init ⟨Nat.le_of_ble_eq_true rfl, Nat.le_of_ble_eq_true rfl⟩, rfl, (hts (.instanceMethod yX0_init) (List.mem_of_getElem? (i := 9) rfl))⟩ ⟨z_blind, z_pre hK hPc hDc⟩ rfl rfl hl.1 rfl (lv_room (Nat.le_of_ble_eq_true rfl)) dX1_init_20 ⟨Nat.le_of_ble_eq_true rfl, Nat.le_of_ble_eq_true rfl⟩) hS (fun q _ h => hFc q h) hFc (fun b t H1 locs ht _ hw hB _ hk1 hS => ?_)
  obtain ⟨hP1, hD1⟩ := hB
  rw [ht] at hP1
  obtain ⟨hP, hD⟩ := va_join (wr := ((o, .inr (1, [.ref (a 0), .null])) :: rwl Z a rI0)) (w1 := rwl Z b rI0) hP hD [13] [0, 1, 2, 3, 4, 5, 6, 7, 8, 9, 10, 11, 12] rfl rfl (by decide) (by decide) hk1 hFc hP1 hD1
  rw [← hw]
  refine va_putF (D := D) (ci := 1) (v := .ref (b 0)) (ty := .object RX0) (C := RX1) (T := TX1) (N := 2) hx hb hts hin1 tyX1 tyX1_ok nmX1 hown hK hP hD hS 0 rfl rfl 1 (by decide) (hts (.fieldLink RX1 16 "PodGuideway" "ahead" "LPodGuideway$Ring;") (List.mem_of_getElem? (i := 8) rfl)) (fun _ h9 => h9) rfl hinn rfl (by decide +kernel) rfl rfl (Nat.le_of_ble_eq_true rfl) dX1_init_23 (fun H locs hP hD hS => ?_)
  have hP : va_P D vwCl (owl Z o a b rI0 rI0) H := hP
  have hD : va_D A (owl Z o a b rI0 rI0) := hD
  refine W.widen (k := 24) (n := 550) (Nat.le_of_ble_eq_true rfl) (Nat.le_of_ble_eq_true rfl) ?_
  exact W.vret hx hb hr (fun t ht hW => ⟨⟨(a, b), rfl, trivial, by rw [ht]; exact hP, hD⟩, hS.F ht⟩) hS.2.2 dX1_init_26 hlk
def f_X1_mean (S : RS) : Option UInt64 :=
  ob (f_X0_waitingInAll S) fun v3 =>
  if 0 < v3 then
    ob (f_X0_waitedInAll S) fun v5 =>
    some (FP.ddiv (FP.i2d v5) (FP.i2d v3))
  else
    some FP.dconst0
abbrev rm_X1_mean : Room := { frames := 4, cells := 0, slots := 0, locals := 131 }
theorem hdv_X1_mean : yX1_mean.cls = RX1 ∧ yX1_mean.cls ≠ "java/lang/invoke/MethodHandle" ∧ yX1_mean.cls ≠ "java/lang/invoke/VarHandle" ∧ (parseMethodDescriptor yX1_mean.desc).map (fun d => d.parameters.length) = some 0 := by decide +kernel
theorem al0 : alike64 FP.dconst0 FP.dconst0 = true := by decide +kernel
set_option maxHeartbeats 4000000 in
set_option maxRecDepth 100000 in
theorem ok_X1_mean (l : Launch) (D : va_G) (Z : Nat → ClassId) (o : Nat) (a b : Nat → Nat) (S T : RS) (v : UInt64) (hf : f_X1_mean S = some v) : ∀ sz : Nat, MetD lw_cs l yX1_mean wsX1_mean rm_X1_mean (va_Pc [.ref o] (gPre D Z xE (owl Z o a b S T) sz)) (va_Qd (fun (r : UInt64) (_ : Unit) => alike64 r v = true) (fun _ _ => True) (fun q => sz ≤ q)) 0 0 (fun q => sz ≤ q) := fun sz => by
  refine MetD.ofW (cc := cX1_mean) (maxL := 2) (ret := some .double) (by decide +kernel) rfl ?_
  intro p e s m args below meth c s₁ B hml hv hd0
  obtain ⟨rfl, ⟨hsz, hP, hK, hD⟩, hE⟩ := hv
  subst hsz
  have hx := B.exec
  have hb := B.bytes
  have hr := B.returns
  have hts := atoms_spec (ws := wsX1_mean) B.pre
  have hts := dr_words hts s.drawn
  have hown : s.vm.findClass RX1 = some m.cls := findClass_of_methodNamed B.named
  have hlk := B.notSynchronized
  have hNm : ∀ q ∈ xNm, va_Nw (.methodLinkNest RX1 q.1 q.2 RX1) (s.setDrawn s.drawn) := fun q hq => (Cond.before_setDrawn _ s _ _).trans (hE.2.2.2.1 q hq)
  have hin1 : ∀ w ∈ wsX10, w ∈ wsX1_mean := fun w h => List.mem_cons_of_mem _ (List.mem_append_left _ (List.mem_append_right _ h))
  have hS : va_S (fun q : Nat => s.heap.size ≤ q) s.heap s.heap [] := va_S.rf
  have hA : ∀ q : Nat, s.heap.size ≤ q → (fun q : Nat => s.heap.size ≤ q) q := fun _ h => h
  have hK : zK D Z (s.setDrawn s.drawn) := hK
  have hown : (s.setDrawn s.drawn).vm.findClass RX1 = some m.cls := hown
  have hl := lv_entry ([.ref o]) (n := 2) (Nat.le_of_ble_eq_true rfl)
  rw [lg_entry_eq]
  generalize (lg_sl ([.ref o]) ++ List.replicate (2 - (lg_sl ([.ref o])).length) Slot.unset).toArray = ls at hl ⊢
  have hl : lv_has ls 2 [(0, .ref o)] := hl
  unfold f_X1_mean at hf
  refine lv_aload_n hx hb dX1_mean_0 rfl (lv_at hl 0 rfl) ?_
  refine va_get (D := D) (ci := 1) (v := .ref (a 0)) (C := RX1) (T := TX1) (N := 2) hx hb hts hin1 hown hK hP 0 rfl rfl 0 (by decide) (hts (.fieldLink RX1 10 "PodGuideway" "now" "LPodGuideway$Ring;") (List.mem_of_getElem? (i := 1) rfl)) (fun _ h9 => h9) rfl dX1_mean_1 ?_
  obtain ⟨v3, hv3, hf⟩ := ob_some hf
  refine zc_i (z_VN (As := []) (rest := []) (q0 := 0) (ci := 0) ⟨hx, hb, hml, hown, hts⟩ (m_X0_waitingInAll l D Z a S v3 hv3) gX1_mean_X0_waitingInAll_n136 rfl rfl rfl (hNm (136, yX0_waitingInAll) (List.mem_of_getElem? (i := 20) rfl)) (hts (.initialized RX0) (List.mem_of_getElem? (i := 3) rfl)) (hts (.instanceMethod yX0_waitingInAll) (List.mem_of_getElem? (i := 2) rfl)) (hts (.selects RX0 yX0_waitingInAll yX0_waitingInAll) (List.mem_of_getElem? (i := 4) rfl)) hdv_X0_waitingInAll ⟨Nat.le_of_ble_eq_true rfl, Nat.le_of_ble_eq_true rfl⟩ hK (hP.sub (ws' := rwl Z a S) [1, 2, 3, 4, 5, 6, 7, 8, 9, 10, 11, 12] rfl) (hD.sub (ws' := rwl Z a S) [1, 2, 3, 4, 5, 6, 7, 8, 9, 10, 11, 12] (by decide) rfl) rfl rfl rfl rfl hl.1 rfl (Nat.le_of_ble_eq_true rfl) dX1_mean_4 ⟨Nat.le_of_ble_eq_true rfl, Nat.le_of_ble_eq_true rfl⟩) hP hS hA (fun H locs hP hS => ?_)
  refine lv_istore_n (lv' := [(1, .int v3), (0, .ref o)]) hx hb dX1_mean_7 rfl hl (by decide) rfl (fun ls hl => ?_)
  refine lv_iload_n hx hb dX1_mean_8 rfl (lv_at hl 0 rfl) ?_
  refine lv_if_gt (tgt := 14) hx hb dX1_mean_9 (by decide) (fun c1 => ?_) (fun c1 => ?_)
  · have hf := if_t hf c1
    refine lv_aload_n hx hb dX1_mean_14 rfl (lv_at hl 1 rfl) ?_
    refine va_get (D := D) (ci := 1) (v := .ref (a 0)) (C := RX1) (T := TX1) (N := 2) hx hb hts hin1 hown hK hP 0 rfl rfl 0 (by decide) (hts (.fieldLink RX1 10 "PodGuideway" "now" "LPodGuideway$Ring;") (List.mem_of_getElem? (i := 1) rfl)) (fun _ h9 => h9) rfl dX1_mean_15 ?_
    obtain ⟨v5, hv5, hf⟩ := ob_some hf
    refine zc_i (z_VN (As := []) (rest := []) (q0 := 0) (ci := 0) ⟨hx, hb, hml, hown, hts⟩ (m_X0_waitedInAll l D Z a S v5 hv5) gX1_mean_X0_waitedInAll_n139 rfl rfl rfl (hNm (139, yX0_waitedInAll) (List.mem_of_getElem? (i := 21) rfl)) (hts (.initialized RX0) (List.mem_of_getElem? (i := 3) rfl)) (hts (.instanceMethod yX0_waitedInAll) (List.mem_of_getElem? (i := 19) rfl)) (hts (.selects RX0 yX0_waitedInAll yX0_waitedInAll) (List.mem_of_getElem? (i := 20) rfl)) hdv_X0_waitedInAll ⟨Nat.le_of_ble_eq_true rfl, Nat.le_of_ble_eq_true rfl⟩ hK (hP.sub (ws' := rwl Z a S) [1, 2, 3, 4, 5, 6, 7, 8, 9, 10, 11, 12] rfl) (hD.sub (ws' := rwl Z a S) [1, 2, 3, 4, 5, 6, 7, 8, 9, 10, 11, 12] (by decide) rfl) rfl rfl rfl rfl hl.1 rfl (Nat.le_of_ble_eq_true rfl) dX1_mean_18 ⟨Nat.le_of_ble_eq_true rfl, Nat.le_of_ble_eq_true rfl⟩) hP hS hA (fun H locs hP hS => ?_)
    refine lv_i2d hx hb dX1_mean_21 ?_
    refine lv_iload_n hx hb dX1_mean_22 rfl (lv_at hl 0 rfl) ?_
    refine lv_i2d hx hb dX1_mean_23 ?_
    refine lv_ddiv_any hd0 lw_bits hx hb dX1_mean_24 (fun r d1 hal hd1 => ?_)
    have hf := Option.some.inj hf
    subst hf
    refine W.endD hd1 ?_
    exact W.dret hx hb hr (fun t ht hW => ⟨⟨r, (), rfl, hal, trivial⟩, hS.F ht⟩) hS.2.2 dX1_mean_25
  · have hf := if_f hf c1
    refine lv_dconst0 hx hb dX1_mean_12 ?_
    have hf := Option.some.inj hf
    subst hf
    refine W.endD hd0 ?_
    exact W.dret hx hb hr (fun t ht hW => ⟨⟨FP.dconst0, (), rfl, al0, trivial⟩, hS.F ht⟩) hS.2.2 dX1_mean_13
end
