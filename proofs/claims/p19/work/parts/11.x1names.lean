set_option maxRecDepth 20000 in
theorem ggX1_init_X0_init : GoodIn wsX1_init wsX0_init := goodIn_r _ [10, 11, 2, 3, 12, 13, 14, 15, 16, 17, 18, 19, 20, 21, 22, 23, 24, 25, 6, 26, 27, 28, 29, 30, 31, 32, 33, 34, 35, 36, 37, 38, 39, 40, 41, 42, 43, 44, 45, 46, 47, 48, 49, 50, 51] (by decide +kernel) (by decide +kernel)
set_option maxRecDepth 20000 in
theorem gX1_init_X0_init_n9 : GoodIn wsX1_init (wsX0_init) := ggX1_init_X0_init
theorem dX1_init_0 : decode cX1_init 0 = .ok (.aload_n 0, 1) := by decide +kernel
theorem dX1_init_1 : decode cX1_init 1 = .ok (.invokespecial 1, 3) := by decide +kernel
theorem dX1_init_4 : decode cX1_init 4 = .ok (.aload_n 0, 1) := by decide +kernel
theorem dX1_init_5 : decode cX1_init 5 = .ok (.new 7, 3) := by decide +kernel
theorem dX1_init_8 : decode cX1_init 8 = .ok (.dup, 1) := by decide +kernel
theorem dX1_init_9 : decode cX1_init 9 = .ok (.invokespecial 9, 3) := by decide +kernel
theorem dX1_init_12 : decode cX1_init 12 = .ok (.putfield 10, 3) := by decide +kernel
theorem dX1_init_15 : decode cX1_init 15 = .ok (.aload_n 0, 1) := by decide +kernel
theorem dX1_init_16 : decode cX1_init 16 = .ok (.new 7, 3) := by decide +kernel
theorem dX1_init_19 : decode cX1_init 19 = .ok (.dup, 1) := by decide +kernel
theorem dX1_init_20 : decode cX1_init 20 = .ok (.invokespecial 9, 3) := by decide +kernel
theorem dX1_init_23 : decode cX1_init 23 = .ok (.putfield 16, 3) := by decide +kernel
theorem dX1_init_26 : decode cX1_init 26 = .ok (.return_, 1) := by decide +kernel
set_option maxRecDepth 20000 in
theorem ggX1_build_X1_needPlace : GoodIn wsX1_build wsX1_needPlace := goodIn_ca (goodIn_r _ [8, 9, 10] (by decide +kernel) (by decide +kernel)) (goodIn_sub (fun _ h => List.mem_cons_of_mem _ (List.mem_append_right _ h)) (by decide +kernel))
set_option maxRecDepth 20000 in
theorem gX1_build_X1_needPlace : GoodIn wsX1_build (wsV RX1 19 RX1 yX1_needPlace wsX1_needPlace) := goodIn_app (goodIn_of _ (by decide +kernel)) ggX1_build_X1_needPlace
set_option maxRecDepth 20000 in
theorem ggX1_build_X0_stationAtPlace : GoodIn wsX1_build wsX0_stationAtPlace := goodIn_r _ [14, 15, 16, 17, 18, 12, 19, 20, 21, 22, 23, 32, 33, 34, 35, 36, 37, 38, 39, 40, 41, 42, 43, 44, 45, 46, 47, 48] (by decide +kernel) (by decide +kernel)
set_option maxRecDepth 20000 in
theorem gX1_build_X0_stationAtPlace_n34 : GoodIn wsX1_build (wsX0_stationAtPlace) := ggX1_build_X0_stationAtPlace
set_option maxRecDepth 20000 in
theorem ggX1_build_X0_addStation : GoodIn wsX1_build wsX0_addStation := goodIn_r _ [26, 15, 20, 27, 28, 12, 29, 32, 33, 34, 35, 36, 37, 38, 39, 40, 41, 42, 43, 44, 45, 46, 47, 48] (by decide +kernel) (by decide +kernel)
set_option maxRecDepth 20000 in
theorem gX1_build_X0_addStation_n40 : GoodIn wsX1_build (wsX0_addStation) := ggX1_build_X0_addStation
theorem dX1_build_0 : decode cX1_build 0 = .ok (.aload_n 0, 1) := by decide +kernel
theorem dX1_build_1 : decode cX1_build 1 = .ok (.iload_n 1, 1) := by decide +kernel
theorem dX1_build_2 : decode cX1_build 2 = .ok (.invokevirtual 19, 3) := by decide +kernel
theorem dX1_build_5 : decode cX1_build 5 = .ok (.aload_n 0, 1) := by decide +kernel
theorem dX1_build_6 : decode cX1_build 6 = .ok (.getfield 10, 3) := by decide +kernel
theorem dX1_build_9 : decode cX1_build 9 = .ok (.getfield 23, 3) := by decide +kernel
theorem dX1_build_12 : decode cX1_build 12 = .ok (.bipush 6, 2) := by decide +kernel
theorem dX1_build_14 : decode cX1_build 14 = .ok (.if_icmp .lt 13, 3) := by decide +kernel
theorem dX1_build_17 : decode cX1_build 17 = .ok (.new 27, 3) := by decide +kernel
theorem dX1_build_20 : decode cX1_build 20 = .ok (.dup, 1) := by decide +kernel
theorem dX1_build_21 : decode cX1_build 21 = .ok (.ldc 29, 2) := by decide +kernel
theorem dX1_build_23 : decode cX1_build 23 = .ok (.invokespecial 31, 3) := by decide +kernel
theorem dX1_build_26 : decode cX1_build 26 = .ok (.athrow, 1) := by decide +kernel
theorem dX1_build_27 : decode cX1_build 27 = .ok (.aload_n 0, 1) := by decide +kernel
theorem dX1_build_28 : decode cX1_build 28 = .ok (.getfield 10, 3) := by decide +kernel
theorem dX1_build_31 : decode cX1_build 31 = .ok (.iload_n 1, 1) := by decide +kernel
theorem dX1_build_32 : decode cX1_build 32 = .ok (.invokevirtual 34, 3) := by decide +kernel
theorem dX1_build_35 : decode cX1_build 35 = .ok (.iconst (-1), 1) := by decide +kernel
theorem dX1_build_36 : decode cX1_build 36 = .ok (.if_icmp .eq 13, 3) := by decide +kernel
theorem dX1_build_39 : decode cX1_build 39 = .ok (.new 27, 3) := by decide +kernel
theorem dX1_build_42 : decode cX1_build 42 = .ok (.dup, 1) := by decide +kernel
theorem dX1_build_43 : decode cX1_build 43 = .ok (.ldc 38, 2) := by decide +kernel
theorem dX1_build_45 : decode cX1_build 45 = .ok (.invokespecial 31, 3) := by decide +kernel
theorem dX1_build_48 : decode cX1_build 48 = .ok (.athrow, 1) := by decide +kernel
theorem dX1_build_49 : decode cX1_build 49 = .ok (.aload_n 0, 1) := by decide +kernel
theorem dX1_build_50 : decode cX1_build 50 = .ok (.getfield 10, 3) := by decide +kernel
theorem dX1_build_53 : decode cX1_build 53 = .ok (.iload_n 1, 1) := by decide +kernel
theorem dX1_build_54 : decode cX1_build 54 = .ok (.invokevirtual 40, 3) := by decide +kernel
theorem dX1_build_57 : decode cX1_build 57 = .ok (.ireturn, 1) := by decide +kernel
set_option maxRecDepth 20000 in
theorem ggX1_pod_X1_needStation : GoodIn wsX1_pod wsX1_needStation := goodIn_ca (goodIn_r _ [8, 9, 10, 3, 32, 33, 34, 35, 36, 37, 38, 39, 40, 41, 42, 43, 44, 45, 46, 47, 48, 49, 50] (by decide +kernel) (by decide +kernel)) (goodIn_sub (fun _ h => List.mem_cons_of_mem _ (List.mem_append_right _ h)) (by decide +kernel))
set_option maxRecDepth 20000 in
theorem gX1_pod_X1_needStation : GoodIn wsX1_pod (wsV RX1 43 RX1 yX1_needStation wsX1_needStation) := goodIn_app (goodIn_of _ (by decide +kernel)) ggX1_pod_X1_needStation
set_option maxRecDepth 20000 in
theorem ggX1_pod_X0_firstBerth : GoodIn wsX1_pod wsX0_firstBerth := goodIn_r _ [14, 15, 16, 17, 12, 18, 19, 20, 21, 22, 23, 34, 35, 36, 37, 38, 39, 40, 41, 42, 43, 44, 45, 46, 47, 48, 49, 50] (by decide +kernel) (by decide +kernel)
set_option maxRecDepth 20000 in
theorem gX1_pod_X0_firstBerth_n51 : GoodIn wsX1_pod (wsX0_firstBerth) := ggX1_pod_X0_firstBerth
set_option maxRecDepth 20000 in
theorem ggX1_pod_X0_addPod : GoodIn wsX1_pod wsX0_addPod := goodIn_r _ [26, 27, 19, 28, 11, 13, 12, 14, 15, 16, 17, 18, 20, 21, 22, 23, 29, 30, 31, 34, 35, 36, 37, 38, 39, 40, 41, 42, 43, 44, 45, 46, 47, 48, 49, 50] (by decide +kernel) (by decide +kernel)
set_option maxRecDepth 20000 in
theorem gX1_pod_X0_addPod_n57 : GoodIn wsX1_pod (wsX0_addPod) := ggX1_pod_X0_addPod
theorem dX1_pod_0 : decode cX1_pod 0 = .ok (.aload_n 0, 1) := by decide +kernel
theorem dX1_pod_1 : decode cX1_pod 1 = .ok (.iload_n 1, 1) := by decide +kernel
theorem dX1_pod_2 : decode cX1_pod 2 = .ok (.invokevirtual 43, 3) := by decide +kernel
theorem dX1_pod_5 : decode cX1_pod 5 = .ok (.aload_n 0, 1) := by decide +kernel
theorem dX1_pod_6 : decode cX1_pod 6 = .ok (.getfield 10, 3) := by decide +kernel
theorem dX1_pod_9 : decode cX1_pod 9 = .ok (.getfield 46, 3) := by decide +kernel
theorem dX1_pod_12 : decode cX1_pod 12 = .ok (.bipush 12, 2) := by decide +kernel
theorem dX1_pod_14 : decode cX1_pod 14 = .ok (.if_icmp .lt 13, 3) := by decide +kernel
theorem dX1_pod_17 : decode cX1_pod 17 = .ok (.new 27, 3) := by decide +kernel
theorem dX1_pod_20 : decode cX1_pod 20 = .ok (.dup, 1) := by decide +kernel
theorem dX1_pod_21 : decode cX1_pod 21 = .ok (.ldc 49, 2) := by decide +kernel
theorem dX1_pod_23 : decode cX1_pod 23 = .ok (.invokespecial 31, 3) := by decide +kernel
theorem dX1_pod_26 : decode cX1_pod 26 = .ok (.athrow, 1) := by decide +kernel
theorem dX1_pod_27 : decode cX1_pod 27 = .ok (.aload_n 0, 1) := by decide +kernel
theorem dX1_pod_28 : decode cX1_pod 28 = .ok (.getfield 10, 3) := by decide +kernel
theorem dX1_pod_31 : decode cX1_pod 31 = .ok (.iload_n 1, 1) := by decide +kernel
theorem dX1_pod_32 : decode cX1_pod 32 = .ok (.iconst 0, 1) := by decide +kernel
theorem dX1_pod_33 : decode cX1_pod 33 = .ok (.invokevirtual 51, 3) := by decide +kernel
theorem dX1_pod_36 : decode cX1_pod 36 = .ok (.iconst (-1), 1) := by decide +kernel
theorem dX1_pod_37 : decode cX1_pod 37 = .ok (.if_icmp .ne 13, 3) := by decide +kernel
theorem dX1_pod_40 : decode cX1_pod 40 = .ok (.new 27, 3) := by decide +kernel
theorem dX1_pod_43 : decode cX1_pod 43 = .ok (.dup, 1) := by decide +kernel
theorem dX1_pod_44 : decode cX1_pod 44 = .ok (.ldc 55, 2) := by decide +kernel
theorem dX1_pod_46 : decode cX1_pod 46 = .ok (.invokespecial 31, 3) := by decide +kernel
theorem dX1_pod_49 : decode cX1_pod 49 = .ok (.athrow, 1) := by decide +kernel
theorem dX1_pod_50 : decode cX1_pod 50 = .ok (.aload_n 0, 1) := by decide +kernel
theorem dX1_pod_51 : decode cX1_pod 51 = .ok (.getfield 10, 3) := by decide +kernel
theorem dX1_pod_54 : decode cX1_pod 54 = .ok (.iload_n 1, 1) := by decide +kernel
theorem dX1_pod_55 : decode cX1_pod 55 = .ok (.invokevirtual 57, 3) := by decide +kernel
theorem dX1_pod_58 : decode cX1_pod 58 = .ok (.ireturn, 1) := by decide +kernel
set_option maxRecDepth 20000 in
theorem ggX1_ride_X1_needTwoStations : GoodIn wsX1_ride wsX1_needTwoStations := goodIn_ca (goodIn_ca (goodIn_r _ [8, 9, 10, 11, 12, 13, 7, 14, 15, 16, 3, 41, 42, 43, 44, 45, 46, 47, 48, 49, 50, 51, 52, 53, 54, 55, 56, 57, 58, 59] (by decide +kernel) (by decide +kernel)) (goodIn_sub (fun _ h => List.mem_cons_of_mem _ (List.mem_append_left _ (List.mem_append_right _ h))) (by decide +kernel))) (goodIn_sub (fun _ h => List.mem_cons_of_mem _ (List.mem_append_right _ h)) (by decide +kernel))
set_option maxRecDepth 20000 in
theorem gX1_ride_X1_needTwoStations : GoodIn wsX1_ride (wsV RX1 60 RX1 yX1_needTwoStations wsX1_needTwoStations) := goodIn_app (goodIn_of _ (by decide +kernel)) ggX1_ride_X1_needTwoStations
set_option maxRecDepth 20000 in
theorem ggX1_ride_X0_waitingAt : GoodIn wsX1_ride wsX0_waitingAt := goodIn_r _ [20, 21, 22, 23, 24, 25, 26, 27, 18, 28, 43, 44, 45, 46, 47, 48, 49, 50, 51, 52, 53, 54, 55, 56, 57, 58, 59] (by decide +kernel) (by decide +kernel)
set_option maxRecDepth 20000 in
theorem gX1_ride_X0_waitingAt_n64 : GoodIn wsX1_ride (wsX0_waitingAt) := ggX1_ride_X0_waitingAt
set_option maxRecDepth 20000 in
theorem ggX1_ride_X0_addRider : GoodIn wsX1_ride wsX0_addRider := goodIn_r _ [31, 32, 33, 34, 35, 36, 21, 37, 17, 19, 18, 20, 22, 23, 24, 25, 26, 27, 28, 38, 39, 40, 43, 44, 45, 46, 47, 48, 49, 50, 51, 52, 53, 54, 55, 56, 57, 58, 59] (by decide +kernel) (by decide +kernel)
set_option maxRecDepth 20000 in
theorem gX1_ride_X0_addRider_n69 : GoodIn wsX1_ride (wsX0_addRider) := ggX1_ride_X0_addRider
theorem dX1_ride_0 : decode cX1_ride 0 = .ok (.aload_n 0, 1) := by decide +kernel
theorem dX1_ride_1 : decode cX1_ride 1 = .ok (.iload_n 1, 1) := by decide +kernel
theorem dX1_ride_2 : decode cX1_ride 2 = .ok (.iload_n 2, 1) := by decide +kernel
theorem dX1_ride_3 : decode cX1_ride 3 = .ok (.invokevirtual 60, 3) := by decide +kernel
theorem dX1_ride_6 : decode cX1_ride 6 = .ok (.aload_n 0, 1) := by decide +kernel
theorem dX1_ride_7 : decode cX1_ride 7 = .ok (.getfield 10, 3) := by decide +kernel
theorem dX1_ride_10 : decode cX1_ride 10 = .ok (.iload_n 1, 1) := by decide +kernel
theorem dX1_ride_11 : decode cX1_ride 11 = .ok (.invokevirtual 64, 3) := by decide +kernel
theorem dX1_ride_14 : decode cX1_ride 14 = .ok (.bipush 9, 2) := by decide +kernel
theorem dX1_ride_16 : decode cX1_ride 16 = .ok (.if_icmp .lt 13, 3) := by decide +kernel
theorem dX1_ride_19 : decode cX1_ride 19 = .ok (.new 27, 3) := by decide +kernel
theorem dX1_ride_22 : decode cX1_ride 22 = .ok (.dup, 1) := by decide +kernel
theorem dX1_ride_23 : decode cX1_ride 23 = .ok (.ldc 67, 2) := by decide +kernel
theorem dX1_ride_25 : decode cX1_ride 25 = .ok (.invokespecial 31, 3) := by decide +kernel
theorem dX1_ride_28 : decode cX1_ride 28 = .ok (.athrow, 1) := by decide +kernel
theorem dX1_ride_29 : decode cX1_ride 29 = .ok (.aload_n 0, 1) := by decide +kernel
theorem dX1_ride_30 : decode cX1_ride 30 = .ok (.getfield 10, 3) := by decide +kernel
theorem dX1_ride_33 : decode cX1_ride 33 = .ok (.iload_n 1, 1) := by decide +kernel
theorem dX1_ride_34 : decode cX1_ride 34 = .ok (.iload_n 2, 1) := by decide +kernel
theorem dX1_ride_35 : decode cX1_ride 35 = .ok (.invokevirtual 69, 3) := by decide +kernel
theorem dX1_ride_38 : decode cX1_ride 38 = .ok (.pop, 1) := by decide +kernel
theorem dX1_ride_39 : decode cX1_ride 39 = .ok (.aload_n 0, 1) := by decide +kernel
theorem dX1_ride_40 : decode cX1_ride 40 = .ok (.getfield 10, 3) := by decide +kernel
theorem dX1_ride_43 : decode cX1_ride 43 = .ok (.iload_n 1, 1) := by decide +kernel
theorem dX1_ride_44 : decode cX1_ride 44 = .ok (.invokevirtual 64, 3) := by decide +kernel
theorem dX1_ride_47 : decode cX1_ride 47 = .ok (.ireturn, 1) := by decide +kernel
set_option maxRecDepth 20000 in
theorem ggX1_send_X1_needPod : GoodIn wsX1_send wsX1_needPod := goodIn_ca (goodIn_r _ [8, 9, 10, 3, 48, 49, 50, 51, 52, 53, 54, 55, 56, 57, 58, 59, 60, 61, 62, 63, 64, 65, 66] (by decide +kernel) (by decide +kernel)) (goodIn_sub (fun _ h => List.mem_cons_of_mem _ (List.mem_append_right _ h)) (by decide +kernel))
set_option maxRecDepth 20000 in
theorem gX1_send_X1_needPod : GoodIn wsX1_send (wsV RX1 72 RX1 yX1_needPod wsX1_needPod) := goodIn_app (goodIn_of _ (by decide +kernel)) ggX1_send_X1_needPod
set_option maxRecDepth 20000 in
theorem ggX1_send_X1_needStation : GoodIn wsX1_send wsX1_needStation := goodIn_ca (goodIn_r _ [14, 9, 10, 3, 48, 49, 50, 51, 52, 53, 54, 55, 56, 57, 58, 59, 60, 61, 62, 63, 64, 65, 66] (by decide +kernel) (by decide +kernel)) (goodIn_sub (fun _ h => List.mem_cons_of_mem _ (List.mem_append_right _ h)) (by decide +kernel))
set_option maxRecDepth 20000 in
theorem gX1_send_X1_needStation : GoodIn wsX1_send (wsV RX1 43 RX1 yX1_needStation wsX1_needStation) := goodIn_app (goodIn_of _ (by decide +kernel)) ggX1_send_X1_needStation
set_option maxRecDepth 20000 in
theorem ggX1_send_X0_berthOf : GoodIn wsX1_send wsX0_berthOf := goodIn_r _ [18, 19, 20, 21, 16, 22, 50, 51, 52, 53, 54, 55, 56, 57, 58, 59, 60, 61, 62, 63, 64, 65, 66] (by decide +kernel) (by decide +kernel)
set_option maxRecDepth 20000 in
theorem gX1_send_X0_berthOf_n75 : GoodIn wsX1_send (wsX0_berthOf) := ggX1_send_X0_berthOf
set_option maxRecDepth 20000 in
theorem ggX1_send_X0_goalOf : GoodIn wsX1_send wsX0_goalOf := goodIn_r _ [25, 26, 27, 28, 16, 29, 50, 51, 52, 53, 54, 55, 56, 57, 58, 59, 60, 61, 62, 63, 64, 65, 66] (by decide +kernel) (by decide +kernel)
set_option maxRecDepth 20000 in
theorem gX1_send_X0_goalOf_n78 : GoodIn wsX1_send (wsX0_goalOf) := ggX1_send_X0_goalOf
set_option maxRecDepth 20000 in
theorem ggX1_send_X0_setGoal : GoodIn wsX1_send wsX0_setGoal := goodIn_r _ [32, 26, 33, 34, 16, 35, 50, 51, 52, 53, 54, 55, 56, 57, 58, 59, 60, 61, 62, 63, 64, 65, 66] (by decide +kernel) (by decide +kernel)
set_option maxRecDepth 20000 in
theorem gX1_send_X0_setGoal_n85 : GoodIn wsX1_send (wsX0_setGoal) := ggX1_send_X0_setGoal
set_option maxRecDepth 20000 in
theorem ggX1_send_X0_placesOn : GoodIn wsX1_send wsX0_placesOn := goodIn_r _ [38, 39, 40, 41, 16, 42, 43, 27, 28, 29, 44, 45, 46, 47, 50, 51, 52, 53, 54, 55, 56, 57, 58, 59, 60, 61, 62, 63, 64, 65, 66] (by decide +kernel) (by decide +kernel)
set_option maxRecDepth 20000 in
theorem gX1_send_X0_placesOn_n88 : GoodIn wsX1_send (wsX0_placesOn) := ggX1_send_X0_placesOn
theorem dX1_send_0 : decode cX1_send 0 = .ok (.aload_n 0, 1) := by decide +kernel
theorem dX1_send_1 : decode cX1_send 1 = .ok (.iload_n 1, 1) := by decide +kernel
theorem dX1_send_2 : decode cX1_send 2 = .ok (.invokevirtual 72, 3) := by decide +kernel
theorem dX1_send_5 : decode cX1_send 5 = .ok (.aload_n 0, 1) := by decide +kernel
theorem dX1_send_6 : decode cX1_send 6 = .ok (.iload_n 2, 1) := by decide +kernel
theorem dX1_send_7 : decode cX1_send 7 = .ok (.invokevirtual 43, 3) := by decide +kernel
theorem dX1_send_10 : decode cX1_send 10 = .ok (.aload_n 0, 1) := by decide +kernel
theorem dX1_send_11 : decode cX1_send 11 = .ok (.getfield 10, 3) := by decide +kernel
theorem dX1_send_14 : decode cX1_send 14 = .ok (.iload_n 1, 1) := by decide +kernel
theorem dX1_send_15 : decode cX1_send 15 = .ok (.invokevirtual 75, 3) := by decide +kernel
theorem dX1_send_18 : decode cX1_send 18 = .ok (.istore_n 3, 1) := by decide +kernel
theorem dX1_send_19 : decode cX1_send 19 = .ok (.iload_n 3, 1) := by decide +kernel
theorem dX1_send_20 : decode cX1_send 20 = .ok (.iconst (-1), 1) := by decide +kernel
theorem dX1_send_21 : decode cX1_send 21 = .ok (.if_icmp .eq 15, 3) := by decide +kernel
theorem dX1_send_24 : decode cX1_send 24 = .ok (.aload_n 0, 1) := by decide +kernel
theorem dX1_send_25 : decode cX1_send 25 = .ok (.getfield 10, 3) := by decide +kernel
theorem dX1_send_28 : decode cX1_send 28 = .ok (.iload_n 1, 1) := by decide +kernel
theorem dX1_send_29 : decode cX1_send 29 = .ok (.invokevirtual 78, 3) := by decide +kernel
theorem dX1_send_32 : decode cX1_send 32 = .ok (.iconst (-1), 1) := by decide +kernel
theorem dX1_send_33 : decode cX1_send 33 = .ok (.if_icmp .eq 13, 3) := by decide +kernel
theorem dX1_send_36 : decode cX1_send 36 = .ok (.new 27, 3) := by decide +kernel
theorem dX1_send_39 : decode cX1_send 39 = .ok (.dup, 1) := by decide +kernel
theorem dX1_send_40 : decode cX1_send 40 = .ok (.ldc 81, 2) := by decide +kernel
theorem dX1_send_42 : decode cX1_send 42 = .ok (.invokespecial 31, 3) := by decide +kernel
theorem dX1_send_45 : decode cX1_send 45 = .ok (.athrow, 1) := by decide +kernel
theorem dX1_send_46 : decode cX1_send 46 = .ok (.iload_n 3, 1) := by decide +kernel
theorem dX1_send_47 : decode cX1_send 47 = .ok (.iconst 3, 1) := by decide +kernel
theorem dX1_send_48 : decode cX1_send 48 = .ok (.idiv, 1) := by decide +kernel
theorem dX1_send_49 : decode cX1_send 49 = .ok (.istore 4, 2) := by decide +kernel
theorem dX1_send_51 : decode cX1_send 51 = .ok (.iload 4, 2) := by decide +kernel
theorem dX1_send_53 : decode cX1_send 53 = .ok (.iload_n 2, 1) := by decide +kernel
theorem dX1_send_54 : decode cX1_send 54 = .ok (.if_icmp .ne 13, 3) := by decide +kernel
theorem dX1_send_57 : decode cX1_send 57 = .ok (.new 27, 3) := by decide +kernel
theorem dX1_send_60 : decode cX1_send 60 = .ok (.dup, 1) := by decide +kernel
theorem dX1_send_61 : decode cX1_send 61 = .ok (.ldc 83, 2) := by decide +kernel
theorem dX1_send_63 : decode cX1_send 63 = .ok (.invokespecial 31, 3) := by decide +kernel
theorem dX1_send_66 : decode cX1_send 66 = .ok (.athrow, 1) := by decide +kernel
theorem dX1_send_67 : decode cX1_send 67 = .ok (.aload_n 0, 1) := by decide +kernel
theorem dX1_send_68 : decode cX1_send 68 = .ok (.getfield 10, 3) := by decide +kernel
theorem dX1_send_71 : decode cX1_send 71 = .ok (.iload_n 1, 1) := by decide +kernel
theorem dX1_send_72 : decode cX1_send 72 = .ok (.iload_n 2, 1) := by decide +kernel
theorem dX1_send_73 : decode cX1_send 73 = .ok (.invokevirtual 85, 3) := by decide +kernel
theorem dX1_send_76 : decode cX1_send 76 = .ok (.aload_n 0, 1) := by decide +kernel
theorem dX1_send_77 : decode cX1_send 77 = .ok (.getfield 10, 3) := by decide +kernel
theorem dX1_send_80 : decode cX1_send 80 = .ok (.iload 4, 2) := by decide +kernel
theorem dX1_send_82 : decode cX1_send 82 = .ok (.iload_n 2, 1) := by decide +kernel
theorem dX1_send_83 : decode cX1_send 83 = .ok (.invokevirtual 88, 3) := by decide +kernel
theorem dX1_send_86 : decode cX1_send 86 = .ok (.ireturn, 1) := by decide +kernel
set_option maxRecDepth 20000 in
theorem ggX1_told_X1_needPod : GoodIn wsX1_told wsX1_needPod := goodIn_ca (goodIn_r _ [6, 7, 8, 1, 36, 37, 38, 39, 40, 41, 42, 43, 44, 45, 46, 47, 48, 49, 50, 51, 52, 53, 54] (by decide +kernel) (by decide +kernel)) (goodIn_sub (fun _ h => List.mem_cons_of_mem _ (List.mem_append_right _ h)) (by decide +kernel))
set_option maxRecDepth 20000 in
theorem gX1_told_X1_needPod : GoodIn wsX1_told (wsV RX1 72 RX1 yX1_needPod wsX1_needPod) := goodIn_app (goodIn_of _ (by decide +kernel)) ggX1_told_X1_needPod
set_option maxRecDepth 20000 in
theorem ggX1_told_X1_needWhat : GoodIn wsX1_told wsX1_needWhat := goodIn_ca (goodIn_r _ [12, 7, 8] (by decide +kernel) (by decide +kernel)) (goodIn_sub (fun _ h => List.mem_cons_of_mem _ (List.mem_append_right _ h)) (by decide +kernel))
set_option maxRecDepth 20000 in
theorem gX1_told_X1_needWhat : GoodIn wsX1_told (wsV RX1 91 RX1 yX1_needWhat wsX1_needWhat) := goodIn_app (goodIn_of _ (by decide +kernel)) ggX1_told_X1_needWhat
set_option maxRecDepth 20000 in
theorem ggX1_told_X0_tellPod : GoodIn wsX1_told wsX0_tellPod := goodIn_r _ [16, 17, 18, 19, 20, 21, 22, 14, 23, 24, 25, 26, 27, 28, 29, 30, 31, 32, 33, 34, 35, 38, 39, 40, 41, 42, 43, 44, 45, 46, 47, 48, 49, 50, 51, 52, 53, 54] (by decide +kernel) (by decide +kernel)
set_option maxRecDepth 20000 in
theorem gX1_told_X0_tellPod_n95 : GoodIn wsX1_told (wsX0_tellPod) := ggX1_told_X0_tellPod
theorem dX1_told_0 : decode cX1_told 0 = .ok (.aload_n 0, 1) := by decide +kernel
theorem dX1_told_1 : decode cX1_told 1 = .ok (.iload_n 1, 1) := by decide +kernel
theorem dX1_told_2 : decode cX1_told 2 = .ok (.invokevirtual 72, 3) := by decide +kernel
theorem dX1_told_5 : decode cX1_told 5 = .ok (.aload_n 0, 1) := by decide +kernel
theorem dX1_told_6 : decode cX1_told 6 = .ok (.iload_n 2, 1) := by decide +kernel
theorem dX1_told_7 : decode cX1_told 7 = .ok (.iconst 0, 1) := by decide +kernel
theorem dX1_told_8 : decode cX1_told 8 = .ok (.iconst 5, 1) := by decide +kernel
theorem dX1_told_9 : decode cX1_told 9 = .ok (.invokevirtual 91, 3) := by decide +kernel
theorem dX1_told_12 : decode cX1_told 12 = .ok (.aload_n 0, 1) := by decide +kernel
theorem dX1_told_13 : decode cX1_told 13 = .ok (.getfield 10, 3) := by decide +kernel
theorem dX1_told_16 : decode cX1_told 16 = .ok (.iload_n 1, 1) := by decide +kernel
theorem dX1_told_17 : decode cX1_told 17 = .ok (.iload_n 2, 1) := by decide +kernel
theorem dX1_told_18 : decode cX1_told 18 = .ok (.invokevirtual 95, 3) := by decide +kernel
theorem dX1_told_21 : decode cX1_told 21 = .ok (.ireturn, 1) := by decide +kernel
set_option maxRecDepth 20000 in
theorem ggX1_station_X1_needStation : GoodIn wsX1_station wsX1_needStation := goodIn_ca (goodIn_r _ [6, 7, 8, 1, 65, 66, 67, 68, 69, 70, 71, 72, 73, 74, 75, 76, 77, 78, 79, 80, 81, 82, 83] (by decide +kernel) (by decide +kernel)) (goodIn_sub (fun _ h => List.mem_cons_of_mem _ (List.mem_append_right _ h)) (by decide +kernel))
set_option maxRecDepth 20000 in
theorem gX1_station_X1_needStation : GoodIn wsX1_station (wsV RX1 43 RX1 yX1_needStation wsX1_needStation) := goodIn_app (goodIn_of _ (by decide +kernel)) ggX1_station_X1_needStation
set_option maxRecDepth 20000 in
theorem ggX1_station_X1_needWhat : GoodIn wsX1_station wsX1_needWhat := goodIn_ca (goodIn_r _ [12, 7, 8] (by decide +kernel) (by decide +kernel)) (goodIn_sub (fun _ h => List.mem_cons_of_mem _ (List.mem_append_right _ h)) (by decide +kernel))
set_option maxRecDepth 20000 in
theorem gX1_station_X1_needWhat : GoodIn wsX1_station (wsV RX1 91 RX1 yX1_needWhat wsX1_needWhat) := goodIn_app (goodIn_of _ (by decide +kernel)) ggX1_station_X1_needWhat
set_option maxRecDepth 20000 in
theorem ggX1_station_X0_tellStation : GoodIn wsX1_station wsX0_tellStation := goodIn_r _ [16, 17, 18, 19, 20, 14, 21, 22, 23, 24, 25, 26, 27, 28, 29, 30, 31, 32, 33, 34, 35, 36, 37, 38, 39, 40, 41, 42, 43, 44, 45, 46, 47, 48, 49, 50, 51, 52, 53, 54, 55, 56, 57, 58, 59, 60, 61, 62, 63, 64, 67, 68, 69, 70, 71, 72, 73, 74, 75, 76, 77, 78, 79, 80, 81, 82, 83] (by decide +kernel) (by decide +kernel)
set_option maxRecDepth 20000 in
theorem gX1_station_X0_tellStation_n98 : GoodIn wsX1_station (wsX0_tellStation) := ggX1_station_X0_tellStation
theorem dX1_station_0 : decode cX1_station 0 = .ok (.aload_n 0, 1) := by decide +kernel
theorem dX1_station_1 : decode cX1_station 1 = .ok (.iload_n 1, 1) := by decide +kernel
theorem dX1_station_2 : decode cX1_station 2 = .ok (.invokevirtual 43, 3) := by decide +kernel
theorem dX1_station_5 : decode cX1_station 5 = .ok (.aload_n 0, 1) := by decide +kernel
theorem dX1_station_6 : decode cX1_station 6 = .ok (.iload_n 2, 1) := by decide +kernel
theorem dX1_station_7 : decode cX1_station 7 = .ok (.iconst 0, 1) := by decide +kernel
theorem dX1_station_8 : decode cX1_station 8 = .ok (.bipush 6, 2) := by decide +kernel
theorem dX1_station_10 : decode cX1_station 10 = .ok (.invokevirtual 91, 3) := by decide +kernel
theorem dX1_station_13 : decode cX1_station 13 = .ok (.aload_n 0, 1) := by decide +kernel
theorem dX1_station_14 : decode cX1_station 14 = .ok (.getfield 10, 3) := by decide +kernel
theorem dX1_station_17 : decode cX1_station 17 = .ok (.iload_n 1, 1) := by decide +kernel
theorem dX1_station_18 : decode cX1_station 18 = .ok (.iload_n 2, 1) := by decide +kernel
theorem dX1_station_19 : decode cX1_station 19 = .ok (.invokevirtual 98, 3) := by decide +kernel
theorem dX1_station_22 : decode cX1_station 22 = .ok (.ireturn, 1) := by decide +kernel
set_option maxRecDepth 20000 in
theorem ggX1_waits_X1_needStation : GoodIn wsX1_waits wsX1_needStation := goodIn_ca (goodIn_r _ [8, 1, 2, 3, 31, 32, 33, 34, 35, 36, 37, 38, 39, 40, 41, 42, 43, 44, 45, 46, 47, 48, 49] (by decide +kernel) (by decide +kernel)) (goodIn_sub (fun _ h => List.mem_cons_of_mem _ (List.mem_append_right _ h)) (by decide +kernel))
set_option maxRecDepth 20000 in
theorem gX1_waits_X1_needStation : GoodIn wsX1_waits (wsV RX1 43 RX1 yX1_needStation wsX1_needStation) := goodIn_app (goodIn_of _ (by decide +kernel)) ggX1_waits_X1_needStation
set_option maxRecDepth 20000 in
theorem ggX1_waits_X0_waitingAt : GoodIn wsX1_waits wsX0_waitingAt := goodIn_r _ [12, 13, 14, 15, 16, 17, 18, 19, 10, 20, 33, 34, 35, 36, 37, 38, 39, 40, 41, 42, 43, 44, 45, 46, 47, 48, 49] (by decide +kernel) (by decide +kernel)
set_option maxRecDepth 20000 in
theorem gX1_waits_X0_waitingAt_n64 : GoodIn wsX1_waits (wsX0_waitingAt) := ggX1_waits_X0_waitingAt
set_option maxRecDepth 20000 in
theorem ggX1_waits_X0_tellRider : GoodIn wsX1_waits wsX0_tellRider := goodIn_r _ [23, 24, 25, 26, 27, 10, 28, 29, 30, 18, 19, 20, 33, 34, 35, 36, 37, 38, 39, 40, 41, 42, 43, 44, 45, 46, 47, 48, 49] (by decide +kernel) (by decide +kernel)
set_option maxRecDepth 20000 in
theorem gX1_waits_X0_tellRider_n106 : GoodIn wsX1_waits (wsX0_tellRider) := ggX1_waits_X0_tellRider
theorem dX1_waits_0 : decode cX1_waits 0 = .ok (.aload_n 0, 1) := by decide +kernel
theorem dX1_waits_1 : decode cX1_waits 1 = .ok (.iload_n 1, 1) := by decide +kernel
theorem dX1_waits_2 : decode cX1_waits 2 = .ok (.invokevirtual 43, 3) := by decide +kernel
theorem dX1_waits_5 : decode cX1_waits 5 = .ok (.iload_n 2, 1) := by decide +kernel
theorem dX1_waits_6 : decode cX1_waits 6 = .ok (.ifCond .lt 15, 3) := by decide +kernel
theorem dX1_waits_9 : decode cX1_waits 9 = .ok (.iload_n 2, 1) := by decide +kernel
theorem dX1_waits_10 : decode cX1_waits 10 = .ok (.aload_n 0, 1) := by decide +kernel
theorem dX1_waits_11 : decode cX1_waits 11 = .ok (.getfield 10, 3) := by decide +kernel
theorem dX1_waits_14 : decode cX1_waits 14 = .ok (.iload_n 1, 1) := by decide +kernel
theorem dX1_waits_15 : decode cX1_waits 15 = .ok (.invokevirtual 64, 3) := by decide +kernel
theorem dX1_waits_18 : decode cX1_waits 18 = .ok (.if_icmp .lt 13, 3) := by decide +kernel
theorem dX1_waits_21 : decode cX1_waits 21 = .ok (.new 101, 3) := by decide +kernel
theorem dX1_waits_24 : decode cX1_waits 24 = .ok (.dup, 1) := by decide +kernel
theorem dX1_waits_25 : decode cX1_waits 25 = .ok (.ldc 103, 2) := by decide +kernel
theorem dX1_waits_27 : decode cX1_waits 27 = .ok (.invokespecial 105, 3) := by decide +kernel
theorem dX1_waits_30 : decode cX1_waits 30 = .ok (.athrow, 1) := by decide +kernel
theorem dX1_waits_31 : decode cX1_waits 31 = .ok (.aload_n 0, 1) := by decide +kernel
theorem dX1_waits_32 : decode cX1_waits 32 = .ok (.getfield 10, 3) := by decide +kernel
theorem dX1_waits_35 : decode cX1_waits 35 = .ok (.iload_n 1, 1) := by decide +kernel
theorem dX1_waits_36 : decode cX1_waits 36 = .ok (.iload_n 2, 1) := by decide +kernel
theorem dX1_waits_37 : decode cX1_waits 37 = .ok (.invokevirtual 106, 3) := by decide +kernel
theorem dX1_waits_40 : decode cX1_waits 40 = .ok (.ireturn, 1) := by decide +kernel
set_option maxRecDepth 20000 in
theorem ggX1_slot_X1_needPlace : GoodIn wsX1_slot wsX1_needPlace := goodIn_ca (goodIn_r _ [6, 7, 8] (by decide +kernel) (by decide +kernel)) (goodIn_sub (fun _ h => List.mem_cons_of_mem _ (List.mem_append_right _ h)) (by decide +kernel))
set_option maxRecDepth 20000 in
theorem gX1_slot_X1_needPlace : GoodIn wsX1_slot (wsV RX1 19 RX1 yX1_needPlace wsX1_needPlace) := goodIn_app (goodIn_of _ (by decide +kernel)) ggX1_slot_X1_needPlace
set_option maxRecDepth 20000 in
theorem ggX1_slot_X0_podAtPlace : GoodIn wsX1_slot wsX0_podAtPlace := goodIn_r _ [12, 13, 14, 15, 10, 16, 19, 20, 21, 22, 23, 24, 25, 26, 27, 28, 29, 30, 31, 32, 33, 34, 35] (by decide +kernel) (by decide +kernel)
set_option maxRecDepth 20000 in
theorem gX1_slot_X0_podAtPlace_n109 : GoodIn wsX1_slot (wsX0_podAtPlace) := ggX1_slot_X0_podAtPlace
theorem dX1_slot_0 : decode cX1_slot 0 = .ok (.aload_n 0, 1) := by decide +kernel
theorem dX1_slot_1 : decode cX1_slot 1 = .ok (.iload_n 1, 1) := by decide +kernel
theorem dX1_slot_2 : decode cX1_slot 2 = .ok (.invokevirtual 19, 3) := by decide +kernel
theorem dX1_slot_5 : decode cX1_slot 5 = .ok (.aload_n 0, 1) := by decide +kernel
theorem dX1_slot_6 : decode cX1_slot 6 = .ok (.getfield 10, 3) := by decide +kernel
theorem dX1_slot_9 : decode cX1_slot 9 = .ok (.iload_n 1, 1) := by decide +kernel
theorem dX1_slot_10 : decode cX1_slot 10 = .ok (.invokevirtual 109, 3) := by decide +kernel
theorem dX1_slot_13 : decode cX1_slot 13 = .ok (.ireturn, 1) := by decide +kernel
set_option maxRecDepth 20000 in
theorem ggX1_count_X1_needWhat : GoodIn wsX1_count wsX1_needWhat := goodIn_ca (goodIn_r _ [6, 7, 8] (by decide +kernel) (by decide +kernel)) (goodIn_sub (fun _ h => List.mem_cons_of_mem _ (List.mem_append_right _ h)) (by decide +kernel))
set_option maxRecDepth 20000 in
theorem gX1_count_X1_needWhat : GoodIn wsX1_count (wsV RX1 91 RX1 yX1_needWhat wsX1_needWhat) := goodIn_app (goodIn_of _ (by decide +kernel)) ggX1_count_X1_needWhat
set_option maxRecDepth 20000 in
theorem ggX1_count_X0_tellCount : GoodIn wsX1_count wsX0_tellCount := goodIn_r _ [12, 13, 14, 15, 16, 17, 18, 19, 20, 10, 21, 22, 23, 24, 25, 26, 27, 28, 29, 30, 31, 32, 33, 34, 35, 36, 37, 38, 39, 40, 41, 42, 43, 44, 45, 46, 47, 48, 49, 50, 51, 52, 55, 56, 57, 58, 59, 60, 61, 62, 63, 64, 65, 66, 67, 68, 69, 70, 71] (by decide +kernel) (by decide +kernel)
set_option maxRecDepth 20000 in
theorem gX1_count_X0_tellCount_n112 : GoodIn wsX1_count (wsX0_tellCount) := ggX1_count_X0_tellCount
theorem dX1_count_0 : decode cX1_count 0 = .ok (.aload_n 0, 1) := by decide +kernel
theorem dX1_count_1 : decode cX1_count 1 = .ok (.iload_n 1, 1) := by decide +kernel
theorem dX1_count_2 : decode cX1_count 2 = .ok (.iconst 0, 1) := by decide +kernel
theorem dX1_count_3 : decode cX1_count 3 = .ok (.bipush 8, 2) := by decide +kernel
theorem dX1_count_5 : decode cX1_count 5 = .ok (.invokevirtual 91, 3) := by decide +kernel
theorem dX1_count_8 : decode cX1_count 8 = .ok (.aload_n 0, 1) := by decide +kernel
theorem dX1_count_9 : decode cX1_count 9 = .ok (.getfield 10, 3) := by decide +kernel
theorem dX1_count_12 : decode cX1_count 12 = .ok (.iload_n 1, 1) := by decide +kernel
theorem dX1_count_13 : decode cX1_count 13 = .ok (.invokevirtual 112, 3) := by decide +kernel
theorem dX1_count_16 : decode cX1_count 16 = .ok (.ireturn, 1) := by decide +kernel
set_option maxRecDepth 20000 in
theorem ggX1_pass_X1_needMinutes : GoodIn wsX1_pass wsX1_needMinutes := goodIn_ca (goodIn_r _ [6, 7, 8] (by decide +kernel) (by decide +kernel)) (goodIn_sub (fun _ h => List.mem_cons_of_mem _ (List.mem_append_right _ h)) (by decide +kernel))
set_option maxRecDepth 20000 in
theorem gX1_pass_X1_needMinutes : GoodIn wsX1_pass (wsV RX1 115 RX1 yX1_needMinutes wsX1_needMinutes) := goodIn_app (goodIn_of _ (by decide +kernel)) ggX1_pass_X1_needMinutes
set_option maxRecDepth 20000 in
theorem ggX1_pass_X0_arrivedInAll : GoodIn wsX1_pass wsX0_arrivedInAll := goodIn_r _ [12, 13, 14, 15, 16, 10, 17, 120, 121, 122, 123, 124, 125, 126, 127, 128, 129, 130, 131, 132, 133, 134, 135, 136] (by decide +kernel) (by decide +kernel)
set_option maxRecDepth 20000 in
theorem gX1_pass_X0_arrivedInAll_n118 : GoodIn wsX1_pass (wsX0_arrivedInAll) := ggX1_pass_X0_arrivedInAll
set_option maxRecDepth 20000 in
theorem ggX1_pass_X0_passMinute : GoodIn wsX1_pass wsX0_passMinute := goodIn_r _ [20, 13, 21, 22, 23, 24, 10, 25, 26, 27, 28, 29, 30, 15, 16, 17, 31, 32, 33, 34, 35, 36, 37, 38, 39, 40, 14, 41, 42, 43, 44, 45, 46, 47, 48, 49, 50, 51, 52, 53, 54, 55, 56, 57, 58, 59, 60, 61, 62, 63, 64, 65, 66, 67, 68, 69, 70, 71, 72, 73, 74, 75, 76, 77, 78, 79, 80, 81, 82, 83, 84, 85, 86, 87, 88, 89, 90, 91, 92, 93, 94, 95, 96, 97, 98, 99, 100, 101, 102, 103, 104, 105, 106, 107, 108, 109, 110, 111, 112, 113, 114, 115, 116, 117, 120, 121, 122, 123, 124, 125, 126, 127, 128, 129, 130, 131, 132, 133, 134, 135, 136] (by decide +kernel) (by decide +kernel)
set_option maxRecDepth 20000 in
theorem gX1_pass_X0_passMinute_n122 : GoodIn wsX1_pass (wsX0_passMinute) := ggX1_pass_X0_passMinute
theorem dX1_pass_0 : decode cX1_pass 0 = .ok (.aload_n 0, 1) := by decide +kernel
theorem dX1_pass_1 : decode cX1_pass 1 = .ok (.iload_n 1, 1) := by decide +kernel
theorem dX1_pass_2 : decode cX1_pass 2 = .ok (.invokevirtual 115, 3) := by decide +kernel
theorem dX1_pass_5 : decode cX1_pass 5 = .ok (.aload_n 0, 1) := by decide +kernel
theorem dX1_pass_6 : decode cX1_pass 6 = .ok (.getfield 10, 3) := by decide +kernel
theorem dX1_pass_9 : decode cX1_pass 9 = .ok (.invokevirtual 118, 3) := by decide +kernel
theorem dX1_pass_12 : decode cX1_pass 12 = .ok (.istore_n 2, 1) := by decide +kernel
theorem dX1_pass_13 : decode cX1_pass 13 = .ok (.iconst 0, 1) := by decide +kernel
theorem dX1_pass_14 : decode cX1_pass 14 = .ok (.istore_n 3, 1) := by decide +kernel
theorem dX1_pass_15 : decode cX1_pass 15 = .ok (.iload_n 3, 1) := by decide +kernel
theorem dX1_pass_16 : decode cX1_pass 16 = .ok (.iload_n 1, 1) := by decide +kernel
theorem dX1_pass_17 : decode cX1_pass 17 = .ok (.if_icmp .ge 16, 3) := by decide +kernel
theorem dX1_pass_20 : decode cX1_pass 20 = .ok (.aload_n 0, 1) := by decide +kernel
theorem dX1_pass_21 : decode cX1_pass 21 = .ok (.getfield 10, 3) := by decide +kernel
theorem dX1_pass_24 : decode cX1_pass 24 = .ok (.invokevirtual 122, 3) := by decide +kernel
theorem dX1_pass_27 : decode cX1_pass 27 = .ok (.iinc 3 1, 3) := by decide +kernel
theorem dX1_pass_30 : decode cX1_pass 30 = .ok (.goto (-15), 3) := by decide +kernel
theorem dX1_pass_33 : decode cX1_pass 33 = .ok (.aload_n 0, 1) := by decide +kernel
theorem dX1_pass_34 : decode cX1_pass 34 = .ok (.getfield 10, 3) := by decide +kernel
theorem dX1_pass_37 : decode cX1_pass 37 = .ok (.invokevirtual 118, 3) := by decide +kernel
theorem dX1_pass_40 : decode cX1_pass 40 = .ok (.iload_n 2, 1) := by decide +kernel
theorem dX1_pass_41 : decode cX1_pass 41 = .ok (.isub, 1) := by decide +kernel
theorem dX1_pass_42 : decode cX1_pass 42 = .ok (.ireturn, 1) := by decide +kernel
set_option maxRecDepth 20000 in
theorem ggX1_when_X1_needPod : GoodIn wsX1_when wsX1_needPod := goodIn_ca (goodIn_r _ [7, 8, 9, 1, 126, 127, 128, 129, 130, 131, 132, 133, 134, 135, 136, 137, 138, 139, 140, 141, 142, 143, 144] (by decide +kernel) (by decide +kernel)) (goodIn_sub (fun _ h => List.mem_cons_of_mem _ (List.mem_append_right _ h)) (by decide +kernel))
set_option maxRecDepth 20000 in
theorem gX1_when_X1_needPod : GoodIn wsX1_when (wsV RX1 72 RX1 yX1_needPod wsX1_needPod) := goodIn_app (goodIn_of _ (by decide +kernel)) ggX1_when_X1_needPod
set_option maxRecDepth 20000 in
theorem ggX1_when_X0_goalOf : GoodIn wsX1_when wsX0_goalOf := goodIn_r _ [13, 14, 15, 16, 11, 17, 128, 129, 130, 131, 132, 133, 134, 135, 136, 137, 138, 139, 140, 141, 142, 143, 144] (by decide +kernel) (by decide +kernel)
set_option maxRecDepth 20000 in
theorem gX1_when_X0_goalOf_n78 : GoodIn wsX1_when (wsX0_goalOf) := ggX1_when_X0_goalOf
set_option maxRecDepth 20000 in
theorem ggX1_when_X0_copyFrom : GoodIn wsX1_when wsX0_copyFrom := goodIn_r _ [20, 21, 22, 23, 24, 25, 26, 27, 28, 29, 30, 31, 32, 33, 34, 14, 35, 36, 37, 38, 11, 39, 40, 41, 42, 43, 44, 45, 46, 47, 128, 129, 130, 131, 132, 133, 134, 135, 136, 137, 138, 139, 140, 141, 142, 143, 144] (by decide +kernel) (by decide +kernel)
set_option maxRecDepth 20000 in
theorem gX1_when_X0_copyFrom_n125 : GoodIn wsX1_when (wsX0_copyFrom) := ggX1_when_X0_copyFrom
set_option maxRecDepth 20000 in
theorem ggX1_when_X0_passMinute : GoodIn wsX1_when wsX0_passMinute := goodIn_r _ [50, 22, 21, 51, 52, 53, 11, 54, 27, 44, 45, 46, 47, 15, 16, 17, 55, 56, 57, 58, 59, 60, 61, 36, 28, 35, 30, 62, 63, 64, 65, 29, 66, 67, 68, 69, 70, 10, 12, 13, 14, 71, 72, 73, 74, 75, 76, 77, 78, 79, 80, 81, 82, 83, 84, 85, 86, 87, 88, 89, 90, 31, 91, 92, 42, 93, 94, 95, 96, 97, 32, 33, 26, 34, 98, 99, 100, 101, 102, 103, 104, 105, 25, 106, 107, 108, 109, 23, 110, 111, 112, 113, 114, 115, 116, 117, 118, 119, 120, 121, 122, 123, 124, 125, 128, 129, 130, 131, 132, 133, 134, 135, 136, 137, 138, 139, 140, 141, 142, 143, 144] (by decide +kernel) (by decide +kernel)
set_option maxRecDepth 20000 in
theorem gX1_when_X0_passMinute_n122 : GoodIn wsX1_when (wsX0_passMinute) := ggX1_when_X0_passMinute
theorem dX1_when_0 : decode cX1_when 0 = .ok (.aload_n 0, 1) := by decide +kernel
theorem dX1_when_1 : decode cX1_when 1 = .ok (.iload_n 1, 1) := by decide +kernel
theorem dX1_when_2 : decode cX1_when 2 = .ok (.invokevirtual 72, 3) := by decide +kernel
theorem dX1_when_5 : decode cX1_when 5 = .ok (.aload_n 0, 1) := by decide +kernel
theorem dX1_when_6 : decode cX1_when 6 = .ok (.getfield 10, 3) := by decide +kernel
theorem dX1_when_9 : decode cX1_when 9 = .ok (.iload_n 1, 1) := by decide +kernel
theorem dX1_when_10 : decode cX1_when 10 = .ok (.invokevirtual 78, 3) := by decide +kernel
theorem dX1_when_13 : decode cX1_when 13 = .ok (.istore_n 2, 1) := by decide +kernel
theorem dX1_when_14 : decode cX1_when 14 = .ok (.iload_n 2, 1) := by decide +kernel
theorem dX1_when_15 : decode cX1_when 15 = .ok (.iconst (-1), 1) := by decide +kernel
theorem dX1_when_16 : decode cX1_when 16 = .ok (.if_icmp .ne 5, 3) := by decide +kernel
theorem dX1_when_19 : decode cX1_when 19 = .ok (.iconst (-1), 1) := by decide +kernel
theorem dX1_when_20 : decode cX1_when 20 = .ok (.ireturn, 1) := by decide +kernel
theorem dX1_when_21 : decode cX1_when 21 = .ok (.aload_n 0, 1) := by decide +kernel
theorem dX1_when_22 : decode cX1_when 22 = .ok (.getfield 16, 3) := by decide +kernel
theorem dX1_when_25 : decode cX1_when 25 = .ok (.aload_n 0, 1) := by decide +kernel
theorem dX1_when_26 : decode cX1_when 26 = .ok (.getfield 10, 3) := by decide +kernel
theorem dX1_when_29 : decode cX1_when 29 = .ok (.invokevirtual 125, 3) := by decide +kernel
theorem dX1_when_32 : decode cX1_when 32 = .ok (.iconst 1, 1) := by decide +kernel
theorem dX1_when_33 : decode cX1_when 33 = .ok (.istore_n 3, 1) := by decide +kernel
theorem dX1_when_34 : decode cX1_when 34 = .ok (.iload_n 3, 1) := by decide +kernel
theorem dX1_when_35 : decode cX1_when 35 = .ok (.sipush 200, 3) := by decide +kernel
theorem dX1_when_38 : decode cX1_when 38 = .ok (.if_icmp .gt 30, 3) := by decide +kernel
theorem dX1_when_41 : decode cX1_when 41 = .ok (.aload_n 0, 1) := by decide +kernel
theorem dX1_when_42 : decode cX1_when 42 = .ok (.getfield 16, 3) := by decide +kernel
theorem dX1_when_45 : decode cX1_when 45 = .ok (.invokevirtual 122, 3) := by decide +kernel
theorem dX1_when_48 : decode cX1_when 48 = .ok (.aload_n 0, 1) := by decide +kernel
theorem dX1_when_49 : decode cX1_when 49 = .ok (.getfield 16, 3) := by decide +kernel
theorem dX1_when_52 : decode cX1_when 52 = .ok (.iload_n 1, 1) := by decide +kernel
theorem dX1_when_53 : decode cX1_when 53 = .ok (.invokevirtual 78, 3) := by decide +kernel
theorem dX1_when_56 : decode cX1_when 56 = .ok (.iload_n 2, 1) := by decide +kernel
theorem dX1_when_57 : decode cX1_when 57 = .ok (.if_icmp .eq 5, 3) := by decide +kernel
theorem dX1_when_60 : decode cX1_when 60 = .ok (.iload_n 3, 1) := by decide +kernel
theorem dX1_when_61 : decode cX1_when 61 = .ok (.ireturn, 1) := by decide +kernel
theorem dX1_when_62 : decode cX1_when 62 = .ok (.iinc 3 1, 3) := by decide +kernel
theorem dX1_when_65 : decode cX1_when 65 = .ok (.goto (-31), 3) := by decide +kernel
theorem dX1_when_68 : decode cX1_when 68 = .ok (.iconst (-1), 1) := by decide +kernel
theorem dX1_when_69 : decode cX1_when 69 = .ok (.ireturn, 1) := by decide +kernel
set_option maxRecDepth 20000 in
theorem ggX1_answers_X1_needStation : GoodIn wsX1_answers wsX1_needStation := goodIn_ca (goodIn_r _ [6, 7, 8, 1, 49, 50, 51, 52, 53, 54, 55, 56, 57, 58, 59, 60, 61, 62, 63, 64, 65, 66, 67] (by decide +kernel) (by decide +kernel)) (goodIn_sub (fun _ h => List.mem_cons_of_mem _ (List.mem_append_right _ h)) (by decide +kernel))
set_option maxRecDepth 20000 in
theorem gX1_answers_X1_needStation : GoodIn wsX1_answers (wsV RX1 43 RX1 yX1_needStation wsX1_needStation) := goodIn_app (goodIn_of _ (by decide +kernel)) ggX1_answers_X1_needStation
set_option maxRecDepth 20000 in
theorem ggX1_answers_X0_stationThatAnswers : GoodIn wsX1_answers wsX0_stationThatAnswers := goodIn_r _ [12, 13, 14, 15, 16, 10, 17, 18, 19, 20, 21, 22, 23, 24, 25, 26, 27, 28, 29, 30, 31, 32, 33, 34, 35, 36, 37, 38, 39, 40, 41, 42, 43, 44, 45, 46, 47, 48, 51, 52, 53, 54, 55, 56, 57, 58, 59, 60, 61, 62, 63, 64, 65, 66, 67] (by decide +kernel) (by decide +kernel)
set_option maxRecDepth 20000 in
theorem gX1_answers_X0_stationThatAnswers_n133 : GoodIn wsX1_answers (wsX0_stationThatAnswers) := ggX1_answers_X0_stationThatAnswers
theorem dX1_answers_0 : decode cX1_answers 0 = .ok (.aload_n 0, 1) := by decide +kernel
theorem dX1_answers_1 : decode cX1_answers 1 = .ok (.iload_n 1, 1) := by decide +kernel
theorem dX1_answers_2 : decode cX1_answers 2 = .ok (.invokevirtual 43, 3) := by decide +kernel
theorem dX1_answers_5 : decode cX1_answers 5 = .ok (.aload_n 0, 1) := by decide +kernel
theorem dX1_answers_6 : decode cX1_answers 6 = .ok (.getfield 10, 3) := by decide +kernel
theorem dX1_answers_9 : decode cX1_answers 9 = .ok (.iload_n 1, 1) := by decide +kernel
theorem dX1_answers_10 : decode cX1_answers 10 = .ok (.invokevirtual 133, 3) := by decide +kernel
theorem dX1_answers_13 : decode cX1_answers 13 = .ok (.ireturn, 1) := by decide +kernel
set_option maxRecDepth 20000 in
theorem ggX1_foresee_X1_needMinutes : GoodIn wsX1_foresee wsX1_needMinutes := goodIn_ca (goodIn_r _ [7, 8, 9] (by decide +kernel) (by decide +kernel)) (goodIn_sub (fun _ h => List.mem_cons_of_mem _ (List.mem_append_left _ (List.mem_append_right _ h))) (by decide +kernel))
set_option maxRecDepth 20000 in
theorem gX1_foresee_X1_needMinutes : GoodIn wsX1_foresee (wsV RX1 115 RX1 yX1_needMinutes wsX1_needMinutes) := goodIn_app (goodIn_of _ (by decide +kernel)) ggX1_foresee_X1_needMinutes
set_option maxRecDepth 20000 in
theorem ggX1_foresee_X1_needWhat : GoodIn wsX1_foresee wsX1_needWhat := goodIn_ca (goodIn_r _ [13, 14, 15] (by decide +kernel) (by decide +kernel)) (goodIn_sub (fun _ h => List.mem_cons_of_mem _ (List.mem_append_right _ h)) (by decide +kernel))
set_option maxRecDepth 20000 in
theorem gX1_foresee_X1_needWhat : GoodIn wsX1_foresee (wsV RX1 91 RX1 yX1_needWhat wsX1_needWhat) := goodIn_app (goodIn_of _ (by decide +kernel)) ggX1_foresee_X1_needWhat
set_option maxRecDepth 20000 in
theorem ggX1_foresee_X0_copyFrom : GoodIn wsX1_foresee wsX0_copyFrom := goodIn_r _ [19, 20, 21, 22, 23, 24, 25, 26, 27, 28, 29, 30, 31, 32, 33, 34, 35, 36, 37, 38, 17, 39, 40, 41, 42, 43, 44, 45, 46, 47, 153, 154, 155, 156, 157, 158, 159, 160, 161, 162, 163, 164, 165, 166, 167, 168, 169] (by decide +kernel) (by decide +kernel)
set_option maxRecDepth 20000 in
theorem gX1_foresee_X0_copyFrom_n125 : GoodIn wsX1_foresee (wsX0_copyFrom) := ggX1_foresee_X0_copyFrom
set_option maxRecDepth 20000 in
theorem ggX1_foresee_X0_passMinute : GoodIn wsX1_foresee wsX0_passMinute := goodIn_r _ [50, 21, 20, 51, 52, 53, 17, 54, 26, 44, 45, 46, 47, 55, 56, 57, 58, 59, 60, 61, 62, 63, 64, 36, 27, 35, 29, 65, 66, 67, 68, 28, 69, 70, 71, 72, 73, 74, 75, 76, 34, 77, 78, 79, 80, 81, 82, 83, 84, 85, 86, 87, 88, 89, 90, 91, 92, 93, 94, 95, 96, 30, 97, 98, 42, 99, 100, 101, 102, 103, 31, 32, 25, 33, 104, 105, 106, 107, 108, 109, 110, 111, 24, 112, 113, 114, 115, 22, 116, 117, 118, 119, 120, 121, 122, 123, 124, 125, 126, 127, 128, 129, 130, 131, 153, 154, 155, 156, 157, 158, 159, 160, 161, 162, 163, 164, 165, 166, 167, 168, 169] (by decide +kernel) (by decide +kernel)
set_option maxRecDepth 20000 in
theorem gX1_foresee_X0_passMinute_n122 : GoodIn wsX1_foresee (wsX0_passMinute) := ggX1_foresee_X0_passMinute
set_option maxRecDepth 20000 in
theorem ggX1_foresee_X0_tellCount : GoodIn wsX1_foresee wsX0_tellCount := goodIn_r _ [134, 20, 21, 22, 24, 25, 135, 136, 137, 17, 138, 93, 94, 95, 96, 30, 97, 98, 42, 99, 55, 56, 57, 139, 140, 141, 142, 35, 143, 144, 145, 146, 29, 147, 148, 149, 150, 69, 70, 71, 72, 26, 153, 154, 155, 156, 157, 158, 159, 160, 161, 162, 163, 164, 165, 166, 167, 168, 169] (by decide +kernel) (by decide +kernel)
set_option maxRecDepth 20000 in
theorem gX1_foresee_X0_tellCount_n112 : GoodIn wsX1_foresee (wsX0_tellCount) := ggX1_foresee_X0_tellCount
theorem dX1_foresee_0 : decode cX1_foresee 0 = .ok (.aload_n 0, 1) := by decide +kernel
theorem dX1_foresee_1 : decode cX1_foresee 1 = .ok (.iload_n 1, 1) := by decide +kernel
theorem dX1_foresee_2 : decode cX1_foresee 2 = .ok (.invokevirtual 115, 3) := by decide +kernel
theorem dX1_foresee_5 : decode cX1_foresee 5 = .ok (.aload_n 0, 1) := by decide +kernel
theorem dX1_foresee_6 : decode cX1_foresee 6 = .ok (.iload_n 2, 1) := by decide +kernel
theorem dX1_foresee_7 : decode cX1_foresee 7 = .ok (.iconst 3, 1) := by decide +kernel
theorem dX1_foresee_8 : decode cX1_foresee 8 = .ok (.bipush 7, 2) := by decide +kernel
theorem dX1_foresee_10 : decode cX1_foresee 10 = .ok (.invokevirtual 91, 3) := by decide +kernel
theorem dX1_foresee_13 : decode cX1_foresee 13 = .ok (.aload_n 0, 1) := by decide +kernel
theorem dX1_foresee_14 : decode cX1_foresee 14 = .ok (.getfield 16, 3) := by decide +kernel
theorem dX1_foresee_17 : decode cX1_foresee 17 = .ok (.aload_n 0, 1) := by decide +kernel
theorem dX1_foresee_18 : decode cX1_foresee 18 = .ok (.getfield 10, 3) := by decide +kernel
theorem dX1_foresee_21 : decode cX1_foresee 21 = .ok (.invokevirtual 125, 3) := by decide +kernel
theorem dX1_foresee_24 : decode cX1_foresee 24 = .ok (.iconst 0, 1) := by decide +kernel
theorem dX1_foresee_25 : decode cX1_foresee 25 = .ok (.istore_n 3, 1) := by decide +kernel
theorem dX1_foresee_26 : decode cX1_foresee 26 = .ok (.iload_n 3, 1) := by decide +kernel
theorem dX1_foresee_27 : decode cX1_foresee 27 = .ok (.iload_n 1, 1) := by decide +kernel
theorem dX1_foresee_28 : decode cX1_foresee 28 = .ok (.if_icmp .ge 16, 3) := by decide +kernel
theorem dX1_foresee_31 : decode cX1_foresee 31 = .ok (.aload_n 0, 1) := by decide +kernel
theorem dX1_foresee_32 : decode cX1_foresee 32 = .ok (.getfield 16, 3) := by decide +kernel
theorem dX1_foresee_35 : decode cX1_foresee 35 = .ok (.invokevirtual 122, 3) := by decide +kernel
theorem dX1_foresee_38 : decode cX1_foresee 38 = .ok (.iinc 3 1, 3) := by decide +kernel
theorem dX1_foresee_41 : decode cX1_foresee 41 = .ok (.goto (-15), 3) := by decide +kernel
theorem dX1_foresee_44 : decode cX1_foresee 44 = .ok (.aload_n 0, 1) := by decide +kernel
theorem dX1_foresee_45 : decode cX1_foresee 45 = .ok (.getfield 16, 3) := by decide +kernel
theorem dX1_foresee_48 : decode cX1_foresee 48 = .ok (.iload_n 2, 1) := by decide +kernel
theorem dX1_foresee_49 : decode cX1_foresee 49 = .ok (.invokevirtual 112, 3) := by decide +kernel
theorem dX1_foresee_52 : decode cX1_foresee 52 = .ok (.ireturn, 1) := by decide +kernel
set_option maxRecDepth 20000 in
theorem ggX1_mean_X0_waitingInAll : GoodIn wsX1_mean wsX0_waitingInAll := goodIn_r _ [5, 6, 7, 8, 9, 3, 10, 11, 12, 13, 14, 15, 16, 17, 18, 34, 35, 36, 37, 38, 39, 40, 41, 42, 43, 44, 45, 46, 47, 48, 49, 50] (by decide +kernel) (by decide +kernel)
set_option maxRecDepth 20000 in
theorem gX1_mean_X0_waitingInAll_n136 : GoodIn wsX1_mean (wsX0_waitingInAll) := ggX1_mean_X0_waitingInAll
set_option maxRecDepth 20000 in
theorem ggX1_mean_X0_waitedInAll : GoodIn wsX1_mean wsX0_waitedInAll := goodIn_r _ [21, 6, 22, 23, 24, 3, 25, 7, 8, 9, 10, 11, 12, 13, 14, 15, 16, 17, 18, 26, 27, 28, 29, 30, 31, 34, 35, 36, 37, 38, 39, 40, 41, 42, 43, 44, 45, 46, 47, 48, 49, 50] (by decide +kernel) (by decide +kernel)
set_option maxRecDepth 20000 in
theorem gX1_mean_X0_waitedInAll_n139 : GoodIn wsX1_mean (wsX0_waitedInAll) := ggX1_mean_X0_waitedInAll
theorem dX1_mean_0 : decode cX1_mean 0 = .ok (.aload_n 0, 1) := by decide +kernel
theorem dX1_mean_1 : decode cX1_mean 1 = .ok (.getfield 10, 3) := by decide +kernel
theorem dX1_mean_4 : decode cX1_mean 4 = .ok (.invokevirtual 136, 3) := by decide +kernel
theorem dX1_mean_7 : decode cX1_mean 7 = .ok (.istore_n 1, 1) := by decide +kernel
theorem dX1_mean_8 : decode cX1_mean 8 = .ok (.iload_n 1, 1) := by decide +kernel
theorem dX1_mean_9 : decode cX1_mean 9 = .ok (.ifCond .gt 5, 3) := by decide +kernel
theorem dX1_mean_12 : decode cX1_mean 12 = .ok (.dconst 0, 1) := by decide +kernel
theorem dX1_mean_13 : decode cX1_mean 13 = .ok (.dreturn, 1) := by decide +kernel
theorem dX1_mean_14 : decode cX1_mean 14 = .ok (.aload_n 0, 1) := by decide +kernel
theorem dX1_mean_15 : decode cX1_mean 15 = .ok (.getfield 10, 3) := by decide +kernel
theorem dX1_mean_18 : decode cX1_mean 18 = .ok (.invokevirtual 139, 3) := by decide +kernel
theorem dX1_mean_21 : decode cX1_mean 21 = .ok (.i2d, 1) := by decide +kernel
theorem dX1_mean_22 : decode cX1_mean 22 = .ok (.iload_n 1, 1) := by decide +kernel
theorem dX1_mean_23 : decode cX1_mean 23 = .ok (.i2d, 1) := by decide +kernel
theorem dX1_mean_24 : decode cX1_mean 24 = .ok (.ddiv, 1) := by decide +kernel
theorem dX1_mean_25 : decode cX1_mean 25 = .ok (.dreturn, 1) := by decide +kernel
theorem dX1_needPlace_0 : decode cX1_needPlace 0 = .ok (.iload_n 1, 1) := by decide +kernel
theorem dX1_needPlace_1 : decode cX1_needPlace 1 = .ok (.ifCond .lt 9, 3) := by decide +kernel
theorem dX1_needPlace_4 : decode cX1_needPlace 4 = .ok (.iload_n 1, 1) := by decide +kernel
theorem dX1_needPlace_5 : decode cX1_needPlace 5 = .ok (.bipush 24, 2) := by decide +kernel
theorem dX1_needPlace_7 : decode cX1_needPlace 7 = .ok (.if_icmp .lt 13, 3) := by decide +kernel
theorem dX1_needPlace_10 : decode cX1_needPlace 10 = .ok (.new 101, 3) := by decide +kernel
theorem dX1_needPlace_13 : decode cX1_needPlace 13 = .ok (.dup, 1) := by decide +kernel
theorem dX1_needPlace_14 : decode cX1_needPlace 14 = .ok (.ldc 150, 2) := by decide +kernel
theorem dX1_needPlace_16 : decode cX1_needPlace 16 = .ok (.invokespecial 105, 3) := by decide +kernel
theorem dX1_needPlace_19 : decode cX1_needPlace 19 = .ok (.athrow, 1) := by decide +kernel
theorem dX1_needPlace_20 : decode cX1_needPlace 20 = .ok (.return_, 1) := by decide +kernel
theorem dX1_needStation_0 : decode cX1_needStation 0 = .ok (.iload_n 1, 1) := by decide +kernel
theorem dX1_needStation_1 : decode cX1_needStation 1 = .ok (.ifCond .lt 14, 3) := by decide +kernel
theorem dX1_needStation_4 : decode cX1_needStation 4 = .ok (.iload_n 1, 1) := by decide +kernel
theorem dX1_needStation_5 : decode cX1_needStation 5 = .ok (.aload_n 0, 1) := by decide +kernel
theorem dX1_needStation_6 : decode cX1_needStation 6 = .ok (.getfield 10, 3) := by decide +kernel
theorem dX1_needStation_9 : decode cX1_needStation 9 = .ok (.getfield 23, 3) := by decide +kernel
theorem dX1_needStation_12 : decode cX1_needStation 12 = .ok (.if_icmp .lt 13, 3) := by decide +kernel
theorem dX1_needStation_15 : decode cX1_needStation 15 = .ok (.new 101, 3) := by decide +kernel
theorem dX1_needStation_18 : decode cX1_needStation 18 = .ok (.dup, 1) := by decide +kernel
theorem dX1_needStation_19 : decode cX1_needStation 19 = .ok (.ldc 152, 2) := by decide +kernel
theorem dX1_needStation_21 : decode cX1_needStation 21 = .ok (.invokespecial 105, 3) := by decide +kernel
theorem dX1_needStation_24 : decode cX1_needStation 24 = .ok (.athrow, 1) := by decide +kernel
theorem dX1_needStation_25 : decode cX1_needStation 25 = .ok (.return_, 1) := by decide +kernel
set_option maxRecDepth 20000 in
theorem ggX1_needTwoStations_X1_needStation : GoodIn wsX1_needTwoStations wsX1_needStation := goodIn_ca (goodIn_r _ [7, 8, 9, 10, 11, 12, 13, 14, 15, 16, 17, 18, 19, 20, 21, 22, 23, 24, 25, 26, 27, 28, 29] (by decide +kernel) (by decide +kernel)) (goodIn_sub (fun _ h => List.mem_cons_of_mem _ (List.mem_append_right _ h)) (by decide +kernel))
set_option maxRecDepth 20000 in
theorem gX1_needTwoStations_X1_needStation : GoodIn wsX1_needTwoStations (wsV RX1 43 RX1 yX1_needStation wsX1_needStation) := goodIn_app (goodIn_of _ (by decide +kernel)) ggX1_needTwoStations_X1_needStation
theorem dX1_needTwoStations_0 : decode cX1_needTwoStations 0 = .ok (.aload_n 0, 1) := by decide +kernel
theorem dX1_needTwoStations_1 : decode cX1_needTwoStations 1 = .ok (.iload_n 1, 1) := by decide +kernel
theorem dX1_needTwoStations_2 : decode cX1_needTwoStations 2 = .ok (.invokevirtual 43, 3) := by decide +kernel
theorem dX1_needTwoStations_5 : decode cX1_needTwoStations 5 = .ok (.aload_n 0, 1) := by decide +kernel
theorem dX1_needTwoStations_6 : decode cX1_needTwoStations 6 = .ok (.iload_n 2, 1) := by decide +kernel
theorem dX1_needTwoStations_7 : decode cX1_needTwoStations 7 = .ok (.invokevirtual 43, 3) := by decide +kernel
theorem dX1_needTwoStations_10 : decode cX1_needTwoStations 10 = .ok (.iload_n 1, 1) := by decide +kernel
theorem dX1_needTwoStations_11 : decode cX1_needTwoStations 11 = .ok (.iload_n 2, 1) := by decide +kernel
theorem dX1_needTwoStations_12 : decode cX1_needTwoStations 12 = .ok (.if_icmp .ne 13, 3) := by decide +kernel
theorem dX1_needTwoStations_15 : decode cX1_needTwoStations 15 = .ok (.new 154, 3) := by decide +kernel
theorem dX1_needTwoStations_18 : decode cX1_needTwoStations 18 = .ok (.dup, 1) := by decide +kernel
theorem dX1_needTwoStations_19 : decode cX1_needTwoStations 19 = .ok (.ldc 156, 2) := by decide +kernel
theorem dX1_needTwoStations_21 : decode cX1_needTwoStations 21 = .ok (.invokespecial 158, 3) := by decide +kernel
theorem dX1_needTwoStations_24 : decode cX1_needTwoStations 24 = .ok (.athrow, 1) := by decide +kernel
theorem dX1_needTwoStations_25 : decode cX1_needTwoStations 25 = .ok (.return_, 1) := by decide +kernel
theorem dX1_needPod_0 : decode cX1_needPod 0 = .ok (.iload_n 1, 1) := by decide +kernel
theorem dX1_needPod_1 : decode cX1_needPod 1 = .ok (.ifCond .lt 14, 3) := by decide +kernel
theorem dX1_needPod_4 : decode cX1_needPod 4 = .ok (.iload_n 1, 1) := by decide +kernel
theorem dX1_needPod_5 : decode cX1_needPod 5 = .ok (.aload_n 0, 1) := by decide +kernel
theorem dX1_needPod_6 : decode cX1_needPod 6 = .ok (.getfield 10, 3) := by decide +kernel
theorem dX1_needPod_9 : decode cX1_needPod 9 = .ok (.getfield 46, 3) := by decide +kernel
theorem dX1_needPod_12 : decode cX1_needPod 12 = .ok (.if_icmp .lt 13, 3) := by decide +kernel
theorem dX1_needPod_15 : decode cX1_needPod 15 = .ok (.new 101, 3) := by decide +kernel
theorem dX1_needPod_18 : decode cX1_needPod 18 = .ok (.dup, 1) := by decide +kernel
theorem dX1_needPod_19 : decode cX1_needPod 19 = .ok (.ldc 159, 2) := by decide +kernel
theorem dX1_needPod_21 : decode cX1_needPod 21 = .ok (.invokespecial 105, 3) := by decide +kernel
theorem dX1_needPod_24 : decode cX1_needPod 24 = .ok (.athrow, 1) := by decide +kernel
theorem dX1_needPod_25 : decode cX1_needPod 25 = .ok (.return_, 1) := by decide +kernel
theorem dX1_needWhat_0 : decode cX1_needWhat 0 = .ok (.iload_n 1, 1) := by decide +kernel
theorem dX1_needWhat_1 : decode cX1_needWhat 1 = .ok (.iload_n 2, 1) := by decide +kernel
theorem dX1_needWhat_2 : decode cX1_needWhat 2 = .ok (.if_icmp .lt 8, 3) := by decide +kernel
theorem dX1_needWhat_5 : decode cX1_needWhat 5 = .ok (.iload_n 1, 1) := by decide +kernel
theorem dX1_needWhat_6 : decode cX1_needWhat 6 = .ok (.iload_n 3, 1) := by decide +kernel
theorem dX1_needWhat_7 : decode cX1_needWhat 7 = .ok (.if_icmp .le 13, 3) := by decide +kernel
theorem dX1_needWhat_10 : decode cX1_needWhat 10 = .ok (.new 101, 3) := by decide +kernel
theorem dX1_needWhat_13 : decode cX1_needWhat 13 = .ok (.dup, 1) := by decide +kernel
theorem dX1_needWhat_14 : decode cX1_needWhat 14 = .ok (.ldc 161, 2) := by decide +kernel
theorem dX1_needWhat_16 : decode cX1_needWhat 16 = .ok (.invokespecial 105, 3) := by decide +kernel
theorem dX1_needWhat_19 : decode cX1_needWhat 19 = .ok (.athrow, 1) := by decide +kernel
theorem dX1_needWhat_20 : decode cX1_needWhat 20 = .ok (.return_, 1) := by decide +kernel
theorem dX1_needMinutes_0 : decode cX1_needMinutes 0 = .ok (.iload_n 1, 1) := by decide +kernel
theorem dX1_needMinutes_1 : decode cX1_needMinutes 1 = .ok (.iconst 1, 1) := by decide +kernel
theorem dX1_needMinutes_2 : decode cX1_needMinutes 2 = .ok (.if_icmp .lt 9, 3) := by decide +kernel
theorem dX1_needMinutes_5 : decode cX1_needMinutes 5 = .ok (.iload_n 1, 1) := by decide +kernel
theorem dX1_needMinutes_6 : decode cX1_needMinutes 6 = .ok (.bipush 100, 2) := by decide +kernel
theorem dX1_needMinutes_8 : decode cX1_needMinutes 8 = .ok (.if_icmp .le 13, 3) := by decide +kernel
theorem dX1_needMinutes_11 : decode cX1_needMinutes 11 = .ok (.new 154, 3) := by decide +kernel
theorem dX1_needMinutes_14 : decode cX1_needMinutes 14 = .ok (.dup, 1) := by decide +kernel
theorem dX1_needMinutes_15 : decode cX1_needMinutes 15 = .ok (.ldc 163, 2) := by decide +kernel
theorem dX1_needMinutes_17 : decode cX1_needMinutes 17 = .ok (.invokespecial 158, 3) := by decide +kernel
theorem dX1_needMinutes_20 : decode cX1_needMinutes 20 = .ok (.athrow, 1) := by decide +kernel
theorem dX1_needMinutes_21 : decode cX1_needMinutes 21 = .ok (.return_, 1) := by decide +kernel
