theorem dX5_init_0 : decode cX5_init 0 = .ok (.aload_n 0, 1) := by decide +kernel
theorem dX5_init_1 : decode cX5_init 1 = .ok (.invokespecial 1, 3) := by decide +kernel
theorem dX5_init_4 : decode cX5_init 4 = .ok (.aload_n 0, 1) := by decide +kernel
theorem dX5_init_5 : decode cX5_init 5 = .ok (.new 7, 3) := by decide +kernel
theorem dX5_init_8 : decode cX5_init 8 = .ok (.dup, 1) := by decide +kernel
theorem dX5_init_9 : decode cX5_init 9 = .ok (.invokespecial 9, 3) := by decide +kernel
theorem dX5_init_12 : decode cX5_init 12 = .ok (.putfield 10, 3) := by decide +kernel
theorem dX5_init_15 : decode cX5_init 15 = .ok (.aload_n 0, 1) := by decide +kernel
theorem dX5_init_16 : decode cX5_init 16 = .ok (.new 7, 3) := by decide +kernel
theorem dX5_init_19 : decode cX5_init 19 = .ok (.dup, 1) := by decide +kernel
theorem dX5_init_20 : decode cX5_init 20 = .ok (.invokespecial 9, 3) := by decide +kernel
theorem dX5_init_23 : decode cX5_init 23 = .ok (.putfield 16, 3) := by decide +kernel
theorem dX5_init_26 : decode cX5_init 26 = .ok (.aload_n 0, 1) := by decide +kernel
theorem dX5_init_27 : decode cX5_init 27 = .ok (.new 7, 3) := by decide +kernel
theorem dX5_init_30 : decode cX5_init 30 = .ok (.dup, 1) := by decide +kernel
theorem dX5_init_31 : decode cX5_init 31 = .ok (.invokespecial 9, 3) := by decide +kernel
theorem dX5_init_34 : decode cX5_init 34 = .ok (.putfield 19, 3) := by decide +kernel
theorem dX5_init_37 : decode cX5_init 37 = .ok (.aload_n 0, 1) := by decide +kernel
theorem dX5_init_38 : decode cX5_init 38 = .ok (.new 22, 3) := by decide +kernel
theorem dX5_init_41 : decode cX5_init 41 = .ok (.dup, 1) := by decide +kernel
theorem dX5_init_42 : decode cX5_init 42 = .ok (.invokespecial 24, 3) := by decide +kernel
theorem dX5_init_45 : decode cX5_init 45 = .ok (.putfield 25, 3) := by decide +kernel
theorem dX5_init_48 : decode cX5_init 48 = .ok (.aload_n 0, 1) := by decide +kernel
theorem dX5_init_49 : decode cX5_init 49 = .ok (.new 29, 3) := by decide +kernel
theorem dX5_init_52 : decode cX5_init 52 = .ok (.dup, 1) := by decide +kernel
theorem dX5_init_53 : decode cX5_init 53 = .ok (.invokespecial 31, 3) := by decide +kernel
theorem dX5_init_56 : decode cX5_init 56 = .ok (.putfield 32, 3) := by decide +kernel
theorem dX5_init_59 : decode cX5_init 59 = .ok (.aload_n 0, 1) := by decide +kernel
theorem dX5_init_60 : decode cX5_init 60 = .ok (.new 36, 3) := by decide +kernel
theorem dX5_init_63 : decode cX5_init 63 = .ok (.dup, 1) := by decide +kernel
theorem dX5_init_64 : decode cX5_init 64 = .ok (.invokespecial 38, 3) := by decide +kernel
theorem dX5_init_67 : decode cX5_init 67 = .ok (.putfield 39, 3) := by decide +kernel
theorem dX5_init_70 : decode cX5_init 70 = .ok (.aload_n 0, 1) := by decide +kernel
theorem dX5_init_71 : decode cX5_init 71 = .ok (.bipush 25, 2) := by decide +kernel
theorem dX5_init_73 : decode cX5_init 73 = .ok (.newarray .int, 2) := by decide +kernel
theorem dX5_init_75 : decode cX5_init 75 = .ok (.putfield 43, 3) := by decide +kernel
theorem dX5_init_78 : decode cX5_init 78 = .ok (.return_, 1) := by decide +kernel
set_option maxRecDepth 20000 in
theorem ggX5_stitch_X2_has : GoodIn wsX5_stitch wsX2_has := goodIn_r _ [8, 9, 10, 11, 12, 39, 40, 41, 42, 43] (by decide +kernel) (by decide +kernel)
set_option maxRecDepth 20000 in
theorem gX5_stitch_X2_has : GoodIn wsX5_stitch (wsV RX5 51 RX2 yX2_has wsX2_has) := goodIn_app (goodIn_of _ (by decide +kernel)) ggX5_stitch_X2_has
set_option maxRecDepth 20000 in
theorem ggX5_stitch_X5_isBelow : GoodIn wsX5_stitch wsX5_isBelow := goodIn_r _ [12] (by decide +kernel) (by decide +kernel)
set_option maxRecDepth 20000 in
theorem gX5_stitch_X5_isBelow : GoodIn wsX5_stitch (va_wsS RX5 57 yX5_isBelow wsX5_isBelow) := goodIn_app (goodIn_of _ (by decide +kernel)) ggX5_stitch_X5_isBelow
set_option maxRecDepth 20000 in
theorem ggX5_stitch_X2_isFull : GoodIn wsX5_stitch wsX2_isFull := goodIn_r _ [17, 9, 39, 40, 41, 42, 43] (by decide +kernel) (by decide +kernel)
set_option maxRecDepth 20000 in
theorem gX5_stitch_X2_isFull : GoodIn wsX5_stitch (wsV RX5 61 RX2 yX2_isFull wsX2_isFull) := goodIn_app (goodIn_of _ (by decide +kernel)) ggX5_stitch_X2_isFull
set_option maxRecDepth 20000 in
theorem ggX5_stitch_X2_append : GoodIn wsX5_stitch wsX2_append := goodIn_r _ [21, 22, 9, 23, 24, 25, 11, 26, 39, 40, 41, 42, 43] (by decide +kernel) (by decide +kernel)
set_option maxRecDepth 20000 in
theorem gX5_stitch_X2_append : GoodIn wsX5_stitch (wsV RX5 65 RX2 yX2_append wsX2_append) := goodIn_app (goodIn_of _ (by decide +kernel)) ggX5_stitch_X2_append
theorem dX5_stitch_0 : decode cX5_stitch 0 = .ok (.aload_n 0, 1) := by decide +kernel
theorem dX5_stitch_1 : decode cX5_stitch 1 = .ok (.getfield 10, 3) := by decide +kernel
theorem dX5_stitch_4 : decode cX5_stitch 4 = .ok (.getfield 47, 3) := by decide +kernel
theorem dX5_stitch_7 : decode cX5_stitch 7 = .ok (.astore 4, 2) := by decide +kernel
theorem dX5_stitch_9 : decode cX5_stitch 9 = .ok (.iload_n 3, 1) := by decide +kernel
theorem dX5_stitch_10 : decode cX5_stitch 10 = .ok (.iconst (-1), 1) := by decide +kernel
theorem dX5_stitch_11 : decode cX5_stitch 11 = .ok (.if_icmp .eq 14, 3) := by decide +kernel
theorem dX5_stitch_14 : decode cX5_stitch 14 = .ok (.aload 4, 2) := by decide +kernel
theorem dX5_stitch_16 : decode cX5_stitch 16 = .ok (.iload_n 3, 1) := by decide +kernel
theorem dX5_stitch_17 : decode cX5_stitch 17 = .ok (.invokevirtual 51, 3) := by decide +kernel
theorem dX5_stitch_20 : decode cX5_stitch 20 = .ok (.ifCond .ne 5, 3) := by decide +kernel
theorem dX5_stitch_23 : decode cX5_stitch 23 = .ok (.iconst (-1), 1) := by decide +kernel
theorem dX5_stitch_24 : decode cX5_stitch 24 = .ok (.ireturn, 1) := by decide +kernel
theorem dX5_stitch_25 : decode cX5_stitch 25 = .ok (.iload_n 1, 1) := by decide +kernel
theorem dX5_stitch_26 : decode cX5_stitch 26 = .ok (.iconst 4, 1) := by decide +kernel
theorem dX5_stitch_27 : decode cX5_stitch 27 = .ok (.invokestatic 57, 3) := by decide +kernel
theorem dX5_stitch_30 : decode cX5_stitch 30 = .ok (.ifCond .eq 12, 3) := by decide +kernel
theorem dX5_stitch_33 : decode cX5_stitch 33 = .ok (.iload_n 2, 1) := by decide +kernel
theorem dX5_stitch_34 : decode cX5_stitch 34 = .ok (.bipush 10, 2) := by decide +kernel
theorem dX5_stitch_36 : decode cX5_stitch 36 = .ok (.invokestatic 57, 3) := by decide +kernel
theorem dX5_stitch_39 : decode cX5_stitch 39 = .ok (.ifCond .ne 6, 3) := by decide +kernel
theorem dX5_stitch_42 : decode cX5_stitch 42 = .ok (.bipush (-2), 2) := by decide +kernel
theorem dX5_stitch_44 : decode cX5_stitch 44 = .ok (.ireturn, 1) := by decide +kernel
theorem dX5_stitch_45 : decode cX5_stitch 45 = .ok (.aload 4, 2) := by decide +kernel
theorem dX5_stitch_47 : decode cX5_stitch 47 = .ok (.invokevirtual 61, 3) := by decide +kernel
theorem dX5_stitch_50 : decode cX5_stitch 50 = .ok (.ifCond .eq 6, 3) := by decide +kernel
theorem dX5_stitch_53 : decode cX5_stitch 53 = .ok (.bipush (-4), 2) := by decide +kernel
theorem dX5_stitch_55 : decode cX5_stitch 55 = .ok (.ireturn, 1) := by decide +kernel
theorem dX5_stitch_56 : decode cX5_stitch 56 = .ok (.aload 4, 2) := by decide +kernel
theorem dX5_stitch_58 : decode cX5_stitch 58 = .ok (.iload_n 1, 1) := by decide +kernel
theorem dX5_stitch_59 : decode cX5_stitch 59 = .ok (.iload_n 2, 1) := by decide +kernel
theorem dX5_stitch_60 : decode cX5_stitch 60 = .ok (.iload_n 3, 1) := by decide +kernel
theorem dX5_stitch_61 : decode cX5_stitch 61 = .ok (.invokevirtual 65, 3) := by decide +kernel
theorem dX5_stitch_64 : decode cX5_stitch 64 = .ok (.aload 4, 2) := by decide +kernel
theorem dX5_stitch_66 : decode cX5_stitch 66 = .ok (.getfield 69, 3) := by decide +kernel
theorem dX5_stitch_69 : decode cX5_stitch 69 = .ok (.ireturn, 1) := by decide +kernel
set_option maxRecDepth 20000 in
theorem ggX5_cast_X2_clear : GoodIn wsX5_cast wsX2_clear := goodIn_r _ [8, 9, 10, 23, 24, 25, 26, 27] (by decide +kernel) (by decide +kernel)
set_option maxRecDepth 20000 in
theorem gX5_cast_X2_clear : GoodIn wsX5_cast (wsV RX5 73 RX2 yX2_clear wsX2_clear) := goodIn_app (goodIn_of _ (by decide +kernel)) ggX5_cast_X2_clear
theorem dX5_cast_0 : decode cX5_cast 0 = .ok (.aload_n 0, 1) := by decide +kernel
theorem dX5_cast_1 : decode cX5_cast 1 = .ok (.getfield 10, 3) := by decide +kernel
theorem dX5_cast_4 : decode cX5_cast 4 = .ok (.getfield 47, 3) := by decide +kernel
theorem dX5_cast_7 : decode cX5_cast 7 = .ok (.getfield 69, 3) := by decide +kernel
theorem dX5_cast_10 : decode cX5_cast 10 = .ok (.istore_n 1, 1) := by decide +kernel
theorem dX5_cast_11 : decode cX5_cast 11 = .ok (.aload_n 0, 1) := by decide +kernel
theorem dX5_cast_12 : decode cX5_cast 12 = .ok (.getfield 10, 3) := by decide +kernel
theorem dX5_cast_15 : decode cX5_cast 15 = .ok (.getfield 47, 3) := by decide +kernel
theorem dX5_cast_18 : decode cX5_cast 18 = .ok (.invokevirtual 73, 3) := by decide +kernel
theorem dX5_cast_21 : decode cX5_cast 21 = .ok (.iload_n 1, 1) := by decide +kernel
theorem dX5_cast_22 : decode cX5_cast 22 = .ok (.ireturn, 1) := by decide +kernel
set_option maxRecDepth 20000 in
theorem ggX5_knitter_X5_isBelow : GoodIn wsX5_knitter wsX5_isBelow := goodIn_r _ [6] (by decide +kernel) (by decide +kernel)
set_option maxRecDepth 20000 in
theorem gX5_knitter_X5_isBelow : GoodIn wsX5_knitter (va_wsS RX5 57 yX5_isBelow wsX5_isBelow) := goodIn_app (goodIn_of _ (by decide +kernel)) ggX5_knitter_X5_isBelow
set_option maxRecDepth 20000 in
theorem ggX5_knitter_X3_tightnessOf : GoodIn wsX5_knitter wsX3_tightnessOf := goodIn_r _ [11, 12, 13, 5, 14, 26, 27, 28, 29] (by decide +kernel) (by decide +kernel)
set_option maxRecDepth 20000 in
theorem gX5_knitter_X3_tightnessOf : GoodIn wsX5_knitter (wsV RX5 76 RX3 yX3_tightnessOf wsX3_tightnessOf) := goodIn_app (goodIn_of _ (by decide +kernel)) ggX5_knitter_X3_tightnessOf
set_option maxRecDepth 20000 in
theorem ggX5_knitter_X5_put : GoodIn wsX5_knitter wsX5_put := goodIn_r _ [17] (by decide +kernel) (by decide +kernel)
set_option maxRecDepth 20000 in
theorem gX5_knitter_X5_put : GoodIn wsX5_knitter (va_wsS RX5 83 yX5_put wsX5_put) := goodIn_app (goodIn_of _ (by decide +kernel)) ggX5_knitter_X5_put
theorem dX5_knitter_0 : decode cX5_knitter 0 = .ok (.iload_n 1, 1) := by decide +kernel
theorem dX5_knitter_1 : decode cX5_knitter 1 = .ok (.iconst 4, 1) := by decide +kernel
theorem dX5_knitter_2 : decode cX5_knitter 2 = .ok (.invokestatic 57, 3) := by decide +kernel
theorem dX5_knitter_5 : decode cX5_knitter 5 = .ok (.ifCond .ne 5, 3) := by decide +kernel
theorem dX5_knitter_8 : decode cX5_knitter 8 = .ok (.iconst (-1), 1) := by decide +kernel
theorem dX5_knitter_9 : decode cX5_knitter 9 = .ok (.ireturn, 1) := by decide +kernel
theorem dX5_knitter_10 : decode cX5_knitter 10 = .ok (.iload_n 2, 1) := by decide +kernel
theorem dX5_knitter_11 : decode cX5_knitter 11 = .ok (.bipush 10, 2) := by decide +kernel
theorem dX5_knitter_13 : decode cX5_knitter 13 = .ok (.invokestatic 57, 3) := by decide +kernel
theorem dX5_knitter_16 : decode cX5_knitter 16 = .ok (.ifCond .ne 6, 3) := by decide +kernel
theorem dX5_knitter_19 : decode cX5_knitter 19 = .ok (.bipush (-2), 2) := by decide +kernel
theorem dX5_knitter_21 : decode cX5_knitter 21 = .ok (.ireturn, 1) := by decide +kernel
theorem dX5_knitter_22 : decode cX5_knitter 22 = .ok (.aload_n 0, 1) := by decide +kernel
theorem dX5_knitter_23 : decode cX5_knitter 23 = .ok (.getfield 10, 3) := by decide +kernel
theorem dX5_knitter_26 : decode cX5_knitter 26 = .ok (.iload_n 1, 1) := by decide +kernel
theorem dX5_knitter_27 : decode cX5_knitter 27 = .ok (.invokevirtual 76, 3) := by decide +kernel
theorem dX5_knitter_30 : decode cX5_knitter 30 = .ok (.istore_n 3, 1) := by decide +kernel
theorem dX5_knitter_31 : decode cX5_knitter 31 = .ok (.aload_n 0, 1) := by decide +kernel
theorem dX5_knitter_32 : decode cX5_knitter 32 = .ok (.getfield 10, 3) := by decide +kernel
theorem dX5_knitter_35 : decode cX5_knitter 35 = .ok (.getfield 80, 3) := by decide +kernel
theorem dX5_knitter_38 : decode cX5_knitter 38 = .ok (.iload_n 1, 1) := by decide +kernel
theorem dX5_knitter_39 : decode cX5_knitter 39 = .ok (.iload_n 2, 1) := by decide +kernel
theorem dX5_knitter_40 : decode cX5_knitter 40 = .ok (.invokestatic 83, 3) := by decide +kernel
theorem dX5_knitter_43 : decode cX5_knitter 43 = .ok (.iload_n 3, 1) := by decide +kernel
theorem dX5_knitter_44 : decode cX5_knitter 44 = .ok (.ireturn, 1) := by decide +kernel
set_option maxRecDepth 20000 in
theorem ggX5_say_X1_append : GoodIn wsX5_say wsX1_append := goodIn_r _ [7, 8, 9, 10, 11, 12, 21, 22] (by decide +kernel) (by decide +kernel)
set_option maxRecDepth 20000 in
theorem gX5_say_X1_append : GoodIn wsX5_say (wsV RX5 90 RX1 yX1_append wsX1_append) := goodIn_app (goodIn_of _ (by decide +kernel)) ggX5_say_X1_append
theorem dX5_say_0 : decode cX5_say 0 = .ok (.iload_n 1, 1) := by decide +kernel
theorem dX5_say_1 : decode cX5_say 1 = .ok (.bipush 33, 2) := by decide +kernel
theorem dX5_say_3 : decode cX5_say 3 = .ok (.if_icmp .lt 9, 3) := by decide +kernel
theorem dX5_say_6 : decode cX5_say 6 = .ok (.iload_n 1, 1) := by decide +kernel
theorem dX5_say_7 : decode cX5_say 7 = .ok (.bipush 126, 2) := by decide +kernel
theorem dX5_say_9 : decode cX5_say 9 = .ok (.if_icmp .le 6, 3) := by decide +kernel
theorem dX5_say_12 : decode cX5_say 12 = .ok (.bipush (-2), 2) := by decide +kernel
theorem dX5_say_14 : decode cX5_say 14 = .ok (.ireturn, 1) := by decide +kernel
theorem dX5_say_15 : decode cX5_say 15 = .ok (.aload_n 0, 1) := by decide +kernel
theorem dX5_say_16 : decode cX5_say 16 = .ok (.getfield 25, 3) := by decide +kernel
theorem dX5_say_19 : decode cX5_say 19 = .ok (.getfield 87, 3) := by decide +kernel
theorem dX5_say_22 : decode cX5_say 22 = .ok (.bipush 60, 2) := by decide +kernel
theorem dX5_say_24 : decode cX5_say 24 = .ok (.if_icmp .lt 6, 3) := by decide +kernel
theorem dX5_say_27 : decode cX5_say 27 = .ok (.bipush (-4), 2) := by decide +kernel
theorem dX5_say_29 : decode cX5_say 29 = .ok (.ireturn, 1) := by decide +kernel
theorem dX5_say_30 : decode cX5_say 30 = .ok (.aload_n 0, 1) := by decide +kernel
theorem dX5_say_31 : decode cX5_say 31 = .ok (.getfield 25, 3) := by decide +kernel
theorem dX5_say_34 : decode cX5_say 34 = .ok (.iload_n 1, 1) := by decide +kernel
theorem dX5_say_35 : decode cX5_say 35 = .ok (.invokevirtual 90, 3) := by decide +kernel
theorem dX5_say_38 : decode cX5_say 38 = .ok (.aload_n 0, 1) := by decide +kernel
theorem dX5_say_39 : decode cX5_say 39 = .ok (.getfield 25, 3) := by decide +kernel
theorem dX5_say_42 : decode cX5_say 42 = .ok (.getfield 87, 3) := by decide +kernel
theorem dX5_say_45 : decode cX5_say 45 = .ok (.ireturn, 1) := by decide +kernel
theorem dX5_wipe_0 : decode cX5_wipe 0 = .ok (.aload_n 0, 1) := by decide +kernel
theorem dX5_wipe_1 : decode cX5_wipe 1 = .ok (.getfield 25, 3) := by decide +kernel
theorem dX5_wipe_4 : decode cX5_wipe 4 = .ok (.getfield 87, 3) := by decide +kernel
theorem dX5_wipe_7 : decode cX5_wipe 7 = .ok (.istore_n 1, 1) := by decide +kernel
theorem dX5_wipe_8 : decode cX5_wipe 8 = .ok (.aload_n 0, 1) := by decide +kernel
theorem dX5_wipe_9 : decode cX5_wipe 9 = .ok (.getfield 25, 3) := by decide +kernel
theorem dX5_wipe_12 : decode cX5_wipe 12 = .ok (.iconst 0, 1) := by decide +kernel
theorem dX5_wipe_13 : decode cX5_wipe 13 = .ok (.putfield 87, 3) := by decide +kernel
theorem dX5_wipe_16 : decode cX5_wipe 16 = .ok (.iload_n 1, 1) := by decide +kernel
theorem dX5_wipe_17 : decode cX5_wipe 17 = .ok (.ireturn, 1) := by decide +kernel
set_option maxRecDepth 20000 in
theorem ggX5_fault_X1_firstFault : GoodIn wsX5_fault wsX1_firstFault := goodIn_r _ [6, 7, 8, 9, 10, 5, 11, 12, 13, 14, 15, 16, 17, 18, 19, 20, 21, 22, 23, 24, 25, 26, 27, 28, 29, 30, 31, 32, 33, 34, 35, 36, 45, 46] (by decide +kernel) (by decide +kernel)
set_option maxRecDepth 20000 in
theorem gX5_fault_X1_firstFault : GoodIn wsX5_fault (wsV RX5 93 RX1 yX1_firstFault wsX1_firstFault) := goodIn_app (goodIn_of _ (by decide +kernel)) ggX5_fault_X1_firstFault
theorem dX5_fault_0 : decode cX5_fault 0 = .ok (.aload_n 0, 1) := by decide +kernel
theorem dX5_fault_1 : decode cX5_fault 1 = .ok (.getfield 25, 3) := by decide +kernel
theorem dX5_fault_4 : decode cX5_fault 4 = .ok (.invokevirtual 93, 3) := by decide +kernel
theorem dX5_fault_7 : decode cX5_fault 7 = .ok (.ireturn, 1) := by decide +kernel
set_option maxRecDepth 20000 in
theorem ggX5_judge_X5_isBelow : GoodIn wsX5_judge wsX5_isBelow := goodIn_r _ [8] (by decide +kernel) (by decide +kernel)
set_option maxRecDepth 20000 in
theorem gX5_judge_X5_isBelow : GoodIn wsX5_judge (va_wsS RX5 57 yX5_isBelow wsX5_isBelow) := goodIn_app (goodIn_of _ (by decide +kernel)) ggX5_judge_X5_isBelow
set_option maxRecDepth 20000 in
theorem ggX5_judge_X1_firstFault : GoodIn wsX5_judge wsX1_firstFault := goodIn_r _ [13, 14, 15, 16, 17, 12, 18, 19, 20, 21, 22, 23, 24, 7, 25, 6, 8, 26, 27, 28, 29, 30, 31, 32, 33, 34, 35, 36, 37, 38, 39, 40, 162, 163] (by decide +kernel) (by decide +kernel)
set_option maxRecDepth 20000 in
theorem gX5_judge_X1_firstFault : GoodIn wsX5_judge (wsV RX5 93 RX1 yX1_firstFault wsX1_firstFault) := goodIn_app (goodIn_of _ (by decide +kernel)) ggX5_judge_X1_firstFault
set_option maxRecDepth 20000 in
theorem ggX5_judge_X5_tryWeeks : GoodIn wsX5_judge wsX5_tryWeeks := goodIn_r _ [44, 2, 45, 46, 1, 47, 48, 49, 50, 51, 52, 53, 54, 55, 56, 57, 58, 59, 60, 61, 62, 63, 64, 65, 66, 67, 24, 7, 25, 68, 69, 70, 35, 36, 12, 37, 23, 30, 31, 32, 33, 6, 8, 71, 27, 28, 29, 72, 20, 21, 22, 73, 74, 75, 76, 77, 78, 79, 80, 81, 82, 83, 84, 85, 86, 87, 88, 89, 90, 91, 92, 93, 94, 95, 96, 97, 98, 99, 100, 101, 102, 103, 104, 105, 106, 107, 108, 109, 110, 111, 112, 113, 114, 115, 116, 117, 118, 119, 120, 121, 122, 123, 124, 125, 126, 127, 128, 129, 130, 131, 132, 133, 134, 135, 136, 137, 138, 139, 140, 141, 142, 143, 144, 145, 146, 147, 148, 149, 150, 151, 152, 153, 154, 155, 156, 164, 165, 166, 167, 162, 163, 157, 158, 159, 160, 161, 168, 169, 170, 171, 172] (by decide +kernel) (by decide +kernel)
set_option maxRecDepth 20000 in
theorem gX5_judge_X5_tryWeeks : GoodIn wsX5_judge (wsV RX5 97 RX5 yX5_tryWeeks wsX5_tryWeeks) := goodIn_app (goodIn_of _ (by decide +kernel)) ggX5_judge_X5_tryWeeks
theorem dX5_judge_0 : decode cX5_judge 0 = .ok (.iload_n 1, 1) := by decide +kernel
theorem dX5_judge_1 : decode cX5_judge 1 = .ok (.iconst 2, 1) := by decide +kernel
theorem dX5_judge_2 : decode cX5_judge 2 = .ok (.invokestatic 57, 3) := by decide +kernel
theorem dX5_judge_5 : decode cX5_judge 5 = .ok (.ifCond .ne 6, 3) := by decide +kernel
theorem dX5_judge_8 : decode cX5_judge 8 = .ok (.bipush (-2), 2) := by decide +kernel
theorem dX5_judge_10 : decode cX5_judge 10 = .ok (.ireturn, 1) := by decide +kernel
theorem dX5_judge_11 : decode cX5_judge 11 = .ok (.aload_n 0, 1) := by decide +kernel
theorem dX5_judge_12 : decode cX5_judge 12 = .ok (.getfield 25, 3) := by decide +kernel
theorem dX5_judge_15 : decode cX5_judge 15 = .ok (.invokevirtual 93, 3) := by decide +kernel
theorem dX5_judge_18 : decode cX5_judge 18 = .ok (.bipush (-6), 2) := by decide +kernel
theorem dX5_judge_20 : decode cX5_judge 20 = .ok (.if_icmp .eq 6, 3) := by decide +kernel
theorem dX5_judge_23 : decode cX5_judge 23 = .ok (.bipush (-5), 2) := by decide +kernel
theorem dX5_judge_25 : decode cX5_judge 25 = .ok (.ireturn, 1) := by decide +kernel
theorem dX5_judge_26 : decode cX5_judge 26 = .ok (.aload_n 0, 1) := by decide +kernel
theorem dX5_judge_27 : decode cX5_judge 27 = .ok (.invokevirtual 97, 3) := by decide +kernel
theorem dX5_judge_30 : decode cX5_judge 30 = .ok (.ifCond .eq 6, 3) := by decide +kernel
theorem dX5_judge_33 : decode cX5_judge 33 = .ok (.bipush (-6), 2) := by decide +kernel
theorem dX5_judge_35 : decode cX5_judge 35 = .ok (.ireturn, 1) := by decide +kernel
theorem dX5_judge_36 : decode cX5_judge 36 = .ok (.iload_n 1, 1) := by decide +kernel
theorem dX5_judge_37 : decode cX5_judge 37 = .ok (.ifCond .ne 13, 3) := by decide +kernel
theorem dX5_judge_40 : decode cX5_judge 40 = .ok (.aload_n 0, 1) := by decide +kernel
theorem dX5_judge_41 : decode cX5_judge 41 = .ok (.getfield 32, 3) := by decide +kernel
theorem dX5_judge_44 : decode cX5_judge 44 = .ok (.getfield 100, 3) := by decide +kernel
theorem dX5_judge_47 : decode cX5_judge 47 = .ok (.goto 10, 3) := by decide +kernel
theorem dX5_judge_50 : decode cX5_judge 50 = .ok (.aload_n 0, 1) := by decide +kernel
theorem dX5_judge_51 : decode cX5_judge 51 = .ok (.getfield 32, 3) := by decide +kernel
theorem dX5_judge_54 : decode cX5_judge 54 = .ok (.getfield 103, 3) := by decide +kernel
theorem dX5_judge_57 : decode cX5_judge 57 = .ok (.ireturn, 1) := by decide +kernel
set_option maxRecDepth 20000 in
theorem ggX5_done_X5_weeksCanBe : GoodIn wsX5_done wsX5_weeksCanBe := goodIn_r _ [12, 5, 13, 14, 15, 16, 17, 18, 19, 20, 21, 22, 23, 24, 25, 26, 27, 28, 11, 29, 30, 31, 32, 33, 34, 35, 36, 37, 38, 39, 40, 41, 42, 43, 44, 45, 46, 47, 48, 49, 50, 3, 1, 2, 6, 51, 52, 53, 54, 55, 56, 57, 58, 59, 60, 61, 62, 63, 64, 65, 66, 67, 68, 69, 70, 71, 72, 73, 74, 75, 76, 77, 78, 79, 80, 81, 82, 83, 84, 85, 86, 87, 88, 89, 90, 91, 92, 93, 94, 95, 96, 97, 98, 99, 100, 101, 102, 103, 104, 105, 106, 107, 108, 109, 110, 111, 112, 113, 114, 115, 116, 117, 118, 119, 120, 121, 122, 123, 124, 125, 126, 127, 128, 129, 130, 131, 132, 133, 134, 135, 136, 137, 138, 139, 140, 141, 142, 143, 144, 145, 146, 147, 148, 149, 150, 151, 153, 154, 155, 156, 157, 158, 159, 160, 170, 171, 161, 162, 163, 164, 165, 166, 167, 168, 169, 172, 173, 174, 175, 176] (by decide +kernel) (by decide +kernel)
set_option maxRecDepth 20000 in
theorem gX5_done_X5_weeksCanBe : GoodIn wsX5_done (wsV RX5 106 RX5 yX5_weeksCanBe wsX5_weeksCanBe) := goodIn_app (goodIn_of _ (by decide +kernel)) ggX5_done_X5_weeksCanBe
set_option maxRecDepth 20000 in
theorem ggX5_done_X2_copy : GoodIn wsX5_done wsX2_copy := goodIn_r _ [65, 66, 67, 68, 69, 70, 28, 11, 29, 71, 72, 172, 173, 174, 175, 176] (by decide +kernel) (by decide +kernel)
set_option maxRecDepth 20000 in
theorem gX5_done_X2_copy : GoodIn wsX5_done (wsV RX5 110 RX2 yX2_copy wsX2_copy) := goodIn_app (goodIn_of _ (by decide +kernel)) ggX5_done_X2_copy
theorem dX5_done_0 : decode cX5_done 0 = .ok (.aload_n 0, 1) := by decide +kernel
theorem dX5_done_1 : decode cX5_done 1 = .ok (.invokevirtual 106, 3) := by decide +kernel
theorem dX5_done_4 : decode cX5_done 4 = .ok (.ifCond .ne 6, 3) := by decide +kernel
theorem dX5_done_7 : decode cX5_done 7 = .ok (.bipush (-5), 2) := by decide +kernel
theorem dX5_done_9 : decode cX5_done 9 = .ok (.ireturn, 1) := by decide +kernel
theorem dX5_done_10 : decode cX5_done 10 = .ok (.aload_n 0, 1) := by decide +kernel
theorem dX5_done_11 : decode cX5_done 11 = .ok (.getfield 10, 3) := by decide +kernel
theorem dX5_done_14 : decode cX5_done 14 = .ok (.getfield 47, 3) := by decide +kernel
theorem dX5_done_17 : decode cX5_done 17 = .ok (.aload_n 0, 1) := by decide +kernel
theorem dX5_done_18 : decode cX5_done 18 = .ok (.getfield 32, 3) := by decide +kernel
theorem dX5_done_21 : decode cX5_done 21 = .ok (.getfield 109, 3) := by decide +kernel
theorem dX5_done_24 : decode cX5_done 24 = .ok (.invokevirtual 110, 3) := by decide +kernel
theorem dX5_done_27 : decode cX5_done 27 = .ok (.aload_n 0, 1) := by decide +kernel
theorem dX5_done_28 : decode cX5_done 28 = .ok (.getfield 25, 3) := by decide +kernel
theorem dX5_done_31 : decode cX5_done 31 = .ok (.iconst 0, 1) := by decide +kernel
theorem dX5_done_32 : decode cX5_done 32 = .ok (.putfield 87, 3) := by decide +kernel
theorem dX5_done_35 : decode cX5_done 35 = .ok (.aload_n 0, 1) := by decide +kernel
theorem dX5_done_36 : decode cX5_done 36 = .ok (.getfield 32, 3) := by decide +kernel
theorem dX5_done_39 : decode cX5_done 39 = .ok (.getfield 100, 3) := by decide +kernel
theorem dX5_done_42 : decode cX5_done 42 = .ok (.ireturn, 1) := by decide +kernel
set_option maxRecDepth 20000 in
theorem ggX5_behind_X5_isBelow : GoodIn wsX5_behind wsX5_isBelow := goodIn_r _ [9] (by decide +kernel) (by decide +kernel)
set_option maxRecDepth 20000 in
theorem gX5_behind_X5_isBelow : GoodIn wsX5_behind (va_wsS RX5 57 yX5_isBelow wsX5_isBelow) := goodIn_app (goodIn_of _ (by decide +kernel)) ggX5_behind_X5_isBelow
set_option maxRecDepth 20000 in
theorem ggX5_behind_X5_weeksCanBe : GoodIn wsX5_behind wsX5_weeksCanBe := goodIn_r _ [13, 14, 15, 16, 17, 18, 19, 20, 21, 22, 23, 24, 25, 26, 27, 28, 29, 30, 8, 31, 7, 9, 32, 33, 34, 35, 36, 37, 38, 39, 40, 41, 42, 43, 44, 45, 46, 47, 48, 49, 50, 1, 51, 52, 53, 54, 55, 56, 57, 58, 59, 60, 61, 62, 63, 64, 65, 66, 67, 68, 69, 70, 71, 72, 73, 74, 75, 76, 77, 78, 79, 80, 81, 82, 83, 84, 85, 86, 87, 88, 89, 90, 91, 92, 93, 94, 95, 96, 97, 98, 99, 100, 101, 102, 103, 104, 105, 106, 107, 108, 109, 110, 111, 112, 113, 114, 115, 116, 117, 118, 119, 120, 121, 122, 123, 124, 125, 126, 127, 128, 129, 130, 131, 132, 133, 134, 135, 136, 137, 138, 139, 140, 141, 142, 143, 144, 145, 146, 147, 148, 149, 150, 151, 152, 153, 154, 159, 160, 161, 162, 163, 164, 165, 166, 177, 178, 179, 180, 181, 182, 167, 168, 169, 170, 171, 172, 173, 174, 175, 176] (by decide +kernel) (by decide +kernel)
set_option maxRecDepth 20000 in
theorem gX5_behind_X5_weeksCanBe : GoodIn wsX5_behind (wsV RX5 106 RX5 yX5_weeksCanBe wsX5_weeksCanBe) := goodIn_app (goodIn_of _ (by decide +kernel)) ggX5_behind_X5_weeksCanBe
set_option maxRecDepth 20000 in
theorem ggX5_behind_X2_looseOnes : GoodIn wsX5_behind wsX2_looseOnes := goodIn_r _ [158, 69, 70, 73, 30, 8, 31, 106, 107, 172, 173, 174, 175, 176] (by decide +kernel) (by decide +kernel)
set_option maxRecDepth 20000 in
theorem gX5_behind_X2_looseOnes : GoodIn wsX5_behind (wsV RX5 117 RX2 yX2_looseOnes wsX2_looseOnes) := goodIn_app (goodIn_of _ (by decide +kernel)) ggX5_behind_X2_looseOnes
theorem dX5_behind_0 : decode cX5_behind 0 = .ok (.iload_n 1, 1) := by decide +kernel
theorem dX5_behind_1 : decode cX5_behind 1 = .ok (.iconst 4, 1) := by decide +kernel
theorem dX5_behind_2 : decode cX5_behind 2 = .ok (.invokestatic 57, 3) := by decide +kernel
theorem dX5_behind_5 : decode cX5_behind 5 = .ok (.ifCond .ne 6, 3) := by decide +kernel
theorem dX5_behind_8 : decode cX5_behind 8 = .ok (.bipush (-2), 2) := by decide +kernel
theorem dX5_behind_10 : decode cX5_behind 10 = .ok (.ireturn, 1) := by decide +kernel
theorem dX5_behind_11 : decode cX5_behind 11 = .ok (.aload_n 0, 1) := by decide +kernel
theorem dX5_behind_12 : decode cX5_behind 12 = .ok (.invokevirtual 106, 3) := by decide +kernel
theorem dX5_behind_15 : decode cX5_behind 15 = .ok (.ifCond .ne 6, 3) := by decide +kernel
theorem dX5_behind_18 : decode cX5_behind 18 = .ok (.bipush (-5), 2) := by decide +kernel
theorem dX5_behind_20 : decode cX5_behind 20 = .ok (.ireturn, 1) := by decide +kernel
theorem dX5_behind_21 : decode cX5_behind 21 = .ok (.iload_n 1, 1) := by decide +kernel
theorem dX5_behind_22 : decode cX5_behind 22 = .ok (.tableswitch 59 0 2 #[26, 37, 48], 26) := by decide +kernel
theorem dX5_behind_48 : decode cX5_behind 48 = .ok (.aload_n 0, 1) := by decide +kernel
theorem dX5_behind_49 : decode cX5_behind 49 = .ok (.getfield 32, 3) := by decide +kernel
theorem dX5_behind_52 : decode cX5_behind 52 = .ok (.getfield 109, 3) := by decide +kernel
theorem dX5_behind_55 : decode cX5_behind 55 = .ok (.getfield 69, 3) := by decide +kernel
theorem dX5_behind_58 : decode cX5_behind 58 = .ok (.ireturn, 1) := by decide +kernel
theorem dX5_behind_59 : decode cX5_behind 59 = .ok (.aload_n 0, 1) := by decide +kernel
theorem dX5_behind_60 : decode cX5_behind 60 = .ok (.getfield 32, 3) := by decide +kernel
theorem dX5_behind_63 : decode cX5_behind 63 = .ok (.getfield 109, 3) := by decide +kernel
theorem dX5_behind_66 : decode cX5_behind 66 = .ok (.getfield 114, 3) := by decide +kernel
theorem dX5_behind_69 : decode cX5_behind 69 = .ok (.ireturn, 1) := by decide +kernel
theorem dX5_behind_70 : decode cX5_behind 70 = .ok (.aload_n 0, 1) := by decide +kernel
theorem dX5_behind_71 : decode cX5_behind 71 = .ok (.getfield 32, 3) := by decide +kernel
theorem dX5_behind_74 : decode cX5_behind 74 = .ok (.getfield 109, 3) := by decide +kernel
theorem dX5_behind_77 : decode cX5_behind 77 = .ok (.invokevirtual 117, 3) := by decide +kernel
theorem dX5_behind_80 : decode cX5_behind 80 = .ok (.ireturn, 1) := by decide +kernel
theorem dX5_behind_81 : decode cX5_behind 81 = .ok (.aload_n 0, 1) := by decide +kernel
theorem dX5_behind_82 : decode cX5_behind 82 = .ok (.getfield 32, 3) := by decide +kernel
theorem dX5_behind_85 : decode cX5_behind 85 = .ok (.getfield 120, 3) := by decide +kernel
theorem dX5_behind_88 : decode cX5_behind 88 = .ok (.ireturn, 1) := by decide +kernel
set_option maxRecDepth 20000 in
theorem ggX5_of_X5_isBelow : GoodIn wsX5_of wsX5_isBelow := goodIn_r _ [6] (by decide +kernel) (by decide +kernel)
set_option maxRecDepth 20000 in
theorem gX5_of_X5_isBelow : GoodIn wsX5_of (va_wsS RX5 57 yX5_isBelow wsX5_isBelow) := goodIn_app (goodIn_of _ (by decide +kernel)) ggX5_of_X5_isBelow
set_option maxRecDepth 20000 in
theorem ggX5_of_X5_weeksCanBe : GoodIn wsX5_of wsX5_weeksCanBe := goodIn_r _ [10, 11, 12, 13, 14, 15, 16, 17, 18, 19, 20, 21, 22, 23, 24, 25, 26, 27, 5, 28, 4, 6, 29, 30, 31, 32, 33, 34, 35, 36, 37, 38, 39, 40, 41, 42, 43, 44, 45, 46, 47, 1, 48, 49, 50, 51, 52, 53, 54, 55, 56, 57, 58, 59, 60, 61, 62, 63, 64, 65, 66, 67, 68, 69, 70, 71, 72, 73, 74, 75, 76, 77, 78, 79, 80, 81, 82, 83, 84, 85, 86, 87, 88, 89, 90, 91, 92, 93, 94, 95, 96, 97, 98, 99, 100, 101, 102, 103, 104, 105, 106, 107, 108, 109, 110, 111, 112, 113, 114, 115, 116, 117, 118, 119, 120, 121, 122, 123, 124, 125, 126, 127, 128, 129, 130, 131, 132, 133, 134, 135, 136, 137, 138, 139, 140, 141, 142, 143, 144, 145, 146, 147, 148, 149, 150, 151, 157, 158, 159, 160, 161, 162, 163, 164, 170, 171, 172, 173, 174, 175, 165, 166, 167, 168, 169, 176, 177, 178, 179, 180] (by decide +kernel) (by decide +kernel)
set_option maxRecDepth 20000 in
theorem gX5_of_X5_weeksCanBe : GoodIn wsX5_of (wsV RX5 106 RX5 yX5_weeksCanBe wsX5_weeksCanBe) := goodIn_app (goodIn_of _ (by decide +kernel)) ggX5_of_X5_weeksCanBe
set_option maxRecDepth 20000 in
theorem ggX5_of_X2_has : GoodIn wsX5_of wsX2_has := goodIn_r _ [98, 66, 4, 5, 6, 176, 177, 178, 179, 180] (by decide +kernel) (by decide +kernel)
set_option maxRecDepth 20000 in
theorem gX5_of_X2_has : GoodIn wsX5_of (wsV RX5 51 RX2 yX2_has wsX2_has) := goodIn_app (goodIn_of _ (by decide +kernel)) ggX5_of_X2_has
set_option maxRecDepth 20000 in
theorem ggX5_of_X2_trait : GoodIn wsX5_of wsX2_trait := goodIn_r _ [156, 68, 69, 70, 27, 5, 28, 176, 177, 178, 179, 180] (by decide +kernel) (by decide +kernel)
set_option maxRecDepth 20000 in
theorem gX5_of_X2_trait : GoodIn wsX5_of (wsV RX5 123 RX2 yX2_trait wsX2_trait) := goodIn_app (goodIn_of _ (by decide +kernel)) ggX5_of_X2_trait
theorem dX5_of_0 : decode cX5_of 0 = .ok (.iload_n 2, 1) := by decide +kernel
theorem dX5_of_1 : decode cX5_of 1 = .ok (.iconst 3, 1) := by decide +kernel
theorem dX5_of_2 : decode cX5_of 2 = .ok (.invokestatic 57, 3) := by decide +kernel
theorem dX5_of_5 : decode cX5_of 5 = .ok (.ifCond .ne 6, 3) := by decide +kernel
theorem dX5_of_8 : decode cX5_of 8 = .ok (.bipush (-2), 2) := by decide +kernel
theorem dX5_of_10 : decode cX5_of 10 = .ok (.ireturn, 1) := by decide +kernel
theorem dX5_of_11 : decode cX5_of 11 = .ok (.aload_n 0, 1) := by decide +kernel
theorem dX5_of_12 : decode cX5_of 12 = .ok (.invokevirtual 106, 3) := by decide +kernel
theorem dX5_of_15 : decode cX5_of 15 = .ok (.ifCond .ne 6, 3) := by decide +kernel
theorem dX5_of_18 : decode cX5_of 18 = .ok (.bipush (-5), 2) := by decide +kernel
theorem dX5_of_20 : decode cX5_of 20 = .ok (.ireturn, 1) := by decide +kernel
theorem dX5_of_21 : decode cX5_of 21 = .ok (.aload_n 0, 1) := by decide +kernel
theorem dX5_of_22 : decode cX5_of 22 = .ok (.getfield 32, 3) := by decide +kernel
theorem dX5_of_25 : decode cX5_of 25 = .ok (.getfield 109, 3) := by decide +kernel
theorem dX5_of_28 : decode cX5_of 28 = .ok (.iload_n 1, 1) := by decide +kernel
theorem dX5_of_29 : decode cX5_of 29 = .ok (.invokevirtual 51, 3) := by decide +kernel
theorem dX5_of_32 : decode cX5_of 32 = .ok (.ifCond .ne 5, 3) := by decide +kernel
theorem dX5_of_35 : decode cX5_of 35 = .ok (.iconst (-1), 1) := by decide +kernel
theorem dX5_of_36 : decode cX5_of 36 = .ok (.ireturn, 1) := by decide +kernel
theorem dX5_of_37 : decode cX5_of 37 = .ok (.aload_n 0, 1) := by decide +kernel
theorem dX5_of_38 : decode cX5_of 38 = .ok (.getfield 32, 3) := by decide +kernel
theorem dX5_of_41 : decode cX5_of 41 = .ok (.getfield 109, 3) := by decide +kernel
theorem dX5_of_44 : decode cX5_of 44 = .ok (.iload_n 1, 1) := by decide +kernel
theorem dX5_of_45 : decode cX5_of 45 = .ok (.iload_n 2, 1) := by decide +kernel
theorem dX5_of_46 : decode cX5_of 46 = .ok (.invokevirtual 123, 3) := by decide +kernel
theorem dX5_of_49 : decode cX5_of 49 = .ok (.ireturn, 1) := by decide +kernel
set_option maxRecDepth 20000 in
theorem ggX5_weeksCanBe_X1_firstFault : GoodIn wsX5_weeksCanBe wsX1_firstFault := goodIn_r _ [6, 7, 8, 9, 10, 5, 11, 12, 13, 14, 15, 16, 17, 18, 19, 20, 21, 22, 23, 24, 25, 26, 27, 28, 29, 30, 31, 32, 33, 34, 35, 36, 154, 155] (by decide +kernel) (by decide +kernel)
set_option maxRecDepth 20000 in
theorem gX5_weeksCanBe_X1_firstFault : GoodIn wsX5_weeksCanBe (wsV RX5 93 RX1 yX1_firstFault wsX1_firstFault) := goodIn_app (goodIn_of _ (by decide +kernel)) ggX5_weeksCanBe_X1_firstFault
set_option maxRecDepth 20000 in
theorem ggX5_weeksCanBe_X5_tryWeeks : GoodIn wsX5_weeksCanBe wsX5_tryWeeks := goodIn_r _ [40, 41, 42, 43, 1, 44, 45, 46, 47, 48, 49, 50, 51, 52, 53, 54, 55, 56, 57, 58, 59, 60, 61, 62, 63, 64, 17, 18, 19, 65, 66, 67, 31, 32, 5, 33, 16, 26, 27, 28, 29, 20, 21, 68, 23, 24, 25, 69, 13, 14, 15, 70, 71, 72, 73, 74, 75, 76, 77, 78, 79, 80, 81, 82, 83, 84, 85, 86, 87, 88, 89, 90, 91, 92, 93, 94, 95, 96, 97, 98, 99, 100, 101, 102, 103, 104, 105, 106, 107, 108, 109, 110, 111, 112, 113, 114, 115, 116, 117, 118, 119, 120, 121, 122, 123, 124, 125, 126, 127, 128, 129, 130, 131, 132, 133, 134, 135, 136, 137, 138, 139, 140, 141, 142, 143, 144, 145, 146, 147, 148, 149, 150, 151, 152, 153, 156, 157, 158, 159, 154, 155, 160, 161, 162, 163, 164, 165, 166, 167, 168, 169] (by decide +kernel) (by decide +kernel)
set_option maxRecDepth 20000 in
theorem gX5_weeksCanBe_X5_tryWeeks : GoodIn wsX5_weeksCanBe (wsV RX5 97 RX5 yX5_tryWeeks wsX5_tryWeeks) := goodIn_app (goodIn_of _ (by decide +kernel)) ggX5_weeksCanBe_X5_tryWeeks
theorem dX5_weeksCanBe_0 : decode cX5_weeksCanBe 0 = .ok (.aload_n 0, 1) := by decide +kernel
theorem dX5_weeksCanBe_1 : decode cX5_weeksCanBe 1 = .ok (.getfield 25, 3) := by decide +kernel
theorem dX5_weeksCanBe_4 : decode cX5_weeksCanBe 4 = .ok (.invokevirtual 93, 3) := by decide +kernel
theorem dX5_weeksCanBe_7 : decode cX5_weeksCanBe 7 = .ok (.bipush (-6), 2) := by decide +kernel
theorem dX5_weeksCanBe_9 : decode cX5_weeksCanBe 9 = .ok (.if_icmp .ne 14, 3) := by decide +kernel
theorem dX5_weeksCanBe_12 : decode cX5_weeksCanBe 12 = .ok (.aload_n 0, 1) := by decide +kernel
theorem dX5_weeksCanBe_13 : decode cX5_weeksCanBe 13 = .ok (.invokevirtual 97, 3) := by decide +kernel
theorem dX5_weeksCanBe_16 : decode cX5_weeksCanBe 16 = .ok (.ifCond .eq 7, 3) := by decide +kernel
theorem dX5_weeksCanBe_19 : decode cX5_weeksCanBe 19 = .ok (.iconst 1, 1) := by decide +kernel
theorem dX5_weeksCanBe_20 : decode cX5_weeksCanBe 20 = .ok (.goto 4, 3) := by decide +kernel
theorem dX5_weeksCanBe_23 : decode cX5_weeksCanBe 23 = .ok (.iconst 0, 1) := by decide +kernel
theorem dX5_weeksCanBe_24 : decode cX5_weeksCanBe 24 = .ok (.ireturn, 1) := by decide +kernel
set_option maxRecDepth 20000 in
theorem ggX5_tryWeeks_X4_begin : GoodIn wsX5_tryWeeks wsX4_begin := goodIn_r _ [10, 11, 12, 13, 14, 15, 16, 17, 18, 19, 20, 21, 22, 23, 24, 25, 26, 27, 28, 29, 30, 141, 142, 143, 144, 145, 146, 147, 148, 149, 150] (by decide +kernel) (by decide +kernel)
set_option maxRecDepth 20000 in
theorem gX5_tryWeeks_X4_begin : GoodIn wsX5_tryWeeks (wsV RX5 127 RX4 yX4_begin wsX4_begin) := goodIn_app (goodIn_of _ (by decide +kernel)) ggX5_tryWeeks_X4_begin
set_option maxRecDepth 20000 in
theorem ggX5_tryWeeks_X1_kindAt : GoodIn wsX5_tryWeeks wsX1_kindAt := goodIn_r _ [35, 36, 37, 38, 39, 34, 40, 26, 27, 28, 41, 42, 139, 140] (by decide +kernel) (by decide +kernel)
set_option maxRecDepth 20000 in
theorem gX5_tryWeeks_X1_kindAt : GoodIn wsX5_tryWeeks (wsV RX5 130 RX1 yX1_kindAt wsX1_kindAt) := goodIn_app (goodIn_of _ (by decide +kernel)) ggX5_tryWeeks_X1_kindAt
set_option maxRecDepth 20000 in
theorem ggX5_tryWeeks_X1_stitchAt : GoodIn wsX5_tryWeeks wsX1_stitchAt := goodIn_r _ [46, 36, 26, 27, 28, 139, 140] (by decide +kernel) (by decide +kernel)
set_option maxRecDepth 20000 in
theorem gX5_tryWeeks_X1_stitchAt : GoodIn wsX5_tryWeeks (wsV RX5 133 RX1 yX1_stitchAt wsX1_stitchAt) := goodIn_app (goodIn_of _ (by decide +kernel)) ggX5_tryWeeks_X1_stitchAt
set_option maxRecDepth 20000 in
theorem ggX5_tryWeeks_X1_colourAt : GoodIn wsX5_tryWeeks wsX1_colourAt := goodIn_r _ [50, 36, 26, 27, 28, 139, 140] (by decide +kernel) (by decide +kernel)
set_option maxRecDepth 20000 in
theorem gX5_tryWeeks_X1_colourAt : GoodIn wsX5_tryWeeks (wsV RX5 136 RX1 yX1_colourAt wsX1_colourAt) := goodIn_app (goodIn_of _ (by decide +kernel)) ggX5_tryWeeks_X1_colourAt
set_option maxRecDepth 20000 in
theorem ggX5_tryWeeks_X1_knitterAt : GoodIn wsX5_tryWeeks wsX1_knitterAt := goodIn_r _ [40, 36, 26, 27, 28, 139, 140] (by decide +kernel) (by decide +kernel)
set_option maxRecDepth 20000 in
theorem gX5_tryWeeks_X1_knitterAt : GoodIn wsX5_tryWeeks (wsV RX5 139 RX1 yX1_knitterAt wsX1_knitterAt) := goodIn_app (goodIn_of _ (by decide +kernel)) ggX5_tryWeeks_X1_knitterAt
set_option maxRecDepth 20000 in
theorem ggX5_tryWeeks_X3_tightnessOf : GoodIn wsX5_tryWeeks wsX3_tightnessOf := goodIn_r _ [56, 57, 26, 27, 28, 135, 136, 137, 138] (by decide +kernel) (by decide +kernel)
set_option maxRecDepth 20000 in
theorem gX5_tryWeeks_X3_tightnessOf : GoodIn wsX5_tryWeeks (wsV RX5 76 RX3 yX3_tightnessOf wsX3_tightnessOf) := goodIn_app (goodIn_of _ (by decide +kernel)) ggX5_tryWeeks_X3_tightnessOf
set_option maxRecDepth 20000 in
theorem ggX5_tryWeeks_X4_act : GoodIn wsX5_tryWeeks wsX4_act := goodIn_r _ [61, 13, 12, 11, 62, 63, 64, 9, 65, 66, 67, 68, 19, 69, 21, 70, 71, 72, 73, 41, 27, 42, 74, 75, 76, 77, 22, 78, 79, 80, 81, 82, 83, 23, 24, 25, 84, 85, 86, 87, 26, 28, 29, 30, 88, 89, 90, 91, 92, 93, 94, 95, 96, 97, 98, 99, 100, 101, 102, 14, 103, 104, 105, 106, 15, 107, 108, 109, 110, 111, 112, 113, 114, 115, 116, 117, 118, 119, 120, 121, 122, 123, 124, 125, 126, 141, 142, 143, 144, 145, 146, 147, 148, 149, 150] (by decide +kernel) (by decide +kernel)
set_option maxRecDepth 20000 in
theorem gX5_tryWeeks_X4_act : GoodIn wsX5_tryWeeks (wsV RX5 142 RX4 yX4_act wsX4_act) := goodIn_app (goodIn_of _ (by decide +kernel)) ggX5_tryWeeks_X4_act
theorem dX5_tryWeeks_0 : decode cX5_tryWeeks 0 = .ok (.aload_n 0, 1) := by decide +kernel
theorem dX5_tryWeeks_1 : decode cX5_tryWeeks 1 = .ok (.getfield 32, 3) := by decide +kernel
theorem dX5_tryWeeks_4 : decode cX5_tryWeeks 4 = .ok (.aload_n 0, 1) := by decide +kernel
theorem dX5_tryWeeks_5 : decode cX5_tryWeeks 5 = .ok (.getfield 10, 3) := by decide +kernel
theorem dX5_tryWeeks_8 : decode cX5_tryWeeks 8 = .ok (.getfield 47, 3) := by decide +kernel
theorem dX5_tryWeeks_11 : decode cX5_tryWeeks 11 = .ok (.invokevirtual 127, 3) := by decide +kernel
theorem dX5_tryWeeks_14 : decode cX5_tryWeeks 14 = .ok (.iconst 0, 1) := by decide +kernel
theorem dX5_tryWeeks_15 : decode cX5_tryWeeks 15 = .ok (.istore_n 1, 1) := by decide +kernel
theorem dX5_tryWeeks_16 : decode cX5_tryWeeks 16 = .ok (.iload_n 1, 1) := by decide +kernel
theorem dX5_tryWeeks_17 : decode cX5_tryWeeks 17 = .ok (.aload_n 0, 1) := by decide +kernel
theorem dX5_tryWeeks_18 : decode cX5_tryWeeks 18 = .ok (.getfield 25, 3) := by decide +kernel
theorem dX5_tryWeeks_21 : decode cX5_tryWeeks 21 = .ok (.getfield 87, 3) := by decide +kernel
theorem dX5_tryWeeks_24 : decode cX5_tryWeeks 24 = .ok (.if_icmp .ge 97, 3) := by decide +kernel
theorem dX5_tryWeeks_27 : decode cX5_tryWeeks 27 = .ok (.aload_n 0, 1) := by decide +kernel
theorem dX5_tryWeeks_28 : decode cX5_tryWeeks 28 = .ok (.getfield 25, 3) := by decide +kernel
theorem dX5_tryWeeks_31 : decode cX5_tryWeeks 31 = .ok (.iload_n 1, 1) := by decide +kernel
theorem dX5_tryWeeks_32 : decode cX5_tryWeeks 32 = .ok (.invokevirtual 130, 3) := by decide +kernel
theorem dX5_tryWeeks_35 : decode cX5_tryWeeks 35 = .ok (.istore_n 2, 1) := by decide +kernel
theorem dX5_tryWeeks_36 : decode cX5_tryWeeks 36 = .ok (.aload_n 0, 1) := by decide +kernel
theorem dX5_tryWeeks_37 : decode cX5_tryWeeks 37 = .ok (.getfield 25, 3) := by decide +kernel
theorem dX5_tryWeeks_40 : decode cX5_tryWeeks 40 = .ok (.iload_n 1, 1) := by decide +kernel
theorem dX5_tryWeeks_41 : decode cX5_tryWeeks 41 = .ok (.iconst 1, 1) := by decide +kernel
theorem dX5_tryWeeks_42 : decode cX5_tryWeeks 42 = .ok (.iadd, 1) := by decide +kernel
theorem dX5_tryWeeks_43 : decode cX5_tryWeeks 43 = .ok (.invokevirtual 133, 3) := by decide +kernel
theorem dX5_tryWeeks_46 : decode cX5_tryWeeks 46 = .ok (.istore_n 3, 1) := by decide +kernel
theorem dX5_tryWeeks_47 : decode cX5_tryWeeks 47 = .ok (.aload_n 0, 1) := by decide +kernel
theorem dX5_tryWeeks_48 : decode cX5_tryWeeks 48 = .ok (.getfield 25, 3) := by decide +kernel
theorem dX5_tryWeeks_51 : decode cX5_tryWeeks 51 = .ok (.iload_n 1, 1) := by decide +kernel
theorem dX5_tryWeeks_52 : decode cX5_tryWeeks 52 = .ok (.iconst 1, 1) := by decide +kernel
theorem dX5_tryWeeks_53 : decode cX5_tryWeeks 53 = .ok (.iadd, 1) := by decide +kernel
theorem dX5_tryWeeks_54 : decode cX5_tryWeeks 54 = .ok (.invokevirtual 136, 3) := by decide +kernel
theorem dX5_tryWeeks_57 : decode cX5_tryWeeks 57 = .ok (.istore 4, 2) := by decide +kernel
theorem dX5_tryWeeks_59 : decode cX5_tryWeeks 59 = .ok (.aload_n 0, 1) := by decide +kernel
theorem dX5_tryWeeks_60 : decode cX5_tryWeeks 60 = .ok (.getfield 10, 3) := by decide +kernel
theorem dX5_tryWeeks_63 : decode cX5_tryWeeks 63 = .ok (.aload_n 0, 1) := by decide +kernel
theorem dX5_tryWeeks_64 : decode cX5_tryWeeks 64 = .ok (.getfield 25, 3) := by decide +kernel
theorem dX5_tryWeeks_67 : decode cX5_tryWeeks 67 = .ok (.iload_n 2, 1) := by decide +kernel
theorem dX5_tryWeeks_68 : decode cX5_tryWeeks 68 = .ok (.iconst 3, 1) := by decide +kernel
theorem dX5_tryWeeks_69 : decode cX5_tryWeeks 69 = .ok (.if_icmp .ne 7, 3) := by decide +kernel
theorem dX5_tryWeeks_72 : decode cX5_tryWeeks 72 = .ok (.iload_n 1, 1) := by decide +kernel
theorem dX5_tryWeeks_73 : decode cX5_tryWeeks 73 = .ok (.goto 6, 3) := by decide +kernel
theorem dX5_tryWeeks_76 : decode cX5_tryWeeks 76 = .ok (.iload_n 1, 1) := by decide +kernel
theorem dX5_tryWeeks_77 : decode cX5_tryWeeks 77 = .ok (.iconst 2, 1) := by decide +kernel
theorem dX5_tryWeeks_78 : decode cX5_tryWeeks 78 = .ok (.iadd, 1) := by decide +kernel
theorem dX5_tryWeeks_79 : decode cX5_tryWeeks 79 = .ok (.invokevirtual 139, 3) := by decide +kernel
theorem dX5_tryWeeks_82 : decode cX5_tryWeeks 82 = .ok (.invokevirtual 76, 3) := by decide +kernel
theorem dX5_tryWeeks_85 : decode cX5_tryWeeks 85 = .ok (.istore 5, 2) := by decide +kernel
theorem dX5_tryWeeks_87 : decode cX5_tryWeeks 87 = .ok (.aload_n 0, 1) := by decide +kernel
theorem dX5_tryWeeks_88 : decode cX5_tryWeeks 88 = .ok (.getfield 32, 3) := by decide +kernel
theorem dX5_tryWeeks_91 : decode cX5_tryWeeks 91 = .ok (.iload_n 2, 1) := by decide +kernel
theorem dX5_tryWeeks_92 : decode cX5_tryWeeks 92 = .ok (.iload_n 3, 1) := by decide +kernel
theorem dX5_tryWeeks_93 : decode cX5_tryWeeks 93 = .ok (.iload 4, 2) := by decide +kernel
theorem dX5_tryWeeks_95 : decode cX5_tryWeeks 95 = .ok (.iload 5, 2) := by decide +kernel
theorem dX5_tryWeeks_97 : decode cX5_tryWeeks 97 = .ok (.invokevirtual 142, 3) := by decide +kernel
theorem dX5_tryWeeks_100 : decode cX5_tryWeeks 100 = .ok (.ifCond .ne 5, 3) := by decide +kernel
theorem dX5_tryWeeks_103 : decode cX5_tryWeeks 103 = .ok (.iconst 0, 1) := by decide +kernel
theorem dX5_tryWeeks_104 : decode cX5_tryWeeks 104 = .ok (.ireturn, 1) := by decide +kernel
theorem dX5_tryWeeks_105 : decode cX5_tryWeeks 105 = .ok (.iload_n 1, 1) := by decide +kernel
theorem dX5_tryWeeks_106 : decode cX5_tryWeeks 106 = .ok (.iload_n 2, 1) := by decide +kernel
theorem dX5_tryWeeks_107 : decode cX5_tryWeeks 107 = .ok (.iconst 2, 1) := by decide +kernel
theorem dX5_tryWeeks_108 : decode cX5_tryWeeks 108 = .ok (.if_icmp .ne 7, 3) := by decide +kernel
theorem dX5_tryWeeks_111 : decode cX5_tryWeeks 111 = .ok (.iconst 3, 1) := by decide +kernel
theorem dX5_tryWeeks_112 : decode cX5_tryWeeks 112 = .ok (.goto 4, 3) := by decide +kernel
theorem dX5_tryWeeks_115 : decode cX5_tryWeeks 115 = .ok (.iconst 2, 1) := by decide +kernel
theorem dX5_tryWeeks_116 : decode cX5_tryWeeks 116 = .ok (.iadd, 1) := by decide +kernel
theorem dX5_tryWeeks_117 : decode cX5_tryWeeks 117 = .ok (.istore_n 1, 1) := by decide +kernel
theorem dX5_tryWeeks_118 : decode cX5_tryWeeks 118 = .ok (.goto (-102), 3) := by decide +kernel
theorem dX5_tryWeeks_121 : decode cX5_tryWeeks 121 = .ok (.iconst 1, 1) := by decide +kernel
theorem dX5_tryWeeks_122 : decode cX5_tryWeeks 122 = .ok (.ireturn, 1) := by decide +kernel
set_option maxRecDepth 20000 in
theorem ggX5_pull_X2_has : GoodIn wsX5_pull wsX2_has := goodIn_r _ [7, 8, 9, 10, 11, 40, 41, 42, 43, 44] (by decide +kernel) (by decide +kernel)
set_option maxRecDepth 20000 in
theorem gX5_pull_X2_has : GoodIn wsX5_pull (wsV RX5 51 RX2 yX2_has wsX2_has) := goodIn_app (goodIn_of _ (by decide +kernel)) ggX5_pull_X2_has
set_option maxRecDepth 20000 in
theorem ggX5_pull_X2_undoneWith : GoodIn wsX5_pull wsX2_undoneWith := goodIn_r _ [15, 8, 16, 17, 10, 18, 19, 20, 40, 41, 42, 43, 44] (by decide +kernel) (by decide +kernel)
set_option maxRecDepth 20000 in
theorem gX5_pull_X2_undoneWith : GoodIn wsX5_pull (wsV RX5 146 RX2 yX2_undoneWith wsX2_undoneWith) := goodIn_app (goodIn_of _ (by decide +kernel)) ggX5_pull_X2_undoneWith
set_option maxRecDepth 20000 in
theorem ggX5_pull_J6_bitCount_0f7a4 : GoodIn wsX5_pull wsJ6_bitCount_0f7a4 := goodIn_r _ [24, 25, 26, 27] (by decide +kernel) (by decide +kernel)
set_option maxRecDepth 20000 in
theorem gX5_pull_J6_bitCount_0f7a4 : GoodIn wsX5_pull (va_wsS RX5 149 yJ6_bitCount_0f7a4 wsJ6_bitCount_0f7a4) := goodIn_app (goodIn_of _ (by decide +kernel)) ggX5_pull_J6_bitCount_0f7a4
theorem dX5_pull_0 : decode cX5_pull 0 = .ok (.aload_n 0, 1) := by decide +kernel
theorem dX5_pull_1 : decode cX5_pull 1 = .ok (.getfield 10, 3) := by decide +kernel
theorem dX5_pull_4 : decode cX5_pull 4 = .ok (.getfield 47, 3) := by decide +kernel
theorem dX5_pull_7 : decode cX5_pull 7 = .ok (.iload_n 1, 1) := by decide +kernel
theorem dX5_pull_8 : decode cX5_pull 8 = .ok (.invokevirtual 51, 3) := by decide +kernel
theorem dX5_pull_11 : decode cX5_pull 11 = .ok (.ifCond .ne 5, 3) := by decide +kernel
theorem dX5_pull_14 : decode cX5_pull 14 = .ok (.iconst (-1), 1) := by decide +kernel
theorem dX5_pull_15 : decode cX5_pull 15 = .ok (.ireturn, 1) := by decide +kernel
theorem dX5_pull_16 : decode cX5_pull 16 = .ok (.aload_n 0, 1) := by decide +kernel
theorem dX5_pull_17 : decode cX5_pull 17 = .ok (.getfield 10, 3) := by decide +kernel
theorem dX5_pull_20 : decode cX5_pull 20 = .ok (.getfield 47, 3) := by decide +kernel
theorem dX5_pull_23 : decode cX5_pull 23 = .ok (.iload_n 1, 1) := by decide +kernel
theorem dX5_pull_24 : decode cX5_pull 24 = .ok (.invokevirtual 146, 3) := by decide +kernel
theorem dX5_pull_27 : decode cX5_pull 27 = .ok (.invokestatic 149, 3) := by decide +kernel
theorem dX5_pull_30 : decode cX5_pull 30 = .ok (.ireturn, 1) := by decide +kernel
set_option maxRecDepth 20000 in
theorem ggX5_pulls_X2_hasAll : GoodIn wsX5_pulls wsX2_hasAll := goodIn_r _ [7, 8, 49, 50, 51, 52, 53] (by decide +kernel) (by decide +kernel)
set_option maxRecDepth 20000 in
theorem gX5_pulls_X2_hasAll : GoodIn wsX5_pulls (wsV RX5 154 RX2 yX2_hasAll wsX2_hasAll) := goodIn_app (goodIn_of _ (by decide +kernel)) ggX5_pulls_X2_hasAll
set_option maxRecDepth 20000 in
theorem ggX5_pulls_X5_isBelow : GoodIn wsX5_pulls wsX5_isBelow := goodIn_r _ [12] (by decide +kernel) (by decide +kernel)
set_option maxRecDepth 20000 in
theorem gX5_pulls_X5_isBelow : GoodIn wsX5_pulls (va_wsS RX5 57 yX5_isBelow wsX5_isBelow) := goodIn_app (goodIn_of _ (by decide +kernel)) ggX5_pulls_X5_isBelow
set_option maxRecDepth 20000 in
theorem ggX5_pulls_X2_withAnchors : GoodIn wsX5_pulls wsX2_withAnchors := goodIn_r _ [16, 8, 17, 18, 11, 19, 20, 21, 49, 50, 51, 52, 53] (by decide +kernel) (by decide +kernel)
set_option maxRecDepth 20000 in
theorem gX5_pulls_X2_withAnchors : GoodIn wsX5_pulls (wsV RX5 157 RX2 yX2_withAnchors wsX2_withAnchors) := goodIn_app (goodIn_of _ (by decide +kernel)) ggX5_pulls_X2_withAnchors
set_option maxRecDepth 20000 in
theorem ggX5_pulls_X2_topmostBelow : GoodIn wsX5_pulls wsX2_topmostBelow := goodIn_r _ [25, 8, 20, 11, 21, 26, 27, 28, 6, 29, 17, 18, 19, 49, 50, 51, 52, 53] (by decide +kernel) (by decide +kernel)
set_option maxRecDepth 20000 in
theorem gX5_pulls_X2_topmostBelow : GoodIn wsX5_pulls (wsV RX5 160 RX2 yX2_topmostBelow wsX2_topmostBelow) := goodIn_app (goodIn_of _ (by decide +kernel)) ggX5_pulls_X2_topmostBelow
set_option maxRecDepth 20000 in
theorem ggX5_pulls_J6_bitCount_0f7a4 : GoodIn wsX5_pulls wsJ6_bitCount_0f7a4 := goodIn_r _ [33, 34, 35, 36] (by decide +kernel) (by decide +kernel)
set_option maxRecDepth 20000 in
theorem gX5_pulls_J6_bitCount_0f7a4 : GoodIn wsX5_pulls (va_wsS RX5 149 yJ6_bitCount_0f7a4 wsJ6_bitCount_0f7a4) := goodIn_app (goodIn_of _ (by decide +kernel)) ggX5_pulls_J6_bitCount_0f7a4
theorem dX5_pulls_0 : decode cX5_pulls 0 = .ok (.aload_n 0, 1) := by decide +kernel
theorem dX5_pulls_1 : decode cX5_pulls 1 = .ok (.getfield 10, 3) := by decide +kernel
theorem dX5_pulls_4 : decode cX5_pulls 4 = .ok (.getfield 47, 3) := by decide +kernel
theorem dX5_pulls_7 : decode cX5_pulls 7 = .ok (.astore 4, 2) := by decide +kernel
theorem dX5_pulls_9 : decode cX5_pulls 9 = .ok (.aload 4, 2) := by decide +kernel
theorem dX5_pulls_11 : decode cX5_pulls 11 = .ok (.iload_n 1, 1) := by decide +kernel
theorem dX5_pulls_12 : decode cX5_pulls 12 = .ok (.invokevirtual 154, 3) := by decide +kernel
theorem dX5_pulls_15 : decode cX5_pulls 15 = .ok (.ifCond .eq 12, 3) := by decide +kernel
theorem dX5_pulls_18 : decode cX5_pulls 18 = .ok (.aload 4, 2) := by decide +kernel
theorem dX5_pulls_20 : decode cX5_pulls 20 = .ok (.iload_n 2, 1) := by decide +kernel
theorem dX5_pulls_21 : decode cX5_pulls 21 = .ok (.invokevirtual 154, 3) := by decide +kernel
theorem dX5_pulls_24 : decode cX5_pulls 24 = .ok (.ifCond .ne 5, 3) := by decide +kernel
theorem dX5_pulls_27 : decode cX5_pulls 27 = .ok (.iconst (-1), 1) := by decide +kernel
theorem dX5_pulls_28 : decode cX5_pulls 28 = .ok (.ireturn, 1) := by decide +kernel
theorem dX5_pulls_29 : decode cX5_pulls 29 = .ok (.iload_n 3, 1) := by decide +kernel
theorem dX5_pulls_30 : decode cX5_pulls 30 = .ok (.iconst 2, 1) := by decide +kernel
theorem dX5_pulls_31 : decode cX5_pulls 31 = .ok (.invokestatic 57, 3) := by decide +kernel
theorem dX5_pulls_34 : decode cX5_pulls 34 = .ok (.ifCond .ne 6, 3) := by decide +kernel
theorem dX5_pulls_37 : decode cX5_pulls 37 = .ok (.bipush (-2), 2) := by decide +kernel
theorem dX5_pulls_39 : decode cX5_pulls 39 = .ok (.ireturn, 1) := by decide +kernel
theorem dX5_pulls_40 : decode cX5_pulls 40 = .ok (.aload 4, 2) := by decide +kernel
theorem dX5_pulls_42 : decode cX5_pulls 42 = .ok (.iload_n 2, 1) := by decide +kernel
theorem dX5_pulls_43 : decode cX5_pulls 43 = .ok (.invokevirtual 157, 3) := by decide +kernel
theorem dX5_pulls_46 : decode cX5_pulls 46 = .ok (.istore 5, 2) := by decide +kernel
theorem dX5_pulls_48 : decode cX5_pulls 48 = .ok (.iload_n 1, 1) := by decide +kernel
theorem dX5_pulls_49 : decode cX5_pulls 49 = .ok (.iload 5, 2) := by decide +kernel
theorem dX5_pulls_51 : decode cX5_pulls 51 = .ok (.iand, 1) := by decide +kernel
theorem dX5_pulls_52 : decode cX5_pulls 52 = .ok (.ifCond .eq 6, 3) := by decide +kernel
theorem dX5_pulls_55 : decode cX5_pulls 55 = .ok (.bipush (-6), 2) := by decide +kernel
theorem dX5_pulls_57 : decode cX5_pulls 57 = .ok (.ireturn, 1) := by decide +kernel
theorem dX5_pulls_58 : decode cX5_pulls 58 = .ok (.aload 4, 2) := by decide +kernel
theorem dX5_pulls_60 : decode cX5_pulls 60 = .ok (.iload_n 1, 1) := by decide +kernel
theorem dX5_pulls_61 : decode cX5_pulls 61 = .ok (.iload 5, 2) := by decide +kernel
theorem dX5_pulls_63 : decode cX5_pulls 63 = .ok (.invokevirtual 160, 3) := by decide +kernel
theorem dX5_pulls_66 : decode cX5_pulls 66 = .ok (.istore 6, 2) := by decide +kernel
theorem dX5_pulls_68 : decode cX5_pulls 68 = .ok (.iload_n 3, 1) := by decide +kernel
theorem dX5_pulls_69 : decode cX5_pulls 69 = .ok (.ifCond .ne 11, 3) := by decide +kernel
theorem dX5_pulls_72 : decode cX5_pulls 72 = .ok (.iload 6, 2) := by decide +kernel
theorem dX5_pulls_74 : decode cX5_pulls 74 = .ok (.invokestatic 149, 3) := by decide +kernel
theorem dX5_pulls_77 : decode cX5_pulls 77 = .ok (.goto 5, 3) := by decide +kernel
theorem dX5_pulls_80 : decode cX5_pulls 80 = .ok (.iload 6, 2) := by decide +kernel
theorem dX5_pulls_82 : decode cX5_pulls 82 = .ok (.ireturn, 1) := by decide +kernel
set_option maxRecDepth 20000 in
theorem ggX5_pattern_X2_shortestPattern : GoodIn wsX5_pattern wsX2_shortestPattern := goodIn_r _ [7, 8, 9, 10, 11, 6, 12, 13, 14, 15, 16, 17, 18, 19, 20, 21, 22, 23, 24, 25, 26, 27, 40, 41, 42, 43, 44] (by decide +kernel) (by decide +kernel)
set_option maxRecDepth 20000 in
theorem gX5_pattern_X2_shortestPattern : GoodIn wsX5_pattern (wsV RX5 163 RX2 yX2_shortestPattern wsX2_shortestPattern) := goodIn_app (goodIn_of _ (by decide +kernel)) ggX5_pattern_X2_shortestPattern
theorem dX5_pattern_0 : decode cX5_pattern 0 = .ok (.aload_n 0, 1) := by decide +kernel
theorem dX5_pattern_1 : decode cX5_pattern 1 = .ok (.getfield 10, 3) := by decide +kernel
theorem dX5_pattern_4 : decode cX5_pattern 4 = .ok (.getfield 47, 3) := by decide +kernel
theorem dX5_pattern_7 : decode cX5_pattern 7 = .ok (.invokevirtual 163, 3) := by decide +kernel
theorem dX5_pattern_10 : decode cX5_pattern 10 = .ok (.ireturn, 1) := by decide +kernel
set_option maxRecDepth 20000 in
theorem ggX5_hole_X2_has : GoodIn wsX5_hole wsX2_has := goodIn_r _ [7, 8, 9, 10, 11, 51, 52, 53, 54, 55] (by decide +kernel) (by decide +kernel)
set_option maxRecDepth 20000 in
theorem gX5_hole_X2_has : GoodIn wsX5_hole (wsV RX5 51 RX2 yX2_has wsX2_has) := goodIn_app (goodIn_of _ (by decide +kernel)) ggX5_hole_X2_has
set_option maxRecDepth 20000 in
theorem ggX5_hole_X2_isEaten : GoodIn wsX5_hole wsX2_isEaten := goodIn_r _ [15, 16, 17, 10, 18, 51, 52, 53, 54, 55] (by decide +kernel) (by decide +kernel)
set_option maxRecDepth 20000 in
theorem gX5_hole_X2_isEaten : GoodIn wsX5_hole (wsV RX5 166 RX2 yX2_isEaten wsX2_isEaten) := goodIn_app (goodIn_of _ (by decide +kernel)) ggX5_hole_X2_isEaten
set_option maxRecDepth 20000 in
theorem ggX5_hole_X2_coloursOfHole : GoodIn wsX5_hole wsX2_coloursOfHole := goodIn_r _ [22, 8, 23, 24, 25, 26, 6, 27, 28, 29, 30, 31, 32, 33, 34, 35, 36, 13, 14, 15, 16, 17, 10, 18, 37, 38, 51, 52, 53, 54, 55] (by decide +kernel) (by decide +kernel)
set_option maxRecDepth 20000 in
theorem gX5_hole_X2_coloursOfHole : GoodIn wsX5_hole (wsV RX5 169 RX2 yX2_coloursOfHole wsX2_coloursOfHole) := goodIn_app (goodIn_of _ (by decide +kernel)) ggX5_hole_X2_coloursOfHole
theorem dX5_hole_0 : decode cX5_hole 0 = .ok (.aload_n 0, 1) := by decide +kernel
theorem dX5_hole_1 : decode cX5_hole 1 = .ok (.getfield 10, 3) := by decide +kernel
theorem dX5_hole_4 : decode cX5_hole 4 = .ok (.getfield 47, 3) := by decide +kernel
theorem dX5_hole_7 : decode cX5_hole 7 = .ok (.iload_n 1, 1) := by decide +kernel
theorem dX5_hole_8 : decode cX5_hole 8 = .ok (.invokevirtual 51, 3) := by decide +kernel
theorem dX5_hole_11 : decode cX5_hole 11 = .ok (.ifCond .ne 5, 3) := by decide +kernel
theorem dX5_hole_14 : decode cX5_hole 14 = .ok (.iconst (-1), 1) := by decide +kernel
theorem dX5_hole_15 : decode cX5_hole 15 = .ok (.ireturn, 1) := by decide +kernel
theorem dX5_hole_16 : decode cX5_hole 16 = .ok (.aload_n 0, 1) := by decide +kernel
theorem dX5_hole_17 : decode cX5_hole 17 = .ok (.getfield 10, 3) := by decide +kernel
theorem dX5_hole_20 : decode cX5_hole 20 = .ok (.getfield 47, 3) := by decide +kernel
theorem dX5_hole_23 : decode cX5_hole 23 = .ok (.iload_n 1, 1) := by decide +kernel
theorem dX5_hole_24 : decode cX5_hole 24 = .ok (.invokevirtual 166, 3) := by decide +kernel
theorem dX5_hole_27 : decode cX5_hole 27 = .ok (.ifCond .ne 6, 3) := by decide +kernel
theorem dX5_hole_30 : decode cX5_hole 30 = .ok (.bipush (-3), 2) := by decide +kernel
theorem dX5_hole_32 : decode cX5_hole 32 = .ok (.ireturn, 1) := by decide +kernel
theorem dX5_hole_33 : decode cX5_hole 33 = .ok (.aload_n 0, 1) := by decide +kernel
theorem dX5_hole_34 : decode cX5_hole 34 = .ok (.getfield 10, 3) := by decide +kernel
theorem dX5_hole_37 : decode cX5_hole 37 = .ok (.getfield 47, 3) := by decide +kernel
theorem dX5_hole_40 : decode cX5_hole 40 = .ok (.iload_n 1, 1) := by decide +kernel
theorem dX5_hole_41 : decode cX5_hole 41 = .ok (.invokevirtual 169, 3) := by decide +kernel
theorem dX5_hole_44 : decode cX5_hole 44 = .ok (.ireturn, 1) := by decide +kernel
set_option maxRecDepth 20000 in
theorem ggX5_rip_X5_isBelow : GoodIn wsX5_rip wsX5_isBelow := goodIn_r _ [8] (by decide +kernel) (by decide +kernel)
set_option maxRecDepth 20000 in
theorem gX5_rip_X5_isBelow : GoodIn wsX5_rip (va_wsS RX5 57 yX5_isBelow wsX5_isBelow) := goodIn_app (goodIn_of _ (by decide +kernel)) ggX5_rip_X5_isBelow
set_option maxRecDepth 20000 in
theorem ggX5_rip_X5_isIn : GoodIn wsX5_rip wsX5_isIn := goodIn_r _ [11] (by decide +kernel) (by decide +kernel)
set_option maxRecDepth 20000 in
theorem gX5_rip_X5_isIn : GoodIn wsX5_rip (va_wsS RX5 175 yX5_isIn wsX5_isIn) := goodIn_app (goodIn_of _ (by decide +kernel)) ggX5_rip_X5_isIn
set_option maxRecDepth 20000 in
theorem ggX5_rip_X5_imageAt : GoodIn wsX5_rip wsX5_imageAt := goodIn_r _ [15, 16, 17, 34, 35, 36, 37, 38, 39, 40, 41] (by decide +kernel) (by decide +kernel)
set_option maxRecDepth 20000 in
theorem gX5_rip_X5_imageAt : GoodIn wsX5_rip (wsV RX5 178 RX5 yX5_imageAt wsX5_imageAt) := goodIn_app (goodIn_of _ (by decide +kernel)) ggX5_rip_X5_imageAt
set_option maxRecDepth 20000 in
theorem ggX5_rip_X5_longestShared : GoodIn wsX5_rip wsX5_longestShared := goodIn_r _ [21, 4, 22, 23, 24, 25, 26, 27, 28, 29, 7, 30, 31, 32, 33, 46, 47, 48, 49, 50, 34, 35, 36, 37, 38, 39, 40, 41] (by decide +kernel) (by decide +kernel)
set_option maxRecDepth 20000 in
theorem gX5_rip_X5_longestShared : GoodIn wsX5_rip (wsV RX5 182 RX5 yX5_longestShared wsX5_longestShared) := goodIn_app (goodIn_of _ (by decide +kernel)) ggX5_rip_X5_longestShared
theorem dX5_rip_0 : decode cX5_rip 0 = .ok (.iload_n 1, 1) := by decide +kernel
theorem dX5_rip_1 : decode cX5_rip 1 = .ok (.iconst 2, 1) := by decide +kernel
theorem dX5_rip_2 : decode cX5_rip 2 = .ok (.invokestatic 57, 3) := by decide +kernel
theorem dX5_rip_5 : decode cX5_rip 5 = .ok (.ifCond .ne 6, 3) := by decide +kernel
theorem dX5_rip_8 : decode cX5_rip 8 = .ok (.bipush (-2), 2) := by decide +kernel
theorem dX5_rip_10 : decode cX5_rip 10 = .ok (.ireturn, 1) := by decide +kernel
theorem dX5_rip_11 : decode cX5_rip 11 = .ok (.aload_n 0, 1) := by decide +kernel
theorem dX5_rip_12 : decode cX5_rip 12 = .ok (.getfield 172, 3) := by decide +kernel
theorem dX5_rip_15 : decode cX5_rip 15 = .ok (.iload_n 1, 1) := by decide +kernel
theorem dX5_rip_16 : decode cX5_rip 16 = .ok (.invokestatic 175, 3) := by decide +kernel
theorem dX5_rip_19 : decode cX5_rip 19 = .ok (.ifCond .ne 6, 3) := by decide +kernel
theorem dX5_rip_22 : decode cX5_rip 22 = .ok (.bipush (-3), 2) := by decide +kernel
theorem dX5_rip_24 : decode cX5_rip 24 = .ok (.ireturn, 1) := by decide +kernel
theorem dX5_rip_25 : decode cX5_rip 25 = .ok (.aload_n 0, 1) := by decide +kernel
theorem dX5_rip_26 : decode cX5_rip 26 = .ok (.getfield 10, 3) := by decide +kernel
theorem dX5_rip_29 : decode cX5_rip 29 = .ok (.getfield 47, 3) := by decide +kernel
theorem dX5_rip_32 : decode cX5_rip 32 = .ok (.astore_n 2, 1) := by decide +kernel
theorem dX5_rip_33 : decode cX5_rip 33 = .ok (.aload_n 0, 1) := by decide +kernel
theorem dX5_rip_34 : decode cX5_rip 34 = .ok (.iload_n 1, 1) := by decide +kernel
theorem dX5_rip_35 : decode cX5_rip 35 = .ok (.invokevirtual 178, 3) := by decide +kernel
theorem dX5_rip_38 : decode cX5_rip 38 = .ok (.getfield 47, 3) := by decide +kernel
theorem dX5_rip_41 : decode cX5_rip 41 = .ok (.astore_n 3, 1) := by decide +kernel
theorem dX5_rip_42 : decode cX5_rip 42 = .ok (.aload_n 2, 1) := by decide +kernel
theorem dX5_rip_43 : decode cX5_rip 43 = .ok (.getfield 69, 3) := by decide +kernel
theorem dX5_rip_46 : decode cX5_rip 46 = .ok (.aload_n 3, 1) := by decide +kernel
theorem dX5_rip_47 : decode cX5_rip 47 = .ok (.getfield 69, 3) := by decide +kernel
theorem dX5_rip_50 : decode cX5_rip 50 = .ok (.iadd, 1) := by decide +kernel
theorem dX5_rip_51 : decode cX5_rip 51 = .ok (.iconst 2, 1) := by decide +kernel
theorem dX5_rip_52 : decode cX5_rip 52 = .ok (.aload_n 0, 1) := by decide +kernel
theorem dX5_rip_53 : decode cX5_rip 53 = .ok (.aload_n 2, 1) := by decide +kernel
theorem dX5_rip_54 : decode cX5_rip 54 = .ok (.aload_n 3, 1) := by decide +kernel
theorem dX5_rip_55 : decode cX5_rip 55 = .ok (.invokevirtual 182, 3) := by decide +kernel
theorem dX5_rip_58 : decode cX5_rip 58 = .ok (.imul, 1) := by decide +kernel
theorem dX5_rip_59 : decode cX5_rip 59 = .ok (.isub, 1) := by decide +kernel
theorem dX5_rip_60 : decode cX5_rip 60 = .ok (.ireturn, 1) := by decide +kernel
set_option maxRecDepth 20000 in
theorem ggX5_longestShared_X5_put : GoodIn wsX5_longestShared wsX5_put := goodIn_r _ [11] (by decide +kernel) (by decide +kernel)
set_option maxRecDepth 20000 in
theorem gX5_longestShared_X5_put : GoodIn wsX5_longestShared (va_wsS RX5 83 yX5_put wsX5_put) := goodIn_app (goodIn_of _ (by decide +kernel)) ggX5_longestShared_X5_put
set_option maxRecDepth 20000 in
theorem ggX5_longestShared_X5_at : GoodIn wsX5_longestShared wsX5_at := goodIn_r _ [14] (by decide +kernel) (by decide +kernel)
set_option maxRecDepth 20000 in
theorem gX5_longestShared_X5_at : GoodIn wsX5_longestShared (va_wsS RX5 186 yX5_at wsX5_at) := goodIn_app (goodIn_of _ (by decide +kernel)) ggX5_longestShared_X5_at
theorem dX5_longestShared_0 : decode cX5_longestShared 0 = .ok (.iconst 0, 1) := by decide +kernel
theorem dX5_longestShared_1 : decode cX5_longestShared 1 = .ok (.istore_n 3, 1) := by decide +kernel
theorem dX5_longestShared_2 : decode cX5_longestShared 2 = .ok (.iload_n 3, 1) := by decide +kernel
theorem dX5_longestShared_3 : decode cX5_longestShared 3 = .ok (.aload_n 2, 1) := by decide +kernel
theorem dX5_longestShared_4 : decode cX5_longestShared 4 = .ok (.getfield 69, 3) := by decide +kernel
theorem dX5_longestShared_7 : decode cX5_longestShared 7 = .ok (.if_icmp .gt 18, 3) := by decide +kernel
theorem dX5_longestShared_10 : decode cX5_longestShared 10 = .ok (.aload_n 0, 1) := by decide +kernel
theorem dX5_longestShared_11 : decode cX5_longestShared 11 = .ok (.getfield 43, 3) := by decide +kernel
theorem dX5_longestShared_14 : decode cX5_longestShared 14 = .ok (.iload_n 3, 1) := by decide +kernel
theorem dX5_longestShared_15 : decode cX5_longestShared 15 = .ok (.iconst 0, 1) := by decide +kernel
theorem dX5_longestShared_16 : decode cX5_longestShared 16 = .ok (.invokestatic 83, 3) := by decide +kernel
theorem dX5_longestShared_19 : decode cX5_longestShared 19 = .ok (.iinc 3 1, 3) := by decide +kernel
theorem dX5_longestShared_22 : decode cX5_longestShared 22 = .ok (.goto (-20), 3) := by decide +kernel
theorem dX5_longestShared_25 : decode cX5_longestShared 25 = .ok (.iconst 0, 1) := by decide +kernel
theorem dX5_longestShared_26 : decode cX5_longestShared 26 = .ok (.istore_n 3, 1) := by decide +kernel
theorem dX5_longestShared_27 : decode cX5_longestShared 27 = .ok (.iload_n 3, 1) := by decide +kernel
theorem dX5_longestShared_28 : decode cX5_longestShared 28 = .ok (.aload_n 1, 1) := by decide +kernel
theorem dX5_longestShared_29 : decode cX5_longestShared 29 = .ok (.getfield 69, 3) := by decide +kernel
theorem dX5_longestShared_32 : decode cX5_longestShared 32 = .ok (.if_icmp .ge 107, 3) := by decide +kernel
theorem dX5_longestShared_35 : decode cX5_longestShared 35 = .ok (.iconst 0, 1) := by decide +kernel
theorem dX5_longestShared_36 : decode cX5_longestShared 36 = .ok (.istore 4, 2) := by decide +kernel
theorem dX5_longestShared_38 : decode cX5_longestShared 38 = .ok (.iconst 0, 1) := by decide +kernel
theorem dX5_longestShared_39 : decode cX5_longestShared 39 = .ok (.istore 5, 2) := by decide +kernel
theorem dX5_longestShared_41 : decode cX5_longestShared 41 = .ok (.iload 5, 2) := by decide +kernel
theorem dX5_longestShared_43 : decode cX5_longestShared 43 = .ok (.aload_n 2, 1) := by decide +kernel
theorem dX5_longestShared_44 : decode cX5_longestShared 44 = .ok (.getfield 69, 3) := by decide +kernel
theorem dX5_longestShared_47 : decode cX5_longestShared 47 = .ok (.if_icmp .ge 86, 3) := by decide +kernel
theorem dX5_longestShared_50 : decode cX5_longestShared 50 = .ok (.aload_n 0, 1) := by decide +kernel
theorem dX5_longestShared_51 : decode cX5_longestShared 51 = .ok (.getfield 43, 3) := by decide +kernel
theorem dX5_longestShared_54 : decode cX5_longestShared 54 = .ok (.iload 5, 2) := by decide +kernel
theorem dX5_longestShared_56 : decode cX5_longestShared 56 = .ok (.iconst 1, 1) := by decide +kernel
theorem dX5_longestShared_57 : decode cX5_longestShared 57 = .ok (.iadd, 1) := by decide +kernel
theorem dX5_longestShared_58 : decode cX5_longestShared 58 = .ok (.invokestatic 186, 3) := by decide +kernel
theorem dX5_longestShared_61 : decode cX5_longestShared 61 = .ok (.istore 6, 2) := by decide +kernel
theorem dX5_longestShared_63 : decode cX5_longestShared 63 = .ok (.aload_n 1, 1) := by decide +kernel
theorem dX5_longestShared_64 : decode cX5_longestShared 64 = .ok (.getfield 190, 3) := by decide +kernel
theorem dX5_longestShared_67 : decode cX5_longestShared 67 = .ok (.iload_n 3, 1) := by decide +kernel
theorem dX5_longestShared_68 : decode cX5_longestShared 68 = .ok (.invokestatic 186, 3) := by decide +kernel
theorem dX5_longestShared_71 : decode cX5_longestShared 71 = .ok (.aload_n 2, 1) := by decide +kernel
theorem dX5_longestShared_72 : decode cX5_longestShared 72 = .ok (.getfield 190, 3) := by decide +kernel
theorem dX5_longestShared_75 : decode cX5_longestShared 75 = .ok (.iload 5, 2) := by decide +kernel
theorem dX5_longestShared_77 : decode cX5_longestShared 77 = .ok (.invokestatic 186, 3) := by decide +kernel
theorem dX5_longestShared_80 : decode cX5_longestShared 80 = .ok (.if_icmp .ne 10, 3) := by decide +kernel
theorem dX5_longestShared_83 : decode cX5_longestShared 83 = .ok (.iload 4, 2) := by decide +kernel
theorem dX5_longestShared_85 : decode cX5_longestShared 85 = .ok (.iconst 1, 1) := by decide +kernel
theorem dX5_longestShared_86 : decode cX5_longestShared 86 = .ok (.iadd, 1) := by decide +kernel
theorem dX5_longestShared_87 : decode cX5_longestShared 87 = .ok (.goto 4, 3) := by decide +kernel
theorem dX5_longestShared_90 : decode cX5_longestShared 90 = .ok (.iconst 0, 1) := by decide +kernel
theorem dX5_longestShared_91 : decode cX5_longestShared 91 = .ok (.istore 7, 2) := by decide +kernel
theorem dX5_longestShared_93 : decode cX5_longestShared 93 = .ok (.aload_n 0, 1) := by decide +kernel
theorem dX5_longestShared_94 : decode cX5_longestShared 94 = .ok (.getfield 43, 3) := by decide +kernel
theorem dX5_longestShared_97 : decode cX5_longestShared 97 = .ok (.iload 5, 2) := by decide +kernel
theorem dX5_longestShared_99 : decode cX5_longestShared 99 = .ok (.iconst 1, 1) := by decide +kernel
theorem dX5_longestShared_100 : decode cX5_longestShared 100 = .ok (.iadd, 1) := by decide +kernel
theorem dX5_longestShared_101 : decode cX5_longestShared 101 = .ok (.iload 7, 2) := by decide +kernel
theorem dX5_longestShared_103 : decode cX5_longestShared 103 = .ok (.iload 6, 2) := by decide +kernel
theorem dX5_longestShared_105 : decode cX5_longestShared 105 = .ok (.aload_n 0, 1) := by decide +kernel
theorem dX5_longestShared_106 : decode cX5_longestShared 106 = .ok (.getfield 43, 3) := by decide +kernel
theorem dX5_longestShared_109 : decode cX5_longestShared 109 = .ok (.iload 5, 2) := by decide +kernel
theorem dX5_longestShared_111 : decode cX5_longestShared 111 = .ok (.invokestatic 186, 3) := by decide +kernel
theorem dX5_longestShared_114 : decode cX5_longestShared 114 = .ok (.invokestatic 193, 3) := by decide +kernel
theorem dX5_longestShared_117 : decode cX5_longestShared 117 = .ok (.invokestatic 193, 3) := by decide +kernel
theorem dX5_longestShared_120 : decode cX5_longestShared 120 = .ok (.invokestatic 83, 3) := by decide +kernel
theorem dX5_longestShared_123 : decode cX5_longestShared 123 = .ok (.iload 6, 2) := by decide +kernel
theorem dX5_longestShared_125 : decode cX5_longestShared 125 = .ok (.istore 4, 2) := by decide +kernel
theorem dX5_longestShared_127 : decode cX5_longestShared 127 = .ok (.iinc 5 1, 3) := by decide +kernel
theorem dX5_longestShared_130 : decode cX5_longestShared 130 = .ok (.goto (-89), 3) := by decide +kernel
theorem dX5_longestShared_133 : decode cX5_longestShared 133 = .ok (.iinc 3 1, 3) := by decide +kernel
theorem dX5_longestShared_136 : decode cX5_longestShared 136 = .ok (.goto (-109), 3) := by decide +kernel
theorem dX5_longestShared_139 : decode cX5_longestShared 139 = .ok (.aload_n 0, 1) := by decide +kernel
theorem dX5_longestShared_140 : decode cX5_longestShared 140 = .ok (.getfield 43, 3) := by decide +kernel
theorem dX5_longestShared_143 : decode cX5_longestShared 143 = .ok (.aload_n 2, 1) := by decide +kernel
theorem dX5_longestShared_144 : decode cX5_longestShared 144 = .ok (.getfield 69, 3) := by decide +kernel
theorem dX5_longestShared_147 : decode cX5_longestShared 147 = .ok (.invokestatic 186, 3) := by decide +kernel
theorem dX5_longestShared_150 : decode cX5_longestShared 150 = .ok (.ireturn, 1) := by decide +kernel
set_option maxRecDepth 20000 in
theorem ggX5_hold_X5_isBelow : GoodIn wsX5_hold wsX5_isBelow := goodIn_r _ [4] (by decide +kernel) (by decide +kernel)
set_option maxRecDepth 20000 in
theorem gX5_hold_X5_isBelow : GoodIn wsX5_hold (va_wsS RX5 57 yX5_isBelow wsX5_isBelow) := goodIn_app (goodIn_of _ (by decide +kernel)) ggX5_hold_X5_isBelow
set_option maxRecDepth 20000 in
theorem ggX5_hold_X5_leastBurden : GoodIn wsX5_hold wsX5_leastBurden := goodIn_r _ [8, 9, 10, 11, 12, 13, 14, 15, 16, 17, 18, 3, 19, 20, 21, 22, 23, 29, 30, 31, 32, 33, 34, 35, 36, 37, 38, 39, 40, 41, 42, 43, 44, 45] (by decide +kernel) (by decide +kernel)
set_option maxRecDepth 20000 in
theorem gX5_hold_X5_leastBurden : GoodIn wsX5_hold (wsV RX5 198 RX5 yX5_leastBurden wsX5_leastBurden) := goodIn_app (goodIn_of _ (by decide +kernel)) ggX5_hold_X5_leastBurden
set_option maxRecDepth 20000 in
theorem ggX5_hold_X5_fewestOfFirst : GoodIn wsX5_hold wsX5_fewestOfFirst := goodIn_r _ [27, 9, 10, 28, 20, 21, 22, 14, 23, 16, 17, 18, 3, 19, 29, 30, 31, 32, 33, 34, 35, 36, 37, 38, 39, 40, 41, 42, 43, 44, 45] (by decide +kernel) (by decide +kernel)
set_option maxRecDepth 20000 in
theorem gX5_hold_X5_fewestOfFirst : GoodIn wsX5_hold (wsV RX5 201 RX5 yX5_fewestOfFirst wsX5_fewestOfFirst) := goodIn_app (goodIn_of _ (by decide +kernel)) ggX5_hold_X5_fewestOfFirst
theorem dX5_hold_0 : decode cX5_hold 0 = .ok (.iload_n 1, 1) := by decide +kernel
theorem dX5_hold_1 : decode cX5_hold 1 = .ok (.iconst 1, 1) := by decide +kernel
theorem dX5_hold_2 : decode cX5_hold 2 = .ok (.if_icmp .lt 17, 3) := by decide +kernel
theorem dX5_hold_5 : decode cX5_hold 5 = .ok (.iload_n 1, 1) := by decide +kernel
theorem dX5_hold_6 : decode cX5_hold 6 = .ok (.bipush 9, 2) := by decide +kernel
theorem dX5_hold_8 : decode cX5_hold 8 = .ok (.if_icmp .gt 11, 3) := by decide +kernel
theorem dX5_hold_11 : decode cX5_hold 11 = .ok (.iload_n 2, 1) := by decide +kernel
theorem dX5_hold_12 : decode cX5_hold 12 = .ok (.iconst 2, 1) := by decide +kernel
theorem dX5_hold_13 : decode cX5_hold 13 = .ok (.invokestatic 57, 3) := by decide +kernel
theorem dX5_hold_16 : decode cX5_hold 16 = .ok (.ifCond .ne 6, 3) := by decide +kernel
theorem dX5_hold_19 : decode cX5_hold 19 = .ok (.bipush (-2), 2) := by decide +kernel
theorem dX5_hold_21 : decode cX5_hold 21 = .ok (.ireturn, 1) := by decide +kernel
theorem dX5_hold_22 : decode cX5_hold 22 = .ok (.aload_n 0, 1) := by decide +kernel
theorem dX5_hold_23 : decode cX5_hold 23 = .ok (.iload_n 1, 1) := by decide +kernel
theorem dX5_hold_24 : decode cX5_hold 24 = .ok (.invokevirtual 198, 3) := by decide +kernel
theorem dX5_hold_27 : decode cX5_hold 27 = .ok (.istore_n 3, 1) := by decide +kernel
theorem dX5_hold_28 : decode cX5_hold 28 = .ok (.iload_n 2, 1) := by decide +kernel
theorem dX5_hold_29 : decode cX5_hold 29 = .ok (.ifCond .ne 7, 3) := by decide +kernel
theorem dX5_hold_32 : decode cX5_hold 32 = .ok (.iload_n 3, 1) := by decide +kernel
theorem dX5_hold_33 : decode cX5_hold 33 = .ok (.goto 9, 3) := by decide +kernel
theorem dX5_hold_36 : decode cX5_hold 36 = .ok (.aload_n 0, 1) := by decide +kernel
theorem dX5_hold_37 : decode cX5_hold 37 = .ok (.iload_n 1, 1) := by decide +kernel
theorem dX5_hold_38 : decode cX5_hold 38 = .ok (.iload_n 3, 1) := by decide +kernel
theorem dX5_hold_39 : decode cX5_hold 39 = .ok (.invokevirtual 201, 3) := by decide +kernel
theorem dX5_hold_42 : decode cX5_hold 42 = .ok (.ireturn, 1) := by decide +kernel
set_option maxRecDepth 20000 in
theorem ggX5_leastBurden_X2_tightnessFrom : GoodIn wsX5_leastBurden wsX2_tightnessFrom := goodIn_r _ [7, 8, 9, 10, 11, 12, 29, 30, 31, 32, 33] (by decide +kernel) (by decide +kernel)
set_option maxRecDepth 20000 in
theorem gX5_leastBurden_X2_tightnessFrom : GoodIn wsX5_leastBurden (wsV RX5 204 RX2 yX2_tightnessFrom wsX2_tightnessFrom) := goodIn_app (goodIn_of _ (by decide +kernel)) ggX5_leastBurden_X2_tightnessFrom
set_option maxRecDepth 20000 in
theorem ggX5_leastBurden_X2_stretchesFrom : GoodIn wsX5_leastBurden wsX2_stretchesFrom := goodIn_r _ [16, 8, 9, 10, 11, 12, 29, 30, 31, 32, 33] (by decide +kernel) (by decide +kernel)
set_option maxRecDepth 20000 in
theorem gX5_leastBurden_X2_stretchesFrom : GoodIn wsX5_leastBurden (wsV RX5 207 RX2 yX2_stretchesFrom wsX2_stretchesFrom) := goodIn_app (goodIn_of _ (by decide +kernel)) ggX5_leastBurden_X2_stretchesFrom
theorem dX5_leastBurden_0 : decode cX5_leastBurden 0 = .ok (.aload_n 0, 1) := by decide +kernel
theorem dX5_leastBurden_1 : decode cX5_leastBurden 1 = .ok (.getfield 10, 3) := by decide +kernel
theorem dX5_leastBurden_4 : decode cX5_leastBurden 4 = .ok (.getfield 47, 3) := by decide +kernel
theorem dX5_leastBurden_7 : decode cX5_leastBurden 7 = .ok (.iconst 0, 1) := by decide +kernel
theorem dX5_leastBurden_8 : decode cX5_leastBurden 8 = .ok (.invokevirtual 204, 3) := by decide +kernel
theorem dX5_leastBurden_11 : decode cX5_leastBurden 11 = .ok (.istore_n 2, 1) := by decide +kernel
theorem dX5_leastBurden_12 : decode cX5_leastBurden 12 = .ok (.iconst 0, 1) := by decide +kernel
theorem dX5_leastBurden_13 : decode cX5_leastBurden 13 = .ok (.istore_n 3, 1) := by decide +kernel
theorem dX5_leastBurden_14 : decode cX5_leastBurden 14 = .ok (.iload_n 3, 1) := by decide +kernel
theorem dX5_leastBurden_15 : decode cX5_leastBurden 15 = .ok (.iload_n 2, 1) := by decide +kernel
theorem dX5_leastBurden_16 : decode cX5_leastBurden 16 = .ok (.if_icmp .ge 27, 3) := by decide +kernel
theorem dX5_leastBurden_19 : decode cX5_leastBurden 19 = .ok (.aload_n 0, 1) := by decide +kernel
theorem dX5_leastBurden_20 : decode cX5_leastBurden 20 = .ok (.getfield 10, 3) := by decide +kernel
theorem dX5_leastBurden_23 : decode cX5_leastBurden 23 = .ok (.getfield 47, 3) := by decide +kernel
theorem dX5_leastBurden_26 : decode cX5_leastBurden 26 = .ok (.iconst 0, 1) := by decide +kernel
theorem dX5_leastBurden_27 : decode cX5_leastBurden 27 = .ok (.iload_n 3, 1) := by decide +kernel
theorem dX5_leastBurden_28 : decode cX5_leastBurden 28 = .ok (.invokevirtual 207, 3) := by decide +kernel
theorem dX5_leastBurden_31 : decode cX5_leastBurden 31 = .ok (.iload_n 1, 1) := by decide +kernel
theorem dX5_leastBurden_32 : decode cX5_leastBurden 32 = .ok (.if_icmp .gt 5, 3) := by decide +kernel
theorem dX5_leastBurden_35 : decode cX5_leastBurden 35 = .ok (.iload_n 3, 1) := by decide +kernel
theorem dX5_leastBurden_36 : decode cX5_leastBurden 36 = .ok (.ireturn, 1) := by decide +kernel
theorem dX5_leastBurden_37 : decode cX5_leastBurden 37 = .ok (.iinc 3 1, 3) := by decide +kernel
theorem dX5_leastBurden_40 : decode cX5_leastBurden 40 = .ok (.goto (-26), 3) := by decide +kernel
theorem dX5_leastBurden_43 : decode cX5_leastBurden 43 = .ok (.iload_n 2, 1) := by decide +kernel
theorem dX5_leastBurden_44 : decode cX5_leastBurden 44 = .ok (.ireturn, 1) := by decide +kernel
set_option maxRecDepth 20000 in
theorem ggX5_fewestOfFirst_X2_stretchesFrom : GoodIn wsX5_fewestOfFirst wsX2_stretchesFrom := goodIn_r _ [8, 9, 10, 11, 12, 13, 26, 27, 28, 29, 30] (by decide +kernel) (by decide +kernel)
set_option maxRecDepth 20000 in
theorem gX5_fewestOfFirst_X2_stretchesFrom : GoodIn wsX5_fewestOfFirst (wsV RX5 207 RX2 yX2_stretchesFrom wsX2_stretchesFrom) := goodIn_app (goodIn_of _ (by decide +kernel)) ggX5_fewestOfFirst_X2_stretchesFrom
theorem dX5_fewestOfFirst_0 : decode cX5_fewestOfFirst 0 = .ok (.iconst 0, 1) := by decide +kernel
theorem dX5_fewestOfFirst_1 : decode cX5_fewestOfFirst 1 = .ok (.istore_n 3, 1) := by decide +kernel
theorem dX5_fewestOfFirst_2 : decode cX5_fewestOfFirst 2 = .ok (.iload_n 3, 1) := by decide +kernel
theorem dX5_fewestOfFirst_3 : decode cX5_fewestOfFirst 3 = .ok (.aload_n 0, 1) := by decide +kernel
theorem dX5_fewestOfFirst_4 : decode cX5_fewestOfFirst 4 = .ok (.getfield 10, 3) := by decide +kernel
theorem dX5_fewestOfFirst_7 : decode cX5_fewestOfFirst 7 = .ok (.getfield 47, 3) := by decide +kernel
theorem dX5_fewestOfFirst_10 : decode cX5_fewestOfFirst 10 = .ok (.getfield 69, 3) := by decide +kernel
theorem dX5_fewestOfFirst_13 : decode cX5_fewestOfFirst 13 = .ok (.if_icmp .ge 29, 3) := by decide +kernel
theorem dX5_fewestOfFirst_16 : decode cX5_fewestOfFirst 16 = .ok (.aload_n 0, 1) := by decide +kernel
theorem dX5_fewestOfFirst_17 : decode cX5_fewestOfFirst 17 = .ok (.getfield 10, 3) := by decide +kernel
theorem dX5_fewestOfFirst_20 : decode cX5_fewestOfFirst 20 = .ok (.getfield 47, 3) := by decide +kernel
theorem dX5_fewestOfFirst_23 : decode cX5_fewestOfFirst 23 = .ok (.iload_n 3, 1) := by decide +kernel
theorem dX5_fewestOfFirst_24 : decode cX5_fewestOfFirst 24 = .ok (.iload_n 2, 1) := by decide +kernel
theorem dX5_fewestOfFirst_25 : decode cX5_fewestOfFirst 25 = .ok (.invokevirtual 207, 3) := by decide +kernel
theorem dX5_fewestOfFirst_28 : decode cX5_fewestOfFirst 28 = .ok (.iload_n 1, 1) := by decide +kernel
theorem dX5_fewestOfFirst_29 : decode cX5_fewestOfFirst 29 = .ok (.iconst 1, 1) := by decide +kernel
theorem dX5_fewestOfFirst_30 : decode cX5_fewestOfFirst 30 = .ok (.isub, 1) := by decide +kernel
theorem dX5_fewestOfFirst_31 : decode cX5_fewestOfFirst 31 = .ok (.if_icmp .gt 5, 3) := by decide +kernel
theorem dX5_fewestOfFirst_34 : decode cX5_fewestOfFirst 34 = .ok (.iload_n 3, 1) := by decide +kernel
theorem dX5_fewestOfFirst_35 : decode cX5_fewestOfFirst 35 = .ok (.ireturn, 1) := by decide +kernel
theorem dX5_fewestOfFirst_36 : decode cX5_fewestOfFirst 36 = .ok (.iinc 3 1, 3) := by decide +kernel
theorem dX5_fewestOfFirst_39 : decode cX5_fewestOfFirst 39 = .ok (.goto (-37), 3) := by decide +kernel
theorem dX5_fewestOfFirst_42 : decode cX5_fewestOfFirst 42 = .ok (.aload_n 0, 1) := by decide +kernel
theorem dX5_fewestOfFirst_43 : decode cX5_fewestOfFirst 43 = .ok (.getfield 10, 3) := by decide +kernel
theorem dX5_fewestOfFirst_46 : decode cX5_fewestOfFirst 46 = .ok (.getfield 47, 3) := by decide +kernel
theorem dX5_fewestOfFirst_49 : decode cX5_fewestOfFirst 49 = .ok (.getfield 69, 3) := by decide +kernel
theorem dX5_fewestOfFirst_52 : decode cX5_fewestOfFirst 52 = .ok (.ireturn, 1) := by decide +kernel
set_option maxRecDepth 20000 in
theorem ggX5_hands_X0_count : GoodIn wsX5_hands wsX0_count := goodIn_r _ [9, 10, 11, 12, 13, 14, 15, 16, 17, 18, 19, 20, 21, 8, 22, 23, 24, 25, 26, 27, 28, 29, 30, 31, 32, 33, 34, 35, 36, 37, 38, 39, 40, 53, 54, 55, 56, 57, 58, 59, 60, 61, 62] (by decide +kernel) (by decide +kernel)
set_option maxRecDepth 20000 in
theorem gX5_hands_X0_count : GoodIn wsX5_hands (wsV RX5 210 RX0 yX0_count wsX0_count) := goodIn_app (goodIn_of _ (by decide +kernel)) ggX5_hands_X0_count
set_option maxRecDepth 20000 in
theorem ggX5_hands_X0_fewest : GoodIn wsX5_hands wsX0_fewest := goodIn_r _ [44, 13, 23, 24, 25, 26, 14, 15, 16, 62] (by decide +kernel) (by decide +kernel)
set_option maxRecDepth 20000 in
theorem gX5_hands_X0_fewest : GoodIn wsX5_hands (wsV RX5 214 RX0 yX0_fewest wsX0_fewest) := goodIn_app (goodIn_of _ (by decide +kernel)) ggX5_hands_X0_fewest
theorem dX5_hands_0 : decode cX5_hands 0 = .ok (.aload_n 0, 1) := by decide +kernel
theorem dX5_hands_1 : decode cX5_hands 1 = .ok (.getfield 39, 3) := by decide +kernel
theorem dX5_hands_4 : decode cX5_hands 4 = .ok (.aload_n 0, 1) := by decide +kernel
theorem dX5_hands_5 : decode cX5_hands 5 = .ok (.getfield 10, 3) := by decide +kernel
theorem dX5_hands_8 : decode cX5_hands 8 = .ok (.invokevirtual 210, 3) := by decide +kernel
theorem dX5_hands_11 : decode cX5_hands 11 = .ok (.aload_n 0, 1) := by decide +kernel
theorem dX5_hands_12 : decode cX5_hands 12 = .ok (.getfield 39, 3) := by decide +kernel
theorem dX5_hands_15 : decode cX5_hands 15 = .ok (.aload_n 0, 1) := by decide +kernel
theorem dX5_hands_16 : decode cX5_hands 16 = .ok (.getfield 10, 3) := by decide +kernel
theorem dX5_hands_19 : decode cX5_hands 19 = .ok (.getfield 47, 3) := by decide +kernel
theorem dX5_hands_22 : decode cX5_hands 22 = .ok (.getfield 69, 3) := by decide +kernel
theorem dX5_hands_25 : decode cX5_hands 25 = .ok (.invokevirtual 214, 3) := by decide +kernel
theorem dX5_hands_28 : decode cX5_hands 28 = .ok (.ireturn, 1) := by decide +kernel
set_option maxRecDepth 20000 in
theorem ggX5_who_X2_has : GoodIn wsX5_who wsX2_has := goodIn_r _ [9, 10, 11, 12, 13, 73, 74, 75, 76, 77] (by decide +kernel) (by decide +kernel)
set_option maxRecDepth 20000 in
theorem gX5_who_X2_has : GoodIn wsX5_who (wsV RX5 51 RX2 yX2_has wsX2_has) := goodIn_app (goodIn_of _ (by decide +kernel)) ggX5_who_X2_has
set_option maxRecDepth 20000 in
theorem ggX5_who_X0_count : GoodIn wsX5_who wsX0_count := goodIn_r _ [18, 19, 20, 21, 22, 23, 12, 24, 25, 26, 27, 28, 29, 17, 30, 31, 32, 33, 34, 35, 36, 37, 38, 39, 40, 41, 42, 43, 44, 45, 46, 47, 48, 69, 70, 71, 72, 73, 74, 75, 76, 77, 78] (by decide +kernel) (by decide +kernel)
set_option maxRecDepth 20000 in
theorem gX5_who_X0_count : GoodIn wsX5_who (wsV RX5 210 RX0 yX0_count wsX0_count) := goodIn_app (goodIn_of _ (by decide +kernel)) ggX5_who_X0_count
set_option maxRecDepth 20000 in
theorem ggX5_who_X0_fewest : GoodIn wsX5_who wsX0_fewest := goodIn_r _ [52, 22, 31, 32, 33, 34, 23, 12, 24, 78] (by decide +kernel) (by decide +kernel)
set_option maxRecDepth 20000 in
theorem gX5_who_X0_fewest : GoodIn wsX5_who (wsV RX5 214 RX0 yX0_fewest wsX0_fewest) := goodIn_app (goodIn_of _ (by decide +kernel)) ggX5_who_X0_fewest
set_option maxRecDepth 20000 in
theorem ggX5_who_X0_knitterOf : GoodIn wsX5_who wsX0_knitterOf := goodIn_r _ [56, 22, 23, 12, 24, 57, 58, 59, 17, 60, 35, 36, 37, 38, 78] (by decide +kernel) (by decide +kernel)
set_option maxRecDepth 20000 in
theorem gX5_who_X0_knitterOf : GoodIn wsX5_who (wsV RX5 217 RX0 yX0_knitterOf wsX0_knitterOf) := goodIn_app (goodIn_of _ (by decide +kernel)) ggX5_who_X0_knitterOf
theorem dX5_who_0 : decode cX5_who 0 = .ok (.aload_n 0, 1) := by decide +kernel
theorem dX5_who_1 : decode cX5_who 1 = .ok (.getfield 10, 3) := by decide +kernel
theorem dX5_who_4 : decode cX5_who 4 = .ok (.getfield 47, 3) := by decide +kernel
theorem dX5_who_7 : decode cX5_who 7 = .ok (.iload_n 1, 1) := by decide +kernel
theorem dX5_who_8 : decode cX5_who 8 = .ok (.invokevirtual 51, 3) := by decide +kernel
theorem dX5_who_11 : decode cX5_who 11 = .ok (.ifCond .ne 5, 3) := by decide +kernel
theorem dX5_who_14 : decode cX5_who 14 = .ok (.iconst (-1), 1) := by decide +kernel
theorem dX5_who_15 : decode cX5_who 15 = .ok (.ireturn, 1) := by decide +kernel
theorem dX5_who_16 : decode cX5_who 16 = .ok (.aload_n 0, 1) := by decide +kernel
theorem dX5_who_17 : decode cX5_who 17 = .ok (.getfield 39, 3) := by decide +kernel
theorem dX5_who_20 : decode cX5_who 20 = .ok (.aload_n 0, 1) := by decide +kernel
theorem dX5_who_21 : decode cX5_who 21 = .ok (.getfield 10, 3) := by decide +kernel
theorem dX5_who_24 : decode cX5_who 24 = .ok (.invokevirtual 210, 3) := by decide +kernel
theorem dX5_who_27 : decode cX5_who 27 = .ok (.aload_n 0, 1) := by decide +kernel
theorem dX5_who_28 : decode cX5_who 28 = .ok (.getfield 39, 3) := by decide +kernel
theorem dX5_who_31 : decode cX5_who 31 = .ok (.aload_n 0, 1) := by decide +kernel
theorem dX5_who_32 : decode cX5_who 32 = .ok (.getfield 10, 3) := by decide +kernel
theorem dX5_who_35 : decode cX5_who 35 = .ok (.getfield 47, 3) := by decide +kernel
theorem dX5_who_38 : decode cX5_who 38 = .ok (.getfield 69, 3) := by decide +kernel
theorem dX5_who_41 : decode cX5_who 41 = .ok (.invokevirtual 214, 3) := by decide +kernel
theorem dX5_who_44 : decode cX5_who 44 = .ok (.bipush (-6), 2) := by decide +kernel
theorem dX5_who_46 : decode cX5_who 46 = .ok (.if_icmp .ne 6, 3) := by decide +kernel
theorem dX5_who_49 : decode cX5_who 49 = .ok (.bipush (-6), 2) := by decide +kernel
theorem dX5_who_51 : decode cX5_who 51 = .ok (.ireturn, 1) := by decide +kernel
theorem dX5_who_52 : decode cX5_who 52 = .ok (.aload_n 0, 1) := by decide +kernel
theorem dX5_who_53 : decode cX5_who 53 = .ok (.getfield 39, 3) := by decide +kernel
theorem dX5_who_56 : decode cX5_who 56 = .ok (.iload_n 1, 1) := by decide +kernel
theorem dX5_who_57 : decode cX5_who 57 = .ok (.invokevirtual 217, 3) := by decide +kernel
theorem dX5_who_60 : decode cX5_who 60 = .ok (.ireturn, 1) := by decide +kernel
set_option maxRecDepth 20000 in
theorem ggX5_seen_X5_isBelow : GoodIn wsX5_seen wsX5_isBelow := goodIn_r _ [7] (by decide +kernel) (by decide +kernel)
set_option maxRecDepth 20000 in
theorem gX5_seen_X5_isBelow : GoodIn wsX5_seen (va_wsS RX5 57 yX5_isBelow wsX5_isBelow) := goodIn_app (goodIn_of _ (by decide +kernel)) ggX5_seen_X5_isBelow
set_option maxRecDepth 20000 in
theorem ggX5_seen_X5_near : GoodIn wsX5_seen wsX5_near := goodIn_r _ [10] (by decide +kernel) (by decide +kernel)
set_option maxRecDepth 20000 in
theorem gX5_seen_X5_near : GoodIn wsX5_seen (va_wsS RX5 226 yX5_near wsX5_near) := goodIn_app (goodIn_of _ (by decide +kernel)) ggX5_seen_X5_near
theorem dX5_seen_0 : decode cX5_seen 0 = .ok (.iload_n 1, 1) := by decide +kernel
theorem dX5_seen_1 : decode cX5_seen 1 = .ok (.bipush 10, 2) := by decide +kernel
theorem dX5_seen_3 : decode cX5_seen 3 = .ok (.invokestatic 57, 3) := by decide +kernel
theorem dX5_seen_6 : decode cX5_seen 6 = .ok (.ifCond .ne 6, 3) := by decide +kernel
theorem dX5_seen_9 : decode cX5_seen 9 = .ok (.bipush (-2), 2) := by decide +kernel
theorem dX5_seen_11 : decode cX5_seen 11 = .ok (.ireturn, 1) := by decide +kernel
theorem dX5_seen_12 : decode cX5_seen 12 = .ok (.aload_n 0, 1) := by decide +kernel
theorem dX5_seen_13 : decode cX5_seen 13 = .ok (.getfield 10, 3) := by decide +kernel
theorem dX5_seen_16 : decode cX5_seen 16 = .ok (.getfield 220, 3) := by decide +kernel
theorem dX5_seen_19 : decode cX5_seen 19 = .ok (.bipush 8, 2) := by decide +kernel
theorem dX5_seen_21 : decode cX5_seen 21 = .ok (.if_icmp .lt 6, 3) := by decide +kernel
theorem dX5_seen_24 : decode cX5_seen 24 = .ok (.bipush (-4), 2) := by decide +kernel
theorem dX5_seen_26 : decode cX5_seen 26 = .ok (.ireturn, 1) := by decide +kernel
theorem dX5_seen_27 : decode cX5_seen 27 = .ok (.aload_n 0, 1) := by decide +kernel
theorem dX5_seen_28 : decode cX5_seen 28 = .ok (.getfield 10, 3) := by decide +kernel
theorem dX5_seen_31 : decode cX5_seen 31 = .ok (.dup, 1) := by decide +kernel
theorem dX5_seen_32 : decode cX5_seen 32 = .ok (.getfield 223, 3) := by decide +kernel
theorem dX5_seen_35 : decode cX5_seen 35 = .ok (.iload_n 2, 1) := by decide +kernel
theorem dX5_seen_36 : decode cX5_seen 36 = .ok (.ifCond .eq 10, 3) := by decide +kernel
theorem dX5_seen_39 : decode cX5_seen 39 = .ok (.iload_n 1, 1) := by decide +kernel
theorem dX5_seen_40 : decode cX5_seen 40 = .ok (.invokestatic 226, 3) := by decide +kernel
theorem dX5_seen_43 : decode cX5_seen 43 = .ok (.goto 9, 3) := by decide +kernel
theorem dX5_seen_46 : decode cX5_seen 46 = .ok (.iload_n 1, 1) := by decide +kernel
theorem dX5_seen_47 : decode cX5_seen 47 = .ok (.invokestatic 226, 3) := by decide +kernel
theorem dX5_seen_50 : decode cX5_seen 50 = .ok (.iconst (-1), 1) := by decide +kernel
theorem dX5_seen_51 : decode cX5_seen 51 = .ok (.ixor, 1) := by decide +kernel
theorem dX5_seen_52 : decode cX5_seen 52 = .ok (.iand, 1) := by decide +kernel
theorem dX5_seen_53 : decode cX5_seen 53 = .ok (.putfield 223, 3) := by decide +kernel
theorem dX5_seen_56 : decode cX5_seen 56 = .ok (.aload_n 0, 1) := by decide +kernel
theorem dX5_seen_57 : decode cX5_seen 57 = .ok (.getfield 10, 3) := by decide +kernel
theorem dX5_seen_60 : decode cX5_seen 60 = .ok (.dup, 1) := by decide +kernel
theorem dX5_seen_61 : decode cX5_seen 61 = .ok (.getfield 220, 3) := by decide +kernel
theorem dX5_seen_64 : decode cX5_seen 64 = .ok (.iconst 1, 1) := by decide +kernel
theorem dX5_seen_65 : decode cX5_seen 65 = .ok (.iadd, 1) := by decide +kernel
theorem dX5_seen_66 : decode cX5_seen 66 = .ok (.putfield 220, 3) := by decide +kernel
theorem dX5_seen_69 : decode cX5_seen 69 = .ok (.aload_n 0, 1) := by decide +kernel
theorem dX5_seen_70 : decode cX5_seen 70 = .ok (.getfield 10, 3) := by decide +kernel
theorem dX5_seen_73 : decode cX5_seen 73 = .ok (.getfield 220, 3) := by decide +kernel
theorem dX5_seen_76 : decode cX5_seen 76 = .ok (.ireturn, 1) := by decide +kernel
set_option maxRecDepth 20000 in
theorem ggX5_forget_X3_forgetSights : GoodIn wsX5_forget wsX3_forgetSights := goodIn_r _ [7, 8, 9, 18, 19, 20, 21] (by decide +kernel) (by decide +kernel)
set_option maxRecDepth 20000 in
theorem gX5_forget_X3_forgetSights : GoodIn wsX5_forget (wsV RX5 229 RX3 yX3_forgetSights wsX3_forgetSights) := goodIn_app (goodIn_of _ (by decide +kernel)) ggX5_forget_X3_forgetSights
theorem dX5_forget_0 : decode cX5_forget 0 = .ok (.aload_n 0, 1) := by decide +kernel
theorem dX5_forget_1 : decode cX5_forget 1 = .ok (.getfield 10, 3) := by decide +kernel
theorem dX5_forget_4 : decode cX5_forget 4 = .ok (.getfield 220, 3) := by decide +kernel
theorem dX5_forget_7 : decode cX5_forget 7 = .ok (.istore_n 1, 1) := by decide +kernel
theorem dX5_forget_8 : decode cX5_forget 8 = .ok (.aload_n 0, 1) := by decide +kernel
theorem dX5_forget_9 : decode cX5_forget 9 = .ok (.getfield 10, 3) := by decide +kernel
theorem dX5_forget_12 : decode cX5_forget 12 = .ok (.invokevirtual 229, 3) := by decide +kernel
theorem dX5_forget_15 : decode cX5_forget 15 = .ok (.iload_n 1, 1) := by decide +kernel
theorem dX5_forget_16 : decode cX5_forget 16 = .ok (.ireturn, 1) := by decide +kernel
theorem dX5_tights_0 : decode cX5_tights 0 = .ok (.aload_n 0, 1) := by decide +kernel
theorem dX5_tights_1 : decode cX5_tights 1 = .ok (.getfield 10, 3) := by decide +kernel
theorem dX5_tights_4 : decode cX5_tights 4 = .ok (.getfield 223, 3) := by decide +kernel
theorem dX5_tights_7 : decode cX5_tights 7 = .ok (.ireturn, 1) := by decide +kernel
set_option maxRecDepth 20000 in
theorem ggX5_next_X5_isBelow : GoodIn wsX5_next wsX5_isBelow := goodIn_r _ [6] (by decide +kernel) (by decide +kernel)
set_option maxRecDepth 20000 in
theorem gX5_next_X5_isBelow : GoodIn wsX5_next (va_wsS RX5 57 yX5_isBelow wsX5_isBelow) := goodIn_app (goodIn_of _ (by decide +kernel)) ggX5_next_X5_isBelow
set_option maxRecDepth 20000 in
theorem ggX5_next_X5_mostLeftBy : GoodIn wsX5_next wsX5_mostLeftBy := goodIn_r _ [10, 1, 2, 11, 12, 13, 14, 15, 16, 5, 17, 18, 19, 20, 21, 22, 23, 24, 25, 26, 27, 28, 29, 30, 31, 32, 33, 34, 35, 36] (by decide +kernel) (by decide +kernel)
set_option maxRecDepth 20000 in
theorem gX5_next_X5_mostLeftBy : GoodIn wsX5_next (wsV RX5 232 RX5 yX5_mostLeftBy wsX5_mostLeftBy) := goodIn_app (goodIn_of _ (by decide +kernel)) ggX5_next_X5_mostLeftBy
theorem dX5_next_0 : decode cX5_next 0 = .ok (.iload_n 1, 1) := by decide +kernel
theorem dX5_next_1 : decode cX5_next 1 = .ok (.iconst 2, 1) := by decide +kernel
theorem dX5_next_2 : decode cX5_next 2 = .ok (.invokestatic 57, 3) := by decide +kernel
theorem dX5_next_5 : decode cX5_next 5 = .ok (.ifCond .ne 6, 3) := by decide +kernel
theorem dX5_next_8 : decode cX5_next 8 = .ok (.bipush (-2), 2) := by decide +kernel
theorem dX5_next_10 : decode cX5_next 10 = .ok (.ireturn, 1) := by decide +kernel
theorem dX5_next_11 : decode cX5_next 11 = .ok (.aload_n 0, 1) := by decide +kernel
theorem dX5_next_12 : decode cX5_next 12 = .ok (.getfield 10, 3) := by decide +kernel
theorem dX5_next_15 : decode cX5_next 15 = .ok (.getfield 223, 3) := by decide +kernel
theorem dX5_next_18 : decode cX5_next 18 = .ok (.ifCond .ne 6, 3) := by decide +kernel
theorem dX5_next_21 : decode cX5_next 21 = .ok (.bipush (-6), 2) := by decide +kernel
theorem dX5_next_23 : decode cX5_next 23 = .ok (.ireturn, 1) := by decide +kernel
theorem dX5_next_24 : decode cX5_next 24 = .ok (.iconst 0, 1) := by decide +kernel
theorem dX5_next_25 : decode cX5_next 25 = .ok (.istore_n 2, 1) := by decide +kernel
theorem dX5_next_26 : decode cX5_next 26 = .ok (.iconst 1, 1) := by decide +kernel
theorem dX5_next_27 : decode cX5_next 27 = .ok (.istore_n 3, 1) := by decide +kernel
theorem dX5_next_28 : decode cX5_next 28 = .ok (.iload_n 3, 1) := by decide +kernel
theorem dX5_next_29 : decode cX5_next 29 = .ok (.bipush 10, 2) := by decide +kernel
theorem dX5_next_31 : decode cX5_next 31 = .ok (.if_icmp .ge 24, 3) := by decide +kernel
theorem dX5_next_34 : decode cX5_next 34 = .ok (.aload_n 0, 1) := by decide +kernel
theorem dX5_next_35 : decode cX5_next 35 = .ok (.iload_n 3, 1) := by decide +kernel
theorem dX5_next_36 : decode cX5_next 36 = .ok (.invokevirtual 232, 3) := by decide +kernel
theorem dX5_next_39 : decode cX5_next 39 = .ok (.aload_n 0, 1) := by decide +kernel
theorem dX5_next_40 : decode cX5_next 40 = .ok (.iload_n 2, 1) := by decide +kernel
theorem dX5_next_41 : decode cX5_next 41 = .ok (.invokevirtual 232, 3) := by decide +kernel
theorem dX5_next_44 : decode cX5_next 44 = .ok (.if_icmp .ge 5, 3) := by decide +kernel
theorem dX5_next_47 : decode cX5_next 47 = .ok (.iload_n 3, 1) := by decide +kernel
theorem dX5_next_48 : decode cX5_next 48 = .ok (.istore_n 2, 1) := by decide +kernel
theorem dX5_next_49 : decode cX5_next 49 = .ok (.iinc 3 1, 3) := by decide +kernel
theorem dX5_next_52 : decode cX5_next 52 = .ok (.goto (-24), 3) := by decide +kernel
theorem dX5_next_55 : decode cX5_next 55 = .ok (.iload_n 1, 1) := by decide +kernel
theorem dX5_next_56 : decode cX5_next 56 = .ok (.ifCond .ne 7, 3) := by decide +kernel
theorem dX5_next_59 : decode cX5_next 59 = .ok (.iload_n 2, 1) := by decide +kernel
theorem dX5_next_60 : decode cX5_next 60 = .ok (.goto 8, 3) := by decide +kernel
theorem dX5_next_63 : decode cX5_next 63 = .ok (.aload_n 0, 1) := by decide +kernel
theorem dX5_next_64 : decode cX5_next 64 = .ok (.iload_n 2, 1) := by decide +kernel
theorem dX5_next_65 : decode cX5_next 65 = .ok (.invokevirtual 232, 3) := by decide +kernel
theorem dX5_next_68 : decode cX5_next 68 = .ok (.ireturn, 1) := by decide +kernel
set_option maxRecDepth 20000 in
theorem ggX5_mostLeftBy_X5_near : GoodIn wsX5_mostLeftBy wsX5_near := goodIn_r _ [10] (by decide +kernel) (by decide +kernel)
set_option maxRecDepth 20000 in
theorem gX5_mostLeftBy_X5_near : GoodIn wsX5_mostLeftBy (va_wsS RX5 226 yX5_near wsX5_near) := goodIn_app (goodIn_of _ (by decide +kernel)) ggX5_mostLeftBy_X5_near
set_option maxRecDepth 20000 in
theorem ggX5_mostLeftBy_J6_bitCount_0f7a4 : GoodIn wsX5_mostLeftBy wsJ6_bitCount_0f7a4 := goodIn_r _ [14, 15, 16, 17] (by decide +kernel) (by decide +kernel)
set_option maxRecDepth 20000 in
theorem gX5_mostLeftBy_J6_bitCount_0f7a4 : GoodIn wsX5_mostLeftBy (va_wsS RX5 149 yJ6_bitCount_0f7a4 wsJ6_bitCount_0f7a4) := goodIn_app (goodIn_of _ (by decide +kernel)) ggX5_mostLeftBy_J6_bitCount_0f7a4
theorem dX5_mostLeftBy_0 : decode cX5_mostLeftBy 0 = .ok (.aload_n 0, 1) := by decide +kernel
theorem dX5_mostLeftBy_1 : decode cX5_mostLeftBy 1 = .ok (.getfield 10, 3) := by decide +kernel
theorem dX5_mostLeftBy_4 : decode cX5_mostLeftBy 4 = .ok (.getfield 223, 3) := by decide +kernel
theorem dX5_mostLeftBy_7 : decode cX5_mostLeftBy 7 = .ok (.iload_n 1, 1) := by decide +kernel
theorem dX5_mostLeftBy_8 : decode cX5_mostLeftBy 8 = .ok (.invokestatic 226, 3) := by decide +kernel
theorem dX5_mostLeftBy_11 : decode cX5_mostLeftBy 11 = .ok (.iand, 1) := by decide +kernel
theorem dX5_mostLeftBy_12 : decode cX5_mostLeftBy 12 = .ok (.invokestatic 149, 3) := by decide +kernel
theorem dX5_mostLeftBy_15 : decode cX5_mostLeftBy 15 = .ok (.istore_n 2, 1) := by decide +kernel
theorem dX5_mostLeftBy_16 : decode cX5_mostLeftBy 16 = .ok (.aload_n 0, 1) := by decide +kernel
theorem dX5_mostLeftBy_17 : decode cX5_mostLeftBy 17 = .ok (.getfield 10, 3) := by decide +kernel
theorem dX5_mostLeftBy_20 : decode cX5_mostLeftBy 20 = .ok (.getfield 223, 3) := by decide +kernel
theorem dX5_mostLeftBy_23 : decode cX5_mostLeftBy 23 = .ok (.iload_n 1, 1) := by decide +kernel
theorem dX5_mostLeftBy_24 : decode cX5_mostLeftBy 24 = .ok (.invokestatic 226, 3) := by decide +kernel
theorem dX5_mostLeftBy_27 : decode cX5_mostLeftBy 27 = .ok (.iconst (-1), 1) := by decide +kernel
theorem dX5_mostLeftBy_28 : decode cX5_mostLeftBy 28 = .ok (.ixor, 1) := by decide +kernel
theorem dX5_mostLeftBy_29 : decode cX5_mostLeftBy 29 = .ok (.iand, 1) := by decide +kernel
theorem dX5_mostLeftBy_30 : decode cX5_mostLeftBy 30 = .ok (.invokestatic 149, 3) := by decide +kernel
theorem dX5_mostLeftBy_33 : decode cX5_mostLeftBy 33 = .ok (.istore_n 3, 1) := by decide +kernel
theorem dX5_mostLeftBy_34 : decode cX5_mostLeftBy 34 = .ok (.iload_n 2, 1) := by decide +kernel
theorem dX5_mostLeftBy_35 : decode cX5_mostLeftBy 35 = .ok (.iload_n 3, 1) := by decide +kernel
theorem dX5_mostLeftBy_36 : decode cX5_mostLeftBy 36 = .ok (.invokestatic 193, 3) := by decide +kernel
theorem dX5_mostLeftBy_39 : decode cX5_mostLeftBy 39 = .ok (.ireturn, 1) := by decide +kernel
set_option maxRecDepth 20000 in
theorem ggX5_moths_X2_hasAll : GoodIn wsX5_moths wsX2_hasAll := goodIn_r _ [11, 12, 51, 52, 53, 54, 55] (by decide +kernel) (by decide +kernel)
set_option maxRecDepth 20000 in
theorem gX5_moths_X2_hasAll : GoodIn wsX5_moths (wsV RX5 154 RX2 yX2_hasAll wsX2_hasAll) := goodIn_app (goodIn_of _ (by decide +kernel)) ggX5_moths_X2_hasAll
set_option maxRecDepth 20000 in
theorem ggX5_moths_X5_isBelow : GoodIn wsX5_moths wsX5_isBelow := goodIn_r _ [16] (by decide +kernel) (by decide +kernel)
set_option maxRecDepth 20000 in
theorem gX5_moths_X5_isBelow : GoodIn wsX5_moths (va_wsS RX5 57 yX5_isBelow wsX5_isBelow) := goodIn_app (goodIn_of _ (by decide +kernel)) ggX5_moths_X5_isBelow
set_option maxRecDepth 20000 in
theorem ggX5_moths_X2_withAnchors : GoodIn wsX5_moths wsX2_withAnchors := goodIn_r _ [20, 12, 21, 22, 15, 23, 24, 25, 51, 52, 53, 54, 55] (by decide +kernel) (by decide +kernel)
set_option maxRecDepth 20000 in
theorem gX5_moths_X2_withAnchors : GoodIn wsX5_moths (wsV RX5 157 RX2 yX2_withAnchors wsX2_withAnchors) := goodIn_app (goodIn_of _ (by decide +kernel)) ggX5_moths_X2_withAnchors
set_option maxRecDepth 20000 in
theorem ggX5_moths_J6_bitCount_0f7a4 : GoodIn wsX5_moths wsJ6_bitCount_0f7a4 := goodIn_r _ [29, 30, 31, 32] (by decide +kernel) (by decide +kernel)
set_option maxRecDepth 20000 in
theorem gX5_moths_J6_bitCount_0f7a4 : GoodIn wsX5_moths (va_wsS RX5 149 yJ6_bitCount_0f7a4 wsJ6_bitCount_0f7a4) := goodIn_app (goodIn_of _ (by decide +kernel)) ggX5_moths_J6_bitCount_0f7a4
set_option maxRecDepth 20000 in
theorem ggX5_moths_X5_termOfTenths : GoodIn wsX5_moths wsX5_termOfTenths := goodIn_r _ [35] (by decide +kernel) (by decide +kernel)
set_option maxRecDepth 20000 in
theorem gX5_moths_X5_termOfTenths : GoodIn wsX5_moths (va_wsS RX5 241 yX5_termOfTenths wsX5_termOfTenths) := goodIn_app (goodIn_of _ (by decide +kernel)) ggX5_moths_X5_termOfTenths
set_option maxRecDepth 20000 in
theorem ggX5_moths_X5_power : GoodIn wsX5_moths wsX5_power := goodIn_r _ [38] (by decide +kernel) (by decide +kernel)
set_option maxRecDepth 20000 in
theorem gX5_moths_X5_power : GoodIn wsX5_moths (va_wsS RX5 244 yX5_power wsX5_power) := goodIn_app (goodIn_of _ (by decide +kernel)) ggX5_moths_X5_power
theorem dX5_moths_0 : decode cX5_moths 0 = .ok (.aload_n 0, 1) := by decide +kernel
theorem dX5_moths_1 : decode cX5_moths 1 = .ok (.getfield 10, 3) := by decide +kernel
theorem dX5_moths_4 : decode cX5_moths 4 = .ok (.getfield 47, 3) := by decide +kernel
theorem dX5_moths_7 : decode cX5_moths 7 = .ok (.astore 4, 2) := by decide +kernel
theorem dX5_moths_9 : decode cX5_moths 9 = .ok (.aload 4, 2) := by decide +kernel
theorem dX5_moths_11 : decode cX5_moths 11 = .ok (.iload_n 1, 1) := by decide +kernel
theorem dX5_moths_12 : decode cX5_moths 12 = .ok (.invokevirtual 154, 3) := by decide +kernel
theorem dX5_moths_15 : decode cX5_moths 15 = .ok (.ifCond .ne 7, 3) := by decide +kernel
theorem dX5_moths_18 : decode cX5_moths 18 = .ok (.ldc2_w 235, 3) := by decide +kernel
theorem dX5_moths_21 : decode cX5_moths 21 = .ok (.lreturn, 1) := by decide +kernel
theorem dX5_moths_22 : decode cX5_moths 22 = .ok (.iload_n 2, 1) := by decide +kernel
theorem dX5_moths_23 : decode cX5_moths 23 = .ok (.ifCond .lt 17, 3) := by decide +kernel
theorem dX5_moths_26 : decode cX5_moths 26 = .ok (.iload_n 2, 1) := by decide +kernel
theorem dX5_moths_27 : decode cX5_moths 27 = .ok (.bipush 10, 2) := by decide +kernel
theorem dX5_moths_29 : decode cX5_moths 29 = .ok (.if_icmp .gt 11, 3) := by decide +kernel
theorem dX5_moths_32 : decode cX5_moths 32 = .ok (.iload_n 3, 1) := by decide +kernel
theorem dX5_moths_33 : decode cX5_moths 33 = .ok (.iconst 2, 1) := by decide +kernel
theorem dX5_moths_34 : decode cX5_moths 34 = .ok (.invokestatic 57, 3) := by decide +kernel
theorem dX5_moths_37 : decode cX5_moths 37 = .ok (.ifCond .ne 7, 3) := by decide +kernel
theorem dX5_moths_40 : decode cX5_moths 40 = .ok (.ldc2_w 237, 3) := by decide +kernel
theorem dX5_moths_43 : decode cX5_moths 43 = .ok (.lreturn, 1) := by decide +kernel
theorem dX5_moths_44 : decode cX5_moths 44 = .ok (.aload 4, 2) := by decide +kernel
theorem dX5_moths_46 : decode cX5_moths 46 = .ok (.iload_n 1, 1) := by decide +kernel
theorem dX5_moths_47 : decode cX5_moths 47 = .ok (.invokevirtual 157, 3) := by decide +kernel
theorem dX5_moths_50 : decode cX5_moths 50 = .ok (.istore 5, 2) := by decide +kernel
theorem dX5_moths_52 : decode cX5_moths 52 = .ok (.iload 5, 2) := by decide +kernel
theorem dX5_moths_54 : decode cX5_moths 54 = .ok (.invokestatic 149, 3) := by decide +kernel
theorem dX5_moths_57 : decode cX5_moths 57 = .ok (.istore 6, 2) := by decide +kernel
theorem dX5_moths_59 : decode cX5_moths 59 = .ok (.iload 6, 2) := by decide +kernel
theorem dX5_moths_61 : decode cX5_moths 61 = .ok (.bipush 18, 2) := by decide +kernel
theorem dX5_moths_63 : decode cX5_moths 63 = .ok (.if_icmp .le 7, 3) := by decide +kernel
theorem dX5_moths_66 : decode cX5_moths 66 = .ok (.ldc2_w 239, 3) := by decide +kernel
theorem dX5_moths_69 : decode cX5_moths 69 = .ok (.lreturn, 1) := by decide +kernel
theorem dX5_moths_70 : decode cX5_moths 70 = .ok (.iload 5, 2) := by decide +kernel
theorem dX5_moths_72 : decode cX5_moths 72 = .ok (.aload 4, 2) := by decide +kernel
theorem dX5_moths_74 : decode cX5_moths 74 = .ok (.getfield 114, 3) := by decide +kernel
theorem dX5_moths_77 : decode cX5_moths 77 = .ok (.iand, 1) := by decide +kernel
theorem dX5_moths_78 : decode cX5_moths 78 = .ok (.ifCond .eq 13, 3) := by decide +kernel
theorem dX5_moths_81 : decode cX5_moths 81 = .ok (.iload_n 3, 1) := by decide +kernel
theorem dX5_moths_82 : decode cX5_moths 82 = .ok (.ifCond .ne 7, 3) := by decide +kernel
theorem dX5_moths_85 : decode cX5_moths 85 = .ok (.lconst 0, 1) := by decide +kernel
theorem dX5_moths_86 : decode cX5_moths 86 = .ok (.goto 4, 3) := by decide +kernel
theorem dX5_moths_89 : decode cX5_moths 89 = .ok (.lconst 1, 1) := by decide +kernel
theorem dX5_moths_90 : decode cX5_moths 90 = .ok (.lreturn, 1) := by decide +kernel
theorem dX5_moths_91 : decode cX5_moths 91 = .ok (.bipush 10, 2) := by decide +kernel
theorem dX5_moths_93 : decode cX5_moths 93 = .ok (.iload_n 2, 1) := by decide +kernel
theorem dX5_moths_94 : decode cX5_moths 94 = .ok (.isub, 1) := by decide +kernel
theorem dX5_moths_95 : decode cX5_moths 95 = .ok (.iload_n 3, 1) := by decide +kernel
theorem dX5_moths_96 : decode cX5_moths 96 = .ok (.invokestatic 241, 3) := by decide +kernel
theorem dX5_moths_99 : decode cX5_moths 99 = .ok (.i2l, 1) := by decide +kernel
theorem dX5_moths_100 : decode cX5_moths 100 = .ok (.iload 6, 2) := by decide +kernel
theorem dX5_moths_102 : decode cX5_moths 102 = .ok (.invokestatic 244, 3) := by decide +kernel
theorem dX5_moths_105 : decode cX5_moths 105 = .ok (.lreturn, 1) := by decide +kernel
set_option maxRecDepth 20000 in
theorem ggX5_year_X5_isBelow : GoodIn wsX5_year wsX5_isBelow := goodIn_r _ [12] (by decide +kernel) (by decide +kernel)
set_option maxRecDepth 20000 in
theorem gX5_year_X5_isBelow : GoodIn wsX5_year (va_wsS RX5 57 yX5_isBelow wsX5_isBelow) := goodIn_app (goodIn_of _ (by decide +kernel)) ggX5_year_X5_isBelow
set_option maxRecDepth 20000 in
theorem ggX5_year_X4_begin : GoodIn wsX5_year wsX4_begin := goodIn_r _ [17, 18, 19, 20, 21, 22, 23, 24, 25, 26, 27, 28, 29, 30, 31, 32, 33, 11, 34, 35, 36, 136, 137, 138, 139, 140, 141, 142, 143, 144, 145] (by decide +kernel) (by decide +kernel)
set_option maxRecDepth 20000 in
theorem gX5_year_X4_begin : GoodIn wsX5_year (wsV RX5 127 RX4 yX4_begin wsX4_begin) := goodIn_app (goodIn_of _ (by decide +kernel)) ggX5_year_X4_begin
set_option maxRecDepth 20000 in
theorem ggX5_year_X5_tryDrawn : GoodIn wsX5_year wsX5_tryDrawn := goodIn_r _ [40, 41, 42, 43, 44, 1, 2, 45, 46, 47, 48, 49, 50, 33, 11, 34, 51, 52, 53, 16, 54, 20, 19, 18, 55, 56, 57, 58, 59, 60, 61, 26, 62, 28, 63, 64, 65, 66, 10, 12, 67, 68, 69, 70, 29, 71, 72, 73, 74, 75, 76, 30, 31, 32, 77, 78, 79, 80, 35, 36, 81, 82, 83, 84, 85, 86, 87, 88, 89, 90, 91, 92, 93, 94, 95, 21, 96, 97, 98, 22, 99, 100, 101, 102, 103, 104, 105, 106, 107, 108, 109, 110, 111, 112, 113, 114, 115, 116, 117, 118, 124, 125, 126, 127, 128, 129, 130, 131, 132, 133, 134, 135, 136, 137, 138, 139, 140, 141, 142, 143, 144, 145] (by decide +kernel) (by decide +kernel)
set_option maxRecDepth 20000 in
theorem gX5_year_X5_tryDrawn : GoodIn wsX5_year (wsV RX5 249 RX5 yX5_tryDrawn wsX5_tryDrawn) := goodIn_app (goodIn_of _ (by decide +kernel)) ggX5_year_X5_tryDrawn
set_option maxRecDepth 20000 in
theorem ggX5_year_X2_looseOnes : GoodIn wsX5_year wsX2_looseOnes := goodIn_r _ [122, 28, 29, 32, 33, 11, 34, 71, 72, 141, 142, 143, 144, 145] (by decide +kernel) (by decide +kernel)
set_option maxRecDepth 20000 in
theorem gX5_year_X2_looseOnes : GoodIn wsX5_year (wsV RX5 117 RX2 yX2_looseOnes wsX2_looseOnes) := goodIn_app (goodIn_of _ (by decide +kernel)) ggX5_year_X2_looseOnes
set_option maxRecDepth 20000 in
theorem ggX5_year_J6_bitCount_0f7a4 : GoodIn wsX5_year wsJ6_bitCount_0f7a4 := goodIn_r _ [87, 88, 89, 90] (by decide +kernel) (by decide +kernel)
set_option maxRecDepth 20000 in
theorem gX5_year_J6_bitCount_0f7a4 : GoodIn wsX5_year (va_wsS RX5 149 yJ6_bitCount_0f7a4 wsJ6_bitCount_0f7a4) := goodIn_app (goodIn_of _ (by decide +kernel)) ggX5_year_J6_bitCount_0f7a4
theorem dX5_year_0 : decode cX5_year 0 = .ok (.iload_n 1, 1) := by decide +kernel
theorem dX5_year_1 : decode cX5_year 1 = .ok (.sipush 10000, 3) := by decide +kernel
theorem dX5_year_4 : decode cX5_year 4 = .ok (.invokestatic 57, 3) := by decide +kernel
theorem dX5_year_7 : decode cX5_year 7 = .ok (.ifCond .eq 22, 3) := by decide +kernel
theorem dX5_year_10 : decode cX5_year 10 = .ok (.iload_n 2, 1) := by decide +kernel
theorem dX5_year_11 : decode cX5_year 11 = .ok (.iconst 1, 1) := by decide +kernel
theorem dX5_year_12 : decode cX5_year 12 = .ok (.if_icmp .lt 17, 3) := by decide +kernel
theorem dX5_year_15 : decode cX5_year 15 = .ok (.iload_n 2, 1) := by decide +kernel
theorem dX5_year_16 : decode cX5_year 16 = .ok (.bipush 99, 2) := by decide +kernel
theorem dX5_year_18 : decode cX5_year 18 = .ok (.if_icmp .gt 11, 3) := by decide +kernel
theorem dX5_year_21 : decode cX5_year 21 = .ok (.iload_n 3, 1) := by decide +kernel
theorem dX5_year_22 : decode cX5_year 22 = .ok (.iconst 3, 1) := by decide +kernel
theorem dX5_year_23 : decode cX5_year 23 = .ok (.invokestatic 57, 3) := by decide +kernel
theorem dX5_year_26 : decode cX5_year 26 = .ok (.ifCond .ne 6, 3) := by decide +kernel
theorem dX5_year_29 : decode cX5_year 29 = .ok (.bipush (-2), 2) := by decide +kernel
theorem dX5_year_31 : decode cX5_year 31 = .ok (.ireturn, 1) := by decide +kernel
theorem dX5_year_32 : decode cX5_year 32 = .ok (.aload_n 0, 1) := by decide +kernel
theorem dX5_year_33 : decode cX5_year 33 = .ok (.getfield 32, 3) := by decide +kernel
theorem dX5_year_36 : decode cX5_year 36 = .ok (.aload_n 0, 1) := by decide +kernel
theorem dX5_year_37 : decode cX5_year 37 = .ok (.getfield 10, 3) := by decide +kernel
theorem dX5_year_40 : decode cX5_year 40 = .ok (.getfield 47, 3) := by decide +kernel
theorem dX5_year_43 : decode cX5_year 43 = .ok (.invokevirtual 127, 3) := by decide +kernel
theorem dX5_year_46 : decode cX5_year 46 = .ok (.iload_n 1, 1) := by decide +kernel
theorem dX5_year_47 : decode cX5_year 47 = .ok (.istore 4, 2) := by decide +kernel
theorem dX5_year_49 : decode cX5_year 49 = .ok (.iconst 0, 1) := by decide +kernel
theorem dX5_year_50 : decode cX5_year 50 = .ok (.istore 5, 2) := by decide +kernel
theorem dX5_year_52 : decode cX5_year 52 = .ok (.iload 5, 2) := by decide +kernel
theorem dX5_year_54 : decode cX5_year 54 = .ok (.iload_n 2, 1) := by decide +kernel
theorem dX5_year_55 : decode cX5_year 55 = .ok (.if_icmp .ge 28, 3) := by decide +kernel
theorem dX5_year_58 : decode cX5_year 58 = .ok (.bipush 75, 2) := by decide +kernel
theorem dX5_year_60 : decode cX5_year 60 = .ok (.iload 4, 2) := by decide +kernel
theorem dX5_year_62 : decode cX5_year 62 = .ok (.imul, 1) := by decide +kernel
theorem dX5_year_63 : decode cX5_year 63 = .ok (.bipush 74, 2) := by decide +kernel
theorem dX5_year_65 : decode cX5_year 65 = .ok (.iadd, 1) := by decide +kernel
theorem dX5_year_66 : decode cX5_year 66 = .ok (.ldc 248, 2) := by decide +kernel
theorem dX5_year_68 : decode cX5_year 68 = .ok (.irem, 1) := by decide +kernel
theorem dX5_year_69 : decode cX5_year 69 = .ok (.istore 4, 2) := by decide +kernel
theorem dX5_year_71 : decode cX5_year 71 = .ok (.aload_n 0, 1) := by decide +kernel
theorem dX5_year_72 : decode cX5_year 72 = .ok (.iload 4, 2) := by decide +kernel
theorem dX5_year_74 : decode cX5_year 74 = .ok (.invokevirtual 249, 3) := by decide +kernel
theorem dX5_year_77 : decode cX5_year 77 = .ok (.iinc 5 1, 3) := by decide +kernel
theorem dX5_year_80 : decode cX5_year 80 = .ok (.goto (-28), 3) := by decide +kernel
theorem dX5_year_83 : decode cX5_year 83 = .ok (.iload_n 3, 1) := by decide +kernel
theorem dX5_year_84 : decode cX5_year 84 = .ok (.lookupswitch 64 #[(0, 28), (1, 39)], 28) := by decide +kernel
theorem dX5_year_112 : decode cX5_year 112 = .ok (.aload_n 0, 1) := by decide +kernel
theorem dX5_year_113 : decode cX5_year 113 = .ok (.getfield 32, 3) := by decide +kernel
theorem dX5_year_116 : decode cX5_year 116 = .ok (.getfield 109, 3) := by decide +kernel
theorem dX5_year_119 : decode cX5_year 119 = .ok (.getfield 69, 3) := by decide +kernel
theorem dX5_year_122 : decode cX5_year 122 = .ok (.ireturn, 1) := by decide +kernel
theorem dX5_year_123 : decode cX5_year 123 = .ok (.aload_n 0, 1) := by decide +kernel
theorem dX5_year_124 : decode cX5_year 124 = .ok (.getfield 32, 3) := by decide +kernel
theorem dX5_year_127 : decode cX5_year 127 = .ok (.getfield 109, 3) := by decide +kernel
theorem dX5_year_130 : decode cX5_year 130 = .ok (.getfield 114, 3) := by decide +kernel
theorem dX5_year_133 : decode cX5_year 133 = .ok (.aload_n 0, 1) := by decide +kernel
theorem dX5_year_134 : decode cX5_year 134 = .ok (.getfield 32, 3) := by decide +kernel
theorem dX5_year_137 : decode cX5_year 137 = .ok (.getfield 109, 3) := by decide +kernel
theorem dX5_year_140 : decode cX5_year 140 = .ok (.invokevirtual 117, 3) := by decide +kernel
theorem dX5_year_143 : decode cX5_year 143 = .ok (.ior, 1) := by decide +kernel
theorem dX5_year_144 : decode cX5_year 144 = .ok (.invokestatic 149, 3) := by decide +kernel
theorem dX5_year_147 : decode cX5_year 147 = .ok (.ireturn, 1) := by decide +kernel
theorem dX5_year_148 : decode cX5_year 148 = .ok (.aload_n 0, 1) := by decide +kernel
theorem dX5_year_149 : decode cX5_year 149 = .ok (.getfield 32, 3) := by decide +kernel
theorem dX5_year_152 : decode cX5_year 152 = .ok (.getfield 252, 3) := by decide +kernel
theorem dX5_year_155 : decode cX5_year 155 = .ok (.ireturn, 1) := by decide +kernel
set_option maxRecDepth 20000 in
theorem ggX5_tryDrawn_X3_tightnessOf : GoodIn wsX5_tryDrawn wsX3_tightnessOf := goodIn_r _ [11, 12, 13, 14, 15, 108, 109, 110, 111] (by decide +kernel) (by decide +kernel)
set_option maxRecDepth 20000 in
theorem gX5_tryDrawn_X3_tightnessOf : GoodIn wsX5_tryDrawn (wsV RX5 76 RX3 yX3_tightnessOf wsX3_tightnessOf) := goodIn_app (goodIn_of _ (by decide +kernel)) ggX5_tryDrawn_X3_tightnessOf
set_option maxRecDepth 20000 in
theorem ggX5_tryDrawn_X4_act : GoodIn wsX5_tryDrawn wsX4_act := goodIn_r _ [20, 21, 22, 23, 24, 25, 26, 19, 27, 28, 29, 30, 31, 32, 33, 34, 35, 36, 37, 38, 14, 39, 40, 41, 42, 43, 44, 45, 46, 47, 48, 49, 50, 51, 52, 53, 54, 55, 56, 57, 13, 15, 58, 59, 60, 61, 62, 63, 64, 65, 66, 67, 68, 69, 70, 71, 72, 73, 74, 75, 76, 77, 3, 78, 79, 80, 81, 82, 83, 84, 85, 86, 87, 88, 89, 90, 91, 92, 93, 94, 95, 96, 97, 98, 99, 112, 113, 114, 115, 116, 117, 118, 119, 120, 121] (by decide +kernel) (by decide +kernel)
set_option maxRecDepth 20000 in
theorem gX5_tryDrawn_X4_act : GoodIn wsX5_tryDrawn (wsV RX5 142 RX4 yX4_act wsX4_act) := goodIn_app (goodIn_of _ (by decide +kernel)) ggX5_tryDrawn_X4_act
theorem dX5_tryDrawn_0 : decode cX5_tryDrawn 0 = .ok (.iload_n 1, 1) := by decide +kernel
theorem dX5_tryDrawn_1 : decode cX5_tryDrawn 1 = .ok (.bipush 8, 2) := by decide +kernel
theorem dX5_tryDrawn_3 : decode cX5_tryDrawn 3 = .ok (.irem, 1) := by decide +kernel
theorem dX5_tryDrawn_4 : decode cX5_tryDrawn 4 = .ok (.iconst 3, 1) := by decide +kernel
theorem dX5_tryDrawn_5 : decode cX5_tryDrawn 5 = .ok (.invokestatic 255, 3) := by decide +kernel
theorem dX5_tryDrawn_8 : decode cX5_tryDrawn 8 = .ok (.istore_n 2, 1) := by decide +kernel
theorem dX5_tryDrawn_9 : decode cX5_tryDrawn 9 = .ok (.iload_n 2, 1) := by decide +kernel
theorem dX5_tryDrawn_10 : decode cX5_tryDrawn 10 = .ok (.iconst 3, 1) := by decide +kernel
theorem dX5_tryDrawn_11 : decode cX5_tryDrawn 11 = .ok (.if_icmp .ne 10, 3) := by decide +kernel
theorem dX5_tryDrawn_14 : decode cX5_tryDrawn 14 = .ok (.iload_n 1, 1) := by decide +kernel
theorem dX5_tryDrawn_15 : decode cX5_tryDrawn 15 = .ok (.bipush 8, 2) := by decide +kernel
theorem dX5_tryDrawn_17 : decode cX5_tryDrawn 17 = .ok (.idiv, 1) := by decide +kernel
theorem dX5_tryDrawn_18 : decode cX5_tryDrawn 18 = .ok (.goto 8, 3) := by decide +kernel
theorem dX5_tryDrawn_21 : decode cX5_tryDrawn 21 = .ok (.iload_n 1, 1) := by decide +kernel
theorem dX5_tryDrawn_22 : decode cX5_tryDrawn 22 = .ok (.sipush 192, 3) := by decide +kernel
theorem dX5_tryDrawn_25 : decode cX5_tryDrawn 25 = .ok (.idiv, 1) := by decide +kernel
theorem dX5_tryDrawn_26 : decode cX5_tryDrawn 26 = .ok (.iconst 4, 1) := by decide +kernel
theorem dX5_tryDrawn_27 : decode cX5_tryDrawn 27 = .ok (.irem, 1) := by decide +kernel
theorem dX5_tryDrawn_28 : decode cX5_tryDrawn 28 = .ok (.istore_n 3, 1) := by decide +kernel
theorem dX5_tryDrawn_29 : decode cX5_tryDrawn 29 = .ok (.aload_n 0, 1) := by decide +kernel
theorem dX5_tryDrawn_30 : decode cX5_tryDrawn 30 = .ok (.getfield 32, 3) := by decide +kernel
theorem dX5_tryDrawn_33 : decode cX5_tryDrawn 33 = .ok (.iload_n 2, 1) := by decide +kernel
theorem dX5_tryDrawn_34 : decode cX5_tryDrawn 34 = .ok (.iload_n 1, 1) := by decide +kernel
theorem dX5_tryDrawn_35 : decode cX5_tryDrawn 35 = .ok (.bipush 8, 2) := by decide +kernel
theorem dX5_tryDrawn_37 : decode cX5_tryDrawn 37 = .ok (.idiv, 1) := by decide +kernel
theorem dX5_tryDrawn_38 : decode cX5_tryDrawn 38 = .ok (.bipush 24, 2) := by decide +kernel
theorem dX5_tryDrawn_40 : decode cX5_tryDrawn 40 = .ok (.irem, 1) := by decide +kernel
theorem dX5_tryDrawn_41 : decode cX5_tryDrawn 41 = .ok (.iload_n 1, 1) := by decide +kernel
theorem dX5_tryDrawn_42 : decode cX5_tryDrawn 42 = .ok (.bipush 32, 2) := by decide +kernel
theorem dX5_tryDrawn_44 : decode cX5_tryDrawn 44 = .ok (.idiv, 1) := by decide +kernel
theorem dX5_tryDrawn_45 : decode cX5_tryDrawn 45 = .ok (.iconst 4, 1) := by decide +kernel
theorem dX5_tryDrawn_46 : decode cX5_tryDrawn 46 = .ok (.irem, 1) := by decide +kernel
theorem dX5_tryDrawn_47 : decode cX5_tryDrawn 47 = .ok (.aload_n 0, 1) := by decide +kernel
theorem dX5_tryDrawn_48 : decode cX5_tryDrawn 48 = .ok (.getfield 10, 3) := by decide +kernel
theorem dX5_tryDrawn_51 : decode cX5_tryDrawn 51 = .ok (.iload_n 3, 1) := by decide +kernel
theorem dX5_tryDrawn_52 : decode cX5_tryDrawn 52 = .ok (.invokevirtual 76, 3) := by decide +kernel
theorem dX5_tryDrawn_55 : decode cX5_tryDrawn 55 = .ok (.invokevirtual 142, 3) := by decide +kernel
theorem dX5_tryDrawn_58 : decode cX5_tryDrawn 58 = .ok (.pop, 1) := by decide +kernel
theorem dX5_tryDrawn_59 : decode cX5_tryDrawn 59 = .ok (.return_, 1) := by decide +kernel
set_option maxRecDepth 20000 in
theorem ggX5_image_X5_isBelow : GoodIn wsX5_image wsX5_isBelow := goodIn_r _ [6] (by decide +kernel) (by decide +kernel)
set_option maxRecDepth 20000 in
theorem gX5_image_X5_isBelow : GoodIn wsX5_image (va_wsS RX5 57 yX5_isBelow wsX5_isBelow) := goodIn_app (goodIn_of _ (by decide +kernel)) ggX5_image_X5_isBelow
set_option maxRecDepth 20000 in
theorem ggX5_image_X5_imageAt : GoodIn wsX5_image wsX5_imageAt := goodIn_r _ [10, 11, 12, 40, 41, 42, 43, 44, 45, 46, 47] (by decide +kernel) (by decide +kernel)
set_option maxRecDepth 20000 in
theorem gX5_image_X5_imageAt : GoodIn wsX5_image (wsV RX5 178 RX5 yX5_imageAt wsX5_imageAt) := goodIn_app (goodIn_of _ (by decide +kernel)) ggX5_image_X5_imageAt
set_option maxRecDepth 20000 in
theorem ggX5_image_X3_copy : GoodIn wsX5_image wsX3_copy := goodIn_r _ [17, 18, 19, 20, 21, 22, 23, 24, 25, 26, 27, 28, 29, 30, 31, 32, 5, 33, 34, 35, 36, 37, 38, 16, 39, 48, 49, 50, 51, 52, 53, 54, 55, 56] (by decide +kernel) (by decide +kernel)
set_option maxRecDepth 20000 in
theorem gX5_image_X3_copy : GoodIn wsX5_image (wsV RX5 258 RX3 yX3_copy wsX3_copy) := goodIn_app (goodIn_of _ (by decide +kernel)) ggX5_image_X3_copy
theorem dX5_image_0 : decode cX5_image 0 = .ok (.iload_n 1, 1) := by decide +kernel
theorem dX5_image_1 : decode cX5_image 1 = .ok (.iconst 2, 1) := by decide +kernel
theorem dX5_image_2 : decode cX5_image 2 = .ok (.invokestatic 57, 3) := by decide +kernel
theorem dX5_image_5 : decode cX5_image 5 = .ok (.ifCond .ne 6, 3) := by decide +kernel
theorem dX5_image_8 : decode cX5_image 8 = .ok (.bipush (-2), 2) := by decide +kernel
theorem dX5_image_10 : decode cX5_image 10 = .ok (.ireturn, 1) := by decide +kernel
theorem dX5_image_11 : decode cX5_image 11 = .ok (.aload_n 0, 1) := by decide +kernel
theorem dX5_image_12 : decode cX5_image 12 = .ok (.iload_n 1, 1) := by decide +kernel
theorem dX5_image_13 : decode cX5_image 13 = .ok (.invokevirtual 178, 3) := by decide +kernel
theorem dX5_image_16 : decode cX5_image 16 = .ok (.aload_n 0, 1) := by decide +kernel
theorem dX5_image_17 : decode cX5_image 17 = .ok (.getfield 10, 3) := by decide +kernel
theorem dX5_image_20 : decode cX5_image 20 = .ok (.invokevirtual 258, 3) := by decide +kernel
theorem dX5_image_23 : decode cX5_image 23 = .ok (.aload_n 0, 1) := by decide +kernel
theorem dX5_image_24 : decode cX5_image 24 = .ok (.dup, 1) := by decide +kernel
theorem dX5_image_25 : decode cX5_image 25 = .ok (.getfield 172, 3) := by decide +kernel
theorem dX5_image_28 : decode cX5_image 28 = .ok (.iconst 1, 1) := by decide +kernel
theorem dX5_image_29 : decode cX5_image 29 = .ok (.iload_n 1, 1) := by decide +kernel
theorem dX5_image_30 : decode cX5_image 30 = .ok (.ishl, 1) := by decide +kernel
theorem dX5_image_31 : decode cX5_image 31 = .ok (.ior, 1) := by decide +kernel
theorem dX5_image_32 : decode cX5_image 32 = .ok (.putfield 172, 3) := by decide +kernel
theorem dX5_image_35 : decode cX5_image 35 = .ok (.iconst 1, 1) := by decide +kernel
theorem dX5_image_36 : decode cX5_image 36 = .ok (.ireturn, 1) := by decide +kernel
set_option maxRecDepth 20000 in
theorem ggX5_restore_X5_isBelow : GoodIn wsX5_restore wsX5_isBelow := goodIn_r _ [6] (by decide +kernel) (by decide +kernel)
set_option maxRecDepth 20000 in
theorem gX5_restore_X5_isBelow : GoodIn wsX5_restore (va_wsS RX5 57 yX5_isBelow wsX5_isBelow) := goodIn_app (goodIn_of _ (by decide +kernel)) ggX5_restore_X5_isBelow
set_option maxRecDepth 20000 in
theorem ggX5_restore_X5_isIn : GoodIn wsX5_restore wsX5_isIn := goodIn_r _ [9] (by decide +kernel) (by decide +kernel)
set_option maxRecDepth 20000 in
theorem gX5_restore_X5_isIn : GoodIn wsX5_restore (va_wsS RX5 175 yX5_isIn wsX5_isIn) := goodIn_app (goodIn_of _ (by decide +kernel)) ggX5_restore_X5_isIn
set_option maxRecDepth 20000 in
theorem ggX5_restore_X5_imageAt : GoodIn wsX5_restore wsX5_imageAt := goodIn_r _ [13, 14, 15, 43, 44, 45, 46, 47, 48, 49, 50] (by decide +kernel) (by decide +kernel)
set_option maxRecDepth 20000 in
theorem gX5_restore_X5_imageAt : GoodIn wsX5_restore (wsV RX5 178 RX5 yX5_imageAt wsX5_imageAt) := goodIn_app (goodIn_of _ (by decide +kernel)) ggX5_restore_X5_imageAt
set_option maxRecDepth 20000 in
theorem ggX5_restore_X3_copy : GoodIn wsX5_restore wsX3_copy := goodIn_r _ [20, 21, 22, 23, 24, 25, 26, 27, 28, 29, 30, 31, 32, 33, 34, 35, 5, 36, 37, 38, 39, 40, 41, 19, 42, 51, 52, 53, 54, 55, 56, 57, 58, 59] (by decide +kernel) (by decide +kernel)
set_option maxRecDepth 20000 in
theorem gX5_restore_X3_copy : GoodIn wsX5_restore (wsV RX5 258 RX3 yX3_copy wsX3_copy) := goodIn_app (goodIn_of _ (by decide +kernel)) ggX5_restore_X3_copy
theorem dX5_restore_0 : decode cX5_restore 0 = .ok (.iload_n 1, 1) := by decide +kernel
theorem dX5_restore_1 : decode cX5_restore 1 = .ok (.iconst 2, 1) := by decide +kernel
theorem dX5_restore_2 : decode cX5_restore 2 = .ok (.invokestatic 57, 3) := by decide +kernel
theorem dX5_restore_5 : decode cX5_restore 5 = .ok (.ifCond .ne 6, 3) := by decide +kernel
theorem dX5_restore_8 : decode cX5_restore 8 = .ok (.bipush (-2), 2) := by decide +kernel
theorem dX5_restore_10 : decode cX5_restore 10 = .ok (.ireturn, 1) := by decide +kernel
theorem dX5_restore_11 : decode cX5_restore 11 = .ok (.aload_n 0, 1) := by decide +kernel
theorem dX5_restore_12 : decode cX5_restore 12 = .ok (.getfield 172, 3) := by decide +kernel
theorem dX5_restore_15 : decode cX5_restore 15 = .ok (.iload_n 1, 1) := by decide +kernel
theorem dX5_restore_16 : decode cX5_restore 16 = .ok (.invokestatic 175, 3) := by decide +kernel
theorem dX5_restore_19 : decode cX5_restore 19 = .ok (.ifCond .ne 6, 3) := by decide +kernel
theorem dX5_restore_22 : decode cX5_restore 22 = .ok (.bipush (-3), 2) := by decide +kernel
theorem dX5_restore_24 : decode cX5_restore 24 = .ok (.ireturn, 1) := by decide +kernel
theorem dX5_restore_25 : decode cX5_restore 25 = .ok (.aload_n 0, 1) := by decide +kernel
theorem dX5_restore_26 : decode cX5_restore 26 = .ok (.getfield 10, 3) := by decide +kernel
theorem dX5_restore_29 : decode cX5_restore 29 = .ok (.aload_n 0, 1) := by decide +kernel
theorem dX5_restore_30 : decode cX5_restore 30 = .ok (.iload_n 1, 1) := by decide +kernel
theorem dX5_restore_31 : decode cX5_restore 31 = .ok (.invokevirtual 178, 3) := by decide +kernel
theorem dX5_restore_34 : decode cX5_restore 34 = .ok (.invokevirtual 258, 3) := by decide +kernel
theorem dX5_restore_37 : decode cX5_restore 37 = .ok (.iconst 1, 1) := by decide +kernel
theorem dX5_restore_38 : decode cX5_restore 38 = .ok (.ireturn, 1) := by decide +kernel
theorem dX5_imageAt_0 : decode cX5_imageAt 0 = .ok (.iload_n 1, 1) := by decide +kernel
theorem dX5_imageAt_1 : decode cX5_imageAt 1 = .ok (.ifCond .ne 10, 3) := by decide +kernel
theorem dX5_imageAt_4 : decode cX5_imageAt 4 = .ok (.aload_n 0, 1) := by decide +kernel
theorem dX5_imageAt_5 : decode cX5_imageAt 5 = .ok (.getfield 16, 3) := by decide +kernel
theorem dX5_imageAt_8 : decode cX5_imageAt 8 = .ok (.goto 7, 3) := by decide +kernel
theorem dX5_imageAt_11 : decode cX5_imageAt 11 = .ok (.aload_n 0, 1) := by decide +kernel
theorem dX5_imageAt_12 : decode cX5_imageAt 12 = .ok (.getfield 19, 3) := by decide +kernel
theorem dX5_imageAt_15 : decode cX5_imageAt 15 = .ok (.areturn, 1) := by decide +kernel
set_option maxRecDepth 20000 in
theorem ggX5_told_X5_toldOfStitch : GoodIn wsX5_told wsX5_toldOfStitch := goodIn_r _ [12, 1, 4, 13, 14, 15, 16, 17, 18, 19, 11, 20, 21, 22, 23, 24, 25, 26, 27, 28, 29, 30, 44, 45, 46, 47, 48, 49, 50, 51, 54, 55, 56, 57, 58, 59, 60, 61, 62] (by decide +kernel) (by decide +kernel)
set_option maxRecDepth 20000 in
theorem gX5_told_X5_toldOfStitch : GoodIn wsX5_told (wsV RX5 260 RX5 yX5_toldOfStitch wsX5_toldOfStitch) := goodIn_app (goodIn_of _ (by decide +kernel)) ggX5_told_X5_toldOfStitch
set_option maxRecDepth 20000 in
theorem ggX5_told_X5_isBelow : GoodIn wsX5_told wsX5_isBelow := goodIn_r _ [20] (by decide +kernel) (by decide +kernel)
set_option maxRecDepth 20000 in
theorem gX5_told_X5_isBelow : GoodIn wsX5_told (va_wsS RX5 57 yX5_isBelow wsX5_isBelow) := goodIn_app (goodIn_of _ (by decide +kernel)) ggX5_told_X5_isBelow
set_option maxRecDepth 20000 in
theorem ggX5_told_X3_tightnessOf : GoodIn wsX5_told wsX3_tightnessOf := goodIn_r _ [35, 36, 29, 11, 30, 54, 55, 56, 57] (by decide +kernel) (by decide +kernel)
set_option maxRecDepth 20000 in
theorem gX5_told_X3_tightnessOf : GoodIn wsX5_told (wsV RX5 76 RX3 yX3_tightnessOf wsX3_tightnessOf) := goodIn_app (goodIn_of _ (by decide +kernel)) ggX5_told_X3_tightnessOf
set_option maxRecDepth 20000 in
theorem ggX5_told_X2_looseOnes : GoodIn wsX5_told wsX2_looseOnes := goodIn_r _ [40, 18, 41, 28, 29, 11, 30, 42, 43, 58, 59, 60, 61, 62] (by decide +kernel) (by decide +kernel)
set_option maxRecDepth 20000 in
theorem gX5_told_X2_looseOnes : GoodIn wsX5_told (wsV RX5 117 RX2 yX2_looseOnes wsX2_looseOnes) := goodIn_app (goodIn_of _ (by decide +kernel)) ggX5_told_X2_looseOnes
theorem dX5_told_0 : decode cX5_told 0 = .ok (.iload_n 1, 1) := by decide +kernel
theorem dX5_told_1 : decode cX5_told 1 = .ok (.bipush 100, 2) := by decide +kernel
theorem dX5_told_3 : decode cX5_told 3 = .ok (.if_icmp .lt 18, 3) := by decide +kernel
theorem dX5_told_6 : decode cX5_told 6 = .ok (.aload_n 0, 1) := by decide +kernel
theorem dX5_told_7 : decode cX5_told 7 = .ok (.iload_n 1, 1) := by decide +kernel
theorem dX5_told_8 : decode cX5_told 8 = .ok (.bipush 100, 2) := by decide +kernel
theorem dX5_told_10 : decode cX5_told 10 = .ok (.idiv, 1) := by decide +kernel
theorem dX5_told_11 : decode cX5_told 11 = .ok (.iconst 1, 1) := by decide +kernel
theorem dX5_told_12 : decode cX5_told 12 = .ok (.isub, 1) := by decide +kernel
theorem dX5_told_13 : decode cX5_told 13 = .ok (.iload_n 1, 1) := by decide +kernel
theorem dX5_told_14 : decode cX5_told 14 = .ok (.bipush 100, 2) := by decide +kernel
theorem dX5_told_16 : decode cX5_told 16 = .ok (.irem, 1) := by decide +kernel
theorem dX5_told_17 : decode cX5_told 17 = .ok (.invokevirtual 260, 3) := by decide +kernel
theorem dX5_told_20 : decode cX5_told 20 = .ok (.ireturn, 1) := by decide +kernel
theorem dX5_told_21 : decode cX5_told 21 = .ok (.iload_n 1, 1) := by decide +kernel
theorem dX5_told_22 : decode cX5_told 22 = .ok (.bipush 10, 2) := by decide +kernel
theorem dX5_told_24 : decode cX5_told 24 = .ok (.isub, 1) := by decide +kernel
theorem dX5_told_25 : decode cX5_told 25 = .ok (.iconst 4, 1) := by decide +kernel
theorem dX5_told_26 : decode cX5_told 26 = .ok (.invokestatic 57, 3) := by decide +kernel
theorem dX5_told_29 : decode cX5_told 29 = .ok (.ifCond .eq 15, 3) := by decide +kernel
theorem dX5_told_32 : decode cX5_told 32 = .ok (.aload_n 0, 1) := by decide +kernel
theorem dX5_told_33 : decode cX5_told 33 = .ok (.getfield 10, 3) := by decide +kernel
theorem dX5_told_36 : decode cX5_told 36 = .ok (.iload_n 1, 1) := by decide +kernel
theorem dX5_told_37 : decode cX5_told 37 = .ok (.bipush 10, 2) := by decide +kernel
theorem dX5_told_39 : decode cX5_told 39 = .ok (.isub, 1) := by decide +kernel
theorem dX5_told_40 : decode cX5_told 40 = .ok (.invokevirtual 76, 3) := by decide +kernel
theorem dX5_told_43 : decode cX5_told 43 = .ok (.ireturn, 1) := by decide +kernel
theorem dX5_told_44 : decode cX5_told 44 = .ok (.iload_n 1, 1) := by decide +kernel
theorem dX5_told_45 : decode cX5_told 45 = .ok (.tableswitch 84 0 4 #[35, 43, 54, 65, 73], 35) := by decide +kernel
theorem dX5_told_80 : decode cX5_told 80 = .ok (.aload_n 0, 1) := by decide +kernel
theorem dX5_told_81 : decode cX5_told 81 = .ok (.getfield 25, 3) := by decide +kernel
theorem dX5_told_84 : decode cX5_told 84 = .ok (.getfield 87, 3) := by decide +kernel
theorem dX5_told_87 : decode cX5_told 87 = .ok (.ireturn, 1) := by decide +kernel
theorem dX5_told_88 : decode cX5_told 88 = .ok (.aload_n 0, 1) := by decide +kernel
theorem dX5_told_89 : decode cX5_told 89 = .ok (.getfield 10, 3) := by decide +kernel
theorem dX5_told_92 : decode cX5_told 92 = .ok (.getfield 47, 3) := by decide +kernel
theorem dX5_told_95 : decode cX5_told 95 = .ok (.getfield 69, 3) := by decide +kernel
theorem dX5_told_98 : decode cX5_told 98 = .ok (.ireturn, 1) := by decide +kernel
theorem dX5_told_99 : decode cX5_told 99 = .ok (.aload_n 0, 1) := by decide +kernel
theorem dX5_told_100 : decode cX5_told 100 = .ok (.getfield 10, 3) := by decide +kernel
theorem dX5_told_103 : decode cX5_told 103 = .ok (.getfield 47, 3) := by decide +kernel
theorem dX5_told_106 : decode cX5_told 106 = .ok (.getfield 114, 3) := by decide +kernel
theorem dX5_told_109 : decode cX5_told 109 = .ok (.ireturn, 1) := by decide +kernel
theorem dX5_told_110 : decode cX5_told 110 = .ok (.aload_n 0, 1) := by decide +kernel
theorem dX5_told_111 : decode cX5_told 111 = .ok (.getfield 10, 3) := by decide +kernel
theorem dX5_told_114 : decode cX5_told 114 = .ok (.getfield 220, 3) := by decide +kernel
theorem dX5_told_117 : decode cX5_told 117 = .ok (.ireturn, 1) := by decide +kernel
theorem dX5_told_118 : decode cX5_told 118 = .ok (.aload_n 0, 1) := by decide +kernel
theorem dX5_told_119 : decode cX5_told 119 = .ok (.getfield 10, 3) := by decide +kernel
theorem dX5_told_122 : decode cX5_told 122 = .ok (.getfield 47, 3) := by decide +kernel
theorem dX5_told_125 : decode cX5_told 125 = .ok (.invokevirtual 117, 3) := by decide +kernel
theorem dX5_told_128 : decode cX5_told 128 = .ok (.ireturn, 1) := by decide +kernel
theorem dX5_told_129 : decode cX5_told 129 = .ok (.bipush (-2), 2) := by decide +kernel
theorem dX5_told_131 : decode cX5_told 131 = .ok (.ireturn, 1) := by decide +kernel
set_option maxRecDepth 20000 in
theorem ggX5_toldOfStitch_X2_has : GoodIn wsX5_toldOfStitch wsX2_has := goodIn_r _ [7, 8, 9, 10, 11, 34, 35, 36, 37, 38] (by decide +kernel) (by decide +kernel)
set_option maxRecDepth 20000 in
theorem gX5_toldOfStitch_X2_has : GoodIn wsX5_toldOfStitch (wsV RX5 51 RX2 yX2_has wsX2_has) := goodIn_app (goodIn_of _ (by decide +kernel)) ggX5_toldOfStitch_X2_has
set_option maxRecDepth 20000 in
theorem ggX5_toldOfStitch_X5_isBelow : GoodIn wsX5_toldOfStitch wsX5_isBelow := goodIn_r _ [11] (by decide +kernel) (by decide +kernel)
set_option maxRecDepth 20000 in
theorem gX5_toldOfStitch_X5_isBelow : GoodIn wsX5_toldOfStitch (va_wsS RX5 57 yX5_isBelow wsX5_isBelow) := goodIn_app (goodIn_of _ (by decide +kernel)) ggX5_toldOfStitch_X5_isBelow
set_option maxRecDepth 20000 in
theorem ggX5_toldOfStitch_X2_trait : GoodIn wsX5_toldOfStitch wsX2_trait := goodIn_r _ [16, 17, 18, 19, 20, 10, 21, 34, 35, 36, 37, 38] (by decide +kernel) (by decide +kernel)
set_option maxRecDepth 20000 in
theorem gX5_toldOfStitch_X2_trait : GoodIn wsX5_toldOfStitch (wsV RX5 123 RX2 yX2_trait wsX2_trait) := goodIn_app (goodIn_of _ (by decide +kernel)) ggX5_toldOfStitch_X2_trait
theorem dX5_toldOfStitch_0 : decode cX5_toldOfStitch 0 = .ok (.aload_n 0, 1) := by decide +kernel
theorem dX5_toldOfStitch_1 : decode cX5_toldOfStitch 1 = .ok (.getfield 10, 3) := by decide +kernel
theorem dX5_toldOfStitch_4 : decode cX5_toldOfStitch 4 = .ok (.getfield 47, 3) := by decide +kernel
theorem dX5_toldOfStitch_7 : decode cX5_toldOfStitch 7 = .ok (.iload_n 1, 1) := by decide +kernel
theorem dX5_toldOfStitch_8 : decode cX5_toldOfStitch 8 = .ok (.invokevirtual 51, 3) := by decide +kernel
theorem dX5_toldOfStitch_11 : decode cX5_toldOfStitch 11 = .ok (.ifCond .eq 11, 3) := by decide +kernel
theorem dX5_toldOfStitch_14 : decode cX5_toldOfStitch 14 = .ok (.iload_n 2, 1) := by decide +kernel
theorem dX5_toldOfStitch_15 : decode cX5_toldOfStitch 15 = .ok (.iconst 3, 1) := by decide +kernel
theorem dX5_toldOfStitch_16 : decode cX5_toldOfStitch 16 = .ok (.invokestatic 57, 3) := by decide +kernel
theorem dX5_toldOfStitch_19 : decode cX5_toldOfStitch 19 = .ok (.ifCond .ne 6, 3) := by decide +kernel
theorem dX5_toldOfStitch_22 : decode cX5_toldOfStitch 22 = .ok (.bipush (-2), 2) := by decide +kernel
theorem dX5_toldOfStitch_24 : decode cX5_toldOfStitch 24 = .ok (.ireturn, 1) := by decide +kernel
theorem dX5_toldOfStitch_25 : decode cX5_toldOfStitch 25 = .ok (.aload_n 0, 1) := by decide +kernel
theorem dX5_toldOfStitch_26 : decode cX5_toldOfStitch 26 = .ok (.getfield 10, 3) := by decide +kernel
theorem dX5_toldOfStitch_29 : decode cX5_toldOfStitch 29 = .ok (.getfield 47, 3) := by decide +kernel
theorem dX5_toldOfStitch_32 : decode cX5_toldOfStitch 32 = .ok (.iload_n 1, 1) := by decide +kernel
theorem dX5_toldOfStitch_33 : decode cX5_toldOfStitch 33 = .ok (.iload_n 2, 1) := by decide +kernel
theorem dX5_toldOfStitch_34 : decode cX5_toldOfStitch 34 = .ok (.invokevirtual 123, 3) := by decide +kernel
theorem dX5_toldOfStitch_37 : decode cX5_toldOfStitch 37 = .ok (.ireturn, 1) := by decide +kernel
theorem dX5_isBelow_0 : decode cX5_isBelow 0 = .ok (.iload_n 0, 1) := by decide +kernel
theorem dX5_isBelow_1 : decode cX5_isBelow 1 = .ok (.ifCond .lt 12, 3) := by decide +kernel
theorem dX5_isBelow_4 : decode cX5_isBelow 4 = .ok (.iload_n 0, 1) := by decide +kernel
theorem dX5_isBelow_5 : decode cX5_isBelow 5 = .ok (.iload_n 1, 1) := by decide +kernel
theorem dX5_isBelow_6 : decode cX5_isBelow 6 = .ok (.if_icmp .ge 7, 3) := by decide +kernel
theorem dX5_isBelow_9 : decode cX5_isBelow 9 = .ok (.iconst 1, 1) := by decide +kernel
theorem dX5_isBelow_10 : decode cX5_isBelow 10 = .ok (.goto 4, 3) := by decide +kernel
theorem dX5_isBelow_13 : decode cX5_isBelow 13 = .ok (.iconst 0, 1) := by decide +kernel
theorem dX5_isBelow_14 : decode cX5_isBelow 14 = .ok (.ireturn, 1) := by decide +kernel
theorem dX5_isIn_0 : decode cX5_isIn 0 = .ok (.iload_n 1, 1) := by decide +kernel
theorem dX5_isIn_1 : decode cX5_isIn 1 = .ok (.ifCond .lt 21, 3) := by decide +kernel
theorem dX5_isIn_4 : decode cX5_isIn 4 = .ok (.iload_n 1, 1) := by decide +kernel
theorem dX5_isIn_5 : decode cX5_isIn 5 = .ok (.bipush 32, 2) := by decide +kernel
theorem dX5_isIn_7 : decode cX5_isIn 7 = .ok (.if_icmp .ge 15, 3) := by decide +kernel
theorem dX5_isIn_10 : decode cX5_isIn 10 = .ok (.iload_n 0, 1) := by decide +kernel
theorem dX5_isIn_11 : decode cX5_isIn 11 = .ok (.iconst 1, 1) := by decide +kernel
theorem dX5_isIn_12 : decode cX5_isIn 12 = .ok (.iload_n 1, 1) := by decide +kernel
theorem dX5_isIn_13 : decode cX5_isIn 13 = .ok (.ishl, 1) := by decide +kernel
theorem dX5_isIn_14 : decode cX5_isIn 14 = .ok (.iand, 1) := by decide +kernel
theorem dX5_isIn_15 : decode cX5_isIn 15 = .ok (.ifCond .eq 7, 3) := by decide +kernel
theorem dX5_isIn_18 : decode cX5_isIn 18 = .ok (.iconst 1, 1) := by decide +kernel
theorem dX5_isIn_19 : decode cX5_isIn 19 = .ok (.goto 4, 3) := by decide +kernel
theorem dX5_isIn_22 : decode cX5_isIn 22 = .ok (.iconst 0, 1) := by decide +kernel
theorem dX5_isIn_23 : decode cX5_isIn 23 = .ok (.ireturn, 1) := by decide +kernel
theorem dX5_at_0 : decode cX5_at 0 = .ok (.iload_n 1, 1) := by decide +kernel
theorem dX5_at_1 : decode cX5_at 1 = .ok (.ifCond .lt 15, 3) := by decide +kernel
theorem dX5_at_4 : decode cX5_at 4 = .ok (.iload_n 1, 1) := by decide +kernel
theorem dX5_at_5 : decode cX5_at 5 = .ok (.aload_n 0, 1) := by decide +kernel
theorem dX5_at_6 : decode cX5_at 6 = .ok (.arraylength, 1) := by decide +kernel
theorem dX5_at_7 : decode cX5_at 7 = .ok (.if_icmp .ge 9, 3) := by decide +kernel
theorem dX5_at_10 : decode cX5_at 10 = .ok (.aload_n 0, 1) := by decide +kernel
theorem dX5_at_11 : decode cX5_at 11 = .ok (.iload_n 1, 1) := by decide +kernel
theorem dX5_at_12 : decode cX5_at 12 = .ok (.iaload, 1) := by decide +kernel
theorem dX5_at_13 : decode cX5_at 13 = .ok (.goto 4, 3) := by decide +kernel
theorem dX5_at_16 : decode cX5_at 16 = .ok (.iconst 0, 1) := by decide +kernel
theorem dX5_at_17 : decode cX5_at 17 = .ok (.ireturn, 1) := by decide +kernel
theorem dX5_put_0 : decode cX5_put 0 = .ok (.iload_n 1, 1) := by decide +kernel
theorem dX5_put_1 : decode cX5_put 1 = .ok (.ifCond .lt 13, 3) := by decide +kernel
theorem dX5_put_4 : decode cX5_put 4 = .ok (.iload_n 1, 1) := by decide +kernel
theorem dX5_put_5 : decode cX5_put 5 = .ok (.aload_n 0, 1) := by decide +kernel
theorem dX5_put_6 : decode cX5_put 6 = .ok (.arraylength, 1) := by decide +kernel
theorem dX5_put_7 : decode cX5_put 7 = .ok (.if_icmp .ge 7, 3) := by decide +kernel
theorem dX5_put_10 : decode cX5_put 10 = .ok (.aload_n 0, 1) := by decide +kernel
theorem dX5_put_11 : decode cX5_put 11 = .ok (.iload_n 1, 1) := by decide +kernel
theorem dX5_put_12 : decode cX5_put 12 = .ok (.iload_n 2, 1) := by decide +kernel
theorem dX5_put_13 : decode cX5_put 13 = .ok (.iastore, 1) := by decide +kernel
theorem dX5_put_14 : decode cX5_put 14 = .ok (.return_, 1) := by decide +kernel
theorem dX5_near_0 : decode cX5_near 0 = .ok (.bipush 7, 2) := by decide +kernel
theorem dX5_near_2 : decode cX5_near 2 = .ok (.iload_n 0, 1) := by decide +kernel
theorem dX5_near_3 : decode cX5_near 3 = .ok (.ishl, 1) := by decide +kernel
theorem dX5_near_4 : decode cX5_near 4 = .ok (.iconst 1, 1) := by decide +kernel
theorem dX5_near_5 : decode cX5_near 5 = .ok (.ishr, 1) := by decide +kernel
theorem dX5_near_6 : decode cX5_near 6 = .ok (.sipush 1023, 3) := by decide +kernel
theorem dX5_near_9 : decode cX5_near 9 = .ok (.iand, 1) := by decide +kernel
theorem dX5_near_10 : decode cX5_near 10 = .ok (.ireturn, 1) := by decide +kernel
theorem dX5_termOfTenths_0 : decode cX5_termOfTenths 0 = .ok (.iload_n 0, 1) := by decide +kernel
theorem dX5_termOfTenths_1 : decode cX5_termOfTenths 1 = .ok (.istore_n 2, 1) := by decide +kernel
theorem dX5_termOfTenths_2 : decode cX5_termOfTenths 2 = .ok (.bipush 10, 2) := by decide +kernel
theorem dX5_termOfTenths_4 : decode cX5_termOfTenths 4 = .ok (.istore_n 3, 1) := by decide +kernel
theorem dX5_termOfTenths_5 : decode cX5_termOfTenths 5 = .ok (.bipush 10, 2) := by decide +kernel
theorem dX5_termOfTenths_7 : decode cX5_termOfTenths 7 = .ok (.istore 4, 2) := by decide +kernel
theorem dX5_termOfTenths_9 : decode cX5_termOfTenths 9 = .ok (.iload 4, 2) := by decide +kernel
theorem dX5_termOfTenths_11 : decode cX5_termOfTenths 11 = .ok (.iconst 1, 1) := by decide +kernel
theorem dX5_termOfTenths_12 : decode cX5_termOfTenths 12 = .ok (.if_icmp .le 33, 3) := by decide +kernel
theorem dX5_termOfTenths_15 : decode cX5_termOfTenths 15 = .ok (.iload_n 2, 1) := by decide +kernel
theorem dX5_termOfTenths_16 : decode cX5_termOfTenths 16 = .ok (.iload 4, 2) := by decide +kernel
theorem dX5_termOfTenths_18 : decode cX5_termOfTenths 18 = .ok (.irem, 1) := by decide +kernel
theorem dX5_termOfTenths_19 : decode cX5_termOfTenths 19 = .ok (.ifCond .ne 20, 3) := by decide +kernel
theorem dX5_termOfTenths_22 : decode cX5_termOfTenths 22 = .ok (.iload_n 3, 1) := by decide +kernel
theorem dX5_termOfTenths_23 : decode cX5_termOfTenths 23 = .ok (.iload 4, 2) := by decide +kernel
theorem dX5_termOfTenths_25 : decode cX5_termOfTenths 25 = .ok (.irem, 1) := by decide +kernel
theorem dX5_termOfTenths_26 : decode cX5_termOfTenths 26 = .ok (.ifCond .ne 13, 3) := by decide +kernel
theorem dX5_termOfTenths_29 : decode cX5_termOfTenths 29 = .ok (.iload_n 2, 1) := by decide +kernel
theorem dX5_termOfTenths_30 : decode cX5_termOfTenths 30 = .ok (.iload 4, 2) := by decide +kernel
theorem dX5_termOfTenths_32 : decode cX5_termOfTenths 32 = .ok (.idiv, 1) := by decide +kernel
theorem dX5_termOfTenths_33 : decode cX5_termOfTenths 33 = .ok (.istore_n 2, 1) := by decide +kernel
theorem dX5_termOfTenths_34 : decode cX5_termOfTenths 34 = .ok (.iload_n 3, 1) := by decide +kernel
theorem dX5_termOfTenths_35 : decode cX5_termOfTenths 35 = .ok (.iload 4, 2) := by decide +kernel
theorem dX5_termOfTenths_37 : decode cX5_termOfTenths 37 = .ok (.idiv, 1) := by decide +kernel
theorem dX5_termOfTenths_38 : decode cX5_termOfTenths 38 = .ok (.istore_n 3, 1) := by decide +kernel
theorem dX5_termOfTenths_39 : decode cX5_termOfTenths 39 = .ok (.iinc 4 (-1), 3) := by decide +kernel
theorem dX5_termOfTenths_42 : decode cX5_termOfTenths 42 = .ok (.goto (-33), 3) := by decide +kernel
theorem dX5_termOfTenths_45 : decode cX5_termOfTenths 45 = .ok (.iload_n 1, 1) := by decide +kernel
theorem dX5_termOfTenths_46 : decode cX5_termOfTenths 46 = .ok (.ifCond .ne 7, 3) := by decide +kernel
theorem dX5_termOfTenths_49 : decode cX5_termOfTenths 49 = .ok (.iload_n 2, 1) := by decide +kernel
theorem dX5_termOfTenths_50 : decode cX5_termOfTenths 50 = .ok (.goto 4, 3) := by decide +kernel
theorem dX5_termOfTenths_53 : decode cX5_termOfTenths 53 = .ok (.iload_n 3, 1) := by decide +kernel
theorem dX5_termOfTenths_54 : decode cX5_termOfTenths 54 = .ok (.ireturn, 1) := by decide +kernel
theorem dX5_power_0 : decode cX5_power 0 = .ok (.lconst 1, 1) := by decide +kernel
theorem dX5_power_1 : decode cX5_power 1 = .ok (.lstore_n 3, 1) := by decide +kernel
theorem dX5_power_2 : decode cX5_power 2 = .ok (.iconst 0, 1) := by decide +kernel
theorem dX5_power_3 : decode cX5_power 3 = .ok (.istore 5, 2) := by decide +kernel
theorem dX5_power_5 : decode cX5_power 5 = .ok (.iload 5, 2) := by decide +kernel
theorem dX5_power_7 : decode cX5_power 7 = .ok (.iload_n 2, 1) := by decide +kernel
theorem dX5_power_8 : decode cX5_power 8 = .ok (.if_icmp .ge 13, 3) := by decide +kernel
theorem dX5_power_11 : decode cX5_power 11 = .ok (.lload_n 3, 1) := by decide +kernel
theorem dX5_power_12 : decode cX5_power 12 = .ok (.lload_n 0, 1) := by decide +kernel
theorem dX5_power_13 : decode cX5_power 13 = .ok (.lmul, 1) := by decide +kernel
theorem dX5_power_14 : decode cX5_power 14 = .ok (.lstore_n 3, 1) := by decide +kernel
theorem dX5_power_15 : decode cX5_power 15 = .ok (.iinc 5 1, 3) := by decide +kernel
theorem dX5_power_18 : decode cX5_power 18 = .ok (.goto (-13), 3) := by decide +kernel
theorem dX5_power_21 : decode cX5_power 21 = .ok (.lload_n 3, 1) := by decide +kernel
theorem dX5_power_22 : decode cX5_power 22 = .ok (.lreturn, 1) := by decide +kernel
