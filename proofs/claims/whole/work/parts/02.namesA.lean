theorem dX0_init_0 : decode cX0_init 0 = .ok (.aload_n 0, 1) := by decide +kernel
theorem dX0_init_1 : decode cX0_init 1 = .ok (.invokespecial 3, 3) := by decide +kernel
theorem dX0_init_4 : decode cX0_init 4 = .ok (.aload_n 0, 1) := by decide +kernel
theorem dX0_init_5 : decode cX0_init 5 = .ok (.bipush 96, 2) := by decide +kernel
theorem dX0_init_7 : decode cX0_init 7 = .ok (.newarray .int, 2) := by decide +kernel
theorem dX0_init_9 : decode cX0_init 9 = .ok (.putfield 9, 3) := by decide +kernel
theorem dX0_init_12 : decode cX0_init 12 = .ok (.return_, 1) := by decide +kernel
set_option maxRecDepth 20000 in
theorem ggX0_count_X5_at : GoodIn wsX0_count wsX5_at := goodIn_r _ [7] (by decide +kernel) (by decide +kernel)
set_option maxRecDepth 20000 in
theorem gX0_count_X5_at_n30 : GoodIn wsX0_count (wsX5_at) := ggX0_count_X5_at
set_option maxRecDepth 20000 in
theorem ggX0_count_X5_near : GoodIn wsX0_count wsX5_near := goodIn_r _ [9] (by decide +kernel) (by decide +kernel)
set_option maxRecDepth 20000 in
theorem gX0_count_X5_near_n34 : GoodIn wsX0_count (wsX5_near) := ggX0_count_X5_near
set_option maxRecDepth 20000 in
theorem ggX0_count_X0_fewestFrom : GoodIn wsX0_count wsX0_fewestFrom := goodIn_r _ [14, 15, 16, 17, 18, 19, 20, 21, 13, 22, 4, 5, 6, 7, 42] (by decide +kernel) (by decide +kernel)
set_option maxRecDepth 20000 in
theorem gX0_count_X0_fewestFrom : GoodIn wsX0_count (wsV RX0 38 RX0 yX0_fewestFrom wsX0_fewestFrom) := goodIn_app (goodIn_of _ (by decide +kernel)) ggX0_count_X0_fewestFrom
set_option maxRecDepth 20000 in
theorem ggX0_count_X3_tightnessOf : GoodIn wsX0_count wsX3_tightnessOf := goodIn_r _ [27, 28, 5, 6, 7, 33, 34, 35, 36] (by decide +kernel) (by decide +kernel)
set_option maxRecDepth 20000 in
theorem gX0_count_X3_tightnessOf : GoodIn wsX0_count (wsV RX0 42 RX3 yX3_tightnessOf wsX3_tightnessOf) := goodIn_app (goodIn_of _ (by decide +kernel)) ggX0_count_X3_tightnessOf
set_option maxRecDepth 20000 in
theorem ggX0_count_X5_isIn : GoodIn wsX0_count wsX5_isIn := goodIn_r _ [30] (by decide +kernel) (by decide +kernel)
set_option maxRecDepth 20000 in
theorem gX0_count_X5_isIn_n45 : GoodIn wsX0_count (wsX5_isIn) := ggX0_count_X5_isIn
set_option maxRecDepth 20000 in
theorem ggX0_count_X5_put : GoodIn wsX0_count wsX5_put := goodIn_r _ [32] (by decide +kernel) (by decide +kernel)
set_option maxRecDepth 20000 in
theorem gX0_count_X5_put_n49 : GoodIn wsX0_count (wsX5_put) := ggX0_count_X5_put
theorem dX0_count_0 : decode cX0_count 0 = .ok (.aload_n 1, 1) := by decide +kernel
theorem dX0_count_1 : decode cX0_count 1 = .ok (.getfield 15, 3) := by decide +kernel
theorem dX0_count_4 : decode cX0_count 4 = .ok (.getfield 21, 3) := by decide +kernel
theorem dX0_count_7 : decode cX0_count 7 = .ok (.iconst 1, 1) := by decide +kernel
theorem dX0_count_8 : decode cX0_count 8 = .ok (.isub, 1) := by decide +kernel
theorem dX0_count_9 : decode cX0_count 9 = .ok (.istore_n 2, 1) := by decide +kernel
theorem dX0_count_10 : decode cX0_count 10 = .ok (.iload_n 2, 1) := by decide +kernel
theorem dX0_count_11 : decode cX0_count 11 = .ok (.istore_n 3, 1) := by decide +kernel
theorem dX0_count_12 : decode cX0_count 12 = .ok (.iload_n 3, 1) := by decide +kernel
theorem dX0_count_13 : decode cX0_count 13 = .ok (.ifCond .lt 99, 3) := by decide +kernel
theorem dX0_count_16 : decode cX0_count 16 = .ok (.aload_n 1, 1) := by decide +kernel
theorem dX0_count_17 : decode cX0_count 17 = .ok (.getfield 15, 3) := by decide +kernel
theorem dX0_count_20 : decode cX0_count 20 = .ok (.getfield 27, 3) := by decide +kernel
theorem dX0_count_23 : decode cX0_count 23 = .ok (.iload_n 3, 1) := by decide +kernel
theorem dX0_count_24 : decode cX0_count 24 = .ok (.invokestatic 30, 3) := by decide +kernel
theorem dX0_count_27 : decode cX0_count 27 = .ok (.invokestatic 34, 3) := by decide +kernel
theorem dX0_count_30 : decode cX0_count 30 = .ok (.istore 4, 2) := by decide +kernel
theorem dX0_count_32 : decode cX0_count 32 = .ok (.iconst 0, 1) := by decide +kernel
theorem dX0_count_33 : decode cX0_count 33 = .ok (.istore 5, 2) := by decide +kernel
theorem dX0_count_35 : decode cX0_count 35 = .ok (.iload 5, 2) := by decide +kernel
theorem dX0_count_37 : decode cX0_count 37 = .ok (.iconst 4, 1) := by decide +kernel
theorem dX0_count_38 : decode cX0_count 38 = .ok (.if_icmp .ge 68, 3) := by decide +kernel
theorem dX0_count_41 : decode cX0_count 41 = .ok (.iload_n 3, 1) := by decide +kernel
theorem dX0_count_42 : decode cX0_count 42 = .ok (.iload_n 2, 1) := by decide +kernel
theorem dX0_count_43 : decode cX0_count 43 = .ok (.if_icmp .ne 7, 3) := by decide +kernel
theorem dX0_count_46 : decode cX0_count 46 = .ok (.iconst 0, 1) := by decide +kernel
theorem dX0_count_47 : decode cX0_count 47 = .ok (.goto 12, 3) := by decide +kernel
theorem dX0_count_50 : decode cX0_count 50 = .ok (.aload_n 0, 1) := by decide +kernel
theorem dX0_count_51 : decode cX0_count 51 = .ok (.iload_n 3, 1) := by decide +kernel
theorem dX0_count_52 : decode cX0_count 52 = .ok (.iconst 1, 1) := by decide +kernel
theorem dX0_count_53 : decode cX0_count 53 = .ok (.iadd, 1) := by decide +kernel
theorem dX0_count_54 : decode cX0_count 54 = .ok (.iload 5, 2) := by decide +kernel
theorem dX0_count_56 : decode cX0_count 56 = .ok (.invokevirtual 38, 3) := by decide +kernel
theorem dX0_count_59 : decode cX0_count 59 = .ok (.istore 6, 2) := by decide +kernel
theorem dX0_count_61 : decode cX0_count 61 = .ok (.iload 4, 2) := by decide +kernel
theorem dX0_count_63 : decode cX0_count 63 = .ok (.aload_n 1, 1) := by decide +kernel
theorem dX0_count_64 : decode cX0_count 64 = .ok (.iload 5, 2) := by decide +kernel
theorem dX0_count_66 : decode cX0_count 66 = .ok (.invokevirtual 42, 3) := by decide +kernel
theorem dX0_count_69 : decode cX0_count 69 = .ok (.invokestatic 45, 3) := by decide +kernel
theorem dX0_count_72 : decode cX0_count 72 = .ok (.istore 7, 2) := by decide +kernel
theorem dX0_count_74 : decode cX0_count 74 = .ok (.aload_n 0, 1) := by decide +kernel
theorem dX0_count_75 : decode cX0_count 75 = .ok (.getfield 9, 3) := by decide +kernel
theorem dX0_count_78 : decode cX0_count 78 = .ok (.iload_n 3, 1) := by decide +kernel
theorem dX0_count_79 : decode cX0_count 79 = .ok (.iconst 4, 1) := by decide +kernel
theorem dX0_count_80 : decode cX0_count 80 = .ok (.imul, 1) := by decide +kernel
theorem dX0_count_81 : decode cX0_count 81 = .ok (.iload 5, 2) := by decide +kernel
theorem dX0_count_83 : decode cX0_count 83 = .ok (.iadd, 1) := by decide +kernel
theorem dX0_count_84 : decode cX0_count 84 = .ok (.iload 7, 2) := by decide +kernel
theorem dX0_count_86 : decode cX0_count 86 = .ok (.ifCond .eq 8, 3) := by decide +kernel
theorem dX0_count_89 : decode cX0_count 89 = .ok (.iload 6, 2) := by decide +kernel
theorem dX0_count_91 : decode cX0_count 91 = .ok (.goto 6, 3) := by decide +kernel
theorem dX0_count_94 : decode cX0_count 94 = .ok (.sipush 1000, 3) := by decide +kernel
theorem dX0_count_97 : decode cX0_count 97 = .ok (.invokestatic 49, 3) := by decide +kernel
theorem dX0_count_100 : decode cX0_count 100 = .ok (.iinc 5 1, 3) := by decide +kernel
theorem dX0_count_103 : decode cX0_count 103 = .ok (.goto (-68), 3) := by decide +kernel
theorem dX0_count_106 : decode cX0_count 106 = .ok (.iinc 3 (-1), 3) := by decide +kernel
theorem dX0_count_109 : decode cX0_count 109 = .ok (.goto (-97), 3) := by decide +kernel
theorem dX0_count_112 : decode cX0_count 112 = .ok (.return_, 1) := by decide +kernel
set_option maxRecDepth 20000 in
theorem ggX0_fewestFrom_X0_changesBy : GoodIn wsX0_fewestFrom wsX0_changesBy := goodIn_r _ [9, 10, 11, 12, 13, 14] (by decide +kernel) (by decide +kernel)
set_option maxRecDepth 20000 in
theorem gX0_fewestFrom_X0_changesBy : GoodIn wsX0_fewestFrom (wsV RX0 53 RX0 yX0_changesBy wsX0_changesBy) := goodIn_app (goodIn_of _ (by decide +kernel)) ggX0_fewestFrom_X0_changesBy
theorem dX0_fewestFrom_0 : decode cX0_fewestFrom 0 = .ok (.sipush 1000, 3) := by decide +kernel
theorem dX0_fewestFrom_3 : decode cX0_fewestFrom 3 = .ok (.istore_n 3, 1) := by decide +kernel
theorem dX0_fewestFrom_4 : decode cX0_fewestFrom 4 = .ok (.iconst 0, 1) := by decide +kernel
theorem dX0_fewestFrom_5 : decode cX0_fewestFrom 5 = .ok (.istore 4, 2) := by decide +kernel
theorem dX0_fewestFrom_7 : decode cX0_fewestFrom 7 = .ok (.iload 4, 2) := by decide +kernel
theorem dX0_fewestFrom_9 : decode cX0_fewestFrom 9 = .ok (.iconst 4, 1) := by decide +kernel
theorem dX0_fewestFrom_10 : decode cX0_fewestFrom 10 = .ok (.if_icmp .ge 22, 3) := by decide +kernel
theorem dX0_fewestFrom_13 : decode cX0_fewestFrom 13 = .ok (.iload_n 3, 1) := by decide +kernel
theorem dX0_fewestFrom_14 : decode cX0_fewestFrom 14 = .ok (.aload_n 0, 1) := by decide +kernel
theorem dX0_fewestFrom_15 : decode cX0_fewestFrom 15 = .ok (.iload_n 1, 1) := by decide +kernel
theorem dX0_fewestFrom_16 : decode cX0_fewestFrom 16 = .ok (.iload 4, 2) := by decide +kernel
theorem dX0_fewestFrom_18 : decode cX0_fewestFrom 18 = .ok (.iload_n 2, 1) := by decide +kernel
theorem dX0_fewestFrom_19 : decode cX0_fewestFrom 19 = .ok (.invokevirtual 53, 3) := by decide +kernel
theorem dX0_fewestFrom_22 : decode cX0_fewestFrom 22 = .ok (.invokestatic 57, 3) := by decide +kernel
theorem dX0_fewestFrom_25 : decode cX0_fewestFrom 25 = .ok (.istore_n 3, 1) := by decide +kernel
theorem dX0_fewestFrom_26 : decode cX0_fewestFrom 26 = .ok (.iinc 4 1, 3) := by decide +kernel
theorem dX0_fewestFrom_29 : decode cX0_fewestFrom 29 = .ok (.goto (-22), 3) := by decide +kernel
theorem dX0_fewestFrom_32 : decode cX0_fewestFrom 32 = .ok (.iload_n 3, 1) := by decide +kernel
theorem dX0_fewestFrom_33 : decode cX0_fewestFrom 33 = .ok (.ireturn, 1) := by decide +kernel
set_option maxRecDepth 20000 in
theorem ggX0_changesBy_X5_at : GoodIn wsX0_changesBy wsX5_at := goodIn_r _ [4] (by decide +kernel) (by decide +kernel)
set_option maxRecDepth 20000 in
theorem gX0_changesBy_X5_at_n30 : GoodIn wsX0_changesBy (wsX5_at) := ggX0_changesBy_X5_at
theorem dX0_changesBy_0 : decode cX0_changesBy 0 = .ok (.aload_n 0, 1) := by decide +kernel
theorem dX0_changesBy_1 : decode cX0_changesBy 1 = .ok (.getfield 9, 3) := by decide +kernel
theorem dX0_changesBy_4 : decode cX0_changesBy 4 = .ok (.iload_n 1, 1) := by decide +kernel
theorem dX0_changesBy_5 : decode cX0_changesBy 5 = .ok (.iconst 4, 1) := by decide +kernel
theorem dX0_changesBy_6 : decode cX0_changesBy 6 = .ok (.imul, 1) := by decide +kernel
theorem dX0_changesBy_7 : decode cX0_changesBy 7 = .ok (.iload_n 2, 1) := by decide +kernel
theorem dX0_changesBy_8 : decode cX0_changesBy 8 = .ok (.iadd, 1) := by decide +kernel
theorem dX0_changesBy_9 : decode cX0_changesBy 9 = .ok (.invokestatic 30, 3) := by decide +kernel
theorem dX0_changesBy_12 : decode cX0_changesBy 12 = .ok (.iload_n 2, 1) := by decide +kernel
theorem dX0_changesBy_13 : decode cX0_changesBy 13 = .ok (.iload_n 3, 1) := by decide +kernel
theorem dX0_changesBy_14 : decode cX0_changesBy 14 = .ok (.if_icmp .ne 7, 3) := by decide +kernel
theorem dX0_changesBy_17 : decode cX0_changesBy 17 = .ok (.iconst 0, 1) := by decide +kernel
theorem dX0_changesBy_18 : decode cX0_changesBy 18 = .ok (.goto 4, 3) := by decide +kernel
theorem dX0_changesBy_21 : decode cX0_changesBy 21 = .ok (.iconst 1, 1) := by decide +kernel
theorem dX0_changesBy_22 : decode cX0_changesBy 22 = .ok (.iadd, 1) := by decide +kernel
theorem dX0_changesBy_23 : decode cX0_changesBy 23 = .ok (.ireturn, 1) := by decide +kernel
set_option maxRecDepth 20000 in
theorem ggX0_fewest_X5_at : GoodIn wsX0_fewest wsX5_at := goodIn_r _ [8] (by decide +kernel) (by decide +kernel)
set_option maxRecDepth 20000 in
theorem gX0_fewest_X5_at_n30 : GoodIn wsX0_fewest (wsX5_at) := ggX0_fewest_X5_at
theorem dX0_fewest_0 : decode cX0_fewest 0 = .ok (.iload_n 1, 1) := by decide +kernel
theorem dX0_fewest_1 : decode cX0_fewest 1 = .ok (.ifCond .ne 5, 3) := by decide +kernel
theorem dX0_fewest_4 : decode cX0_fewest 4 = .ok (.iconst 0, 1) := by decide +kernel
theorem dX0_fewest_5 : decode cX0_fewest 5 = .ok (.ireturn, 1) := by decide +kernel
theorem dX0_fewest_6 : decode cX0_fewest 6 = .ok (.sipush 1000, 3) := by decide +kernel
theorem dX0_fewest_9 : decode cX0_fewest 9 = .ok (.istore_n 2, 1) := by decide +kernel
theorem dX0_fewest_10 : decode cX0_fewest 10 = .ok (.iconst 0, 1) := by decide +kernel
theorem dX0_fewest_11 : decode cX0_fewest 11 = .ok (.istore_n 3, 1) := by decide +kernel
theorem dX0_fewest_12 : decode cX0_fewest 12 = .ok (.iload_n 3, 1) := by decide +kernel
theorem dX0_fewest_13 : decode cX0_fewest 13 = .ok (.iconst 4, 1) := by decide +kernel
theorem dX0_fewest_14 : decode cX0_fewest 14 = .ok (.if_icmp .ge 22, 3) := by decide +kernel
theorem dX0_fewest_17 : decode cX0_fewest 17 = .ok (.iload_n 2, 1) := by decide +kernel
theorem dX0_fewest_18 : decode cX0_fewest 18 = .ok (.aload_n 0, 1) := by decide +kernel
theorem dX0_fewest_19 : decode cX0_fewest 19 = .ok (.getfield 9, 3) := by decide +kernel
theorem dX0_fewest_22 : decode cX0_fewest 22 = .ok (.iload_n 3, 1) := by decide +kernel
theorem dX0_fewest_23 : decode cX0_fewest 23 = .ok (.invokestatic 30, 3) := by decide +kernel
theorem dX0_fewest_26 : decode cX0_fewest 26 = .ok (.invokestatic 57, 3) := by decide +kernel
theorem dX0_fewest_29 : decode cX0_fewest 29 = .ok (.istore_n 2, 1) := by decide +kernel
theorem dX0_fewest_30 : decode cX0_fewest 30 = .ok (.iinc 3 1, 3) := by decide +kernel
theorem dX0_fewest_33 : decode cX0_fewest 33 = .ok (.goto (-21), 3) := by decide +kernel
theorem dX0_fewest_36 : decode cX0_fewest 36 = .ok (.iload_n 2, 1) := by decide +kernel
theorem dX0_fewest_37 : decode cX0_fewest 37 = .ok (.sipush 1000, 3) := by decide +kernel
theorem dX0_fewest_40 : decode cX0_fewest 40 = .ok (.if_icmp .ge 7, 3) := by decide +kernel
theorem dX0_fewest_43 : decode cX0_fewest 43 = .ok (.iload_n 2, 1) := by decide +kernel
theorem dX0_fewest_44 : decode cX0_fewest 44 = .ok (.goto 5, 3) := by decide +kernel
theorem dX0_fewest_47 : decode cX0_fewest 47 = .ok (.bipush (-6), 2) := by decide +kernel
theorem dX0_fewest_49 : decode cX0_fewest 49 = .ok (.ireturn, 1) := by decide +kernel
set_option maxRecDepth 20000 in
theorem ggX0_knitterOf_X5_at : GoodIn wsX0_knitterOf wsX5_at := goodIn_r _ [4] (by decide +kernel) (by decide +kernel)
set_option maxRecDepth 20000 in
theorem gX0_knitterOf_X5_at_n30 : GoodIn wsX0_knitterOf (wsX5_at) := ggX0_knitterOf_X5_at
set_option maxRecDepth 20000 in
theorem ggX0_knitterOf_X0_leastAfter : GoodIn wsX0_knitterOf wsX0_leastAfter := goodIn_r _ [9, 10, 11, 12, 8, 13, 1, 2, 3, 4, 14] (by decide +kernel) (by decide +kernel)
set_option maxRecDepth 20000 in
theorem gX0_knitterOf_X0_leastAfter : GoodIn wsX0_knitterOf (wsV RX0 62 RX0 yX0_leastAfter wsX0_leastAfter) := goodIn_app (goodIn_of _ (by decide +kernel)) ggX0_knitterOf_X0_leastAfter
theorem dX0_knitterOf_0 : decode cX0_knitterOf 0 = .ok (.iconst 0, 1) := by decide +kernel
theorem dX0_knitterOf_1 : decode cX0_knitterOf 1 = .ok (.istore_n 2, 1) := by decide +kernel
theorem dX0_knitterOf_2 : decode cX0_knitterOf 2 = .ok (.iconst 1, 1) := by decide +kernel
theorem dX0_knitterOf_3 : decode cX0_knitterOf 3 = .ok (.istore_n 3, 1) := by decide +kernel
theorem dX0_knitterOf_4 : decode cX0_knitterOf 4 = .ok (.iload_n 3, 1) := by decide +kernel
theorem dX0_knitterOf_5 : decode cX0_knitterOf 5 = .ok (.iconst 4, 1) := by decide +kernel
theorem dX0_knitterOf_6 : decode cX0_knitterOf 6 = .ok (.if_icmp .ge 30, 3) := by decide +kernel
theorem dX0_knitterOf_9 : decode cX0_knitterOf 9 = .ok (.aload_n 0, 1) := by decide +kernel
theorem dX0_knitterOf_10 : decode cX0_knitterOf 10 = .ok (.getfield 9, 3) := by decide +kernel
theorem dX0_knitterOf_13 : decode cX0_knitterOf 13 = .ok (.iload_n 3, 1) := by decide +kernel
theorem dX0_knitterOf_14 : decode cX0_knitterOf 14 = .ok (.invokestatic 30, 3) := by decide +kernel
theorem dX0_knitterOf_17 : decode cX0_knitterOf 17 = .ok (.aload_n 0, 1) := by decide +kernel
theorem dX0_knitterOf_18 : decode cX0_knitterOf 18 = .ok (.getfield 9, 3) := by decide +kernel
theorem dX0_knitterOf_21 : decode cX0_knitterOf 21 = .ok (.iload_n 2, 1) := by decide +kernel
theorem dX0_knitterOf_22 : decode cX0_knitterOf 22 = .ok (.invokestatic 30, 3) := by decide +kernel
theorem dX0_knitterOf_25 : decode cX0_knitterOf 25 = .ok (.if_icmp .ge 5, 3) := by decide +kernel
theorem dX0_knitterOf_28 : decode cX0_knitterOf 28 = .ok (.iload_n 3, 1) := by decide +kernel
theorem dX0_knitterOf_29 : decode cX0_knitterOf 29 = .ok (.istore_n 2, 1) := by decide +kernel
theorem dX0_knitterOf_30 : decode cX0_knitterOf 30 = .ok (.iinc 3 1, 3) := by decide +kernel
theorem dX0_knitterOf_33 : decode cX0_knitterOf 33 = .ok (.goto (-29), 3) := by decide +kernel
theorem dX0_knitterOf_36 : decode cX0_knitterOf 36 = .ok (.iconst 1, 1) := by decide +kernel
theorem dX0_knitterOf_37 : decode cX0_knitterOf 37 = .ok (.istore_n 3, 1) := by decide +kernel
theorem dX0_knitterOf_38 : decode cX0_knitterOf 38 = .ok (.iload_n 3, 1) := by decide +kernel
theorem dX0_knitterOf_39 : decode cX0_knitterOf 39 = .ok (.iload_n 1, 1) := by decide +kernel
theorem dX0_knitterOf_40 : decode cX0_knitterOf 40 = .ok (.if_icmp .gt 16, 3) := by decide +kernel
theorem dX0_knitterOf_43 : decode cX0_knitterOf 43 = .ok (.aload_n 0, 1) := by decide +kernel
theorem dX0_knitterOf_44 : decode cX0_knitterOf 44 = .ok (.iload_n 3, 1) := by decide +kernel
theorem dX0_knitterOf_45 : decode cX0_knitterOf 45 = .ok (.iload_n 2, 1) := by decide +kernel
theorem dX0_knitterOf_46 : decode cX0_knitterOf 46 = .ok (.invokevirtual 62, 3) := by decide +kernel
theorem dX0_knitterOf_49 : decode cX0_knitterOf 49 = .ok (.istore_n 2, 1) := by decide +kernel
theorem dX0_knitterOf_50 : decode cX0_knitterOf 50 = .ok (.iinc 3 1, 3) := by decide +kernel
theorem dX0_knitterOf_53 : decode cX0_knitterOf 53 = .ok (.goto (-15), 3) := by decide +kernel
theorem dX0_knitterOf_56 : decode cX0_knitterOf 56 = .ok (.iload_n 2, 1) := by decide +kernel
theorem dX0_knitterOf_57 : decode cX0_knitterOf 57 = .ok (.ireturn, 1) := by decide +kernel
set_option maxRecDepth 20000 in
theorem ggX0_leastAfter_X0_changesBy : GoodIn wsX0_leastAfter wsX0_changesBy := goodIn_r _ [5, 6, 7, 8, 9, 10] (by decide +kernel) (by decide +kernel)
set_option maxRecDepth 20000 in
theorem gX0_leastAfter_X0_changesBy : GoodIn wsX0_leastAfter (wsV RX0 53 RX0 yX0_changesBy wsX0_changesBy) := goodIn_app (goodIn_of _ (by decide +kernel)) ggX0_leastAfter_X0_changesBy
theorem dX0_leastAfter_0 : decode cX0_leastAfter 0 = .ok (.iconst 0, 1) := by decide +kernel
theorem dX0_leastAfter_1 : decode cX0_leastAfter 1 = .ok (.istore_n 3, 1) := by decide +kernel
theorem dX0_leastAfter_2 : decode cX0_leastAfter 2 = .ok (.iconst 1, 1) := by decide +kernel
theorem dX0_leastAfter_3 : decode cX0_leastAfter 3 = .ok (.istore 4, 2) := by decide +kernel
theorem dX0_leastAfter_5 : decode cX0_leastAfter 5 = .ok (.iload 4, 2) := by decide +kernel
theorem dX0_leastAfter_7 : decode cX0_leastAfter 7 = .ok (.iconst 4, 1) := by decide +kernel
theorem dX0_leastAfter_8 : decode cX0_leastAfter 8 = .ok (.if_icmp .ge 30, 3) := by decide +kernel
theorem dX0_leastAfter_11 : decode cX0_leastAfter 11 = .ok (.aload_n 0, 1) := by decide +kernel
theorem dX0_leastAfter_12 : decode cX0_leastAfter 12 = .ok (.iload_n 1, 1) := by decide +kernel
theorem dX0_leastAfter_13 : decode cX0_leastAfter 13 = .ok (.iload 4, 2) := by decide +kernel
theorem dX0_leastAfter_15 : decode cX0_leastAfter 15 = .ok (.iload_n 2, 1) := by decide +kernel
theorem dX0_leastAfter_16 : decode cX0_leastAfter 16 = .ok (.invokevirtual 53, 3) := by decide +kernel
theorem dX0_leastAfter_19 : decode cX0_leastAfter 19 = .ok (.aload_n 0, 1) := by decide +kernel
theorem dX0_leastAfter_20 : decode cX0_leastAfter 20 = .ok (.iload_n 1, 1) := by decide +kernel
theorem dX0_leastAfter_21 : decode cX0_leastAfter 21 = .ok (.iload_n 3, 1) := by decide +kernel
theorem dX0_leastAfter_22 : decode cX0_leastAfter 22 = .ok (.iload_n 2, 1) := by decide +kernel
theorem dX0_leastAfter_23 : decode cX0_leastAfter 23 = .ok (.invokevirtual 53, 3) := by decide +kernel
theorem dX0_leastAfter_26 : decode cX0_leastAfter 26 = .ok (.if_icmp .ge 6, 3) := by decide +kernel
theorem dX0_leastAfter_29 : decode cX0_leastAfter 29 = .ok (.iload 4, 2) := by decide +kernel
theorem dX0_leastAfter_31 : decode cX0_leastAfter 31 = .ok (.istore_n 3, 1) := by decide +kernel
theorem dX0_leastAfter_32 : decode cX0_leastAfter 32 = .ok (.iinc 4 1, 3) := by decide +kernel
theorem dX0_leastAfter_35 : decode cX0_leastAfter 35 = .ok (.goto (-30), 3) := by decide +kernel
theorem dX0_leastAfter_38 : decode cX0_leastAfter 38 = .ok (.iload_n 3, 1) := by decide +kernel
theorem dX0_leastAfter_39 : decode cX0_leastAfter 39 = .ok (.ireturn, 1) := by decide +kernel
theorem dX1_init_0 : decode cX1_init 0 = .ok (.aload_n 0, 1) := by decide +kernel
theorem dX1_init_1 : decode cX1_init 1 = .ok (.invokespecial 3, 3) := by decide +kernel
theorem dX1_init_4 : decode cX1_init 4 = .ok (.aload_n 0, 1) := by decide +kernel
theorem dX1_init_5 : decode cX1_init 5 = .ok (.bipush 60, 2) := by decide +kernel
theorem dX1_init_7 : decode cX1_init 7 = .ok (.newarray .int, 2) := by decide +kernel
theorem dX1_init_9 : decode cX1_init 9 = .ok (.putfield 9, 3) := by decide +kernel
theorem dX1_init_12 : decode cX1_init 12 = .ok (.return_, 1) := by decide +kernel
set_option maxRecDepth 20000 in
theorem ggX1_append_X5_put : GoodIn wsX1_append wsX5_put := goodIn_r _ [5] (by decide +kernel) (by decide +kernel)
set_option maxRecDepth 20000 in
theorem gX1_append_X5_put_n19 : GoodIn wsX1_append (wsX5_put) := ggX1_append_X5_put
theorem dX1_append_0 : decode cX1_append 0 = .ok (.aload_n 0, 1) := by decide +kernel
theorem dX1_append_1 : decode cX1_append 1 = .ok (.getfield 9, 3) := by decide +kernel
theorem dX1_append_4 : decode cX1_append 4 = .ok (.aload_n 0, 1) := by decide +kernel
theorem dX1_append_5 : decode cX1_append 5 = .ok (.getfield 15, 3) := by decide +kernel
theorem dX1_append_8 : decode cX1_append 8 = .ok (.iload_n 1, 1) := by decide +kernel
theorem dX1_append_9 : decode cX1_append 9 = .ok (.invokestatic 19, 3) := by decide +kernel
theorem dX1_append_12 : decode cX1_append 12 = .ok (.aload_n 0, 1) := by decide +kernel
theorem dX1_append_13 : decode cX1_append 13 = .ok (.dup, 1) := by decide +kernel
theorem dX1_append_14 : decode cX1_append 14 = .ok (.getfield 15, 3) := by decide +kernel
theorem dX1_append_17 : decode cX1_append 17 = .ok (.iconst 1, 1) := by decide +kernel
theorem dX1_append_18 : decode cX1_append 18 = .ok (.iadd, 1) := by decide +kernel
theorem dX1_append_19 : decode cX1_append 19 = .ok (.putfield 15, 3) := by decide +kernel
theorem dX1_append_22 : decode cX1_append 22 = .ok (.return_, 1) := by decide +kernel
set_option maxRecDepth 20000 in
theorem ggX1_firstFault_X1_wantedAfter : GoodIn wsX1_firstFault wsX1_wantedAfter := goodIn_r _ [6, 7, 8, 9, 5, 10, 11, 12, 13, 14, 15, 16, 17, 18, 19, 20, 21, 22, 23, 24, 25, 26, 27, 28, 29, 30, 31, 32, 33] (by decide +kernel) (by decide +kernel)
set_option maxRecDepth 20000 in
theorem gX1_firstFault_X1_wantedAfter : GoodIn wsX1_firstFault (wsV RX1 23 RX1 yX1_wantedAfter wsX1_wantedAfter) := goodIn_app (goodIn_of _ (by decide +kernel)) ggX1_firstFault_X1_wantedAfter
theorem dX1_firstFault_0 : decode cX1_firstFault 0 = .ok (.iconst 0, 1) := by decide +kernel
theorem dX1_firstFault_1 : decode cX1_firstFault 1 = .ok (.istore_n 1, 1) := by decide +kernel
theorem dX1_firstFault_2 : decode cX1_firstFault 2 = .ok (.iconst 0, 1) := by decide +kernel
theorem dX1_firstFault_3 : decode cX1_firstFault 3 = .ok (.istore_n 2, 1) := by decide +kernel
theorem dX1_firstFault_4 : decode cX1_firstFault 4 = .ok (.iload_n 2, 1) := by decide +kernel
theorem dX1_firstFault_5 : decode cX1_firstFault 5 = .ok (.aload_n 0, 1) := by decide +kernel
theorem dX1_firstFault_6 : decode cX1_firstFault 6 = .ok (.getfield 15, 3) := by decide +kernel
theorem dX1_firstFault_9 : decode cX1_firstFault 9 = .ok (.if_icmp .ge 23, 3) := by decide +kernel
theorem dX1_firstFault_12 : decode cX1_firstFault 12 = .ok (.aload_n 0, 1) := by decide +kernel
theorem dX1_firstFault_13 : decode cX1_firstFault 13 = .ok (.iload_n 1, 1) := by decide +kernel
theorem dX1_firstFault_14 : decode cX1_firstFault 14 = .ok (.iload_n 2, 1) := by decide +kernel
theorem dX1_firstFault_15 : decode cX1_firstFault 15 = .ok (.invokevirtual 23, 3) := by decide +kernel
theorem dX1_firstFault_18 : decode cX1_firstFault 18 = .ok (.istore_n 1, 1) := by decide +kernel
theorem dX1_firstFault_19 : decode cX1_firstFault 19 = .ok (.iload_n 1, 1) := by decide +kernel
theorem dX1_firstFault_20 : decode cX1_firstFault 20 = .ok (.iconst (-1), 1) := by decide +kernel
theorem dX1_firstFault_21 : decode cX1_firstFault 21 = .ok (.if_icmp .ne 5, 3) := by decide +kernel
theorem dX1_firstFault_24 : decode cX1_firstFault 24 = .ok (.iload_n 2, 1) := by decide +kernel
theorem dX1_firstFault_25 : decode cX1_firstFault 25 = .ok (.ireturn, 1) := by decide +kernel
theorem dX1_firstFault_26 : decode cX1_firstFault 26 = .ok (.iinc 2 1, 3) := by decide +kernel
theorem dX1_firstFault_29 : decode cX1_firstFault 29 = .ok (.goto (-25), 3) := by decide +kernel
theorem dX1_firstFault_32 : decode cX1_firstFault 32 = .ok (.iload_n 1, 1) := by decide +kernel
theorem dX1_firstFault_33 : decode cX1_firstFault 33 = .ok (.ifCond .ne 8, 3) := by decide +kernel
theorem dX1_firstFault_36 : decode cX1_firstFault 36 = .ok (.bipush (-6), 2) := by decide +kernel
theorem dX1_firstFault_38 : decode cX1_firstFault 38 = .ok (.goto 7, 3) := by decide +kernel
theorem dX1_firstFault_41 : decode cX1_firstFault 41 = .ok (.aload_n 0, 1) := by decide +kernel
theorem dX1_firstFault_42 : decode cX1_firstFault 42 = .ok (.getfield 15, 3) := by decide +kernel
theorem dX1_firstFault_45 : decode cX1_firstFault 45 = .ok (.ireturn, 1) := by decide +kernel
set_option maxRecDepth 20000 in
theorem ggX1_wantedAfter_X1_colourAt : GoodIn wsX1_wantedAfter wsX1_colourAt := goodIn_r _ [5, 6, 7, 8, 9, 27, 28] (by decide +kernel) (by decide +kernel)
set_option maxRecDepth 20000 in
theorem gX1_wantedAfter_X1_colourAt : GoodIn wsX1_wantedAfter (wsV RX1 27 RX1 yX1_colourAt wsX1_colourAt) := goodIn_app (goodIn_of _ (by decide +kernel)) ggX1_wantedAfter_X1_colourAt
set_option maxRecDepth 20000 in
theorem ggX1_wantedAfter_X5_isBelow : GoodIn wsX1_wantedAfter wsX5_isBelow := goodIn_r _ [11] (by decide +kernel) (by decide +kernel)
set_option maxRecDepth 20000 in
theorem gX1_wantedAfter_X5_isBelow_n31 : GoodIn wsX1_wantedAfter (wsX5_isBelow) := ggX1_wantedAfter_X5_isBelow
set_option maxRecDepth 20000 in
theorem ggX1_wantedAfter_X1_stitchAt : GoodIn wsX1_wantedAfter wsX1_stitchAt := goodIn_r _ [15, 6, 7, 8, 9, 27, 28] (by decide +kernel) (by decide +kernel)
set_option maxRecDepth 20000 in
theorem gX1_wantedAfter_X1_stitchAt : GoodIn wsX1_wantedAfter (wsV RX1 35 RX1 yX1_stitchAt wsX1_stitchAt) := goodIn_app (goodIn_of _ (by decide +kernel)) ggX1_wantedAfter_X1_stitchAt
set_option maxRecDepth 20000 in
theorem ggX1_wantedAfter_X1_knitterAt : GoodIn wsX1_wantedAfter wsX1_knitterAt := goodIn_r _ [19, 6, 7, 8, 9, 27, 28] (by decide +kernel) (by decide +kernel)
set_option maxRecDepth 20000 in
theorem gX1_wantedAfter_X1_knitterAt : GoodIn wsX1_wantedAfter (wsV RX1 38 RX1 yX1_knitterAt wsX1_knitterAt) := goodIn_app (goodIn_of _ (by decide +kernel)) ggX1_wantedAfter_X1_knitterAt
set_option maxRecDepth 20000 in
theorem ggX1_wantedAfter_X1_kindAt : GoodIn wsX1_wantedAfter wsX1_kindAt := goodIn_r _ [23, 6, 16, 17, 18, 4, 19, 7, 8, 9, 10, 11, 27, 28] (by decide +kernel) (by decide +kernel)
set_option maxRecDepth 20000 in
theorem gX1_wantedAfter_X1_kindAt : GoodIn wsX1_wantedAfter (wsV RX1 41 RX1 yX1_kindAt wsX1_kindAt) := goodIn_app (goodIn_of _ (by decide +kernel)) ggX1_wantedAfter_X1_kindAt
set_option maxRecDepth 20000 in
theorem ggX1_wantedAfter_X1_wantedBy : GoodIn wsX1_wantedAfter wsX1_wantedBy := goodIn_r _ [26] (by decide +kernel) (by decide +kernel)
set_option maxRecDepth 20000 in
theorem gX1_wantedAfter_X1_wantedBy : GoodIn wsX1_wantedAfter (va_wsS RX1 44 yX1_wantedBy wsX1_wantedBy) := goodIn_app (goodIn_of _ (by decide +kernel)) ggX1_wantedAfter_X1_wantedBy
theorem dX1_wantedAfter_0 : decode cX1_wantedAfter 0 = .ok (.iload_n 1, 1) := by decide +kernel
theorem dX1_wantedAfter_1 : decode cX1_wantedAfter 1 = .ok (.tableswitch 105 1 4 #[31, 49, 68, 87], 31) := by decide +kernel
theorem dX1_wantedAfter_32 : decode cX1_wantedAfter 32 = .ok (.aload_n 0, 1) := by decide +kernel
theorem dX1_wantedAfter_33 : decode cX1_wantedAfter 33 = .ok (.iload_n 2, 1) := by decide +kernel
theorem dX1_wantedAfter_34 : decode cX1_wantedAfter 34 = .ok (.invokevirtual 27, 3) := by decide +kernel
theorem dX1_wantedAfter_37 : decode cX1_wantedAfter 37 = .ok (.iconst 4, 1) := by decide +kernel
theorem dX1_wantedAfter_38 : decode cX1_wantedAfter 38 = .ok (.invokestatic 31, 3) := by decide +kernel
theorem dX1_wantedAfter_41 : decode cX1_wantedAfter 41 = .ok (.ifCond .eq 7, 3) := by decide +kernel
theorem dX1_wantedAfter_44 : decode cX1_wantedAfter 44 = .ok (.iconst 0, 1) := by decide +kernel
theorem dX1_wantedAfter_45 : decode cX1_wantedAfter 45 = .ok (.goto 4, 3) := by decide +kernel
theorem dX1_wantedAfter_48 : decode cX1_wantedAfter 48 = .ok (.iconst (-1), 1) := by decide +kernel
theorem dX1_wantedAfter_49 : decode cX1_wantedAfter 49 = .ok (.ireturn, 1) := by decide +kernel
theorem dX1_wantedAfter_50 : decode cX1_wantedAfter 50 = .ok (.aload_n 0, 1) := by decide +kernel
theorem dX1_wantedAfter_51 : decode cX1_wantedAfter 51 = .ok (.iload_n 2, 1) := by decide +kernel
theorem dX1_wantedAfter_52 : decode cX1_wantedAfter 52 = .ok (.invokevirtual 35, 3) := by decide +kernel
theorem dX1_wantedAfter_55 : decode cX1_wantedAfter 55 = .ok (.bipush 24, 2) := by decide +kernel
theorem dX1_wantedAfter_57 : decode cX1_wantedAfter 57 = .ok (.invokestatic 31, 3) := by decide +kernel
theorem dX1_wantedAfter_60 : decode cX1_wantedAfter 60 = .ok (.ifCond .eq 7, 3) := by decide +kernel
theorem dX1_wantedAfter_63 : decode cX1_wantedAfter 63 = .ok (.iconst 0, 1) := by decide +kernel
theorem dX1_wantedAfter_64 : decode cX1_wantedAfter 64 = .ok (.goto 4, 3) := by decide +kernel
theorem dX1_wantedAfter_67 : decode cX1_wantedAfter 67 = .ok (.iconst (-1), 1) := by decide +kernel
theorem dX1_wantedAfter_68 : decode cX1_wantedAfter 68 = .ok (.ireturn, 1) := by decide +kernel
theorem dX1_wantedAfter_69 : decode cX1_wantedAfter 69 = .ok (.aload_n 0, 1) := by decide +kernel
theorem dX1_wantedAfter_70 : decode cX1_wantedAfter 70 = .ok (.iload_n 2, 1) := by decide +kernel
theorem dX1_wantedAfter_71 : decode cX1_wantedAfter 71 = .ok (.invokevirtual 35, 3) := by decide +kernel
theorem dX1_wantedAfter_74 : decode cX1_wantedAfter 74 = .ok (.bipush 24, 2) := by decide +kernel
theorem dX1_wantedAfter_76 : decode cX1_wantedAfter 76 = .ok (.invokestatic 31, 3) := by decide +kernel
theorem dX1_wantedAfter_79 : decode cX1_wantedAfter 79 = .ok (.ifCond .eq 7, 3) := by decide +kernel
theorem dX1_wantedAfter_82 : decode cX1_wantedAfter 82 = .ok (.iconst 4, 1) := by decide +kernel
theorem dX1_wantedAfter_83 : decode cX1_wantedAfter 83 = .ok (.goto 4, 3) := by decide +kernel
theorem dX1_wantedAfter_86 : decode cX1_wantedAfter 86 = .ok (.iconst (-1), 1) := by decide +kernel
theorem dX1_wantedAfter_87 : decode cX1_wantedAfter 87 = .ok (.ireturn, 1) := by decide +kernel
theorem dX1_wantedAfter_88 : decode cX1_wantedAfter 88 = .ok (.aload_n 0, 1) := by decide +kernel
theorem dX1_wantedAfter_89 : decode cX1_wantedAfter 89 = .ok (.iload_n 2, 1) := by decide +kernel
theorem dX1_wantedAfter_90 : decode cX1_wantedAfter 90 = .ok (.invokevirtual 38, 3) := by decide +kernel
theorem dX1_wantedAfter_93 : decode cX1_wantedAfter 93 = .ok (.iconst 4, 1) := by decide +kernel
theorem dX1_wantedAfter_94 : decode cX1_wantedAfter 94 = .ok (.invokestatic 31, 3) := by decide +kernel
theorem dX1_wantedAfter_97 : decode cX1_wantedAfter 97 = .ok (.ifCond .eq 7, 3) := by decide +kernel
theorem dX1_wantedAfter_100 : decode cX1_wantedAfter 100 = .ok (.iconst 0, 1) := by decide +kernel
theorem dX1_wantedAfter_101 : decode cX1_wantedAfter 101 = .ok (.goto 4, 3) := by decide +kernel
theorem dX1_wantedAfter_104 : decode cX1_wantedAfter 104 = .ok (.iconst (-1), 1) := by decide +kernel
theorem dX1_wantedAfter_105 : decode cX1_wantedAfter 105 = .ok (.ireturn, 1) := by decide +kernel
theorem dX1_wantedAfter_106 : decode cX1_wantedAfter 106 = .ok (.aload_n 0, 1) := by decide +kernel
theorem dX1_wantedAfter_107 : decode cX1_wantedAfter 107 = .ok (.iload_n 2, 1) := by decide +kernel
theorem dX1_wantedAfter_108 : decode cX1_wantedAfter 108 = .ok (.invokevirtual 41, 3) := by decide +kernel
theorem dX1_wantedAfter_111 : decode cX1_wantedAfter 111 = .ok (.invokestatic 44, 3) := by decide +kernel
theorem dX1_wantedAfter_114 : decode cX1_wantedAfter 114 = .ok (.ireturn, 1) := by decide +kernel
theorem dX1_wantedBy_0 : decode cX1_wantedBy 0 = .ok (.iload_n 0, 1) := by decide +kernel
theorem dX1_wantedBy_1 : decode cX1_wantedBy 1 = .ok (.tableswitch 37 0 3 #[33, 33, 35, 31], 31) := by decide +kernel
theorem dX1_wantedBy_32 : decode cX1_wantedBy 32 = .ok (.iconst 1, 1) := by decide +kernel
theorem dX1_wantedBy_33 : decode cX1_wantedBy 33 = .ok (.ireturn, 1) := by decide +kernel
theorem dX1_wantedBy_34 : decode cX1_wantedBy 34 = .ok (.iconst 2, 1) := by decide +kernel
theorem dX1_wantedBy_35 : decode cX1_wantedBy 35 = .ok (.ireturn, 1) := by decide +kernel
theorem dX1_wantedBy_36 : decode cX1_wantedBy 36 = .ok (.iconst 3, 1) := by decide +kernel
theorem dX1_wantedBy_37 : decode cX1_wantedBy 37 = .ok (.ireturn, 1) := by decide +kernel
theorem dX1_wantedBy_38 : decode cX1_wantedBy 38 = .ok (.iconst (-1), 1) := by decide +kernel
theorem dX1_wantedBy_39 : decode cX1_wantedBy 39 = .ok (.ireturn, 1) := by decide +kernel
set_option maxRecDepth 20000 in
theorem ggX1_kindAt_X1_knitterAt : GoodIn wsX1_kindAt wsX1_knitterAt := goodIn_r _ [6, 1, 7, 8, 9, 12, 13] (by decide +kernel) (by decide +kernel)
set_option maxRecDepth 20000 in
theorem gX1_kindAt_X1_knitterAt : GoodIn wsX1_kindAt (wsV RX1 38 RX1 yX1_knitterAt wsX1_knitterAt) := goodIn_app (goodIn_of _ (by decide +kernel)) ggX1_kindAt_X1_knitterAt
set_option maxRecDepth 20000 in
theorem ggX1_kindAt_X5_isBelow : GoodIn wsX1_kindAt wsX5_isBelow := goodIn_r _ [11] (by decide +kernel) (by decide +kernel)
set_option maxRecDepth 20000 in
theorem gX1_kindAt_X5_isBelow_n31 : GoodIn wsX1_kindAt (wsX5_isBelow) := ggX1_kindAt_X5_isBelow
set_option maxRecDepth 20000 in
theorem ggX1_kindAt_X5_at : GoodIn wsX1_kindAt wsX5_at := goodIn_r _ [9] (by decide +kernel) (by decide +kernel)
set_option maxRecDepth 20000 in
theorem gX1_kindAt_X5_at_n47 : GoodIn wsX1_kindAt (wsX5_at) := ggX1_kindAt_X5_at
theorem dX1_kindAt_0 : decode cX1_kindAt 0 = .ok (.aload_n 0, 1) := by decide +kernel
theorem dX1_kindAt_1 : decode cX1_kindAt 1 = .ok (.iload_n 1, 1) := by decide +kernel
theorem dX1_kindAt_2 : decode cX1_kindAt 2 = .ok (.invokevirtual 38, 3) := by decide +kernel
theorem dX1_kindAt_5 : decode cX1_kindAt 5 = .ok (.iconst 4, 1) := by decide +kernel
theorem dX1_kindAt_6 : decode cX1_kindAt 6 = .ok (.invokestatic 31, 3) := by decide +kernel
theorem dX1_kindAt_9 : decode cX1_kindAt 9 = .ok (.ifCond .eq 5, 3) := by decide +kernel
theorem dX1_kindAt_12 : decode cX1_kindAt 12 = .ok (.iconst 3, 1) := by decide +kernel
theorem dX1_kindAt_13 : decode cX1_kindAt 13 = .ok (.ireturn, 1) := by decide +kernel
theorem dX1_kindAt_14 : decode cX1_kindAt 14 = .ok (.aload_n 0, 1) := by decide +kernel
theorem dX1_kindAt_15 : decode cX1_kindAt 15 = .ok (.getfield 9, 3) := by decide +kernel
theorem dX1_kindAt_18 : decode cX1_kindAt 18 = .ok (.iload_n 1, 1) := by decide +kernel
theorem dX1_kindAt_19 : decode cX1_kindAt 19 = .ok (.invokestatic 47, 3) := by decide +kernel
theorem dX1_kindAt_22 : decode cX1_kindAt 22 = .ok (.tableswitch 36 42 45 #[32, 34, 36, 30], 30) := by decide +kernel
theorem dX1_kindAt_52 : decode cX1_kindAt 52 = .ok (.iconst 0, 1) := by decide +kernel
theorem dX1_kindAt_53 : decode cX1_kindAt 53 = .ok (.ireturn, 1) := by decide +kernel
theorem dX1_kindAt_54 : decode cX1_kindAt 54 = .ok (.iconst 1, 1) := by decide +kernel
theorem dX1_kindAt_55 : decode cX1_kindAt 55 = .ok (.ireturn, 1) := by decide +kernel
theorem dX1_kindAt_56 : decode cX1_kindAt 56 = .ok (.iconst 2, 1) := by decide +kernel
theorem dX1_kindAt_57 : decode cX1_kindAt 57 = .ok (.ireturn, 1) := by decide +kernel
theorem dX1_kindAt_58 : decode cX1_kindAt 58 = .ok (.iconst (-1), 1) := by decide +kernel
theorem dX1_kindAt_59 : decode cX1_kindAt 59 = .ok (.ireturn, 1) := by decide +kernel
set_option maxRecDepth 20000 in
theorem ggX1_knitterAt_X5_at : GoodIn wsX1_knitterAt wsX5_at := goodIn_r _ [4] (by decide +kernel) (by decide +kernel)
set_option maxRecDepth 20000 in
theorem gX1_knitterAt_X5_at_n47 : GoodIn wsX1_knitterAt (wsX5_at) := ggX1_knitterAt_X5_at
theorem dX1_knitterAt_0 : decode cX1_knitterAt 0 = .ok (.aload_n 0, 1) := by decide +kernel
theorem dX1_knitterAt_1 : decode cX1_knitterAt 1 = .ok (.getfield 9, 3) := by decide +kernel
theorem dX1_knitterAt_4 : decode cX1_knitterAt 4 = .ok (.iload_n 1, 1) := by decide +kernel
theorem dX1_knitterAt_5 : decode cX1_knitterAt 5 = .ok (.invokestatic 47, 3) := by decide +kernel
theorem dX1_knitterAt_8 : decode cX1_knitterAt 8 = .ok (.bipush 97, 2) := by decide +kernel
theorem dX1_knitterAt_10 : decode cX1_knitterAt 10 = .ok (.isub, 1) := by decide +kernel
theorem dX1_knitterAt_11 : decode cX1_knitterAt 11 = .ok (.ireturn, 1) := by decide +kernel
set_option maxRecDepth 20000 in
theorem ggX1_colourAt_X5_at : GoodIn wsX1_colourAt wsX5_at := goodIn_r _ [4] (by decide +kernel) (by decide +kernel)
set_option maxRecDepth 20000 in
theorem gX1_colourAt_X5_at_n47 : GoodIn wsX1_colourAt (wsX5_at) := ggX1_colourAt_X5_at
theorem dX1_colourAt_0 : decode cX1_colourAt 0 = .ok (.aload_n 0, 1) := by decide +kernel
theorem dX1_colourAt_1 : decode cX1_colourAt 1 = .ok (.getfield 9, 3) := by decide +kernel
theorem dX1_colourAt_4 : decode cX1_colourAt 4 = .ok (.iload_n 1, 1) := by decide +kernel
theorem dX1_colourAt_5 : decode cX1_colourAt 5 = .ok (.invokestatic 47, 3) := by decide +kernel
theorem dX1_colourAt_8 : decode cX1_colourAt 8 = .ok (.bipush 48, 2) := by decide +kernel
theorem dX1_colourAt_10 : decode cX1_colourAt 10 = .ok (.isub, 1) := by decide +kernel
theorem dX1_colourAt_11 : decode cX1_colourAt 11 = .ok (.ireturn, 1) := by decide +kernel
set_option maxRecDepth 20000 in
theorem ggX1_stitchAt_X5_at : GoodIn wsX1_stitchAt wsX5_at := goodIn_r _ [4] (by decide +kernel) (by decide +kernel)
set_option maxRecDepth 20000 in
theorem gX1_stitchAt_X5_at_n47 : GoodIn wsX1_stitchAt (wsX5_at) := ggX1_stitchAt_X5_at
theorem dX1_stitchAt_0 : decode cX1_stitchAt 0 = .ok (.aload_n 0, 1) := by decide +kernel
theorem dX1_stitchAt_1 : decode cX1_stitchAt 1 = .ok (.getfield 9, 3) := by decide +kernel
theorem dX1_stitchAt_4 : decode cX1_stitchAt 4 = .ok (.iload_n 1, 1) := by decide +kernel
theorem dX1_stitchAt_5 : decode cX1_stitchAt 5 = .ok (.invokestatic 47, 3) := by decide +kernel
theorem dX1_stitchAt_8 : decode cX1_stitchAt 8 = .ok (.bipush 65, 2) := by decide +kernel
theorem dX1_stitchAt_10 : decode cX1_stitchAt 10 = .ok (.isub, 1) := by decide +kernel
theorem dX1_stitchAt_11 : decode cX1_stitchAt 11 = .ok (.ireturn, 1) := by decide +kernel
theorem dX2_init_0 : decode cX2_init 0 = .ok (.aload_n 0, 1) := by decide +kernel
theorem dX2_init_1 : decode cX2_init 1 = .ok (.invokespecial 3, 3) := by decide +kernel
theorem dX2_init_4 : decode cX2_init 4 = .ok (.aload_n 0, 1) := by decide +kernel
theorem dX2_init_5 : decode cX2_init 5 = .ok (.bipush 24, 2) := by decide +kernel
theorem dX2_init_7 : decode cX2_init 7 = .ok (.newarray .int, 2) := by decide +kernel
theorem dX2_init_9 : decode cX2_init 9 = .ok (.putfield 9, 3) := by decide +kernel
theorem dX2_init_12 : decode cX2_init 12 = .ok (.aload_n 0, 1) := by decide +kernel
theorem dX2_init_13 : decode cX2_init 13 = .ok (.bipush 24, 2) := by decide +kernel
theorem dX2_init_15 : decode cX2_init 15 = .ok (.newarray .int, 2) := by decide +kernel
theorem dX2_init_17 : decode cX2_init 17 = .ok (.putfield 15, 3) := by decide +kernel
theorem dX2_init_20 : decode cX2_init 20 = .ok (.aload_n 0, 1) := by decide +kernel
theorem dX2_init_21 : decode cX2_init 21 = .ok (.bipush 24, 2) := by decide +kernel
theorem dX2_init_23 : decode cX2_init 23 = .ok (.newarray .int, 2) := by decide +kernel
theorem dX2_init_25 : decode cX2_init 25 = .ok (.putfield 18, 3) := by decide +kernel
theorem dX2_init_28 : decode cX2_init 28 = .ok (.return_, 1) := by decide +kernel
set_option maxRecDepth 20000 in
theorem ggX2_has_X5_isBelow : GoodIn wsX2_has wsX5_isBelow := goodIn_r _ [4] (by decide +kernel) (by decide +kernel)
set_option maxRecDepth 20000 in
theorem gX2_has_X5_isBelow_n25 : GoodIn wsX2_has (wsX5_isBelow) := ggX2_has_X5_isBelow
theorem dX2_has_0 : decode cX2_has 0 = .ok (.iload_n 1, 1) := by decide +kernel
theorem dX2_has_1 : decode cX2_has 1 = .ok (.aload_n 0, 1) := by decide +kernel
theorem dX2_has_2 : decode cX2_has 2 = .ok (.getfield 21, 3) := by decide +kernel
theorem dX2_has_5 : decode cX2_has 5 = .ok (.invokestatic 25, 3) := by decide +kernel
theorem dX2_has_8 : decode cX2_has 8 = .ok (.ireturn, 1) := by decide +kernel
theorem dX2_hasAll_0 : decode cX2_hasAll 0 = .ok (.iload_n 1, 1) := by decide +kernel
theorem dX2_hasAll_1 : decode cX2_hasAll 1 = .ok (.iconst 1, 1) := by decide +kernel
theorem dX2_hasAll_2 : decode cX2_hasAll 2 = .ok (.aload_n 0, 1) := by decide +kernel
theorem dX2_hasAll_3 : decode cX2_hasAll 3 = .ok (.getfield 21, 3) := by decide +kernel
theorem dX2_hasAll_6 : decode cX2_hasAll 6 = .ok (.ishl, 1) := by decide +kernel
theorem dX2_hasAll_7 : decode cX2_hasAll 7 = .ok (.iconst 1, 1) := by decide +kernel
theorem dX2_hasAll_8 : decode cX2_hasAll 8 = .ok (.isub, 1) := by decide +kernel
theorem dX2_hasAll_9 : decode cX2_hasAll 9 = .ok (.iand, 1) := by decide +kernel
theorem dX2_hasAll_10 : decode cX2_hasAll 10 = .ok (.iload_n 1, 1) := by decide +kernel
theorem dX2_hasAll_11 : decode cX2_hasAll 11 = .ok (.if_icmp .ne 7, 3) := by decide +kernel
theorem dX2_hasAll_14 : decode cX2_hasAll 14 = .ok (.iconst 1, 1) := by decide +kernel
theorem dX2_hasAll_15 : decode cX2_hasAll 15 = .ok (.goto 4, 3) := by decide +kernel
theorem dX2_hasAll_18 : decode cX2_hasAll 18 = .ok (.iconst 0, 1) := by decide +kernel
theorem dX2_hasAll_19 : decode cX2_hasAll 19 = .ok (.ireturn, 1) := by decide +kernel
theorem dX2_isFull_0 : decode cX2_isFull 0 = .ok (.aload_n 0, 1) := by decide +kernel
theorem dX2_isFull_1 : decode cX2_isFull 1 = .ok (.getfield 21, 3) := by decide +kernel
theorem dX2_isFull_4 : decode cX2_isFull 4 = .ok (.bipush 24, 2) := by decide +kernel
theorem dX2_isFull_6 : decode cX2_isFull 6 = .ok (.if_icmp .lt 7, 3) := by decide +kernel
theorem dX2_isFull_9 : decode cX2_isFull 9 = .ok (.iconst 1, 1) := by decide +kernel
theorem dX2_isFull_10 : decode cX2_isFull 10 = .ok (.goto 4, 3) := by decide +kernel
theorem dX2_isFull_13 : decode cX2_isFull 13 = .ok (.iconst 0, 1) := by decide +kernel
theorem dX2_isFull_14 : decode cX2_isFull 14 = .ok (.ireturn, 1) := by decide +kernel
set_option maxRecDepth 20000 in
theorem ggX2_isEaten_X5_isIn : GoodIn wsX2_isEaten wsX5_isIn := goodIn_r _ [4] (by decide +kernel) (by decide +kernel)
set_option maxRecDepth 20000 in
theorem gX2_isEaten_X5_isIn_n32 : GoodIn wsX2_isEaten (wsX5_isIn) := ggX2_isEaten_X5_isIn
theorem dX2_isEaten_0 : decode cX2_isEaten 0 = .ok (.aload_n 0, 1) := by decide +kernel
theorem dX2_isEaten_1 : decode cX2_isEaten 1 = .ok (.getfield 29, 3) := by decide +kernel
theorem dX2_isEaten_4 : decode cX2_isEaten 4 = .ok (.iload_n 1, 1) := by decide +kernel
theorem dX2_isEaten_5 : decode cX2_isEaten 5 = .ok (.invokestatic 32, 3) := by decide +kernel
theorem dX2_isEaten_8 : decode cX2_isEaten 8 = .ok (.ireturn, 1) := by decide +kernel
set_option maxRecDepth 20000 in
theorem ggX2_trait_X5_at : GoodIn wsX2_trait wsX5_at := goodIn_r _ [6] (by decide +kernel) (by decide +kernel)
set_option maxRecDepth 20000 in
theorem gX2_trait_X5_at_n35 : GoodIn wsX2_trait (wsX5_at) := ggX2_trait_X5_at
theorem dX2_trait_0 : decode cX2_trait 0 = .ok (.iload_n 2, 1) := by decide +kernel
theorem dX2_trait_1 : decode cX2_trait 1 = .ok (.lookupswitch 45 #[(0, 27), (1, 36)], 27) := by decide +kernel
theorem dX2_trait_28 : decode cX2_trait 28 = .ok (.aload_n 0, 1) := by decide +kernel
theorem dX2_trait_29 : decode cX2_trait 29 = .ok (.getfield 9, 3) := by decide +kernel
theorem dX2_trait_32 : decode cX2_trait 32 = .ok (.iload_n 1, 1) := by decide +kernel
theorem dX2_trait_33 : decode cX2_trait 33 = .ok (.invokestatic 35, 3) := by decide +kernel
theorem dX2_trait_36 : decode cX2_trait 36 = .ok (.ireturn, 1) := by decide +kernel
theorem dX2_trait_37 : decode cX2_trait 37 = .ok (.aload_n 0, 1) := by decide +kernel
theorem dX2_trait_38 : decode cX2_trait 38 = .ok (.getfield 15, 3) := by decide +kernel
theorem dX2_trait_41 : decode cX2_trait 41 = .ok (.iload_n 1, 1) := by decide +kernel
theorem dX2_trait_42 : decode cX2_trait 42 = .ok (.invokestatic 35, 3) := by decide +kernel
theorem dX2_trait_45 : decode cX2_trait 45 = .ok (.ireturn, 1) := by decide +kernel
theorem dX2_trait_46 : decode cX2_trait 46 = .ok (.aload_n 0, 1) := by decide +kernel
theorem dX2_trait_47 : decode cX2_trait 47 = .ok (.getfield 18, 3) := by decide +kernel
theorem dX2_trait_50 : decode cX2_trait 50 = .ok (.iload_n 1, 1) := by decide +kernel
theorem dX2_trait_51 : decode cX2_trait 51 = .ok (.invokestatic 35, 3) := by decide +kernel
theorem dX2_trait_54 : decode cX2_trait 54 = .ok (.istore_n 3, 1) := by decide +kernel
theorem dX2_trait_55 : decode cX2_trait 55 = .ok (.iload_n 3, 1) := by decide +kernel
theorem dX2_trait_56 : decode cX2_trait 56 = .ok (.iconst (-1), 1) := by decide +kernel
theorem dX2_trait_57 : decode cX2_trait 57 = .ok (.if_icmp .ne 8, 3) := by decide +kernel
theorem dX2_trait_60 : decode cX2_trait 60 = .ok (.bipush (-6), 2) := by decide +kernel
theorem dX2_trait_62 : decode cX2_trait 62 = .ok (.goto 4, 3) := by decide +kernel
theorem dX2_trait_65 : decode cX2_trait 65 = .ok (.iload_n 3, 1) := by decide +kernel
theorem dX2_trait_66 : decode cX2_trait 66 = .ok (.ireturn, 1) := by decide +kernel
theorem dX2_clear_0 : decode cX2_clear 0 = .ok (.aload_n 0, 1) := by decide +kernel
theorem dX2_clear_1 : decode cX2_clear 1 = .ok (.iconst 0, 1) := by decide +kernel
theorem dX2_clear_2 : decode cX2_clear 2 = .ok (.putfield 21, 3) := by decide +kernel
theorem dX2_clear_5 : decode cX2_clear 5 = .ok (.aload_n 0, 1) := by decide +kernel
theorem dX2_clear_6 : decode cX2_clear 6 = .ok (.iconst 0, 1) := by decide +kernel
theorem dX2_clear_7 : decode cX2_clear 7 = .ok (.putfield 29, 3) := by decide +kernel
theorem dX2_clear_10 : decode cX2_clear 10 = .ok (.return_, 1) := by decide +kernel
set_option maxRecDepth 20000 in
theorem ggX2_copy_X5_at : GoodIn wsX2_copy wsX5_at := goodIn_r _ [8] (by decide +kernel) (by decide +kernel)
set_option maxRecDepth 20000 in
theorem gX2_copy_X5_at_n35 : GoodIn wsX2_copy (wsX5_at) := ggX2_copy_X5_at
set_option maxRecDepth 20000 in
theorem ggX2_copy_X5_put : GoodIn wsX2_copy wsX5_put := goodIn_r _ [10] (by decide +kernel) (by decide +kernel)
set_option maxRecDepth 20000 in
theorem gX2_copy_X5_put_n39 : GoodIn wsX2_copy (wsX5_put) := ggX2_copy_X5_put
theorem dX2_copy_0 : decode cX2_copy 0 = .ok (.aload_n 0, 1) := by decide +kernel
theorem dX2_copy_1 : decode cX2_copy 1 = .ok (.aload_n 1, 1) := by decide +kernel
theorem dX2_copy_2 : decode cX2_copy 2 = .ok (.getfield 21, 3) := by decide +kernel
theorem dX2_copy_5 : decode cX2_copy 5 = .ok (.putfield 21, 3) := by decide +kernel
theorem dX2_copy_8 : decode cX2_copy 8 = .ok (.aload_n 0, 1) := by decide +kernel
theorem dX2_copy_9 : decode cX2_copy 9 = .ok (.aload_n 1, 1) := by decide +kernel
theorem dX2_copy_10 : decode cX2_copy 10 = .ok (.getfield 29, 3) := by decide +kernel
theorem dX2_copy_13 : decode cX2_copy 13 = .ok (.putfield 29, 3) := by decide +kernel
theorem dX2_copy_16 : decode cX2_copy 16 = .ok (.iconst 0, 1) := by decide +kernel
theorem dX2_copy_17 : decode cX2_copy 17 = .ok (.istore_n 2, 1) := by decide +kernel
theorem dX2_copy_18 : decode cX2_copy 18 = .ok (.iload_n 2, 1) := by decide +kernel
theorem dX2_copy_19 : decode cX2_copy 19 = .ok (.aload_n 0, 1) := by decide +kernel
theorem dX2_copy_20 : decode cX2_copy 20 = .ok (.getfield 21, 3) := by decide +kernel
theorem dX2_copy_23 : decode cX2_copy 23 = .ok (.if_icmp .ge 57, 3) := by decide +kernel
theorem dX2_copy_26 : decode cX2_copy 26 = .ok (.aload_n 0, 1) := by decide +kernel
theorem dX2_copy_27 : decode cX2_copy 27 = .ok (.getfield 9, 3) := by decide +kernel
theorem dX2_copy_30 : decode cX2_copy 30 = .ok (.iload_n 2, 1) := by decide +kernel
theorem dX2_copy_31 : decode cX2_copy 31 = .ok (.aload_n 1, 1) := by decide +kernel
theorem dX2_copy_32 : decode cX2_copy 32 = .ok (.getfield 9, 3) := by decide +kernel
theorem dX2_copy_35 : decode cX2_copy 35 = .ok (.iload_n 2, 1) := by decide +kernel
theorem dX2_copy_36 : decode cX2_copy 36 = .ok (.invokestatic 35, 3) := by decide +kernel
theorem dX2_copy_39 : decode cX2_copy 39 = .ok (.invokestatic 39, 3) := by decide +kernel
theorem dX2_copy_42 : decode cX2_copy 42 = .ok (.aload_n 0, 1) := by decide +kernel
theorem dX2_copy_43 : decode cX2_copy 43 = .ok (.getfield 15, 3) := by decide +kernel
theorem dX2_copy_46 : decode cX2_copy 46 = .ok (.iload_n 2, 1) := by decide +kernel
theorem dX2_copy_47 : decode cX2_copy 47 = .ok (.aload_n 1, 1) := by decide +kernel
theorem dX2_copy_48 : decode cX2_copy 48 = .ok (.getfield 15, 3) := by decide +kernel
theorem dX2_copy_51 : decode cX2_copy 51 = .ok (.iload_n 2, 1) := by decide +kernel
theorem dX2_copy_52 : decode cX2_copy 52 = .ok (.invokestatic 35, 3) := by decide +kernel
theorem dX2_copy_55 : decode cX2_copy 55 = .ok (.invokestatic 39, 3) := by decide +kernel
theorem dX2_copy_58 : decode cX2_copy 58 = .ok (.aload_n 0, 1) := by decide +kernel
theorem dX2_copy_59 : decode cX2_copy 59 = .ok (.getfield 18, 3) := by decide +kernel
theorem dX2_copy_62 : decode cX2_copy 62 = .ok (.iload_n 2, 1) := by decide +kernel
theorem dX2_copy_63 : decode cX2_copy 63 = .ok (.aload_n 1, 1) := by decide +kernel
theorem dX2_copy_64 : decode cX2_copy 64 = .ok (.getfield 18, 3) := by decide +kernel
theorem dX2_copy_67 : decode cX2_copy 67 = .ok (.iload_n 2, 1) := by decide +kernel
theorem dX2_copy_68 : decode cX2_copy 68 = .ok (.invokestatic 35, 3) := by decide +kernel
theorem dX2_copy_71 : decode cX2_copy 71 = .ok (.invokestatic 39, 3) := by decide +kernel
theorem dX2_copy_74 : decode cX2_copy 74 = .ok (.iinc 2 1, 3) := by decide +kernel
theorem dX2_copy_77 : decode cX2_copy 77 = .ok (.goto (-59), 3) := by decide +kernel
theorem dX2_copy_80 : decode cX2_copy 80 = .ok (.return_, 1) := by decide +kernel
set_option maxRecDepth 20000 in
theorem ggX2_append_X5_put : GoodIn wsX2_append wsX5_put := goodIn_r _ [7] (by decide +kernel) (by decide +kernel)
set_option maxRecDepth 20000 in
theorem gX2_append_X5_put_n39 : GoodIn wsX2_append (wsX5_put) := ggX2_append_X5_put
theorem dX2_append_0 : decode cX2_append 0 = .ok (.aload_n 0, 1) := by decide +kernel
theorem dX2_append_1 : decode cX2_append 1 = .ok (.getfield 9, 3) := by decide +kernel
theorem dX2_append_4 : decode cX2_append 4 = .ok (.aload_n 0, 1) := by decide +kernel
theorem dX2_append_5 : decode cX2_append 5 = .ok (.getfield 21, 3) := by decide +kernel
theorem dX2_append_8 : decode cX2_append 8 = .ok (.iload_n 1, 1) := by decide +kernel
theorem dX2_append_9 : decode cX2_append 9 = .ok (.invokestatic 39, 3) := by decide +kernel
theorem dX2_append_12 : decode cX2_append 12 = .ok (.aload_n 0, 1) := by decide +kernel
theorem dX2_append_13 : decode cX2_append 13 = .ok (.getfield 15, 3) := by decide +kernel
theorem dX2_append_16 : decode cX2_append 16 = .ok (.aload_n 0, 1) := by decide +kernel
theorem dX2_append_17 : decode cX2_append 17 = .ok (.getfield 21, 3) := by decide +kernel
theorem dX2_append_20 : decode cX2_append 20 = .ok (.iload_n 2, 1) := by decide +kernel
theorem dX2_append_21 : decode cX2_append 21 = .ok (.invokestatic 39, 3) := by decide +kernel
theorem dX2_append_24 : decode cX2_append 24 = .ok (.aload_n 0, 1) := by decide +kernel
theorem dX2_append_25 : decode cX2_append 25 = .ok (.getfield 18, 3) := by decide +kernel
theorem dX2_append_28 : decode cX2_append 28 = .ok (.aload_n 0, 1) := by decide +kernel
theorem dX2_append_29 : decode cX2_append 29 = .ok (.getfield 21, 3) := by decide +kernel
theorem dX2_append_32 : decode cX2_append 32 = .ok (.iload_n 3, 1) := by decide +kernel
theorem dX2_append_33 : decode cX2_append 33 = .ok (.invokestatic 39, 3) := by decide +kernel
theorem dX2_append_36 : decode cX2_append 36 = .ok (.aload_n 0, 1) := by decide +kernel
theorem dX2_append_37 : decode cX2_append 37 = .ok (.dup, 1) := by decide +kernel
theorem dX2_append_38 : decode cX2_append 38 = .ok (.getfield 21, 3) := by decide +kernel
theorem dX2_append_41 : decode cX2_append 41 = .ok (.iconst 1, 1) := by decide +kernel
theorem dX2_append_42 : decode cX2_append 42 = .ok (.iadd, 1) := by decide +kernel
theorem dX2_append_43 : decode cX2_append 43 = .ok (.putfield 21, 3) := by decide +kernel
theorem dX2_append_46 : decode cX2_append 46 = .ok (.return_, 1) := by decide +kernel
set_option maxRecDepth 20000 in
theorem ggX2_knit_X2_lastWholeOf : GoodIn wsX2_knit wsX2_lastWholeOf := goodIn_r _ [5, 6, 7, 8, 9, 10, 11, 12, 13, 22, 23, 24, 25, 26] (by decide +kernel) (by decide +kernel)
set_option maxRecDepth 20000 in
theorem gX2_knit_X2_lastWholeOf : GoodIn wsX2_knit (wsV RX2 43 RX2 yX2_lastWholeOf wsX2_lastWholeOf) := goodIn_app (goodIn_of _ (by decide +kernel)) ggX2_knit_X2_lastWholeOf
set_option maxRecDepth 20000 in
theorem ggX2_knit_X2_append : GoodIn wsX2_knit wsX2_append := goodIn_r _ [17, 7, 6, 18, 19, 20, 10, 21, 22, 23, 24, 25, 26] (by decide +kernel) (by decide +kernel)
set_option maxRecDepth 20000 in
theorem gX2_knit_X2_append : GoodIn wsX2_knit (wsV RX2 47 RX2 yX2_append wsX2_append) := goodIn_app (goodIn_of _ (by decide +kernel)) ggX2_knit_X2_append
theorem dX2_knit_0 : decode cX2_knit 0 = .ok (.aload_n 0, 1) := by decide +kernel
theorem dX2_knit_1 : decode cX2_knit 1 = .ok (.iload_n 1, 1) := by decide +kernel
theorem dX2_knit_2 : decode cX2_knit 2 = .ok (.iload_n 2, 1) := by decide +kernel
theorem dX2_knit_3 : decode cX2_knit 3 = .ok (.aload_n 0, 1) := by decide +kernel
theorem dX2_knit_4 : decode cX2_knit 4 = .ok (.iload_n 1, 1) := by decide +kernel
theorem dX2_knit_5 : decode cX2_knit 5 = .ok (.invokevirtual 43, 3) := by decide +kernel
theorem dX2_knit_8 : decode cX2_knit 8 = .ok (.invokevirtual 47, 3) := by decide +kernel
theorem dX2_knit_11 : decode cX2_knit 11 = .ok (.return_, 1) := by decide +kernel
set_option maxRecDepth 20000 in
theorem ggX2_lastWholeOf_X5_at : GoodIn wsX2_lastWholeOf wsX5_at := goodIn_r _ [6] (by decide +kernel) (by decide +kernel)
set_option maxRecDepth 20000 in
theorem gX2_lastWholeOf_X5_at_n35 : GoodIn wsX2_lastWholeOf (wsX5_at) := ggX2_lastWholeOf_X5_at
set_option maxRecDepth 20000 in
theorem ggX2_lastWholeOf_X5_isIn : GoodIn wsX2_lastWholeOf wsX5_isIn := goodIn_r _ [8] (by decide +kernel) (by decide +kernel)
set_option maxRecDepth 20000 in
theorem gX2_lastWholeOf_X5_isIn_n32 : GoodIn wsX2_lastWholeOf (wsX5_isIn) := ggX2_lastWholeOf_X5_isIn
theorem dX2_lastWholeOf_0 : decode cX2_lastWholeOf 0 = .ok (.aload_n 0, 1) := by decide +kernel
theorem dX2_lastWholeOf_1 : decode cX2_lastWholeOf 1 = .ok (.getfield 21, 3) := by decide +kernel
theorem dX2_lastWholeOf_4 : decode cX2_lastWholeOf 4 = .ok (.iconst 1, 1) := by decide +kernel
theorem dX2_lastWholeOf_5 : decode cX2_lastWholeOf 5 = .ok (.isub, 1) := by decide +kernel
theorem dX2_lastWholeOf_6 : decode cX2_lastWholeOf 6 = .ok (.istore_n 2, 1) := by decide +kernel
theorem dX2_lastWholeOf_7 : decode cX2_lastWholeOf 7 = .ok (.iload_n 2, 1) := by decide +kernel
theorem dX2_lastWholeOf_8 : decode cX2_lastWholeOf 8 = .ok (.ifCond .lt 34, 3) := by decide +kernel
theorem dX2_lastWholeOf_11 : decode cX2_lastWholeOf 11 = .ok (.aload_n 0, 1) := by decide +kernel
theorem dX2_lastWholeOf_12 : decode cX2_lastWholeOf 12 = .ok (.getfield 9, 3) := by decide +kernel
theorem dX2_lastWholeOf_15 : decode cX2_lastWholeOf 15 = .ok (.iload_n 2, 1) := by decide +kernel
theorem dX2_lastWholeOf_16 : decode cX2_lastWholeOf 16 = .ok (.invokestatic 35, 3) := by decide +kernel
theorem dX2_lastWholeOf_19 : decode cX2_lastWholeOf 19 = .ok (.iload_n 1, 1) := by decide +kernel
theorem dX2_lastWholeOf_20 : decode cX2_lastWholeOf 20 = .ok (.if_icmp .ne 16, 3) := by decide +kernel
theorem dX2_lastWholeOf_23 : decode cX2_lastWholeOf 23 = .ok (.aload_n 0, 1) := by decide +kernel
theorem dX2_lastWholeOf_24 : decode cX2_lastWholeOf 24 = .ok (.getfield 29, 3) := by decide +kernel
theorem dX2_lastWholeOf_27 : decode cX2_lastWholeOf 27 = .ok (.iload_n 2, 1) := by decide +kernel
theorem dX2_lastWholeOf_28 : decode cX2_lastWholeOf 28 = .ok (.invokestatic 32, 3) := by decide +kernel
theorem dX2_lastWholeOf_31 : decode cX2_lastWholeOf 31 = .ok (.ifCond .ne 5, 3) := by decide +kernel
theorem dX2_lastWholeOf_34 : decode cX2_lastWholeOf 34 = .ok (.iload_n 2, 1) := by decide +kernel
theorem dX2_lastWholeOf_35 : decode cX2_lastWholeOf 35 = .ok (.ireturn, 1) := by decide +kernel
theorem dX2_lastWholeOf_36 : decode cX2_lastWholeOf 36 = .ok (.iinc 2 (-1), 3) := by decide +kernel
theorem dX2_lastWholeOf_39 : decode cX2_lastWholeOf 39 = .ok (.goto (-32), 3) := by decide +kernel
theorem dX2_lastWholeOf_42 : decode cX2_lastWholeOf 42 = .ok (.iconst (-1), 1) := by decide +kernel
theorem dX2_lastWholeOf_43 : decode cX2_lastWholeOf 43 = .ok (.ireturn, 1) := by decide +kernel
theorem dX2_eat_0 : decode cX2_eat 0 = .ok (.aload_n 0, 1) := by decide +kernel
theorem dX2_eat_1 : decode cX2_eat 1 = .ok (.dup, 1) := by decide +kernel
theorem dX2_eat_2 : decode cX2_eat 2 = .ok (.getfield 29, 3) := by decide +kernel
theorem dX2_eat_5 : decode cX2_eat 5 = .ok (.iconst 1, 1) := by decide +kernel
theorem dX2_eat_6 : decode cX2_eat 6 = .ok (.iload_n 1, 1) := by decide +kernel
theorem dX2_eat_7 : decode cX2_eat 7 = .ok (.ishl, 1) := by decide +kernel
theorem dX2_eat_8 : decode cX2_eat 8 = .ok (.ior, 1) := by decide +kernel
theorem dX2_eat_9 : decode cX2_eat 9 = .ok (.putfield 29, 3) := by decide +kernel
theorem dX2_eat_12 : decode cX2_eat 12 = .ok (.return_, 1) := by decide +kernel
set_option maxRecDepth 20000 in
theorem ggX2_mend_X5_put : GoodIn wsX2_mend wsX5_put := goodIn_r _ [5] (by decide +kernel) (by decide +kernel)
set_option maxRecDepth 20000 in
theorem gX2_mend_X5_put_n39 : GoodIn wsX2_mend (wsX5_put) := ggX2_mend_X5_put
theorem dX2_mend_0 : decode cX2_mend 0 = .ok (.aload_n 0, 1) := by decide +kernel
theorem dX2_mend_1 : decode cX2_mend 1 = .ok (.dup, 1) := by decide +kernel
theorem dX2_mend_2 : decode cX2_mend 2 = .ok (.getfield 29, 3) := by decide +kernel
theorem dX2_mend_5 : decode cX2_mend 5 = .ok (.iconst 1, 1) := by decide +kernel
theorem dX2_mend_6 : decode cX2_mend 6 = .ok (.iload_n 1, 1) := by decide +kernel
theorem dX2_mend_7 : decode cX2_mend 7 = .ok (.ishl, 1) := by decide +kernel
theorem dX2_mend_8 : decode cX2_mend 8 = .ok (.iconst (-1), 1) := by decide +kernel
theorem dX2_mend_9 : decode cX2_mend 9 = .ok (.ixor, 1) := by decide +kernel
theorem dX2_mend_10 : decode cX2_mend 10 = .ok (.iand, 1) := by decide +kernel
theorem dX2_mend_11 : decode cX2_mend 11 = .ok (.putfield 29, 3) := by decide +kernel
theorem dX2_mend_14 : decode cX2_mend 14 = .ok (.aload_n 0, 1) := by decide +kernel
theorem dX2_mend_15 : decode cX2_mend 15 = .ok (.getfield 15, 3) := by decide +kernel
theorem dX2_mend_18 : decode cX2_mend 18 = .ok (.iload_n 1, 1) := by decide +kernel
theorem dX2_mend_19 : decode cX2_mend 19 = .ok (.iload_n 2, 1) := by decide +kernel
theorem dX2_mend_20 : decode cX2_mend 20 = .ok (.invokestatic 39, 3) := by decide +kernel
theorem dX2_mend_23 : decode cX2_mend 23 = .ok (.return_, 1) := by decide +kernel
set_option maxRecDepth 20000 in
theorem ggX2_undoneWith_X5_at : GoodIn wsX2_undoneWith wsX5_at := goodIn_r _ [5] (by decide +kernel) (by decide +kernel)
set_option maxRecDepth 20000 in
theorem gX2_undoneWith_X5_at_n35 : GoodIn wsX2_undoneWith (wsX5_at) := ggX2_undoneWith_X5_at
set_option maxRecDepth 20000 in
theorem ggX2_undoneWith_X5_isIn : GoodIn wsX2_undoneWith wsX5_isIn := goodIn_r _ [7] (by decide +kernel) (by decide +kernel)
set_option maxRecDepth 20000 in
theorem gX2_undoneWith_X5_isIn_n32 : GoodIn wsX2_undoneWith (wsX5_isIn) := ggX2_undoneWith_X5_isIn
theorem dX2_undoneWith_0 : decode cX2_undoneWith 0 = .ok (.iconst 1, 1) := by decide +kernel
theorem dX2_undoneWith_1 : decode cX2_undoneWith 1 = .ok (.iload_n 1, 1) := by decide +kernel
theorem dX2_undoneWith_2 : decode cX2_undoneWith 2 = .ok (.ishl, 1) := by decide +kernel
theorem dX2_undoneWith_3 : decode cX2_undoneWith 3 = .ok (.istore_n 2, 1) := by decide +kernel
theorem dX2_undoneWith_4 : decode cX2_undoneWith 4 = .ok (.iload_n 1, 1) := by decide +kernel
theorem dX2_undoneWith_5 : decode cX2_undoneWith 5 = .ok (.iconst 1, 1) := by decide +kernel
theorem dX2_undoneWith_6 : decode cX2_undoneWith 6 = .ok (.iadd, 1) := by decide +kernel
theorem dX2_undoneWith_7 : decode cX2_undoneWith 7 = .ok (.istore_n 3, 1) := by decide +kernel
theorem dX2_undoneWith_8 : decode cX2_undoneWith 8 = .ok (.iload_n 3, 1) := by decide +kernel
theorem dX2_undoneWith_9 : decode cX2_undoneWith 9 = .ok (.aload_n 0, 1) := by decide +kernel
theorem dX2_undoneWith_10 : decode cX2_undoneWith 10 = .ok (.getfield 21, 3) := by decide +kernel
theorem dX2_undoneWith_13 : decode cX2_undoneWith 13 = .ok (.if_icmp .ge 30, 3) := by decide +kernel
theorem dX2_undoneWith_16 : decode cX2_undoneWith 16 = .ok (.iload_n 2, 1) := by decide +kernel
theorem dX2_undoneWith_17 : decode cX2_undoneWith 17 = .ok (.aload_n 0, 1) := by decide +kernel
theorem dX2_undoneWith_18 : decode cX2_undoneWith 18 = .ok (.getfield 18, 3) := by decide +kernel
theorem dX2_undoneWith_21 : decode cX2_undoneWith 21 = .ok (.iload_n 3, 1) := by decide +kernel
theorem dX2_undoneWith_22 : decode cX2_undoneWith 22 = .ok (.invokestatic 35, 3) := by decide +kernel
theorem dX2_undoneWith_25 : decode cX2_undoneWith 25 = .ok (.invokestatic 32, 3) := by decide +kernel
theorem dX2_undoneWith_28 : decode cX2_undoneWith 28 = .ok (.ifCond .eq 9, 3) := by decide +kernel
theorem dX2_undoneWith_31 : decode cX2_undoneWith 31 = .ok (.iload_n 2, 1) := by decide +kernel
theorem dX2_undoneWith_32 : decode cX2_undoneWith 32 = .ok (.iconst 1, 1) := by decide +kernel
theorem dX2_undoneWith_33 : decode cX2_undoneWith 33 = .ok (.iload_n 3, 1) := by decide +kernel
theorem dX2_undoneWith_34 : decode cX2_undoneWith 34 = .ok (.ishl, 1) := by decide +kernel
theorem dX2_undoneWith_35 : decode cX2_undoneWith 35 = .ok (.ior, 1) := by decide +kernel
theorem dX2_undoneWith_36 : decode cX2_undoneWith 36 = .ok (.istore_n 2, 1) := by decide +kernel
theorem dX2_undoneWith_37 : decode cX2_undoneWith 37 = .ok (.iinc 3 1, 3) := by decide +kernel
theorem dX2_undoneWith_40 : decode cX2_undoneWith 40 = .ok (.goto (-32), 3) := by decide +kernel
theorem dX2_undoneWith_43 : decode cX2_undoneWith 43 = .ok (.iload_n 2, 1) := by decide +kernel
theorem dX2_undoneWith_44 : decode cX2_undoneWith 44 = .ok (.ireturn, 1) := by decide +kernel
set_option maxRecDepth 20000 in
theorem ggX2_unpick_X2_undoneWith : GoodIn wsX2_unpick wsX2_undoneWith := goodIn_r _ [10, 1, 4, 11, 12, 13, 14, 15, 32, 33, 34, 35, 36] (by decide +kernel) (by decide +kernel)
set_option maxRecDepth 20000 in
theorem gX2_unpick_X2_undoneWith : GoodIn wsX2_unpick (wsV RX2 51 RX2 yX2_undoneWith wsX2_undoneWith) := goodIn_app (goodIn_of _ (by decide +kernel)) ggX2_unpick_X2_undoneWith
set_option maxRecDepth 20000 in
theorem ggX2_unpick_X5_isIn : GoodIn wsX2_unpick wsX5_isIn := goodIn_r _ [15] (by decide +kernel) (by decide +kernel)
set_option maxRecDepth 20000 in
theorem gX2_unpick_X5_isIn_n32 : GoodIn wsX2_unpick (wsX5_isIn) := ggX2_unpick_X5_isIn
set_option maxRecDepth 20000 in
theorem ggX2_unpick_X5_at : GoodIn wsX2_unpick wsX5_at := goodIn_r _ [13] (by decide +kernel) (by decide +kernel)
set_option maxRecDepth 20000 in
theorem gX2_unpick_X5_at_n35 : GoodIn wsX2_unpick (wsX5_at) := ggX2_unpick_X5_at
set_option maxRecDepth 20000 in
theorem ggX2_unpick_X5_put : GoodIn wsX2_unpick wsX5_put := goodIn_r _ [17] (by decide +kernel) (by decide +kernel)
set_option maxRecDepth 20000 in
theorem gX2_unpick_X5_put_n39 : GoodIn wsX2_unpick (wsX5_put) := ggX2_unpick_X5_put
set_option maxRecDepth 20000 in
theorem ggX2_unpick_X2_closedUp : GoodIn wsX2_unpick wsX2_closedUp := goodIn_r _ [20, 21, 22, 23, 24, 25, 26, 27] (by decide +kernel) (by decide +kernel)
set_option maxRecDepth 20000 in
theorem gX2_unpick_X2_closedUp : GoodIn wsX2_unpick (va_wsS RX2 54 yX2_closedUp wsX2_closedUp) := goodIn_app (goodIn_of _ (by decide +kernel)) ggX2_unpick_X2_closedUp
set_option maxRecDepth 20000 in
theorem ggX2_unpick_X2_isEaten : GoodIn wsX2_unpick wsX2_isEaten := goodIn_r _ [31, 5, 14, 12, 15, 32, 33, 34, 35, 36] (by decide +kernel) (by decide +kernel)
set_option maxRecDepth 20000 in
theorem gX2_unpick_X2_isEaten : GoodIn wsX2_unpick (wsV RX2 58 RX2 yX2_isEaten wsX2_isEaten) := goodIn_app (goodIn_of _ (by decide +kernel)) ggX2_unpick_X2_isEaten
set_option maxRecDepth 20000 in
theorem ggX2_unpick_J6_bitCount_0f7a4 : GoodIn wsX2_unpick wsJ6_bitCount_0f7a4 := goodIn_r _ [24, 25, 26, 27] (by decide +kernel) (by decide +kernel)
set_option maxRecDepth 20000 in
theorem gX2_unpick_J6_bitCount_0f7a4 : GoodIn wsX2_unpick (va_wsS RX2 62 yJ6_bitCount_0f7a4 wsJ6_bitCount_0f7a4) := goodIn_app (goodIn_of _ (by decide +kernel)) ggX2_unpick_J6_bitCount_0f7a4
theorem dX2_unpick_0 : decode cX2_unpick 0 = .ok (.aload_n 0, 1) := by decide +kernel
theorem dX2_unpick_1 : decode cX2_unpick 1 = .ok (.iload_n 1, 1) := by decide +kernel
theorem dX2_unpick_2 : decode cX2_unpick 2 = .ok (.invokevirtual 51, 3) := by decide +kernel
theorem dX2_unpick_5 : decode cX2_unpick 5 = .ok (.istore_n 2, 1) := by decide +kernel
theorem dX2_unpick_6 : decode cX2_unpick 6 = .ok (.iconst 0, 1) := by decide +kernel
theorem dX2_unpick_7 : decode cX2_unpick 7 = .ok (.istore_n 3, 1) := by decide +kernel
theorem dX2_unpick_8 : decode cX2_unpick 8 = .ok (.iconst 0, 1) := by decide +kernel
theorem dX2_unpick_9 : decode cX2_unpick 9 = .ok (.istore 4, 2) := by decide +kernel
theorem dX2_unpick_11 : decode cX2_unpick 11 = .ok (.iconst 0, 1) := by decide +kernel
theorem dX2_unpick_12 : decode cX2_unpick 12 = .ok (.istore 5, 2) := by decide +kernel
theorem dX2_unpick_14 : decode cX2_unpick 14 = .ok (.iload 5, 2) := by decide +kernel
theorem dX2_unpick_16 : decode cX2_unpick 16 = .ok (.aload_n 0, 1) := by decide +kernel
theorem dX2_unpick_17 : decode cX2_unpick 17 = .ok (.getfield 21, 3) := by decide +kernel
theorem dX2_unpick_20 : decode cX2_unpick 20 = .ok (.if_icmp .ge 97, 3) := by decide +kernel
theorem dX2_unpick_23 : decode cX2_unpick 23 = .ok (.iload_n 2, 1) := by decide +kernel
theorem dX2_unpick_24 : decode cX2_unpick 24 = .ok (.iload 5, 2) := by decide +kernel
theorem dX2_unpick_26 : decode cX2_unpick 26 = .ok (.invokestatic 32, 3) := by decide +kernel
theorem dX2_unpick_29 : decode cX2_unpick 29 = .ok (.ifCond .ne 82, 3) := by decide +kernel
theorem dX2_unpick_32 : decode cX2_unpick 32 = .ok (.aload_n 0, 1) := by decide +kernel
theorem dX2_unpick_33 : decode cX2_unpick 33 = .ok (.getfield 9, 3) := by decide +kernel
theorem dX2_unpick_36 : decode cX2_unpick 36 = .ok (.iload_n 3, 1) := by decide +kernel
theorem dX2_unpick_37 : decode cX2_unpick 37 = .ok (.aload_n 0, 1) := by decide +kernel
theorem dX2_unpick_38 : decode cX2_unpick 38 = .ok (.getfield 9, 3) := by decide +kernel
theorem dX2_unpick_41 : decode cX2_unpick 41 = .ok (.iload 5, 2) := by decide +kernel
theorem dX2_unpick_43 : decode cX2_unpick 43 = .ok (.invokestatic 35, 3) := by decide +kernel
theorem dX2_unpick_46 : decode cX2_unpick 46 = .ok (.invokestatic 39, 3) := by decide +kernel
theorem dX2_unpick_49 : decode cX2_unpick 49 = .ok (.aload_n 0, 1) := by decide +kernel
theorem dX2_unpick_50 : decode cX2_unpick 50 = .ok (.getfield 15, 3) := by decide +kernel
theorem dX2_unpick_53 : decode cX2_unpick 53 = .ok (.iload_n 3, 1) := by decide +kernel
theorem dX2_unpick_54 : decode cX2_unpick 54 = .ok (.aload_n 0, 1) := by decide +kernel
theorem dX2_unpick_55 : decode cX2_unpick 55 = .ok (.getfield 15, 3) := by decide +kernel
theorem dX2_unpick_58 : decode cX2_unpick 58 = .ok (.iload 5, 2) := by decide +kernel
theorem dX2_unpick_60 : decode cX2_unpick 60 = .ok (.invokestatic 35, 3) := by decide +kernel
theorem dX2_unpick_63 : decode cX2_unpick 63 = .ok (.invokestatic 39, 3) := by decide +kernel
theorem dX2_unpick_66 : decode cX2_unpick 66 = .ok (.aload_n 0, 1) := by decide +kernel
theorem dX2_unpick_67 : decode cX2_unpick 67 = .ok (.getfield 18, 3) := by decide +kernel
theorem dX2_unpick_70 : decode cX2_unpick 70 = .ok (.iload_n 3, 1) := by decide +kernel
theorem dX2_unpick_71 : decode cX2_unpick 71 = .ok (.aload_n 0, 1) := by decide +kernel
theorem dX2_unpick_72 : decode cX2_unpick 72 = .ok (.getfield 18, 3) := by decide +kernel
theorem dX2_unpick_75 : decode cX2_unpick 75 = .ok (.iload 5, 2) := by decide +kernel
theorem dX2_unpick_77 : decode cX2_unpick 77 = .ok (.invokestatic 35, 3) := by decide +kernel
theorem dX2_unpick_80 : decode cX2_unpick 80 = .ok (.iload_n 2, 1) := by decide +kernel
theorem dX2_unpick_81 : decode cX2_unpick 81 = .ok (.invokestatic 54, 3) := by decide +kernel
theorem dX2_unpick_84 : decode cX2_unpick 84 = .ok (.invokestatic 39, 3) := by decide +kernel
theorem dX2_unpick_87 : decode cX2_unpick 87 = .ok (.iload 4, 2) := by decide +kernel
theorem dX2_unpick_89 : decode cX2_unpick 89 = .ok (.aload_n 0, 1) := by decide +kernel
theorem dX2_unpick_90 : decode cX2_unpick 90 = .ok (.iload 5, 2) := by decide +kernel
theorem dX2_unpick_92 : decode cX2_unpick 92 = .ok (.invokevirtual 58, 3) := by decide +kernel
theorem dX2_unpick_95 : decode cX2_unpick 95 = .ok (.ifCond .eq 9, 3) := by decide +kernel
theorem dX2_unpick_98 : decode cX2_unpick 98 = .ok (.iconst 1, 1) := by decide +kernel
theorem dX2_unpick_99 : decode cX2_unpick 99 = .ok (.iload_n 3, 1) := by decide +kernel
theorem dX2_unpick_100 : decode cX2_unpick 100 = .ok (.ishl, 1) := by decide +kernel
theorem dX2_unpick_101 : decode cX2_unpick 101 = .ok (.goto 4, 3) := by decide +kernel
theorem dX2_unpick_104 : decode cX2_unpick 104 = .ok (.iconst 0, 1) := by decide +kernel
theorem dX2_unpick_105 : decode cX2_unpick 105 = .ok (.ior, 1) := by decide +kernel
theorem dX2_unpick_106 : decode cX2_unpick 106 = .ok (.istore 4, 2) := by decide +kernel
theorem dX2_unpick_108 : decode cX2_unpick 108 = .ok (.iinc 3 1, 3) := by decide +kernel
theorem dX2_unpick_111 : decode cX2_unpick 111 = .ok (.iinc 5 1, 3) := by decide +kernel
theorem dX2_unpick_114 : decode cX2_unpick 114 = .ok (.goto (-100), 3) := by decide +kernel
theorem dX2_unpick_117 : decode cX2_unpick 117 = .ok (.aload_n 0, 1) := by decide +kernel
theorem dX2_unpick_118 : decode cX2_unpick 118 = .ok (.iload_n 3, 1) := by decide +kernel
theorem dX2_unpick_119 : decode cX2_unpick 119 = .ok (.putfield 21, 3) := by decide +kernel
theorem dX2_unpick_122 : decode cX2_unpick 122 = .ok (.aload_n 0, 1) := by decide +kernel
theorem dX2_unpick_123 : decode cX2_unpick 123 = .ok (.iload 4, 2) := by decide +kernel
theorem dX2_unpick_125 : decode cX2_unpick 125 = .ok (.putfield 29, 3) := by decide +kernel
theorem dX2_unpick_128 : decode cX2_unpick 128 = .ok (.iload_n 2, 1) := by decide +kernel
theorem dX2_unpick_129 : decode cX2_unpick 129 = .ok (.invokestatic 62, 3) := by decide +kernel
theorem dX2_unpick_132 : decode cX2_unpick 132 = .ok (.ireturn, 1) := by decide +kernel
set_option maxRecDepth 20000 in
theorem ggX2_closedUp_J6_bitCount_0f7a4 : GoodIn wsX2_closedUp wsJ6_bitCount_0f7a4 := goodIn_r _ [4, 5, 6, 7] (by decide +kernel) (by decide +kernel)
set_option maxRecDepth 20000 in
theorem gX2_closedUp_J6_bitCount_0f7a4 : GoodIn wsX2_closedUp (va_wsS RX2 62 yJ6_bitCount_0f7a4 wsJ6_bitCount_0f7a4) := goodIn_app (goodIn_of _ (by decide +kernel)) ggX2_closedUp_J6_bitCount_0f7a4
theorem dX2_closedUp_0 : decode cX2_closedUp 0 = .ok (.iload_n 0, 1) := by decide +kernel
theorem dX2_closedUp_1 : decode cX2_closedUp 1 = .ok (.iconst (-1), 1) := by decide +kernel
theorem dX2_closedUp_2 : decode cX2_closedUp 2 = .ok (.if_icmp .ne 7, 3) := by decide +kernel
theorem dX2_closedUp_5 : decode cX2_closedUp 5 = .ok (.iconst (-1), 1) := by decide +kernel
theorem dX2_closedUp_6 : decode cX2_closedUp 6 = .ok (.goto 15, 3) := by decide +kernel
theorem dX2_closedUp_9 : decode cX2_closedUp 9 = .ok (.iload_n 0, 1) := by decide +kernel
theorem dX2_closedUp_10 : decode cX2_closedUp 10 = .ok (.iload_n 1, 1) := by decide +kernel
theorem dX2_closedUp_11 : decode cX2_closedUp 11 = .ok (.iconst 1, 1) := by decide +kernel
theorem dX2_closedUp_12 : decode cX2_closedUp 12 = .ok (.iload_n 0, 1) := by decide +kernel
theorem dX2_closedUp_13 : decode cX2_closedUp 13 = .ok (.ishl, 1) := by decide +kernel
theorem dX2_closedUp_14 : decode cX2_closedUp 14 = .ok (.iconst 1, 1) := by decide +kernel
theorem dX2_closedUp_15 : decode cX2_closedUp 15 = .ok (.isub, 1) := by decide +kernel
theorem dX2_closedUp_16 : decode cX2_closedUp 16 = .ok (.iand, 1) := by decide +kernel
theorem dX2_closedUp_17 : decode cX2_closedUp 17 = .ok (.invokestatic 62, 3) := by decide +kernel
theorem dX2_closedUp_20 : decode cX2_closedUp 20 = .ok (.isub, 1) := by decide +kernel
theorem dX2_closedUp_21 : decode cX2_closedUp 21 = .ok (.ireturn, 1) := by decide +kernel
set_option maxRecDepth 20000 in
theorem ggX2_looseOnes_X5_at : GoodIn wsX2_looseOnes wsX5_at := goodIn_r _ [6] (by decide +kernel) (by decide +kernel)
set_option maxRecDepth 20000 in
theorem gX2_looseOnes_X5_at_n35 : GoodIn wsX2_looseOnes (wsX5_at) := ggX2_looseOnes_X5_at
set_option maxRecDepth 20000 in
theorem ggX2_looseOnes_X5_isIn : GoodIn wsX2_looseOnes wsX5_isIn := goodIn_r _ [8] (by decide +kernel) (by decide +kernel)
set_option maxRecDepth 20000 in
theorem gX2_looseOnes_X5_isIn_n32 : GoodIn wsX2_looseOnes (wsX5_isIn) := ggX2_looseOnes_X5_isIn
theorem dX2_looseOnes_0 : decode cX2_looseOnes 0 = .ok (.iconst 0, 1) := by decide +kernel
theorem dX2_looseOnes_1 : decode cX2_looseOnes 1 = .ok (.istore_n 1, 1) := by decide +kernel
theorem dX2_looseOnes_2 : decode cX2_looseOnes 2 = .ok (.iconst 0, 1) := by decide +kernel
theorem dX2_looseOnes_3 : decode cX2_looseOnes 3 = .ok (.istore_n 2, 1) := by decide +kernel
theorem dX2_looseOnes_4 : decode cX2_looseOnes 4 = .ok (.iload_n 2, 1) := by decide +kernel
theorem dX2_looseOnes_5 : decode cX2_looseOnes 5 = .ok (.aload_n 0, 1) := by decide +kernel
theorem dX2_looseOnes_6 : decode cX2_looseOnes 6 = .ok (.getfield 21, 3) := by decide +kernel
theorem dX2_looseOnes_9 : decode cX2_looseOnes 9 = .ok (.if_icmp .ge 35, 3) := by decide +kernel
theorem dX2_looseOnes_12 : decode cX2_looseOnes 12 = .ok (.aload_n 0, 1) := by decide +kernel
theorem dX2_looseOnes_13 : decode cX2_looseOnes 13 = .ok (.getfield 29, 3) := by decide +kernel
theorem dX2_looseOnes_16 : decode cX2_looseOnes 16 = .ok (.iload_n 1, 1) := by decide +kernel
theorem dX2_looseOnes_17 : decode cX2_looseOnes 17 = .ok (.ior, 1) := by decide +kernel
theorem dX2_looseOnes_18 : decode cX2_looseOnes 18 = .ok (.aload_n 0, 1) := by decide +kernel
theorem dX2_looseOnes_19 : decode cX2_looseOnes 19 = .ok (.getfield 18, 3) := by decide +kernel
theorem dX2_looseOnes_22 : decode cX2_looseOnes 22 = .ok (.iload_n 2, 1) := by decide +kernel
theorem dX2_looseOnes_23 : decode cX2_looseOnes 23 = .ok (.invokestatic 35, 3) := by decide +kernel
theorem dX2_looseOnes_26 : decode cX2_looseOnes 26 = .ok (.invokestatic 32, 3) := by decide +kernel
theorem dX2_looseOnes_29 : decode cX2_looseOnes 29 = .ok (.ifCond .eq 9, 3) := by decide +kernel
theorem dX2_looseOnes_32 : decode cX2_looseOnes 32 = .ok (.iload_n 1, 1) := by decide +kernel
theorem dX2_looseOnes_33 : decode cX2_looseOnes 33 = .ok (.iconst 1, 1) := by decide +kernel
theorem dX2_looseOnes_34 : decode cX2_looseOnes 34 = .ok (.iload_n 2, 1) := by decide +kernel
theorem dX2_looseOnes_35 : decode cX2_looseOnes 35 = .ok (.ishl, 1) := by decide +kernel
theorem dX2_looseOnes_36 : decode cX2_looseOnes 36 = .ok (.ior, 1) := by decide +kernel
theorem dX2_looseOnes_37 : decode cX2_looseOnes 37 = .ok (.istore_n 1, 1) := by decide +kernel
theorem dX2_looseOnes_38 : decode cX2_looseOnes 38 = .ok (.iinc 2 1, 3) := by decide +kernel
theorem dX2_looseOnes_41 : decode cX2_looseOnes 41 = .ok (.goto (-37), 3) := by decide +kernel
theorem dX2_looseOnes_44 : decode cX2_looseOnes 44 = .ok (.iload_n 1, 1) := by decide +kernel
theorem dX2_looseOnes_45 : decode cX2_looseOnes 45 = .ok (.ireturn, 1) := by decide +kernel
set_option maxRecDepth 20000 in
theorem ggX2_withAnchors_X5_at : GoodIn wsX2_withAnchors wsX5_at := goodIn_r _ [5] (by decide +kernel) (by decide +kernel)
set_option maxRecDepth 20000 in
theorem gX2_withAnchors_X5_at_n35 : GoodIn wsX2_withAnchors (wsX5_at) := ggX2_withAnchors_X5_at
set_option maxRecDepth 20000 in
theorem ggX2_withAnchors_X5_isIn : GoodIn wsX2_withAnchors wsX5_isIn := goodIn_r _ [7] (by decide +kernel) (by decide +kernel)
set_option maxRecDepth 20000 in
theorem gX2_withAnchors_X5_isIn_n32 : GoodIn wsX2_withAnchors (wsX5_isIn) := ggX2_withAnchors_X5_isIn
theorem dX2_withAnchors_0 : decode cX2_withAnchors 0 = .ok (.iload_n 1, 1) := by decide +kernel
theorem dX2_withAnchors_1 : decode cX2_withAnchors 1 = .ok (.istore_n 2, 1) := by decide +kernel
theorem dX2_withAnchors_2 : decode cX2_withAnchors 2 = .ok (.aload_n 0, 1) := by decide +kernel
theorem dX2_withAnchors_3 : decode cX2_withAnchors 3 = .ok (.getfield 21, 3) := by decide +kernel
theorem dX2_withAnchors_6 : decode cX2_withAnchors 6 = .ok (.iconst 1, 1) := by decide +kernel
theorem dX2_withAnchors_7 : decode cX2_withAnchors 7 = .ok (.isub, 1) := by decide +kernel
theorem dX2_withAnchors_8 : decode cX2_withAnchors 8 = .ok (.istore_n 3, 1) := by decide +kernel
theorem dX2_withAnchors_9 : decode cX2_withAnchors 9 = .ok (.iload_n 3, 1) := by decide +kernel
theorem dX2_withAnchors_10 : decode cX2_withAnchors 10 = .ok (.ifCond .lt 40, 3) := by decide +kernel
theorem dX2_withAnchors_13 : decode cX2_withAnchors 13 = .ok (.aload_n 0, 1) := by decide +kernel
theorem dX2_withAnchors_14 : decode cX2_withAnchors 14 = .ok (.getfield 18, 3) := by decide +kernel
theorem dX2_withAnchors_17 : decode cX2_withAnchors 17 = .ok (.iload_n 3, 1) := by decide +kernel
theorem dX2_withAnchors_18 : decode cX2_withAnchors 18 = .ok (.invokestatic 35, 3) := by decide +kernel
theorem dX2_withAnchors_21 : decode cX2_withAnchors 21 = .ok (.istore 4, 2) := by decide +kernel
theorem dX2_withAnchors_23 : decode cX2_withAnchors 23 = .ok (.iload_n 2, 1) := by decide +kernel
theorem dX2_withAnchors_24 : decode cX2_withAnchors 24 = .ok (.iload_n 3, 1) := by decide +kernel
theorem dX2_withAnchors_25 : decode cX2_withAnchors 25 = .ok (.invokestatic 32, 3) := by decide +kernel
theorem dX2_withAnchors_28 : decode cX2_withAnchors 28 = .ok (.ifCond .eq 16, 3) := by decide +kernel
theorem dX2_withAnchors_31 : decode cX2_withAnchors 31 = .ok (.iload 4, 2) := by decide +kernel
theorem dX2_withAnchors_33 : decode cX2_withAnchors 33 = .ok (.iconst (-1), 1) := by decide +kernel
theorem dX2_withAnchors_34 : decode cX2_withAnchors 34 = .ok (.if_icmp .eq 10, 3) := by decide +kernel
theorem dX2_withAnchors_37 : decode cX2_withAnchors 37 = .ok (.iload_n 2, 1) := by decide +kernel
theorem dX2_withAnchors_38 : decode cX2_withAnchors 38 = .ok (.iconst 1, 1) := by decide +kernel
theorem dX2_withAnchors_39 : decode cX2_withAnchors 39 = .ok (.iload 4, 2) := by decide +kernel
theorem dX2_withAnchors_41 : decode cX2_withAnchors 41 = .ok (.ishl, 1) := by decide +kernel
theorem dX2_withAnchors_42 : decode cX2_withAnchors 42 = .ok (.ior, 1) := by decide +kernel
theorem dX2_withAnchors_43 : decode cX2_withAnchors 43 = .ok (.istore_n 2, 1) := by decide +kernel
theorem dX2_withAnchors_44 : decode cX2_withAnchors 44 = .ok (.iinc 3 (-1), 3) := by decide +kernel
theorem dX2_withAnchors_47 : decode cX2_withAnchors 47 = .ok (.goto (-38), 3) := by decide +kernel
theorem dX2_withAnchors_50 : decode cX2_withAnchors 50 = .ok (.iload_n 2, 1) := by decide +kernel
theorem dX2_withAnchors_51 : decode cX2_withAnchors 51 = .ok (.ireturn, 1) := by decide +kernel
set_option maxRecDepth 20000 in
theorem ggX2_topmostBelow_X5_isIn : GoodIn wsX2_topmostBelow wsX5_isIn := goodIn_r _ [4] (by decide +kernel) (by decide +kernel)
set_option maxRecDepth 20000 in
theorem gX2_topmostBelow_X5_isIn_n32 : GoodIn wsX2_topmostBelow (wsX5_isIn) := ggX2_topmostBelow_X5_isIn
set_option maxRecDepth 20000 in
theorem ggX2_topmostBelow_X2_topOf : GoodIn wsX2_topmostBelow wsX2_topOf := goodIn_r _ [9, 10, 11, 3, 12, 2, 4, 13, 14, 15, 16, 17] (by decide +kernel) (by decide +kernel)
set_option maxRecDepth 20000 in
theorem gX2_topmostBelow_X2_topOf : GoodIn wsX2_topmostBelow (wsV RX2 67 RX2 yX2_topOf wsX2_topOf) := goodIn_app (goodIn_of _ (by decide +kernel)) ggX2_topmostBelow_X2_topOf
theorem dX2_topmostBelow_0 : decode cX2_topmostBelow 0 = .ok (.iconst 0, 1) := by decide +kernel
theorem dX2_topmostBelow_1 : decode cX2_topmostBelow 1 = .ok (.istore_n 3, 1) := by decide +kernel
theorem dX2_topmostBelow_2 : decode cX2_topmostBelow 2 = .ok (.iconst 0, 1) := by decide +kernel
theorem dX2_topmostBelow_3 : decode cX2_topmostBelow 3 = .ok (.istore 4, 2) := by decide +kernel
theorem dX2_topmostBelow_5 : decode cX2_topmostBelow 5 = .ok (.iload 4, 2) := by decide +kernel
theorem dX2_topmostBelow_7 : decode cX2_topmostBelow 7 = .ok (.aload_n 0, 1) := by decide +kernel
theorem dX2_topmostBelow_8 : decode cX2_topmostBelow 8 = .ok (.getfield 21, 3) := by decide +kernel
theorem dX2_topmostBelow_11 : decode cX2_topmostBelow 11 = .ok (.if_icmp .ge 30, 3) := by decide +kernel
theorem dX2_topmostBelow_14 : decode cX2_topmostBelow 14 = .ok (.iload_n 1, 1) := by decide +kernel
theorem dX2_topmostBelow_15 : decode cX2_topmostBelow 15 = .ok (.iload 4, 2) := by decide +kernel
theorem dX2_topmostBelow_17 : decode cX2_topmostBelow 17 = .ok (.invokestatic 32, 3) := by decide +kernel
theorem dX2_topmostBelow_20 : decode cX2_topmostBelow 20 = .ok (.ifCond .eq 15, 3) := by decide +kernel
theorem dX2_topmostBelow_23 : decode cX2_topmostBelow 23 = .ok (.iload_n 3, 1) := by decide +kernel
theorem dX2_topmostBelow_24 : decode cX2_topmostBelow 24 = .ok (.iconst 1, 1) := by decide +kernel
theorem dX2_topmostBelow_25 : decode cX2_topmostBelow 25 = .ok (.aload_n 0, 1) := by decide +kernel
theorem dX2_topmostBelow_26 : decode cX2_topmostBelow 26 = .ok (.iload 4, 2) := by decide +kernel
theorem dX2_topmostBelow_28 : decode cX2_topmostBelow 28 = .ok (.iload_n 2, 1) := by decide +kernel
theorem dX2_topmostBelow_29 : decode cX2_topmostBelow 29 = .ok (.invokevirtual 67, 3) := by decide +kernel
theorem dX2_topmostBelow_32 : decode cX2_topmostBelow 32 = .ok (.ishl, 1) := by decide +kernel
theorem dX2_topmostBelow_33 : decode cX2_topmostBelow 33 = .ok (.ior, 1) := by decide +kernel
theorem dX2_topmostBelow_34 : decode cX2_topmostBelow 34 = .ok (.istore_n 3, 1) := by decide +kernel
theorem dX2_topmostBelow_35 : decode cX2_topmostBelow 35 = .ok (.iinc 4 1, 3) := by decide +kernel
theorem dX2_topmostBelow_38 : decode cX2_topmostBelow 38 = .ok (.goto (-33), 3) := by decide +kernel
theorem dX2_topmostBelow_41 : decode cX2_topmostBelow 41 = .ok (.iload_n 3, 1) := by decide +kernel
theorem dX2_topmostBelow_42 : decode cX2_topmostBelow 42 = .ok (.ireturn, 1) := by decide +kernel
set_option maxRecDepth 20000 in
theorem ggX2_topOf_X5_at : GoodIn wsX2_topOf wsX5_at := goodIn_r _ [4] (by decide +kernel) (by decide +kernel)
set_option maxRecDepth 20000 in
theorem gX2_topOf_X5_at_n35 : GoodIn wsX2_topOf (wsX5_at) := ggX2_topOf_X5_at
set_option maxRecDepth 20000 in
theorem ggX2_topOf_X5_isIn : GoodIn wsX2_topOf wsX5_isIn := goodIn_r _ [6] (by decide +kernel) (by decide +kernel)
set_option maxRecDepth 20000 in
theorem gX2_topOf_X5_isIn_n32 : GoodIn wsX2_topOf (wsX5_isIn) := ggX2_topOf_X5_isIn
theorem dX2_topOf_0 : decode cX2_topOf 0 = .ok (.iload_n 1, 1) := by decide +kernel
theorem dX2_topOf_1 : decode cX2_topOf 1 = .ok (.istore_n 3, 1) := by decide +kernel
theorem dX2_topOf_2 : decode cX2_topOf 2 = .ok (.iload_n 1, 1) := by decide +kernel
theorem dX2_topOf_3 : decode cX2_topOf 3 = .ok (.iconst 1, 1) := by decide +kernel
theorem dX2_topOf_4 : decode cX2_topOf 4 = .ok (.isub, 1) := by decide +kernel
theorem dX2_topOf_5 : decode cX2_topOf 5 = .ok (.istore 4, 2) := by decide +kernel
theorem dX2_topOf_7 : decode cX2_topOf 7 = .ok (.iload 4, 2) := by decide +kernel
theorem dX2_topOf_9 : decode cX2_topOf 9 = .ok (.ifCond .lt 34, 3) := by decide +kernel
theorem dX2_topOf_12 : decode cX2_topOf 12 = .ok (.aload_n 0, 1) := by decide +kernel
theorem dX2_topOf_13 : decode cX2_topOf 13 = .ok (.getfield 18, 3) := by decide +kernel
theorem dX2_topOf_16 : decode cX2_topOf 16 = .ok (.iload_n 3, 1) := by decide +kernel
theorem dX2_topOf_17 : decode cX2_topOf 17 = .ok (.invokestatic 35, 3) := by decide +kernel
theorem dX2_topOf_20 : decode cX2_topOf 20 = .ok (.iload 4, 2) := by decide +kernel
theorem dX2_topOf_22 : decode cX2_topOf 22 = .ok (.if_icmp .ne 15, 3) := by decide +kernel
theorem dX2_topOf_25 : decode cX2_topOf 25 = .ok (.iload_n 2, 1) := by decide +kernel
theorem dX2_topOf_26 : decode cX2_topOf 26 = .ok (.iload 4, 2) := by decide +kernel
theorem dX2_topOf_28 : decode cX2_topOf 28 = .ok (.invokestatic 32, 3) := by decide +kernel
theorem dX2_topOf_31 : decode cX2_topOf 31 = .ok (.ifCond .ne 6, 3) := by decide +kernel
theorem dX2_topOf_34 : decode cX2_topOf 34 = .ok (.iload 4, 2) := by decide +kernel
theorem dX2_topOf_36 : decode cX2_topOf 36 = .ok (.istore_n 3, 1) := by decide +kernel
theorem dX2_topOf_37 : decode cX2_topOf 37 = .ok (.iinc 4 (-1), 3) := by decide +kernel
theorem dX2_topOf_40 : decode cX2_topOf 40 = .ok (.goto (-33), 3) := by decide +kernel
theorem dX2_topOf_43 : decode cX2_topOf 43 = .ok (.iload_n 3, 1) := by decide +kernel
theorem dX2_topOf_44 : decode cX2_topOf 44 = .ok (.ireturn, 1) := by decide +kernel
set_option maxRecDepth 20000 in
theorem ggX2_shortestPattern_X2_repeatsBy : GoodIn wsX2_shortestPattern wsX2_repeatsBy := goodIn_r _ [6, 1, 7, 8, 9, 10, 5, 11, 12, 13, 14, 15, 16, 17, 18, 19, 20, 21, 22, 23, 24, 25, 26] (by decide +kernel) (by decide +kernel)
set_option maxRecDepth 20000 in
theorem gX2_shortestPattern_X2_repeatsBy : GoodIn wsX2_shortestPattern (wsV RX2 70 RX2 yX2_repeatsBy wsX2_repeatsBy) := goodIn_app (goodIn_of _ (by decide +kernel)) ggX2_shortestPattern_X2_repeatsBy
theorem dX2_shortestPattern_0 : decode cX2_shortestPattern 0 = .ok (.iconst 1, 1) := by decide +kernel
theorem dX2_shortestPattern_1 : decode cX2_shortestPattern 1 = .ok (.istore_n 1, 1) := by decide +kernel
theorem dX2_shortestPattern_2 : decode cX2_shortestPattern 2 = .ok (.iload_n 1, 1) := by decide +kernel
theorem dX2_shortestPattern_3 : decode cX2_shortestPattern 3 = .ok (.aload_n 0, 1) := by decide +kernel
theorem dX2_shortestPattern_4 : decode cX2_shortestPattern 4 = .ok (.getfield 21, 3) := by decide +kernel
theorem dX2_shortestPattern_7 : decode cX2_shortestPattern 7 = .ok (.if_icmp .ge 19, 3) := by decide +kernel
theorem dX2_shortestPattern_10 : decode cX2_shortestPattern 10 = .ok (.aload_n 0, 1) := by decide +kernel
theorem dX2_shortestPattern_11 : decode cX2_shortestPattern 11 = .ok (.iload_n 1, 1) := by decide +kernel
theorem dX2_shortestPattern_12 : decode cX2_shortestPattern 12 = .ok (.invokevirtual 70, 3) := by decide +kernel
theorem dX2_shortestPattern_15 : decode cX2_shortestPattern 15 = .ok (.ifCond .eq 5, 3) := by decide +kernel
theorem dX2_shortestPattern_18 : decode cX2_shortestPattern 18 = .ok (.iload_n 1, 1) := by decide +kernel
theorem dX2_shortestPattern_19 : decode cX2_shortestPattern 19 = .ok (.ireturn, 1) := by decide +kernel
theorem dX2_shortestPattern_20 : decode cX2_shortestPattern 20 = .ok (.iinc 1 1, 3) := by decide +kernel
theorem dX2_shortestPattern_23 : decode cX2_shortestPattern 23 = .ok (.goto (-21), 3) := by decide +kernel
theorem dX2_shortestPattern_26 : decode cX2_shortestPattern 26 = .ok (.aload_n 0, 1) := by decide +kernel
theorem dX2_shortestPattern_27 : decode cX2_shortestPattern 27 = .ok (.getfield 21, 3) := by decide +kernel
theorem dX2_shortestPattern_30 : decode cX2_shortestPattern 30 = .ok (.ireturn, 1) := by decide +kernel
set_option maxRecDepth 20000 in
theorem ggX2_repeatsBy_X2_areAlike : GoodIn wsX2_repeatsBy wsX2_areAlike := goodIn_r _ [7, 8, 9, 10, 6, 11, 12, 13, 14, 15, 18, 19, 20, 21, 22] (by decide +kernel) (by decide +kernel)
set_option maxRecDepth 20000 in
theorem gX2_repeatsBy_X2_areAlike : GoodIn wsX2_repeatsBy (wsV RX2 73 RX2 yX2_areAlike wsX2_areAlike) := goodIn_app (goodIn_of _ (by decide +kernel)) ggX2_repeatsBy_X2_areAlike
set_option maxRecDepth 20000 in
theorem ggX2_repeatsBy_X5_at : GoodIn wsX2_repeatsBy wsX5_at := goodIn_r _ [17] (by decide +kernel) (by decide +kernel)
set_option maxRecDepth 20000 in
theorem gX2_repeatsBy_X5_at_n35 : GoodIn wsX2_repeatsBy (wsX5_at) := ggX2_repeatsBy_X5_at
theorem dX2_repeatsBy_0 : decode cX2_repeatsBy 0 = .ok (.iconst 0, 1) := by decide +kernel
theorem dX2_repeatsBy_1 : decode cX2_repeatsBy 1 = .ok (.istore_n 2, 1) := by decide +kernel
theorem dX2_repeatsBy_2 : decode cX2_repeatsBy 2 = .ok (.iload_n 2, 1) := by decide +kernel
theorem dX2_repeatsBy_3 : decode cX2_repeatsBy 3 = .ok (.aload_n 0, 1) := by decide +kernel
theorem dX2_repeatsBy_4 : decode cX2_repeatsBy 4 = .ok (.getfield 21, 3) := by decide +kernel
theorem dX2_repeatsBy_7 : decode cX2_repeatsBy 7 = .ok (.if_icmp .ge 58, 3) := by decide +kernel
theorem dX2_repeatsBy_10 : decode cX2_repeatsBy 10 = .ok (.iload_n 2, 1) := by decide +kernel
theorem dX2_repeatsBy_11 : decode cX2_repeatsBy 11 = .ok (.iconst 1, 1) := by decide +kernel
theorem dX2_repeatsBy_12 : decode cX2_repeatsBy 12 = .ok (.iadd, 1) := by decide +kernel
theorem dX2_repeatsBy_13 : decode cX2_repeatsBy 13 = .ok (.istore_n 3, 1) := by decide +kernel
theorem dX2_repeatsBy_14 : decode cX2_repeatsBy 14 = .ok (.iload_n 3, 1) := by decide +kernel
theorem dX2_repeatsBy_15 : decode cX2_repeatsBy 15 = .ok (.aload_n 0, 1) := by decide +kernel
theorem dX2_repeatsBy_16 : decode cX2_repeatsBy 16 = .ok (.getfield 21, 3) := by decide +kernel
theorem dX2_repeatsBy_19 : decode cX2_repeatsBy 19 = .ok (.if_icmp .ge 40, 3) := by decide +kernel
theorem dX2_repeatsBy_22 : decode cX2_repeatsBy 22 = .ok (.aload_n 0, 1) := by decide +kernel
theorem dX2_repeatsBy_23 : decode cX2_repeatsBy 23 = .ok (.iload_n 2, 1) := by decide +kernel
theorem dX2_repeatsBy_24 : decode cX2_repeatsBy 24 = .ok (.iload_n 3, 1) := by decide +kernel
theorem dX2_repeatsBy_25 : decode cX2_repeatsBy 25 = .ok (.iload_n 1, 1) := by decide +kernel
theorem dX2_repeatsBy_26 : decode cX2_repeatsBy 26 = .ok (.invokevirtual 73, 3) := by decide +kernel
theorem dX2_repeatsBy_29 : decode cX2_repeatsBy 29 = .ok (.ifCond .eq 24, 3) := by decide +kernel
theorem dX2_repeatsBy_32 : decode cX2_repeatsBy 32 = .ok (.aload_n 0, 1) := by decide +kernel
theorem dX2_repeatsBy_33 : decode cX2_repeatsBy 33 = .ok (.getfield 9, 3) := by decide +kernel
theorem dX2_repeatsBy_36 : decode cX2_repeatsBy 36 = .ok (.iload_n 2, 1) := by decide +kernel
theorem dX2_repeatsBy_37 : decode cX2_repeatsBy 37 = .ok (.invokestatic 35, 3) := by decide +kernel
theorem dX2_repeatsBy_40 : decode cX2_repeatsBy 40 = .ok (.aload_n 0, 1) := by decide +kernel
theorem dX2_repeatsBy_41 : decode cX2_repeatsBy 41 = .ok (.getfield 9, 3) := by decide +kernel
theorem dX2_repeatsBy_44 : decode cX2_repeatsBy 44 = .ok (.iload_n 3, 1) := by decide +kernel
theorem dX2_repeatsBy_45 : decode cX2_repeatsBy 45 = .ok (.invokestatic 35, 3) := by decide +kernel
theorem dX2_repeatsBy_48 : decode cX2_repeatsBy 48 = .ok (.if_icmp .eq 5, 3) := by decide +kernel
theorem dX2_repeatsBy_51 : decode cX2_repeatsBy 51 = .ok (.iconst 0, 1) := by decide +kernel
theorem dX2_repeatsBy_52 : decode cX2_repeatsBy 52 = .ok (.ireturn, 1) := by decide +kernel
theorem dX2_repeatsBy_53 : decode cX2_repeatsBy 53 = .ok (.iinc 3 1, 3) := by decide +kernel
theorem dX2_repeatsBy_56 : decode cX2_repeatsBy 56 = .ok (.goto (-42), 3) := by decide +kernel
theorem dX2_repeatsBy_59 : decode cX2_repeatsBy 59 = .ok (.iinc 2 1, 3) := by decide +kernel
theorem dX2_repeatsBy_62 : decode cX2_repeatsBy 62 = .ok (.goto (-60), 3) := by decide +kernel
theorem dX2_repeatsBy_65 : decode cX2_repeatsBy 65 = .ok (.iconst 1, 1) := by decide +kernel
theorem dX2_repeatsBy_66 : decode cX2_repeatsBy 66 = .ok (.ireturn, 1) := by decide +kernel
set_option maxRecDepth 20000 in
theorem ggX2_areAlike_X2_isEaten : GoodIn wsX2_areAlike wsX2_isEaten := goodIn_r _ [5, 6, 7, 8, 9, 10, 11, 12, 13, 14] (by decide +kernel) (by decide +kernel)
set_option maxRecDepth 20000 in
theorem gX2_areAlike_X2_isEaten : GoodIn wsX2_areAlike (wsV RX2 58 RX2 yX2_isEaten wsX2_isEaten) := goodIn_app (goodIn_of _ (by decide +kernel)) ggX2_areAlike_X2_isEaten
theorem dX2_areAlike_0 : decode cX2_areAlike 0 = .ok (.iload_n 3, 1) := by decide +kernel
theorem dX2_areAlike_1 : decode cX2_areAlike 1 = .ok (.ifCond .le 31, 3) := by decide +kernel
theorem dX2_areAlike_4 : decode cX2_areAlike 4 = .ok (.iload_n 1, 1) := by decide +kernel
theorem dX2_areAlike_5 : decode cX2_areAlike 5 = .ok (.iload_n 2, 1) := by decide +kernel
theorem dX2_areAlike_6 : decode cX2_areAlike 6 = .ok (.isub, 1) := by decide +kernel
theorem dX2_areAlike_7 : decode cX2_areAlike 7 = .ok (.iload_n 3, 1) := by decide +kernel
theorem dX2_areAlike_8 : decode cX2_areAlike 8 = .ok (.irem, 1) := by decide +kernel
theorem dX2_areAlike_9 : decode cX2_areAlike 9 = .ok (.ifCond .ne 23, 3) := by decide +kernel
theorem dX2_areAlike_12 : decode cX2_areAlike 12 = .ok (.aload_n 0, 1) := by decide +kernel
theorem dX2_areAlike_13 : decode cX2_areAlike 13 = .ok (.iload_n 1, 1) := by decide +kernel
theorem dX2_areAlike_14 : decode cX2_areAlike 14 = .ok (.invokevirtual 58, 3) := by decide +kernel
theorem dX2_areAlike_17 : decode cX2_areAlike 17 = .ok (.ifCond .ne 15, 3) := by decide +kernel
theorem dX2_areAlike_20 : decode cX2_areAlike 20 = .ok (.aload_n 0, 1) := by decide +kernel
theorem dX2_areAlike_21 : decode cX2_areAlike 21 = .ok (.iload_n 2, 1) := by decide +kernel
theorem dX2_areAlike_22 : decode cX2_areAlike 22 = .ok (.invokevirtual 58, 3) := by decide +kernel
theorem dX2_areAlike_25 : decode cX2_areAlike 25 = .ok (.ifCond .ne 7, 3) := by decide +kernel
theorem dX2_areAlike_28 : decode cX2_areAlike 28 = .ok (.iconst 1, 1) := by decide +kernel
theorem dX2_areAlike_29 : decode cX2_areAlike 29 = .ok (.goto 4, 3) := by decide +kernel
theorem dX2_areAlike_32 : decode cX2_areAlike 32 = .ok (.iconst 0, 1) := by decide +kernel
theorem dX2_areAlike_33 : decode cX2_areAlike 33 = .ok (.ireturn, 1) := by decide +kernel
set_option maxRecDepth 20000 in
theorem ggX2_coloursOfHole_X2_shortestPattern : GoodIn wsX2_coloursOfHole wsX2_shortestPattern := goodIn_r _ [7, 1, 8, 9, 10, 6, 11, 2, 12, 13, 14, 15, 16, 17, 18, 19, 20, 21, 22, 23, 24, 25, 26, 27, 28, 29, 30] (by decide +kernel) (by decide +kernel)
set_option maxRecDepth 20000 in
theorem gX2_coloursOfHole_X2_shortestPattern : GoodIn wsX2_coloursOfHole (wsV RX2 77 RX2 yX2_shortestPattern wsX2_shortestPattern) := goodIn_app (goodIn_of _ (by decide +kernel)) ggX2_coloursOfHole_X2_shortestPattern
set_option maxRecDepth 20000 in
theorem ggX2_coloursOfHole_X2_isEaten : GoodIn wsX2_coloursOfHole wsX2_isEaten := goodIn_r _ [19, 20, 21, 22, 23, 26, 27, 28, 29, 30] (by decide +kernel) (by decide +kernel)
set_option maxRecDepth 20000 in
theorem gX2_coloursOfHole_X2_isEaten : GoodIn wsX2_coloursOfHole (wsV RX2 58 RX2 yX2_isEaten wsX2_isEaten) := goodIn_app (goodIn_of _ (by decide +kernel)) ggX2_coloursOfHole_X2_isEaten
set_option maxRecDepth 20000 in
theorem ggX2_coloursOfHole_X5_at : GoodIn wsX2_coloursOfHole wsX5_at := goodIn_r _ [25] (by decide +kernel) (by decide +kernel)
set_option maxRecDepth 20000 in
theorem gX2_coloursOfHole_X5_at_n35 : GoodIn wsX2_coloursOfHole (wsX5_at) := ggX2_coloursOfHole_X5_at
theorem dX2_coloursOfHole_0 : decode cX2_coloursOfHole 0 = .ok (.aload_n 0, 1) := by decide +kernel
theorem dX2_coloursOfHole_1 : decode cX2_coloursOfHole 1 = .ok (.invokevirtual 77, 3) := by decide +kernel
theorem dX2_coloursOfHole_4 : decode cX2_coloursOfHole 4 = .ok (.istore_n 2, 1) := by decide +kernel
theorem dX2_coloursOfHole_5 : decode cX2_coloursOfHole 5 = .ok (.iconst 0, 1) := by decide +kernel
theorem dX2_coloursOfHole_6 : decode cX2_coloursOfHole 6 = .ok (.istore_n 3, 1) := by decide +kernel
theorem dX2_coloursOfHole_7 : decode cX2_coloursOfHole 7 = .ok (.iload_n 3, 1) := by decide +kernel
theorem dX2_coloursOfHole_8 : decode cX2_coloursOfHole 8 = .ok (.aload_n 0, 1) := by decide +kernel
theorem dX2_coloursOfHole_9 : decode cX2_coloursOfHole 9 = .ok (.getfield 21, 3) := by decide +kernel
theorem dX2_coloursOfHole_12 : decode cX2_coloursOfHole 12 = .ok (.if_icmp .ge 40, 3) := by decide +kernel
theorem dX2_coloursOfHole_15 : decode cX2_coloursOfHole 15 = .ok (.iload_n 2, 1) := by decide +kernel
theorem dX2_coloursOfHole_16 : decode cX2_coloursOfHole 16 = .ok (.ifCond .le 30, 3) := by decide +kernel
theorem dX2_coloursOfHole_19 : decode cX2_coloursOfHole 19 = .ok (.iload_n 3, 1) := by decide +kernel
theorem dX2_coloursOfHole_20 : decode cX2_coloursOfHole 20 = .ok (.iload_n 1, 1) := by decide +kernel
theorem dX2_coloursOfHole_21 : decode cX2_coloursOfHole 21 = .ok (.isub, 1) := by decide +kernel
theorem dX2_coloursOfHole_22 : decode cX2_coloursOfHole 22 = .ok (.iload_n 2, 1) := by decide +kernel
theorem dX2_coloursOfHole_23 : decode cX2_coloursOfHole 23 = .ok (.irem, 1) := by decide +kernel
theorem dX2_coloursOfHole_24 : decode cX2_coloursOfHole 24 = .ok (.ifCond .ne 22, 3) := by decide +kernel
theorem dX2_coloursOfHole_27 : decode cX2_coloursOfHole 27 = .ok (.aload_n 0, 1) := by decide +kernel
theorem dX2_coloursOfHole_28 : decode cX2_coloursOfHole 28 = .ok (.iload_n 3, 1) := by decide +kernel
theorem dX2_coloursOfHole_29 : decode cX2_coloursOfHole 29 = .ok (.invokevirtual 58, 3) := by decide +kernel
theorem dX2_coloursOfHole_32 : decode cX2_coloursOfHole 32 = .ok (.ifCond .ne 14, 3) := by decide +kernel
theorem dX2_coloursOfHole_35 : decode cX2_coloursOfHole 35 = .ok (.iconst 1, 1) := by decide +kernel
theorem dX2_coloursOfHole_36 : decode cX2_coloursOfHole 36 = .ok (.aload_n 0, 1) := by decide +kernel
theorem dX2_coloursOfHole_37 : decode cX2_coloursOfHole 37 = .ok (.getfield 9, 3) := by decide +kernel
theorem dX2_coloursOfHole_40 : decode cX2_coloursOfHole 40 = .ok (.iload_n 3, 1) := by decide +kernel
theorem dX2_coloursOfHole_41 : decode cX2_coloursOfHole 41 = .ok (.invokestatic 35, 3) := by decide +kernel
theorem dX2_coloursOfHole_44 : decode cX2_coloursOfHole 44 = .ok (.ishl, 1) := by decide +kernel
theorem dX2_coloursOfHole_45 : decode cX2_coloursOfHole 45 = .ok (.ireturn, 1) := by decide +kernel
theorem dX2_coloursOfHole_46 : decode cX2_coloursOfHole 46 = .ok (.iinc 3 1, 3) := by decide +kernel
theorem dX2_coloursOfHole_49 : decode cX2_coloursOfHole 49 = .ok (.goto (-42), 3) := by decide +kernel
theorem dX2_coloursOfHole_52 : decode cX2_coloursOfHole 52 = .ok (.bipush 15, 2) := by decide +kernel
theorem dX2_coloursOfHole_54 : decode cX2_coloursOfHole 54 = .ok (.ireturn, 1) := by decide +kernel
set_option maxRecDepth 20000 in
theorem ggX2_tightnessFrom_X5_at : GoodIn wsX2_tightnessFrom wsX5_at := goodIn_r _ [5] (by decide +kernel) (by decide +kernel)
set_option maxRecDepth 20000 in
theorem gX2_tightnessFrom_X5_at_n35 : GoodIn wsX2_tightnessFrom (wsX5_at) := ggX2_tightnessFrom_X5_at
theorem dX2_tightnessFrom_0 : decode cX2_tightnessFrom 0 = .ok (.iconst 0, 1) := by decide +kernel
theorem dX2_tightnessFrom_1 : decode cX2_tightnessFrom 1 = .ok (.istore_n 2, 1) := by decide +kernel
theorem dX2_tightnessFrom_2 : decode cX2_tightnessFrom 2 = .ok (.iload_n 1, 1) := by decide +kernel
theorem dX2_tightnessFrom_3 : decode cX2_tightnessFrom 3 = .ok (.istore_n 3, 1) := by decide +kernel
theorem dX2_tightnessFrom_4 : decode cX2_tightnessFrom 4 = .ok (.iload_n 3, 1) := by decide +kernel
theorem dX2_tightnessFrom_5 : decode cX2_tightnessFrom 5 = .ok (.aload_n 0, 1) := by decide +kernel
theorem dX2_tightnessFrom_6 : decode cX2_tightnessFrom 6 = .ok (.getfield 21, 3) := by decide +kernel
theorem dX2_tightnessFrom_9 : decode cX2_tightnessFrom 9 = .ok (.if_icmp .ge 20, 3) := by decide +kernel
theorem dX2_tightnessFrom_12 : decode cX2_tightnessFrom 12 = .ok (.iload_n 2, 1) := by decide +kernel
theorem dX2_tightnessFrom_13 : decode cX2_tightnessFrom 13 = .ok (.aload_n 0, 1) := by decide +kernel
theorem dX2_tightnessFrom_14 : decode cX2_tightnessFrom 14 = .ok (.getfield 15, 3) := by decide +kernel
theorem dX2_tightnessFrom_17 : decode cX2_tightnessFrom 17 = .ok (.iload_n 3, 1) := by decide +kernel
theorem dX2_tightnessFrom_18 : decode cX2_tightnessFrom 18 = .ok (.invokestatic 35, 3) := by decide +kernel
theorem dX2_tightnessFrom_21 : decode cX2_tightnessFrom 21 = .ok (.iadd, 1) := by decide +kernel
theorem dX2_tightnessFrom_22 : decode cX2_tightnessFrom 22 = .ok (.istore_n 2, 1) := by decide +kernel
theorem dX2_tightnessFrom_23 : decode cX2_tightnessFrom 23 = .ok (.iinc 3 1, 3) := by decide +kernel
theorem dX2_tightnessFrom_26 : decode cX2_tightnessFrom 26 = .ok (.goto (-22), 3) := by decide +kernel
theorem dX2_tightnessFrom_29 : decode cX2_tightnessFrom 29 = .ok (.iload_n 2, 1) := by decide +kernel
theorem dX2_tightnessFrom_30 : decode cX2_tightnessFrom 30 = .ok (.ireturn, 1) := by decide +kernel
set_option maxRecDepth 20000 in
theorem ggX2_stretchesFrom_X5_at : GoodIn wsX2_stretchesFrom wsX5_at := goodIn_r _ [5] (by decide +kernel) (by decide +kernel)
set_option maxRecDepth 20000 in
theorem gX2_stretchesFrom_X5_at_n35 : GoodIn wsX2_stretchesFrom (wsX5_at) := ggX2_stretchesFrom_X5_at
theorem dX2_stretchesFrom_0 : decode cX2_stretchesFrom 0 = .ok (.iconst 0, 1) := by decide +kernel
theorem dX2_stretchesFrom_1 : decode cX2_stretchesFrom 1 = .ok (.istore_n 3, 1) := by decide +kernel
theorem dX2_stretchesFrom_2 : decode cX2_stretchesFrom 2 = .ok (.iconst (-1), 1) := by decide +kernel
theorem dX2_stretchesFrom_3 : decode cX2_stretchesFrom 3 = .ok (.istore 4, 2) := by decide +kernel
theorem dX2_stretchesFrom_5 : decode cX2_stretchesFrom 5 = .ok (.iload_n 1, 1) := by decide +kernel
theorem dX2_stretchesFrom_6 : decode cX2_stretchesFrom 6 = .ok (.istore 5, 2) := by decide +kernel
theorem dX2_stretchesFrom_8 : decode cX2_stretchesFrom 8 = .ok (.iload 5, 2) := by decide +kernel
theorem dX2_stretchesFrom_10 : decode cX2_stretchesFrom 10 = .ok (.aload_n 0, 1) := by decide +kernel
theorem dX2_stretchesFrom_11 : decode cX2_stretchesFrom 11 = .ok (.getfield 21, 3) := by decide +kernel
theorem dX2_stretchesFrom_14 : decode cX2_stretchesFrom 14 = .ok (.if_icmp .ge 49, 3) := by decide +kernel
theorem dX2_stretchesFrom_17 : decode cX2_stretchesFrom 17 = .ok (.aload_n 0, 1) := by decide +kernel
theorem dX2_stretchesFrom_18 : decode cX2_stretchesFrom 18 = .ok (.getfield 15, 3) := by decide +kernel
theorem dX2_stretchesFrom_21 : decode cX2_stretchesFrom 21 = .ok (.iload 5, 2) := by decide +kernel
theorem dX2_stretchesFrom_23 : decode cX2_stretchesFrom 23 = .ok (.invokestatic 35, 3) := by decide +kernel
theorem dX2_stretchesFrom_26 : decode cX2_stretchesFrom 26 = .ok (.istore 6, 2) := by decide +kernel
theorem dX2_stretchesFrom_28 : decode cX2_stretchesFrom 28 = .ok (.iload 6, 2) := by decide +kernel
theorem dX2_stretchesFrom_30 : decode cX2_stretchesFrom 30 = .ok (.iload_n 2, 1) := by decide +kernel
theorem dX2_stretchesFrom_31 : decode cX2_stretchesFrom 31 = .ok (.if_icmp .le 6, 3) := by decide +kernel
theorem dX2_stretchesFrom_34 : decode cX2_stretchesFrom 34 = .ok (.bipush 25, 2) := by decide +kernel
theorem dX2_stretchesFrom_36 : decode cX2_stretchesFrom 36 = .ok (.ireturn, 1) := by decide +kernel
theorem dX2_stretchesFrom_37 : decode cX2_stretchesFrom 37 = .ok (.iload 6, 2) := by decide +kernel
theorem dX2_stretchesFrom_39 : decode cX2_stretchesFrom 39 = .ok (.iload 4, 2) := by decide +kernel
theorem dX2_stretchesFrom_41 : decode cX2_stretchesFrom 41 = .ok (.if_icmp .le 9, 3) := by decide +kernel
theorem dX2_stretchesFrom_44 : decode cX2_stretchesFrom 44 = .ok (.iinc 3 1, 3) := by decide +kernel
theorem dX2_stretchesFrom_47 : decode cX2_stretchesFrom 47 = .ok (.iload_n 2, 1) := by decide +kernel
theorem dX2_stretchesFrom_48 : decode cX2_stretchesFrom 48 = .ok (.istore 4, 2) := by decide +kernel
theorem dX2_stretchesFrom_50 : decode cX2_stretchesFrom 50 = .ok (.iload 4, 2) := by decide +kernel
theorem dX2_stretchesFrom_52 : decode cX2_stretchesFrom 52 = .ok (.iload 6, 2) := by decide +kernel
theorem dX2_stretchesFrom_54 : decode cX2_stretchesFrom 54 = .ok (.isub, 1) := by decide +kernel
theorem dX2_stretchesFrom_55 : decode cX2_stretchesFrom 55 = .ok (.istore 4, 2) := by decide +kernel
theorem dX2_stretchesFrom_57 : decode cX2_stretchesFrom 57 = .ok (.iinc 5 1, 3) := by decide +kernel
theorem dX2_stretchesFrom_60 : decode cX2_stretchesFrom 60 = .ok (.goto (-52), 3) := by decide +kernel
theorem dX2_stretchesFrom_63 : decode cX2_stretchesFrom 63 = .ok (.iload_n 3, 1) := by decide +kernel
theorem dX2_stretchesFrom_64 : decode cX2_stretchesFrom 64 = .ok (.ireturn, 1) := by decide +kernel
set_option maxRecDepth 20000 in
theorem ggX3_init_X2_init : GoodIn wsX3_init wsX2_init := goodIn_r _ [12, 13, 2, 3, 8, 14, 15, 16, 17, 18, 19, 20, 21] (by decide +kernel) (by decide +kernel)
set_option maxRecDepth 20000 in
theorem gX3_init_X2_init_n11 : GoodIn wsX3_init (wsX2_init) := ggX3_init_X2_init
theorem dX3_init_0 : decode cX3_init 0 = .ok (.aload_n 0, 1) := by decide +kernel
theorem dX3_init_1 : decode cX3_init 1 = .ok (.invokespecial 3, 3) := by decide +kernel
theorem dX3_init_4 : decode cX3_init 4 = .ok (.aload_n 0, 1) := by decide +kernel
theorem dX3_init_5 : decode cX3_init 5 = .ok (.new 9, 3) := by decide +kernel
theorem dX3_init_8 : decode cX3_init 8 = .ok (.dup, 1) := by decide +kernel
theorem dX3_init_9 : decode cX3_init 9 = .ok (.invokespecial 11, 3) := by decide +kernel
theorem dX3_init_12 : decode cX3_init 12 = .ok (.putfield 12, 3) := by decide +kernel
theorem dX3_init_15 : decode cX3_init 15 = .ok (.aload_n 0, 1) := by decide +kernel
theorem dX3_init_16 : decode cX3_init 16 = .ok (.iconst 4, 1) := by decide +kernel
theorem dX3_init_17 : decode cX3_init 17 = .ok (.newarray .int, 2) := by decide +kernel
theorem dX3_init_19 : decode cX3_init 19 = .ok (.dup, 1) := by decide +kernel
theorem dX3_init_20 : decode cX3_init 20 = .ok (.iconst 0, 1) := by decide +kernel
theorem dX3_init_21 : decode cX3_init 21 = .ok (.iconst 5, 1) := by decide +kernel
theorem dX3_init_22 : decode cX3_init 22 = .ok (.iastore, 1) := by decide +kernel
theorem dX3_init_23 : decode cX3_init 23 = .ok (.dup, 1) := by decide +kernel
theorem dX3_init_24 : decode cX3_init 24 = .ok (.iconst 1, 1) := by decide +kernel
theorem dX3_init_25 : decode cX3_init 25 = .ok (.iconst 5, 1) := by decide +kernel
theorem dX3_init_26 : decode cX3_init 26 = .ok (.iastore, 1) := by decide +kernel
theorem dX3_init_27 : decode cX3_init 27 = .ok (.dup, 1) := by decide +kernel
theorem dX3_init_28 : decode cX3_init 28 = .ok (.iconst 2, 1) := by decide +kernel
theorem dX3_init_29 : decode cX3_init 29 = .ok (.iconst 5, 1) := by decide +kernel
theorem dX3_init_30 : decode cX3_init 30 = .ok (.iastore, 1) := by decide +kernel
theorem dX3_init_31 : decode cX3_init 31 = .ok (.dup, 1) := by decide +kernel
theorem dX3_init_32 : decode cX3_init 32 = .ok (.iconst 3, 1) := by decide +kernel
theorem dX3_init_33 : decode cX3_init 33 = .ok (.iconst 5, 1) := by decide +kernel
theorem dX3_init_34 : decode cX3_init 34 = .ok (.iastore, 1) := by decide +kernel
theorem dX3_init_35 : decode cX3_init 35 = .ok (.putfield 18, 3) := by decide +kernel
theorem dX3_init_38 : decode cX3_init 38 = .ok (.aload_n 0, 1) := by decide +kernel
theorem dX3_init_39 : decode cX3_init 39 = .ok (.sipush 1023, 3) := by decide +kernel
theorem dX3_init_42 : decode cX3_init 42 = .ok (.putfield 22, 3) := by decide +kernel
theorem dX3_init_45 : decode cX3_init 45 = .ok (.return_, 1) := by decide +kernel
set_option maxRecDepth 20000 in
theorem ggX3_tightnessOf_X5_at : GoodIn wsX3_tightnessOf wsX5_at := goodIn_r _ [4] (by decide +kernel) (by decide +kernel)
set_option maxRecDepth 20000 in
theorem gX3_tightnessOf_X5_at_n26 : GoodIn wsX3_tightnessOf (wsX5_at) := ggX3_tightnessOf_X5_at
theorem dX3_tightnessOf_0 : decode cX3_tightnessOf 0 = .ok (.aload_n 0, 1) := by decide +kernel
theorem dX3_tightnessOf_1 : decode cX3_tightnessOf 1 = .ok (.getfield 18, 3) := by decide +kernel
theorem dX3_tightnessOf_4 : decode cX3_tightnessOf 4 = .ok (.iload_n 1, 1) := by decide +kernel
theorem dX3_tightnessOf_5 : decode cX3_tightnessOf 5 = .ok (.invokestatic 26, 3) := by decide +kernel
theorem dX3_tightnessOf_8 : decode cX3_tightnessOf 8 = .ok (.ireturn, 1) := by decide +kernel
theorem dX3_forgetSights_0 : decode cX3_forgetSights 0 = .ok (.aload_n 0, 1) := by decide +kernel
theorem dX3_forgetSights_1 : decode cX3_forgetSights 1 = .ok (.iconst 0, 1) := by decide +kernel
theorem dX3_forgetSights_2 : decode cX3_forgetSights 2 = .ok (.putfield 30, 3) := by decide +kernel
theorem dX3_forgetSights_5 : decode cX3_forgetSights 5 = .ok (.aload_n 0, 1) := by decide +kernel
theorem dX3_forgetSights_6 : decode cX3_forgetSights 6 = .ok (.sipush 1023, 3) := by decide +kernel
theorem dX3_forgetSights_9 : decode cX3_forgetSights 9 = .ok (.putfield 22, 3) := by decide +kernel
theorem dX3_forgetSights_12 : decode cX3_forgetSights 12 = .ok (.return_, 1) := by decide +kernel
set_option maxRecDepth 20000 in
theorem ggX3_copy_X2_copy : GoodIn wsX3_copy wsX2_copy := goodIn_r _ [9, 10, 11, 12, 13, 14, 15, 16, 17, 18, 19, 29, 30, 31, 32, 33] (by decide +kernel) (by decide +kernel)
set_option maxRecDepth 20000 in
theorem gX3_copy_X2_copy : GoodIn wsX3_copy (wsV RX3 33 RX2 yX2_copy wsX2_copy) := goodIn_app (goodIn_of _ (by decide +kernel)) ggX3_copy_X2_copy
set_option maxRecDepth 20000 in
theorem ggX3_copy_X3_tightnessOf : GoodIn wsX3_copy wsX3_tightnessOf := goodIn_r _ [24, 2, 15, 16, 17, 25, 26, 27, 28] (by decide +kernel) (by decide +kernel)
set_option maxRecDepth 20000 in
theorem gX3_copy_X3_tightnessOf : GoodIn wsX3_copy (wsV RX3 37 RX3 yX3_tightnessOf wsX3_tightnessOf) := goodIn_app (goodIn_of _ (by decide +kernel)) ggX3_copy_X3_tightnessOf
set_option maxRecDepth 20000 in
theorem ggX3_copy_X5_put : GoodIn wsX3_copy wsX5_put := goodIn_r _ [19] (by decide +kernel) (by decide +kernel)
set_option maxRecDepth 20000 in
theorem gX3_copy_X5_put_n41 : GoodIn wsX3_copy (wsX5_put) := ggX3_copy_X5_put
theorem dX3_copy_0 : decode cX3_copy 0 = .ok (.aload_n 0, 1) := by decide +kernel
theorem dX3_copy_1 : decode cX3_copy 1 = .ok (.getfield 12, 3) := by decide +kernel
theorem dX3_copy_4 : decode cX3_copy 4 = .ok (.aload_n 1, 1) := by decide +kernel
theorem dX3_copy_5 : decode cX3_copy 5 = .ok (.getfield 12, 3) := by decide +kernel
theorem dX3_copy_8 : decode cX3_copy 8 = .ok (.invokevirtual 33, 3) := by decide +kernel
theorem dX3_copy_11 : decode cX3_copy 11 = .ok (.iconst 0, 1) := by decide +kernel
theorem dX3_copy_12 : decode cX3_copy 12 = .ok (.istore_n 2, 1) := by decide +kernel
theorem dX3_copy_13 : decode cX3_copy 13 = .ok (.iload_n 2, 1) := by decide +kernel
theorem dX3_copy_14 : decode cX3_copy 14 = .ok (.iconst 4, 1) := by decide +kernel
theorem dX3_copy_15 : decode cX3_copy 15 = .ok (.if_icmp .ge 22, 3) := by decide +kernel
theorem dX3_copy_18 : decode cX3_copy 18 = .ok (.aload_n 0, 1) := by decide +kernel
theorem dX3_copy_19 : decode cX3_copy 19 = .ok (.getfield 18, 3) := by decide +kernel
theorem dX3_copy_22 : decode cX3_copy 22 = .ok (.iload_n 2, 1) := by decide +kernel
theorem dX3_copy_23 : decode cX3_copy 23 = .ok (.aload_n 1, 1) := by decide +kernel
theorem dX3_copy_24 : decode cX3_copy 24 = .ok (.iload_n 2, 1) := by decide +kernel
theorem dX3_copy_25 : decode cX3_copy 25 = .ok (.invokevirtual 37, 3) := by decide +kernel
theorem dX3_copy_28 : decode cX3_copy 28 = .ok (.invokestatic 41, 3) := by decide +kernel
theorem dX3_copy_31 : decode cX3_copy 31 = .ok (.iinc 2 1, 3) := by decide +kernel
theorem dX3_copy_34 : decode cX3_copy 34 = .ok (.goto (-21), 3) := by decide +kernel
theorem dX3_copy_37 : decode cX3_copy 37 = .ok (.aload_n 0, 1) := by decide +kernel
theorem dX3_copy_38 : decode cX3_copy 38 = .ok (.aload_n 1, 1) := by decide +kernel
theorem dX3_copy_39 : decode cX3_copy 39 = .ok (.getfield 30, 3) := by decide +kernel
theorem dX3_copy_42 : decode cX3_copy 42 = .ok (.putfield 30, 3) := by decide +kernel
theorem dX3_copy_45 : decode cX3_copy 45 = .ok (.aload_n 0, 1) := by decide +kernel
theorem dX3_copy_46 : decode cX3_copy 46 = .ok (.aload_n 1, 1) := by decide +kernel
theorem dX3_copy_47 : decode cX3_copy 47 = .ok (.getfield 22, 3) := by decide +kernel
theorem dX3_copy_50 : decode cX3_copy 50 = .ok (.putfield 22, 3) := by decide +kernel
theorem dX3_copy_53 : decode cX3_copy 53 = .ok (.return_, 1) := by decide +kernel
set_option maxRecDepth 20000 in
theorem ggX4_init_X2_init : GoodIn wsX4_init wsX2_init := goodIn_r _ [9, 10, 2, 3, 11, 12, 13, 14, 15, 16, 17, 18, 19] (by decide +kernel) (by decide +kernel)
set_option maxRecDepth 20000 in
theorem gX4_init_X2_init_n11 : GoodIn wsX4_init (wsX2_init) := ggX4_init_X2_init
theorem dX4_init_0 : decode cX4_init 0 = .ok (.aload_n 0, 1) := by decide +kernel
theorem dX4_init_1 : decode cX4_init 1 = .ok (.invokespecial 3, 3) := by decide +kernel
theorem dX4_init_4 : decode cX4_init 4 = .ok (.aload_n 0, 1) := by decide +kernel
theorem dX4_init_5 : decode cX4_init 5 = .ok (.new 9, 3) := by decide +kernel
theorem dX4_init_8 : decode cX4_init 8 = .ok (.dup, 1) := by decide +kernel
theorem dX4_init_9 : decode cX4_init 9 = .ok (.invokespecial 11, 3) := by decide +kernel
theorem dX4_init_12 : decode cX4_init 12 = .ok (.putfield 12, 3) := by decide +kernel
theorem dX4_init_15 : decode cX4_init 15 = .ok (.return_, 1) := by decide +kernel
set_option maxRecDepth 20000 in
theorem ggX4_begin_X2_copy : GoodIn wsX4_begin wsX2_copy := goodIn_r _ [10, 11, 12, 13, 14, 15, 16, 17, 18, 19, 20, 26, 27, 28, 29, 30] (by decide +kernel) (by decide +kernel)
set_option maxRecDepth 20000 in
theorem gX4_begin_X2_copy : GoodIn wsX4_begin (wsV RX4 18 RX2 yX2_copy wsX2_copy) := goodIn_app (goodIn_of _ (by decide +kernel)) ggX4_begin_X2_copy
theorem dX4_begin_0 : decode cX4_begin 0 = .ok (.aload_n 0, 1) := by decide +kernel
theorem dX4_begin_1 : decode cX4_begin 1 = .ok (.getfield 12, 3) := by decide +kernel
theorem dX4_begin_4 : decode cX4_begin 4 = .ok (.aload_n 1, 1) := by decide +kernel
theorem dX4_begin_5 : decode cX4_begin 5 = .ok (.invokevirtual 18, 3) := by decide +kernel
theorem dX4_begin_8 : decode cX4_begin 8 = .ok (.aload_n 0, 1) := by decide +kernel
theorem dX4_begin_9 : decode cX4_begin 9 = .ok (.iconst 0, 1) := by decide +kernel
theorem dX4_begin_10 : decode cX4_begin 10 = .ok (.putfield 22, 3) := by decide +kernel
theorem dX4_begin_13 : decode cX4_begin 13 = .ok (.aload_n 0, 1) := by decide +kernel
theorem dX4_begin_14 : decode cX4_begin 14 = .ok (.iconst 0, 1) := by decide +kernel
theorem dX4_begin_15 : decode cX4_begin 15 = .ok (.putfield 26, 3) := by decide +kernel
theorem dX4_begin_18 : decode cX4_begin 18 = .ok (.aload_n 0, 1) := by decide +kernel
theorem dX4_begin_19 : decode cX4_begin 19 = .ok (.iconst 0, 1) := by decide +kernel
theorem dX4_begin_20 : decode cX4_begin 20 = .ok (.putfield 29, 3) := by decide +kernel
theorem dX4_begin_23 : decode cX4_begin 23 = .ok (.aload_n 0, 1) := by decide +kernel
theorem dX4_begin_24 : decode cX4_begin 24 = .ok (.iconst 0, 1) := by decide +kernel
theorem dX4_begin_25 : decode cX4_begin 25 = .ok (.putfield 32, 3) := by decide +kernel
theorem dX4_begin_28 : decode cX4_begin 28 = .ok (.return_, 1) := by decide +kernel
set_option maxRecDepth 20000 in
theorem ggX4_act_X4_reasonAgainst : GoodIn wsX4_act wsX4_reasonAgainst := goodIn_r _ [8, 3, 9, 10, 11, 12, 13, 14, 15, 16, 17, 18, 19, 20, 21, 22, 23, 24, 25, 26, 27, 28, 85, 86, 87, 88, 89, 90, 91, 92, 93, 94] (by decide +kernel) (by decide +kernel)
set_option maxRecDepth 20000 in
theorem gX4_act_X4_reasonAgainst : GoodIn wsX4_act (wsV RX4 35 RX4 yX4_reasonAgainst wsX4_reasonAgainst) := goodIn_app (goodIn_of _ (by decide +kernel)) ggX4_act_X4_reasonAgainst
set_option maxRecDepth 20000 in
theorem ggX4_act_X2_unpick : GoodIn wsX4_act wsX2_unpick := goodIn_r _ [32, 14, 33, 34, 35, 26, 36, 37, 38, 12, 39, 40, 20, 41, 27, 28, 42, 43, 44, 45, 46, 47, 48, 49, 50, 51, 52, 53, 54, 23, 24, 25, 90, 91, 92, 93, 94] (by decide +kernel) (by decide +kernel)
set_option maxRecDepth 20000 in
theorem gX4_act_X2_unpick : GoodIn wsX4_act (wsV RX4 39 RX2 yX2_unpick wsX2_unpick) := goodIn_app (goodIn_of _ (by decide +kernel)) ggX4_act_X2_unpick
set_option maxRecDepth 20000 in
theorem ggX4_act_X4_countUndone : GoodIn wsX4_act wsX4_countUndone := goodIn_r _ [58, 59, 60, 61, 62, 63, 64, 85, 86, 87, 88, 89] (by decide +kernel) (by decide +kernel)
set_option maxRecDepth 20000 in
theorem gX4_act_X4_countUndone : GoodIn wsX4_act (wsV RX4 43 RX4 yX4_countUndone wsX4_countUndone) := goodIn_app (goodIn_of _ (by decide +kernel)) ggX4_act_X4_countUndone
set_option maxRecDepth 20000 in
theorem ggX4_act_X2_eat : GoodIn wsX4_act wsX2_eat := goodIn_r _ [68, 26, 90, 91, 92, 93, 94] (by decide +kernel) (by decide +kernel)
set_option maxRecDepth 20000 in
theorem gX4_act_X2_eat : GoodIn wsX4_act (wsV RX4 47 RX2 yX2_eat wsX2_eat) := goodIn_app (goodIn_of _ (by decide +kernel)) ggX4_act_X2_eat
set_option maxRecDepth 20000 in
theorem ggX4_act_X2_mend : GoodIn wsX4_act wsX2_mend := goodIn_r _ [72, 26, 34, 42, 20, 43, 90, 91, 92, 93, 94] (by decide +kernel) (by decide +kernel)
set_option maxRecDepth 20000 in
theorem gX4_act_X2_mend : GoodIn wsX4_act (wsV RX4 50 RX2 yX2_mend wsX2_mend) := goodIn_app (goodIn_of _ (by decide +kernel)) ggX4_act_X2_mend
set_option maxRecDepth 20000 in
theorem ggX4_act_X2_knit : GoodIn wsX4_act wsX2_knit := goodIn_r _ [76, 77, 78, 79, 12, 80, 14, 33, 26, 40, 20, 41, 27, 28, 81, 82, 83, 84, 34, 35, 42, 43, 90, 91, 92, 93, 94] (by decide +kernel) (by decide +kernel)
set_option maxRecDepth 20000 in
theorem gX4_act_X2_knit : GoodIn wsX4_act (wsV RX4 54 RX2 yX2_knit wsX2_knit) := goodIn_app (goodIn_of _ (by decide +kernel)) ggX4_act_X2_knit
theorem dX4_act_0 : decode cX4_act 0 = .ok (.aload_n 0, 1) := by decide +kernel
theorem dX4_act_1 : decode cX4_act 1 = .ok (.aload_n 0, 1) := by decide +kernel
theorem dX4_act_2 : decode cX4_act 2 = .ok (.iload_n 1, 1) := by decide +kernel
theorem dX4_act_3 : decode cX4_act 3 = .ok (.iload_n 2, 1) := by decide +kernel
theorem dX4_act_4 : decode cX4_act 4 = .ok (.invokevirtual 35, 3) := by decide +kernel
theorem dX4_act_7 : decode cX4_act 7 = .ok (.putfield 26, 3) := by decide +kernel
theorem dX4_act_10 : decode cX4_act 10 = .ok (.aload_n 0, 1) := by decide +kernel
theorem dX4_act_11 : decode cX4_act 11 = .ok (.getfield 26, 3) := by decide +kernel
theorem dX4_act_14 : decode cX4_act 14 = .ok (.ifCond .eq 5, 3) := by decide +kernel
theorem dX4_act_17 : decode cX4_act 17 = .ok (.iconst 0, 1) := by decide +kernel
theorem dX4_act_18 : decode cX4_act 18 = .ok (.ireturn, 1) := by decide +kernel
theorem dX4_act_19 : decode cX4_act 19 = .ok (.aload_n 0, 1) := by decide +kernel
theorem dX4_act_20 : decode cX4_act 20 = .ok (.dup, 1) := by decide +kernel
theorem dX4_act_21 : decode cX4_act 21 = .ok (.getfield 22, 3) := by decide +kernel
theorem dX4_act_24 : decode cX4_act 24 = .ok (.iconst 1, 1) := by decide +kernel
theorem dX4_act_25 : decode cX4_act 25 = .ok (.iadd, 1) := by decide +kernel
theorem dX4_act_26 : decode cX4_act 26 = .ok (.putfield 22, 3) := by decide +kernel
theorem dX4_act_29 : decode cX4_act 29 = .ok (.iload_n 1, 1) := by decide +kernel
theorem dX4_act_30 : decode cX4_act 30 = .ok (.tableswitch 65 0 2 #[26, 41, 52], 26) := by decide +kernel
theorem dX4_act_56 : decode cX4_act 56 = .ok (.aload_n 0, 1) := by decide +kernel
theorem dX4_act_57 : decode cX4_act 57 = .ok (.aload_n 0, 1) := by decide +kernel
theorem dX4_act_58 : decode cX4_act 58 = .ok (.getfield 12, 3) := by decide +kernel
theorem dX4_act_61 : decode cX4_act 61 = .ok (.iload_n 2, 1) := by decide +kernel
theorem dX4_act_62 : decode cX4_act 62 = .ok (.invokevirtual 39, 3) := by decide +kernel
theorem dX4_act_65 : decode cX4_act 65 = .ok (.invokevirtual 43, 3) := by decide +kernel
theorem dX4_act_68 : decode cX4_act 68 = .ok (.goto 37, 3) := by decide +kernel
theorem dX4_act_71 : decode cX4_act 71 = .ok (.aload_n 0, 1) := by decide +kernel
theorem dX4_act_72 : decode cX4_act 72 = .ok (.getfield 12, 3) := by decide +kernel
theorem dX4_act_75 : decode cX4_act 75 = .ok (.iload_n 2, 1) := by decide +kernel
theorem dX4_act_76 : decode cX4_act 76 = .ok (.invokevirtual 47, 3) := by decide +kernel
theorem dX4_act_79 : decode cX4_act 79 = .ok (.goto 26, 3) := by decide +kernel
theorem dX4_act_82 : decode cX4_act 82 = .ok (.aload_n 0, 1) := by decide +kernel
theorem dX4_act_83 : decode cX4_act 83 = .ok (.getfield 12, 3) := by decide +kernel
theorem dX4_act_86 : decode cX4_act 86 = .ok (.iload_n 2, 1) := by decide +kernel
theorem dX4_act_87 : decode cX4_act 87 = .ok (.iload 4, 2) := by decide +kernel
theorem dX4_act_89 : decode cX4_act 89 = .ok (.invokevirtual 50, 3) := by decide +kernel
theorem dX4_act_92 : decode cX4_act 92 = .ok (.goto 13, 3) := by decide +kernel
theorem dX4_act_95 : decode cX4_act 95 = .ok (.aload_n 0, 1) := by decide +kernel
theorem dX4_act_96 : decode cX4_act 96 = .ok (.getfield 12, 3) := by decide +kernel
theorem dX4_act_99 : decode cX4_act 99 = .ok (.iload_n 3, 1) := by decide +kernel
theorem dX4_act_100 : decode cX4_act 100 = .ok (.iload 4, 2) := by decide +kernel
theorem dX4_act_102 : decode cX4_act 102 = .ok (.invokevirtual 54, 3) := by decide +kernel
theorem dX4_act_105 : decode cX4_act 105 = .ok (.iconst 1, 1) := by decide +kernel
theorem dX4_act_106 : decode cX4_act 106 = .ok (.ireturn, 1) := by decide +kernel
set_option maxRecDepth 20000 in
theorem ggX4_reasonAgainst_X2_isFull : GoodIn wsX4_reasonAgainst wsX2_isFull := goodIn_r _ [6, 7, 27, 28, 29, 30, 31] (by decide +kernel) (by decide +kernel)
set_option maxRecDepth 20000 in
theorem gX4_reasonAgainst_X2_isFull : GoodIn wsX4_reasonAgainst (wsV RX4 57 RX2 yX2_isFull wsX2_isFull) := goodIn_app (goodIn_of _ (by decide +kernel)) ggX4_reasonAgainst_X2_isFull
set_option maxRecDepth 20000 in
theorem ggX4_reasonAgainst_X2_has : GoodIn wsX4_reasonAgainst wsX2_has := goodIn_r _ [11, 7, 12, 13, 14, 27, 28, 29, 30, 31] (by decide +kernel) (by decide +kernel)
set_option maxRecDepth 20000 in
theorem gX4_reasonAgainst_X2_has : GoodIn wsX4_reasonAgainst (wsV RX4 61 RX2 yX2_has wsX2_has) := goodIn_app (goodIn_of _ (by decide +kernel)) ggX4_reasonAgainst_X2_has
set_option maxRecDepth 20000 in
theorem ggX4_reasonAgainst_X2_isEaten : GoodIn wsX4_reasonAgainst wsX2_isEaten := goodIn_r _ [18, 19, 20, 13, 21, 27, 28, 29, 30, 31] (by decide +kernel) (by decide +kernel)
set_option maxRecDepth 20000 in
theorem gX4_reasonAgainst_X2_isEaten : GoodIn wsX4_reasonAgainst (wsV RX4 65 RX2 yX2_isEaten wsX2_isEaten) := goodIn_app (goodIn_of _ (by decide +kernel)) ggX4_reasonAgainst_X2_isEaten
theorem dX4_reasonAgainst_0 : decode cX4_reasonAgainst 0 = .ok (.iload_n 1, 1) := by decide +kernel
theorem dX4_reasonAgainst_1 : decode cX4_reasonAgainst 1 = .ok (.iconst 3, 1) := by decide +kernel
theorem dX4_reasonAgainst_2 : decode cX4_reasonAgainst 2 = .ok (.if_icmp .ne 19, 3) := by decide +kernel
theorem dX4_reasonAgainst_5 : decode cX4_reasonAgainst 5 = .ok (.aload_n 0, 1) := by decide +kernel
theorem dX4_reasonAgainst_6 : decode cX4_reasonAgainst 6 = .ok (.getfield 12, 3) := by decide +kernel
theorem dX4_reasonAgainst_9 : decode cX4_reasonAgainst 9 = .ok (.invokevirtual 57, 3) := by decide +kernel
theorem dX4_reasonAgainst_12 : decode cX4_reasonAgainst 12 = .ok (.ifCond .eq 7, 3) := by decide +kernel
theorem dX4_reasonAgainst_15 : decode cX4_reasonAgainst 15 = .ok (.iconst 2, 1) := by decide +kernel
theorem dX4_reasonAgainst_16 : decode cX4_reasonAgainst 16 = .ok (.goto 4, 3) := by decide +kernel
theorem dX4_reasonAgainst_19 : decode cX4_reasonAgainst 19 = .ok (.iconst 0, 1) := by decide +kernel
theorem dX4_reasonAgainst_20 : decode cX4_reasonAgainst 20 = .ok (.ireturn, 1) := by decide +kernel
theorem dX4_reasonAgainst_21 : decode cX4_reasonAgainst 21 = .ok (.aload_n 0, 1) := by decide +kernel
theorem dX4_reasonAgainst_22 : decode cX4_reasonAgainst 22 = .ok (.getfield 12, 3) := by decide +kernel
theorem dX4_reasonAgainst_25 : decode cX4_reasonAgainst 25 = .ok (.iload_n 2, 1) := by decide +kernel
theorem dX4_reasonAgainst_26 : decode cX4_reasonAgainst 26 = .ok (.invokevirtual 61, 3) := by decide +kernel
theorem dX4_reasonAgainst_29 : decode cX4_reasonAgainst 29 = .ok (.ifCond .ne 5, 3) := by decide +kernel
theorem dX4_reasonAgainst_32 : decode cX4_reasonAgainst 32 = .ok (.iconst 1, 1) := by decide +kernel
theorem dX4_reasonAgainst_33 : decode cX4_reasonAgainst 33 = .ok (.ireturn, 1) := by decide +kernel
theorem dX4_reasonAgainst_34 : decode cX4_reasonAgainst 34 = .ok (.iload_n 1, 1) := by decide +kernel
theorem dX4_reasonAgainst_35 : decode cX4_reasonAgainst 35 = .ok (.ifCond .ne 5, 3) := by decide +kernel
theorem dX4_reasonAgainst_38 : decode cX4_reasonAgainst 38 = .ok (.iconst 0, 1) := by decide +kernel
theorem dX4_reasonAgainst_39 : decode cX4_reasonAgainst 39 = .ok (.ireturn, 1) := by decide +kernel
theorem dX4_reasonAgainst_40 : decode cX4_reasonAgainst 40 = .ok (.aload_n 0, 1) := by decide +kernel
theorem dX4_reasonAgainst_41 : decode cX4_reasonAgainst 41 = .ok (.getfield 12, 3) := by decide +kernel
theorem dX4_reasonAgainst_44 : decode cX4_reasonAgainst 44 = .ok (.iload_n 2, 1) := by decide +kernel
theorem dX4_reasonAgainst_45 : decode cX4_reasonAgainst 45 = .ok (.invokevirtual 65, 3) := by decide +kernel
theorem dX4_reasonAgainst_48 : decode cX4_reasonAgainst 48 = .ok (.iload_n 1, 1) := by decide +kernel
theorem dX4_reasonAgainst_49 : decode cX4_reasonAgainst 49 = .ok (.iconst 1, 1) := by decide +kernel
theorem dX4_reasonAgainst_50 : decode cX4_reasonAgainst 50 = .ok (.if_icmp .ne 7, 3) := by decide +kernel
theorem dX4_reasonAgainst_53 : decode cX4_reasonAgainst 53 = .ok (.iconst 1, 1) := by decide +kernel
theorem dX4_reasonAgainst_54 : decode cX4_reasonAgainst 54 = .ok (.goto 4, 3) := by decide +kernel
theorem dX4_reasonAgainst_57 : decode cX4_reasonAgainst 57 = .ok (.iconst 0, 1) := by decide +kernel
theorem dX4_reasonAgainst_58 : decode cX4_reasonAgainst 58 = .ok (.if_icmp .ne 7, 3) := by decide +kernel
theorem dX4_reasonAgainst_61 : decode cX4_reasonAgainst 61 = .ok (.iconst 3, 1) := by decide +kernel
theorem dX4_reasonAgainst_62 : decode cX4_reasonAgainst 62 = .ok (.goto 4, 3) := by decide +kernel
theorem dX4_reasonAgainst_65 : decode cX4_reasonAgainst 65 = .ok (.iconst 0, 1) := by decide +kernel
theorem dX4_reasonAgainst_66 : decode cX4_reasonAgainst 66 = .ok (.ireturn, 1) := by decide +kernel
theorem dX4_countUndone_0 : decode cX4_countUndone 0 = .ok (.aload_n 0, 1) := by decide +kernel
theorem dX4_countUndone_1 : decode cX4_countUndone 1 = .ok (.aload_n 0, 1) := by decide +kernel
theorem dX4_countUndone_2 : decode cX4_countUndone 2 = .ok (.getfield 29, 3) := by decide +kernel
theorem dX4_countUndone_5 : decode cX4_countUndone 5 = .ok (.iload_n 1, 1) := by decide +kernel
theorem dX4_countUndone_6 : decode cX4_countUndone 6 = .ok (.invokestatic 68, 3) := by decide +kernel
theorem dX4_countUndone_9 : decode cX4_countUndone 9 = .ok (.putfield 29, 3) := by decide +kernel
theorem dX4_countUndone_12 : decode cX4_countUndone 12 = .ok (.aload_n 0, 1) := by decide +kernel
theorem dX4_countUndone_13 : decode cX4_countUndone 13 = .ok (.dup, 1) := by decide +kernel
theorem dX4_countUndone_14 : decode cX4_countUndone 14 = .ok (.getfield 32, 3) := by decide +kernel
theorem dX4_countUndone_17 : decode cX4_countUndone 17 = .ok (.iload_n 1, 1) := by decide +kernel
theorem dX4_countUndone_18 : decode cX4_countUndone 18 = .ok (.iadd, 1) := by decide +kernel
theorem dX4_countUndone_19 : decode cX4_countUndone 19 = .ok (.putfield 32, 3) := by decide +kernel
theorem dX4_countUndone_22 : decode cX4_countUndone 22 = .ok (.return_, 1) := by decide +kernel
set_option maxRecDepth 20000 in
theorem ggX5_init_X3_init : GoodIn wsX5_init wsX3_init := goodIn_r _ [25, 26, 2, 3, 27, 28, 29, 30, 22, 31, 32, 33, 34, 35, 36, 37, 38, 72, 73, 74, 75, 76, 52, 53, 54, 55] (by decide +kernel) (by decide +kernel)
set_option maxRecDepth 20000 in
theorem gX5_init_X3_init_n9 : GoodIn wsX5_init (wsX3_init) := ggX5_init_X3_init
set_option maxRecDepth 20000 in
theorem ggX5_init_X1_init : GoodIn wsX5_init wsX1_init := goodIn_r _ [40, 41, 2, 3, 22, 42, 64, 65] (by decide +kernel) (by decide +kernel)
set_option maxRecDepth 20000 in
theorem gX5_init_X1_init_n24 : GoodIn wsX5_init (wsX1_init) := ggX5_init_X1_init
set_option maxRecDepth 20000 in
theorem ggX5_init_X4_init : GoodIn wsX5_init wsX4_init := goodIn_r _ [44, 45, 2, 3, 46, 28, 29, 47, 33, 34, 35, 22, 36, 37, 38, 72, 73, 74, 75, 76, 66, 67, 68, 69, 70] (by decide +kernel) (by decide +kernel)
set_option maxRecDepth 20000 in
theorem gX5_init_X4_init_n31 : GoodIn wsX5_init (wsX4_init) := ggX5_init_X4_init
set_option maxRecDepth 20000 in
theorem ggX5_init_X0_init : GoodIn wsX5_init wsX0_init := goodIn_r _ [49, 50, 2, 3, 22, 51, 71] (by decide +kernel) (by decide +kernel)
set_option maxRecDepth 20000 in
theorem gX5_init_X0_init_n38 : GoodIn wsX5_init (wsX0_init) := ggX5_init_X0_init
