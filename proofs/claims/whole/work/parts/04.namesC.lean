theorem dX6_init_0 : decode cX6_init 0 = .ok (.aload_n 0, 1) := by decide +kernel
theorem dX6_init_1 : decode cX6_init 1 = .ok (.invokespecial 1, 3) := by decide +kernel
theorem dX6_init_4 : decode cX6_init 4 = .ok (.aload_n 0, 1) := by decide +kernel
theorem dX6_init_5 : decode cX6_init 5 = .ok (.bipush 97, 2) := by decide +kernel
theorem dX6_init_7 : decode cX6_init 7 = .ok (.newarray .int, 2) := by decide +kernel
theorem dX6_init_9 : decode cX6_init 9 = .ok (.putfield 7, 3) := by decide +kernel
theorem dX6_init_12 : decode cX6_init 12 = .ok (.aload_n 0, 1) := by decide +kernel
theorem dX6_init_13 : decode cX6_init 13 = .ok (.bipush 97, 2) := by decide +kernel
theorem dX6_init_15 : decode cX6_init 15 = .ok (.newarray .int, 2) := by decide +kernel
theorem dX6_init_17 : decode cX6_init 17 = .ok (.putfield 13, 3) := by decide +kernel
theorem dX6_init_20 : decode cX6_init 20 = .ok (.aload_n 0, 1) := by decide +kernel
theorem dX6_init_21 : decode cX6_init 21 = .ok (.iconst 4, 1) := by decide +kernel
theorem dX6_init_22 : decode cX6_init 22 = .ok (.newarray .int, 2) := by decide +kernel
theorem dX6_init_24 : decode cX6_init 24 = .ok (.putfield 16, 3) := by decide +kernel
theorem dX6_init_27 : decode cX6_init 27 = .ok (.aload_n 0, 1) := by decide +kernel
theorem dX6_init_28 : decode cX6_init 28 = .ok (.bipush 16, 2) := by decide +kernel
theorem dX6_init_30 : decode cX6_init 30 = .ok (.newarray .int, 2) := by decide +kernel
theorem dX6_init_32 : decode cX6_init 32 = .ok (.putfield 19, 3) := by decide +kernel
theorem dX6_init_35 : decode cX6_init 35 = .ok (.aload_n 0, 1) := by decide +kernel
theorem dX6_init_36 : decode cX6_init 36 = .ok (.bipush 60, 2) := by decide +kernel
theorem dX6_init_38 : decode cX6_init 38 = .ok (.newarray .int, 2) := by decide +kernel
theorem dX6_init_40 : decode cX6_init 40 = .ok (.putfield 22, 3) := by decide +kernel
theorem dX6_init_43 : decode cX6_init 43 = .ok (.aload_n 0, 1) := by decide +kernel
theorem dX6_init_44 : decode cX6_init 44 = .ok (.bipush 24, 2) := by decide +kernel
theorem dX6_init_46 : decode cX6_init 46 = .ok (.newarray .int, 2) := by decide +kernel
theorem dX6_init_48 : decode cX6_init 48 = .ok (.putfield 25, 3) := by decide +kernel
theorem dX6_init_51 : decode cX6_init 51 = .ok (.aload_n 0, 1) := by decide +kernel
theorem dX6_init_52 : decode cX6_init 52 = .ok (.sipush 300, 3) := by decide +kernel
theorem dX6_init_55 : decode cX6_init 55 = .ok (.newarray .int, 2) := by decide +kernel
theorem dX6_init_57 : decode cX6_init 57 = .ok (.putfield 28, 3) := by decide +kernel
theorem dX6_init_60 : decode cX6_init 60 = .ok (.aload_n 0, 1) := by decide +kernel
theorem dX6_init_61 : decode cX6_init 61 = .ok (.iconst 2, 1) := by decide +kernel
theorem dX6_init_62 : decode cX6_init 62 = .ok (.newarray .boolean, 2) := by decide +kernel
theorem dX6_init_64 : decode cX6_init 64 = .ok (.putfield 31, 3) := by decide +kernel
theorem dX6_init_67 : decode cX6_init 67 = .ok (.aload_n 0, 1) := by decide +kernel
theorem dX6_init_68 : decode cX6_init 68 = .ok (.sipush 625, 3) := by decide +kernel
theorem dX6_init_71 : decode cX6_init 71 = .ok (.newarray .int, 2) := by decide +kernel
theorem dX6_init_73 : decode cX6_init 73 = .ok (.putfield 35, 3) := by decide +kernel
theorem dX6_init_76 : decode cX6_init 76 = .ok (.aload_n 0, 1) := by decide +kernel
theorem dX6_init_77 : decode cX6_init 77 = .ok (.bipush 100, 2) := by decide +kernel
theorem dX6_init_79 : decode cX6_init 79 = .ok (.newarray .int, 2) := by decide +kernel
theorem dX6_init_81 : decode cX6_init 81 = .ok (.putfield 38, 3) := by decide +kernel
theorem dX6_init_84 : decode cX6_init 84 = .ok (.iconst 0, 1) := by decide +kernel
theorem dX6_init_85 : decode cX6_init 85 = .ok (.istore_n 1, 1) := by decide +kernel
theorem dX6_init_86 : decode cX6_init 86 = .ok (.iload_n 1, 1) := by decide +kernel
theorem dX6_init_87 : decode cX6_init 87 = .ok (.iconst 4, 1) := by decide +kernel
theorem dX6_init_88 : decode cX6_init 88 = .ok (.if_icmp .ge 16, 3) := by decide +kernel
theorem dX6_init_91 : decode cX6_init 91 = .ok (.aload_n 0, 1) := by decide +kernel
theorem dX6_init_92 : decode cX6_init 92 = .ok (.getfield 16, 3) := by decide +kernel
theorem dX6_init_95 : decode cX6_init 95 = .ok (.iload_n 1, 1) := by decide +kernel
theorem dX6_init_96 : decode cX6_init 96 = .ok (.iconst 5, 1) := by decide +kernel
theorem dX6_init_97 : decode cX6_init 97 = .ok (.iastore, 1) := by decide +kernel
theorem dX6_init_98 : decode cX6_init 98 = .ok (.iinc 1 1, 3) := by decide +kernel
theorem dX6_init_101 : decode cX6_init 101 = .ok (.goto (-15), 3) := by decide +kernel
theorem dX6_init_104 : decode cX6_init 104 = .ok (.return_, 1) := by decide +kernel
theorem dX6_in_0 : decode cX6_in 0 = .ok (.iload_n 0, 1) := by decide +kernel
theorem dX6_in_1 : decode cX6_in 1 = .ok (.iload_n 1, 1) := by decide +kernel
theorem dX6_in_2 : decode cX6_in 2 = .ok (.if_icmp .lt 12, 3) := by decide +kernel
theorem dX6_in_5 : decode cX6_in 5 = .ok (.iload_n 0, 1) := by decide +kernel
theorem dX6_in_6 : decode cX6_in 6 = .ok (.iload_n 2, 1) := by decide +kernel
theorem dX6_in_7 : decode cX6_in 7 = .ok (.if_icmp .gt 7, 3) := by decide +kernel
theorem dX6_in_10 : decode cX6_in 10 = .ok (.iconst 1, 1) := by decide +kernel
theorem dX6_in_11 : decode cX6_in 11 = .ok (.goto 4, 3) := by decide +kernel
theorem dX6_in_14 : decode cX6_in 14 = .ok (.iconst 0, 1) := by decide +kernel
theorem dX6_in_15 : decode cX6_in 15 = .ok (.ireturn, 1) := by decide +kernel
theorem dX6_has_0 : decode cX6_has 0 = .ok (.iload_n 0, 1) := by decide +kernel
theorem dX6_has_1 : decode cX6_has 1 = .ok (.iload_n 1, 1) := by decide +kernel
theorem dX6_has_2 : decode cX6_has 2 = .ok (.ishr, 1) := by decide +kernel
theorem dX6_has_3 : decode cX6_has 3 = .ok (.iconst 1, 1) := by decide +kernel
theorem dX6_has_4 : decode cX6_has 4 = .ok (.iand, 1) := by decide +kernel
theorem dX6_has_5 : decode cX6_has 5 = .ok (.iconst 1, 1) := by decide +kernel
theorem dX6_has_6 : decode cX6_has 6 = .ok (.if_icmp .ne 7, 3) := by decide +kernel
theorem dX6_has_9 : decode cX6_has 9 = .ok (.iconst 1, 1) := by decide +kernel
theorem dX6_has_10 : decode cX6_has 10 = .ok (.goto 4, 3) := by decide +kernel
theorem dX6_has_13 : decode cX6_has 13 = .ok (.iconst 0, 1) := by decide +kernel
theorem dX6_has_14 : decode cX6_has 14 = .ok (.ireturn, 1) := by decide +kernel
theorem dX6_bits_0 : decode cX6_bits 0 = .ok (.iconst 0, 1) := by decide +kernel
theorem dX6_bits_1 : decode cX6_bits 1 = .ok (.istore_n 1, 1) := by decide +kernel
theorem dX6_bits_2 : decode cX6_bits 2 = .ok (.iconst 0, 1) := by decide +kernel
theorem dX6_bits_3 : decode cX6_bits 3 = .ok (.istore_n 2, 1) := by decide +kernel
theorem dX6_bits_4 : decode cX6_bits 4 = .ok (.iload_n 2, 1) := by decide +kernel
theorem dX6_bits_5 : decode cX6_bits 5 = .ok (.bipush 24, 2) := by decide +kernel
theorem dX6_bits_7 : decode cX6_bits 7 = .ok (.if_icmp .ge 17, 3) := by decide +kernel
theorem dX6_bits_10 : decode cX6_bits 10 = .ok (.iload_n 1, 1) := by decide +kernel
theorem dX6_bits_11 : decode cX6_bits 11 = .ok (.iload_n 0, 1) := by decide +kernel
theorem dX6_bits_12 : decode cX6_bits 12 = .ok (.iload_n 2, 1) := by decide +kernel
theorem dX6_bits_13 : decode cX6_bits 13 = .ok (.ishr, 1) := by decide +kernel
theorem dX6_bits_14 : decode cX6_bits 14 = .ok (.iconst 1, 1) := by decide +kernel
theorem dX6_bits_15 : decode cX6_bits 15 = .ok (.iand, 1) := by decide +kernel
theorem dX6_bits_16 : decode cX6_bits 16 = .ok (.iadd, 1) := by decide +kernel
theorem dX6_bits_17 : decode cX6_bits 17 = .ok (.istore_n 1, 1) := by decide +kernel
theorem dX6_bits_18 : decode cX6_bits 18 = .ok (.iinc 2 1, 3) := by decide +kernel
theorem dX6_bits_21 : decode cX6_bits 21 = .ok (.goto (-17), 3) := by decide +kernel
theorem dX6_bits_24 : decode cX6_bits 24 = .ok (.iload_n 1, 1) := by decide +kernel
theorem dX6_bits_25 : decode cX6_bits 25 = .ok (.ireturn, 1) := by decide +kernel
set_option maxRecDepth 20000 in
theorem ggX6_isKnitter_X6_in : GoodIn wsX6_isKnitter wsX6_in := goodIn_r _ [4] (by decide +kernel) (by decide +kernel)
set_option maxRecDepth 20000 in
theorem gX6_isKnitter_X6_in : GoodIn wsX6_isKnitter (va_wsS RX6 41 yX6_in wsX6_in) := goodIn_app (goodIn_of _ (by decide +kernel)) ggX6_isKnitter_X6_in
theorem dX6_isKnitter_0 : decode cX6_isKnitter 0 = .ok (.iload_n 0, 1) := by decide +kernel
theorem dX6_isKnitter_1 : decode cX6_isKnitter 1 = .ok (.iconst 0, 1) := by decide +kernel
theorem dX6_isKnitter_2 : decode cX6_isKnitter 2 = .ok (.iconst 3, 1) := by decide +kernel
theorem dX6_isKnitter_3 : decode cX6_isKnitter 3 = .ok (.invokestatic 41, 3) := by decide +kernel
theorem dX6_isKnitter_6 : decode cX6_isKnitter 6 = .ok (.ireturn, 1) := by decide +kernel
set_option maxRecDepth 20000 in
theorem ggX6_isStitch_X6_in : GoodIn wsX6_isStitch wsX6_in := goodIn_r _ [5] (by decide +kernel) (by decide +kernel)
set_option maxRecDepth 20000 in
theorem gX6_isStitch_X6_in : GoodIn wsX6_isStitch (va_wsS RX6 41 yX6_in wsX6_in) := goodIn_app (goodIn_of _ (by decide +kernel)) ggX6_isStitch_X6_in
theorem dX6_isStitch_0 : decode cX6_isStitch 0 = .ok (.iload_n 1, 1) := by decide +kernel
theorem dX6_isStitch_1 : decode cX6_isStitch 1 = .ok (.iconst 0, 1) := by decide +kernel
theorem dX6_isStitch_2 : decode cX6_isStitch 2 = .ok (.aload_n 0, 1) := by decide +kernel
theorem dX6_isStitch_3 : decode cX6_isStitch 3 = .ok (.getfield 7, 3) := by decide +kernel
theorem dX6_isStitch_6 : decode cX6_isStitch 6 = .ok (.bipush 96, 2) := by decide +kernel
theorem dX6_isStitch_8 : decode cX6_isStitch 8 = .ok (.iaload, 1) := by decide +kernel
theorem dX6_isStitch_9 : decode cX6_isStitch 9 = .ok (.iconst 1, 1) := by decide +kernel
theorem dX6_isStitch_10 : decode cX6_isStitch 10 = .ok (.isub, 1) := by decide +kernel
theorem dX6_isStitch_11 : decode cX6_isStitch 11 = .ok (.invokestatic 41, 3) := by decide +kernel
theorem dX6_isStitch_14 : decode cX6_isStitch 14 = .ok (.ireturn, 1) := by decide +kernel
set_option maxRecDepth 20000 in
theorem ggX6_stitch_X6_isStitch : GoodIn wsX6_stitch wsX6_isStitch := goodIn_r _ [6, 1, 7, 8, 5, 9, 10, 11, 12, 13, 14, 15, 16, 17, 18, 19, 20, 21, 22, 23, 24] (by decide +kernel) (by decide +kernel)
set_option maxRecDepth 20000 in
theorem gX6_stitch_X6_isStitch : GoodIn wsX6_stitch (wsV RX6 45 RX6 yX6_isStitch wsX6_isStitch) := goodIn_app (goodIn_of _ (by decide +kernel)) ggX6_stitch_X6_isStitch
set_option maxRecDepth 20000 in
theorem ggX6_stitch_X6_in : GoodIn wsX6_stitch wsX6_in := goodIn_r _ [9] (by decide +kernel) (by decide +kernel)
set_option maxRecDepth 20000 in
theorem gX6_stitch_X6_in : GoodIn wsX6_stitch (va_wsS RX6 41 yX6_in wsX6_in) := goodIn_app (goodIn_of _ (by decide +kernel)) ggX6_stitch_X6_in
theorem dX6_stitch_0 : decode cX6_stitch 0 = .ok (.iload_n 3, 1) := by decide +kernel
theorem dX6_stitch_1 : decode cX6_stitch 1 = .ok (.iconst (-1), 1) := by decide +kernel
theorem dX6_stitch_2 : decode cX6_stitch 2 = .ok (.if_icmp .eq 13, 3) := by decide +kernel
theorem dX6_stitch_5 : decode cX6_stitch 5 = .ok (.aload_n 0, 1) := by decide +kernel
theorem dX6_stitch_6 : decode cX6_stitch 6 = .ok (.iload_n 3, 1) := by decide +kernel
theorem dX6_stitch_7 : decode cX6_stitch 7 = .ok (.invokevirtual 45, 3) := by decide +kernel
theorem dX6_stitch_10 : decode cX6_stitch 10 = .ok (.ifCond .ne 5, 3) := by decide +kernel
theorem dX6_stitch_13 : decode cX6_stitch 13 = .ok (.iconst (-1), 1) := by decide +kernel
theorem dX6_stitch_14 : decode cX6_stitch 14 = .ok (.ireturn, 1) := by decide +kernel
theorem dX6_stitch_15 : decode cX6_stitch 15 = .ok (.iload_n 1, 1) := by decide +kernel
theorem dX6_stitch_16 : decode cX6_stitch 16 = .ok (.iconst 0, 1) := by decide +kernel
theorem dX6_stitch_17 : decode cX6_stitch 17 = .ok (.iconst 3, 1) := by decide +kernel
theorem dX6_stitch_18 : decode cX6_stitch 18 = .ok (.invokestatic 41, 3) := by decide +kernel
theorem dX6_stitch_21 : decode cX6_stitch 21 = .ok (.ifCond .eq 13, 3) := by decide +kernel
theorem dX6_stitch_24 : decode cX6_stitch 24 = .ok (.iload_n 2, 1) := by decide +kernel
theorem dX6_stitch_25 : decode cX6_stitch 25 = .ok (.iconst 0, 1) := by decide +kernel
theorem dX6_stitch_26 : decode cX6_stitch 26 = .ok (.bipush 9, 2) := by decide +kernel
theorem dX6_stitch_28 : decode cX6_stitch 28 = .ok (.invokestatic 41, 3) := by decide +kernel
theorem dX6_stitch_31 : decode cX6_stitch 31 = .ok (.ifCond .ne 6, 3) := by decide +kernel
theorem dX6_stitch_34 : decode cX6_stitch 34 = .ok (.bipush (-2), 2) := by decide +kernel
theorem dX6_stitch_36 : decode cX6_stitch 36 = .ok (.ireturn, 1) := by decide +kernel
theorem dX6_stitch_37 : decode cX6_stitch 37 = .ok (.aload_n 0, 1) := by decide +kernel
theorem dX6_stitch_38 : decode cX6_stitch 38 = .ok (.getfield 7, 3) := by decide +kernel
theorem dX6_stitch_41 : decode cX6_stitch 41 = .ok (.bipush 96, 2) := by decide +kernel
theorem dX6_stitch_43 : decode cX6_stitch 43 = .ok (.iaload, 1) := by decide +kernel
theorem dX6_stitch_44 : decode cX6_stitch 44 = .ok (.istore 4, 2) := by decide +kernel
theorem dX6_stitch_46 : decode cX6_stitch 46 = .ok (.iload 4, 2) := by decide +kernel
theorem dX6_stitch_48 : decode cX6_stitch 48 = .ok (.bipush 24, 2) := by decide +kernel
theorem dX6_stitch_50 : decode cX6_stitch 50 = .ok (.if_icmp .ne 6, 3) := by decide +kernel
theorem dX6_stitch_53 : decode cX6_stitch 53 = .ok (.bipush (-4), 2) := by decide +kernel
theorem dX6_stitch_55 : decode cX6_stitch 55 = .ok (.ireturn, 1) := by decide +kernel
theorem dX6_stitch_56 : decode cX6_stitch 56 = .ok (.aload_n 0, 1) := by decide +kernel
theorem dX6_stitch_57 : decode cX6_stitch 57 = .ok (.getfield 7, 3) := by decide +kernel
theorem dX6_stitch_60 : decode cX6_stitch 60 = .ok (.iload 4, 2) := by decide +kernel
theorem dX6_stitch_62 : decode cX6_stitch 62 = .ok (.iload_n 1, 1) := by decide +kernel
theorem dX6_stitch_63 : decode cX6_stitch 63 = .ok (.iastore, 1) := by decide +kernel
theorem dX6_stitch_64 : decode cX6_stitch 64 = .ok (.aload_n 0, 1) := by decide +kernel
theorem dX6_stitch_65 : decode cX6_stitch 65 = .ok (.getfield 7, 3) := by decide +kernel
theorem dX6_stitch_68 : decode cX6_stitch 68 = .ok (.bipush 24, 2) := by decide +kernel
theorem dX6_stitch_70 : decode cX6_stitch 70 = .ok (.iload 4, 2) := by decide +kernel
theorem dX6_stitch_72 : decode cX6_stitch 72 = .ok (.iadd, 1) := by decide +kernel
theorem dX6_stitch_73 : decode cX6_stitch 73 = .ok (.iload_n 2, 1) := by decide +kernel
theorem dX6_stitch_74 : decode cX6_stitch 74 = .ok (.iastore, 1) := by decide +kernel
theorem dX6_stitch_75 : decode cX6_stitch 75 = .ok (.aload_n 0, 1) := by decide +kernel
theorem dX6_stitch_76 : decode cX6_stitch 76 = .ok (.getfield 7, 3) := by decide +kernel
theorem dX6_stitch_79 : decode cX6_stitch 79 = .ok (.bipush 48, 2) := by decide +kernel
theorem dX6_stitch_81 : decode cX6_stitch 81 = .ok (.iload 4, 2) := by decide +kernel
theorem dX6_stitch_83 : decode cX6_stitch 83 = .ok (.iadd, 1) := by decide +kernel
theorem dX6_stitch_84 : decode cX6_stitch 84 = .ok (.iload_n 3, 1) := by decide +kernel
theorem dX6_stitch_85 : decode cX6_stitch 85 = .ok (.ifCond .ge 8, 3) := by decide +kernel
theorem dX6_stitch_88 : decode cX6_stitch 88 = .ok (.bipush (-6), 2) := by decide +kernel
theorem dX6_stitch_90 : decode cX6_stitch 90 = .ok (.goto 4, 3) := by decide +kernel
theorem dX6_stitch_93 : decode cX6_stitch 93 = .ok (.iload_n 3, 1) := by decide +kernel
theorem dX6_stitch_94 : decode cX6_stitch 94 = .ok (.iastore, 1) := by decide +kernel
theorem dX6_stitch_95 : decode cX6_stitch 95 = .ok (.aload_n 0, 1) := by decide +kernel
theorem dX6_stitch_96 : decode cX6_stitch 96 = .ok (.getfield 7, 3) := by decide +kernel
theorem dX6_stitch_99 : decode cX6_stitch 99 = .ok (.bipush 72, 2) := by decide +kernel
theorem dX6_stitch_101 : decode cX6_stitch 101 = .ok (.iload 4, 2) := by decide +kernel
theorem dX6_stitch_103 : decode cX6_stitch 103 = .ok (.iadd, 1) := by decide +kernel
theorem dX6_stitch_104 : decode cX6_stitch 104 = .ok (.iconst 0, 1) := by decide +kernel
theorem dX6_stitch_105 : decode cX6_stitch 105 = .ok (.iastore, 1) := by decide +kernel
theorem dX6_stitch_106 : decode cX6_stitch 106 = .ok (.aload_n 0, 1) := by decide +kernel
theorem dX6_stitch_107 : decode cX6_stitch 107 = .ok (.getfield 7, 3) := by decide +kernel
theorem dX6_stitch_110 : decode cX6_stitch 110 = .ok (.bipush 96, 2) := by decide +kernel
theorem dX6_stitch_112 : decode cX6_stitch 112 = .ok (.iload 4, 2) := by decide +kernel
theorem dX6_stitch_114 : decode cX6_stitch 114 = .ok (.iconst 1, 1) := by decide +kernel
theorem dX6_stitch_115 : decode cX6_stitch 115 = .ok (.iadd, 1) := by decide +kernel
theorem dX6_stitch_116 : decode cX6_stitch 116 = .ok (.iastore, 1) := by decide +kernel
theorem dX6_stitch_117 : decode cX6_stitch 117 = .ok (.iload 4, 2) := by decide +kernel
theorem dX6_stitch_119 : decode cX6_stitch 119 = .ok (.iconst 1, 1) := by decide +kernel
theorem dX6_stitch_120 : decode cX6_stitch 120 = .ok (.iadd, 1) := by decide +kernel
theorem dX6_stitch_121 : decode cX6_stitch 121 = .ok (.ireturn, 1) := by decide +kernel
theorem dX6_cast_0 : decode cX6_cast 0 = .ok (.aload_n 0, 1) := by decide +kernel
theorem dX6_cast_1 : decode cX6_cast 1 = .ok (.getfield 7, 3) := by decide +kernel
theorem dX6_cast_4 : decode cX6_cast 4 = .ok (.bipush 96, 2) := by decide +kernel
theorem dX6_cast_6 : decode cX6_cast 6 = .ok (.iaload, 1) := by decide +kernel
theorem dX6_cast_7 : decode cX6_cast 7 = .ok (.istore_n 1, 1) := by decide +kernel
theorem dX6_cast_8 : decode cX6_cast 8 = .ok (.aload_n 0, 1) := by decide +kernel
theorem dX6_cast_9 : decode cX6_cast 9 = .ok (.getfield 7, 3) := by decide +kernel
theorem dX6_cast_12 : decode cX6_cast 12 = .ok (.bipush 96, 2) := by decide +kernel
theorem dX6_cast_14 : decode cX6_cast 14 = .ok (.iconst 0, 1) := by decide +kernel
theorem dX6_cast_15 : decode cX6_cast 15 = .ok (.iastore, 1) := by decide +kernel
theorem dX6_cast_16 : decode cX6_cast 16 = .ok (.iload_n 1, 1) := by decide +kernel
theorem dX6_cast_17 : decode cX6_cast 17 = .ok (.ireturn, 1) := by decide +kernel
set_option maxRecDepth 20000 in
theorem ggX6_knitter_X6_isKnitter : GoodIn wsX6_knitter wsX6_isKnitter := goodIn_r _ [5, 6, 7, 4, 8] (by decide +kernel) (by decide +kernel)
set_option maxRecDepth 20000 in
theorem gX6_knitter_X6_isKnitter : GoodIn wsX6_knitter (va_wsS RX6 49 yX6_isKnitter wsX6_isKnitter) := goodIn_app (goodIn_of _ (by decide +kernel)) ggX6_knitter_X6_isKnitter
set_option maxRecDepth 20000 in
theorem ggX6_knitter_X6_in : GoodIn wsX6_knitter wsX6_in := goodIn_r _ [8] (by decide +kernel) (by decide +kernel)
set_option maxRecDepth 20000 in
theorem gX6_knitter_X6_in : GoodIn wsX6_knitter (va_wsS RX6 41 yX6_in wsX6_in) := goodIn_app (goodIn_of _ (by decide +kernel)) ggX6_knitter_X6_in
theorem dX6_knitter_0 : decode cX6_knitter 0 = .ok (.iload_n 1, 1) := by decide +kernel
theorem dX6_knitter_1 : decode cX6_knitter 1 = .ok (.invokestatic 49, 3) := by decide +kernel
theorem dX6_knitter_4 : decode cX6_knitter 4 = .ok (.ifCond .ne 5, 3) := by decide +kernel
theorem dX6_knitter_7 : decode cX6_knitter 7 = .ok (.iconst (-1), 1) := by decide +kernel
theorem dX6_knitter_8 : decode cX6_knitter 8 = .ok (.ireturn, 1) := by decide +kernel
theorem dX6_knitter_9 : decode cX6_knitter 9 = .ok (.iload_n 2, 1) := by decide +kernel
theorem dX6_knitter_10 : decode cX6_knitter 10 = .ok (.iconst 0, 1) := by decide +kernel
theorem dX6_knitter_11 : decode cX6_knitter 11 = .ok (.bipush 9, 2) := by decide +kernel
theorem dX6_knitter_13 : decode cX6_knitter 13 = .ok (.invokestatic 41, 3) := by decide +kernel
theorem dX6_knitter_16 : decode cX6_knitter 16 = .ok (.ifCond .ne 6, 3) := by decide +kernel
theorem dX6_knitter_19 : decode cX6_knitter 19 = .ok (.bipush (-2), 2) := by decide +kernel
theorem dX6_knitter_21 : decode cX6_knitter 21 = .ok (.ireturn, 1) := by decide +kernel
theorem dX6_knitter_22 : decode cX6_knitter 22 = .ok (.aload_n 0, 1) := by decide +kernel
theorem dX6_knitter_23 : decode cX6_knitter 23 = .ok (.getfield 16, 3) := by decide +kernel
theorem dX6_knitter_26 : decode cX6_knitter 26 = .ok (.iload_n 1, 1) := by decide +kernel
theorem dX6_knitter_27 : decode cX6_knitter 27 = .ok (.iaload, 1) := by decide +kernel
theorem dX6_knitter_28 : decode cX6_knitter 28 = .ok (.istore_n 3, 1) := by decide +kernel
theorem dX6_knitter_29 : decode cX6_knitter 29 = .ok (.aload_n 0, 1) := by decide +kernel
theorem dX6_knitter_30 : decode cX6_knitter 30 = .ok (.getfield 16, 3) := by decide +kernel
theorem dX6_knitter_33 : decode cX6_knitter 33 = .ok (.iload_n 1, 1) := by decide +kernel
theorem dX6_knitter_34 : decode cX6_knitter 34 = .ok (.iload_n 2, 1) := by decide +kernel
theorem dX6_knitter_35 : decode cX6_knitter 35 = .ok (.iastore, 1) := by decide +kernel
theorem dX6_knitter_36 : decode cX6_knitter 36 = .ok (.iload_n 3, 1) := by decide +kernel
theorem dX6_knitter_37 : decode cX6_knitter 37 = .ok (.ireturn, 1) := by decide +kernel
set_option maxRecDepth 20000 in
theorem ggX6_say_X6_in : GoodIn wsX6_say wsX6_in := goodIn_r _ [6] (by decide +kernel) (by decide +kernel)
set_option maxRecDepth 20000 in
theorem gX6_say_X6_in : GoodIn wsX6_say (va_wsS RX6 41 yX6_in wsX6_in) := goodIn_app (goodIn_of _ (by decide +kernel)) ggX6_say_X6_in
theorem dX6_say_0 : decode cX6_say 0 = .ok (.iload_n 1, 1) := by decide +kernel
theorem dX6_say_1 : decode cX6_say 1 = .ok (.bipush 33, 2) := by decide +kernel
theorem dX6_say_3 : decode cX6_say 3 = .ok (.bipush 126, 2) := by decide +kernel
theorem dX6_say_5 : decode cX6_say 5 = .ok (.invokestatic 41, 3) := by decide +kernel
theorem dX6_say_8 : decode cX6_say 8 = .ok (.ifCond .ne 6, 3) := by decide +kernel
theorem dX6_say_11 : decode cX6_say 11 = .ok (.bipush (-2), 2) := by decide +kernel
theorem dX6_say_13 : decode cX6_say 13 = .ok (.ireturn, 1) := by decide +kernel
theorem dX6_say_14 : decode cX6_say 14 = .ok (.aload_n 0, 1) := by decide +kernel
theorem dX6_say_15 : decode cX6_say 15 = .ok (.getfield 52, 3) := by decide +kernel
theorem dX6_say_18 : decode cX6_say 18 = .ok (.bipush 60, 2) := by decide +kernel
theorem dX6_say_20 : decode cX6_say 20 = .ok (.if_icmp .ne 6, 3) := by decide +kernel
theorem dX6_say_23 : decode cX6_say 23 = .ok (.bipush (-4), 2) := by decide +kernel
theorem dX6_say_25 : decode cX6_say 25 = .ok (.ireturn, 1) := by decide +kernel
theorem dX6_say_26 : decode cX6_say 26 = .ok (.aload_n 0, 1) := by decide +kernel
theorem dX6_say_27 : decode cX6_say 27 = .ok (.getfield 22, 3) := by decide +kernel
theorem dX6_say_30 : decode cX6_say 30 = .ok (.aload_n 0, 1) := by decide +kernel
theorem dX6_say_31 : decode cX6_say 31 = .ok (.getfield 52, 3) := by decide +kernel
theorem dX6_say_34 : decode cX6_say 34 = .ok (.iload_n 1, 1) := by decide +kernel
theorem dX6_say_35 : decode cX6_say 35 = .ok (.iastore, 1) := by decide +kernel
theorem dX6_say_36 : decode cX6_say 36 = .ok (.aload_n 0, 1) := by decide +kernel
theorem dX6_say_37 : decode cX6_say 37 = .ok (.dup, 1) := by decide +kernel
theorem dX6_say_38 : decode cX6_say 38 = .ok (.getfield 52, 3) := by decide +kernel
theorem dX6_say_41 : decode cX6_say 41 = .ok (.iconst 1, 1) := by decide +kernel
theorem dX6_say_42 : decode cX6_say 42 = .ok (.iadd, 1) := by decide +kernel
theorem dX6_say_43 : decode cX6_say 43 = .ok (.putfield 52, 3) := by decide +kernel
theorem dX6_say_46 : decode cX6_say 46 = .ok (.aload_n 0, 1) := by decide +kernel
theorem dX6_say_47 : decode cX6_say 47 = .ok (.getfield 52, 3) := by decide +kernel
theorem dX6_say_50 : decode cX6_say 50 = .ok (.ireturn, 1) := by decide +kernel
theorem dX6_wipe_0 : decode cX6_wipe 0 = .ok (.aload_n 0, 1) := by decide +kernel
theorem dX6_wipe_1 : decode cX6_wipe 1 = .ok (.getfield 52, 3) := by decide +kernel
theorem dX6_wipe_4 : decode cX6_wipe 4 = .ok (.istore_n 1, 1) := by decide +kernel
theorem dX6_wipe_5 : decode cX6_wipe 5 = .ok (.aload_n 0, 1) := by decide +kernel
theorem dX6_wipe_6 : decode cX6_wipe 6 = .ok (.iconst 0, 1) := by decide +kernel
theorem dX6_wipe_7 : decode cX6_wipe 7 = .ok (.putfield 52, 3) := by decide +kernel
theorem dX6_wipe_10 : decode cX6_wipe 10 = .ok (.iload_n 1, 1) := by decide +kernel
theorem dX6_wipe_11 : decode cX6_wipe 11 = .ok (.ireturn, 1) := by decide +kernel
set_option maxRecDepth 20000 in
theorem ggX6_isHand_X6_in : GoodIn wsX6_isHand wsX6_in := goodIn_r _ [4] (by decide +kernel) (by decide +kernel)
set_option maxRecDepth 20000 in
theorem gX6_isHand_X6_in : GoodIn wsX6_isHand (va_wsS RX6 41 yX6_in wsX6_in) := goodIn_app (goodIn_of _ (by decide +kernel)) ggX6_isHand_X6_in
theorem dX6_isHand_0 : decode cX6_isHand 0 = .ok (.iload_n 0, 1) := by decide +kernel
theorem dX6_isHand_1 : decode cX6_isHand 1 = .ok (.bipush 97, 2) := by decide +kernel
theorem dX6_isHand_3 : decode cX6_isHand 3 = .ok (.bipush 100, 2) := by decide +kernel
theorem dX6_isHand_5 : decode cX6_isHand 5 = .ok (.invokestatic 41, 3) := by decide +kernel
theorem dX6_isHand_8 : decode cX6_isHand 8 = .ok (.ireturn, 1) := by decide +kernel
set_option maxRecDepth 20000 in
theorem ggX6_isLetter_X6_in : GoodIn wsX6_isLetter wsX6_in := goodIn_r _ [4] (by decide +kernel) (by decide +kernel)
set_option maxRecDepth 20000 in
theorem gX6_isLetter_X6_in : GoodIn wsX6_isLetter (va_wsS RX6 41 yX6_in wsX6_in) := goodIn_app (goodIn_of _ (by decide +kernel)) ggX6_isLetter_X6_in
theorem dX6_isLetter_0 : decode cX6_isLetter 0 = .ok (.iload_n 0, 1) := by decide +kernel
theorem dX6_isLetter_1 : decode cX6_isLetter 1 = .ok (.bipush 65, 2) := by decide +kernel
theorem dX6_isLetter_3 : decode cX6_isLetter 3 = .ok (.bipush 88, 2) := by decide +kernel
theorem dX6_isLetter_5 : decode cX6_isLetter 5 = .ok (.invokestatic 41, 3) := by decide +kernel
theorem dX6_isLetter_8 : decode cX6_isLetter 8 = .ok (.ireturn, 1) := by decide +kernel
set_option maxRecDepth 20000 in
theorem ggX6_faultOf_X6_isHand : GoodIn wsX6_faultOf wsX6_isHand := goodIn_r _ [6, 7, 8, 5, 9] (by decide +kernel) (by decide +kernel)
set_option maxRecDepth 20000 in
theorem gX6_faultOf_X6_isHand : GoodIn wsX6_faultOf (va_wsS RX6 56 yX6_isHand wsX6_isHand) := goodIn_app (goodIn_of _ (by decide +kernel)) ggX6_faultOf_X6_isHand
set_option maxRecDepth 20000 in
theorem ggX6_faultOf_X6_in : GoodIn wsX6_faultOf wsX6_in := goodIn_r _ [9] (by decide +kernel) (by decide +kernel)
set_option maxRecDepth 20000 in
theorem gX6_faultOf_X6_in : GoodIn wsX6_faultOf (va_wsS RX6 41 yX6_in wsX6_in) := goodIn_app (goodIn_of _ (by decide +kernel)) ggX6_faultOf_X6_in
set_option maxRecDepth 20000 in
theorem ggX6_faultOf_X6_isLetter : GoodIn wsX6_faultOf wsX6_isLetter := goodIn_r _ [12, 7, 8, 5, 9] (by decide +kernel) (by decide +kernel)
set_option maxRecDepth 20000 in
theorem gX6_faultOf_X6_isLetter : GoodIn wsX6_faultOf (va_wsS RX6 59 yX6_isLetter wsX6_isLetter) := goodIn_app (goodIn_of _ (by decide +kernel)) ggX6_faultOf_X6_isLetter
theorem dX6_faultOf_0 : decode cX6_faultOf 0 = .ok (.iconst 0, 1) := by decide +kernel
theorem dX6_faultOf_1 : decode cX6_faultOf 1 = .ok (.istore_n 1, 1) := by decide +kernel
theorem dX6_faultOf_2 : decode cX6_faultOf 2 = .ok (.iconst 0, 1) := by decide +kernel
theorem dX6_faultOf_3 : decode cX6_faultOf 3 = .ok (.istore_n 2, 1) := by decide +kernel
theorem dX6_faultOf_4 : decode cX6_faultOf 4 = .ok (.iload_n 2, 1) := by decide +kernel
theorem dX6_faultOf_5 : decode cX6_faultOf 5 = .ok (.aload_n 0, 1) := by decide +kernel
theorem dX6_faultOf_6 : decode cX6_faultOf 6 = .ok (.getfield 52, 3) := by decide +kernel
theorem dX6_faultOf_9 : decode cX6_faultOf 9 = .ok (.if_icmp .ge 142, 3) := by decide +kernel
theorem dX6_faultOf_12 : decode cX6_faultOf 12 = .ok (.aload_n 0, 1) := by decide +kernel
theorem dX6_faultOf_13 : decode cX6_faultOf 13 = .ok (.getfield 22, 3) := by decide +kernel
theorem dX6_faultOf_16 : decode cX6_faultOf 16 = .ok (.iload_n 2, 1) := by decide +kernel
theorem dX6_faultOf_17 : decode cX6_faultOf 17 = .ok (.iaload, 1) := by decide +kernel
theorem dX6_faultOf_18 : decode cX6_faultOf 18 = .ok (.istore_n 3, 1) := by decide +kernel
theorem dX6_faultOf_19 : decode cX6_faultOf 19 = .ok (.iconst 0, 1) := by decide +kernel
theorem dX6_faultOf_20 : decode cX6_faultOf 20 = .ok (.istore 5, 2) := by decide +kernel
theorem dX6_faultOf_22 : decode cX6_faultOf 22 = .ok (.iload_n 1, 1) := by decide +kernel
theorem dX6_faultOf_23 : decode cX6_faultOf 23 = .ok (.ifCond .ne 62, 3) := by decide +kernel
theorem dX6_faultOf_26 : decode cX6_faultOf 26 = .ok (.iload_n 3, 1) := by decide +kernel
theorem dX6_faultOf_27 : decode cX6_faultOf 27 = .ok (.invokestatic 56, 3) := by decide +kernel
theorem dX6_faultOf_30 : decode cX6_faultOf 30 = .ok (.ifCond .ne 21, 3) := by decide +kernel
theorem dX6_faultOf_33 : decode cX6_faultOf 33 = .ok (.iload_n 3, 1) := by decide +kernel
theorem dX6_faultOf_34 : decode cX6_faultOf 34 = .ok (.bipush 45, 2) := by decide +kernel
theorem dX6_faultOf_36 : decode cX6_faultOf 36 = .ok (.if_icmp .eq 15, 3) := by decide +kernel
theorem dX6_faultOf_39 : decode cX6_faultOf 39 = .ok (.iload_n 3, 1) := by decide +kernel
theorem dX6_faultOf_40 : decode cX6_faultOf 40 = .ok (.bipush 42, 2) := by decide +kernel
theorem dX6_faultOf_42 : decode cX6_faultOf 42 = .ok (.if_icmp .eq 9, 3) := by decide +kernel
theorem dX6_faultOf_45 : decode cX6_faultOf 45 = .ok (.iload_n 3, 1) := by decide +kernel
theorem dX6_faultOf_46 : decode cX6_faultOf 46 = .ok (.bipush 43, 2) := by decide +kernel
theorem dX6_faultOf_48 : decode cX6_faultOf 48 = .ok (.if_icmp .ne 7, 3) := by decide +kernel
theorem dX6_faultOf_51 : decode cX6_faultOf 51 = .ok (.iconst 1, 1) := by decide +kernel
theorem dX6_faultOf_52 : decode cX6_faultOf 52 = .ok (.goto 4, 3) := by decide +kernel
theorem dX6_faultOf_55 : decode cX6_faultOf 55 = .ok (.iconst 0, 1) := by decide +kernel
theorem dX6_faultOf_56 : decode cX6_faultOf 56 = .ok (.istore 4, 2) := by decide +kernel
theorem dX6_faultOf_58 : decode cX6_faultOf 58 = .ok (.iload_n 3, 1) := by decide +kernel
theorem dX6_faultOf_59 : decode cX6_faultOf 59 = .ok (.invokestatic 56, 3) := by decide +kernel
theorem dX6_faultOf_62 : decode cX6_faultOf 62 = .ok (.ifCond .eq 7, 3) := by decide +kernel
theorem dX6_faultOf_65 : decode cX6_faultOf 65 = .ok (.iconst 1, 1) := by decide +kernel
theorem dX6_faultOf_66 : decode cX6_faultOf 66 = .ok (.goto 14, 3) := by decide +kernel
theorem dX6_faultOf_69 : decode cX6_faultOf 69 = .ok (.iload_n 3, 1) := by decide +kernel
theorem dX6_faultOf_70 : decode cX6_faultOf 70 = .ok (.bipush 43, 2) := by decide +kernel
theorem dX6_faultOf_72 : decode cX6_faultOf 72 = .ok (.if_icmp .ne 7, 3) := by decide +kernel
theorem dX6_faultOf_75 : decode cX6_faultOf 75 = .ok (.iconst 3, 1) := by decide +kernel
theorem dX6_faultOf_76 : decode cX6_faultOf 76 = .ok (.goto 4, 3) := by decide +kernel
theorem dX6_faultOf_79 : decode cX6_faultOf 79 = .ok (.iconst 2, 1) := by decide +kernel
theorem dX6_faultOf_80 : decode cX6_faultOf 80 = .ok (.istore 5, 2) := by decide +kernel
theorem dX6_faultOf_82 : decode cX6_faultOf 82 = .ok (.goto 53, 3) := by decide +kernel
theorem dX6_faultOf_85 : decode cX6_faultOf 85 = .ok (.iload_n 1, 1) := by decide +kernel
theorem dX6_faultOf_86 : decode cX6_faultOf 86 = .ok (.iconst 1, 1) := by decide +kernel
theorem dX6_faultOf_87 : decode cX6_faultOf 87 = .ok (.if_icmp .ne 16, 3) := by decide +kernel
theorem dX6_faultOf_90 : decode cX6_faultOf 90 = .ok (.iload_n 3, 1) := by decide +kernel
theorem dX6_faultOf_91 : decode cX6_faultOf 91 = .ok (.bipush 48, 2) := by decide +kernel
theorem dX6_faultOf_93 : decode cX6_faultOf 93 = .ok (.bipush 51, 2) := by decide +kernel
theorem dX6_faultOf_95 : decode cX6_faultOf 95 = .ok (.invokestatic 41, 3) := by decide +kernel
theorem dX6_faultOf_98 : decode cX6_faultOf 98 = .ok (.istore 4, 2) := by decide +kernel
theorem dX6_faultOf_100 : decode cX6_faultOf 100 = .ok (.goto 35, 3) := by decide +kernel
theorem dX6_faultOf_103 : decode cX6_faultOf 103 = .ok (.iload_n 1, 1) := by decide +kernel
theorem dX6_faultOf_104 : decode cX6_faultOf 104 = .ok (.iconst 4, 1) := by decide +kernel
theorem dX6_faultOf_105 : decode cX6_faultOf 105 = .ok (.if_icmp .ne 12, 3) := by decide +kernel
theorem dX6_faultOf_108 : decode cX6_faultOf 108 = .ok (.iload_n 3, 1) := by decide +kernel
theorem dX6_faultOf_109 : decode cX6_faultOf 109 = .ok (.invokestatic 56, 3) := by decide +kernel
theorem dX6_faultOf_112 : decode cX6_faultOf 112 = .ok (.istore 4, 2) := by decide +kernel
theorem dX6_faultOf_114 : decode cX6_faultOf 114 = .ok (.goto 21, 3) := by decide +kernel
theorem dX6_faultOf_117 : decode cX6_faultOf 117 = .ok (.iload_n 3, 1) := by decide +kernel
theorem dX6_faultOf_118 : decode cX6_faultOf 118 = .ok (.invokestatic 59, 3) := by decide +kernel
theorem dX6_faultOf_121 : decode cX6_faultOf 121 = .ok (.istore 4, 2) := by decide +kernel
theorem dX6_faultOf_123 : decode cX6_faultOf 123 = .ok (.iload_n 1, 1) := by decide +kernel
theorem dX6_faultOf_124 : decode cX6_faultOf 124 = .ok (.iconst 3, 1) := by decide +kernel
theorem dX6_faultOf_125 : decode cX6_faultOf 125 = .ok (.if_icmp .ne 7, 3) := by decide +kernel
theorem dX6_faultOf_128 : decode cX6_faultOf 128 = .ok (.iconst 4, 1) := by decide +kernel
theorem dX6_faultOf_129 : decode cX6_faultOf 129 = .ok (.goto 4, 3) := by decide +kernel
theorem dX6_faultOf_132 : decode cX6_faultOf 132 = .ok (.iconst 0, 1) := by decide +kernel
theorem dX6_faultOf_133 : decode cX6_faultOf 133 = .ok (.istore 5, 2) := by decide +kernel
theorem dX6_faultOf_135 : decode cX6_faultOf 135 = .ok (.iload 4, 2) := by decide +kernel
theorem dX6_faultOf_137 : decode cX6_faultOf 137 = .ok (.ifCond .ne 5, 3) := by decide +kernel
theorem dX6_faultOf_140 : decode cX6_faultOf 140 = .ok (.iload_n 2, 1) := by decide +kernel
theorem dX6_faultOf_141 : decode cX6_faultOf 141 = .ok (.ireturn, 1) := by decide +kernel
theorem dX6_faultOf_142 : decode cX6_faultOf 142 = .ok (.iload 5, 2) := by decide +kernel
theorem dX6_faultOf_144 : decode cX6_faultOf 144 = .ok (.istore_n 1, 1) := by decide +kernel
theorem dX6_faultOf_145 : decode cX6_faultOf 145 = .ok (.iinc 2 1, 3) := by decide +kernel
theorem dX6_faultOf_148 : decode cX6_faultOf 148 = .ok (.goto (-144), 3) := by decide +kernel
theorem dX6_faultOf_151 : decode cX6_faultOf 151 = .ok (.iload_n 1, 1) := by decide +kernel
theorem dX6_faultOf_152 : decode cX6_faultOf 152 = .ok (.ifCond .ne 8, 3) := by decide +kernel
theorem dX6_faultOf_155 : decode cX6_faultOf 155 = .ok (.bipush (-6), 2) := by decide +kernel
theorem dX6_faultOf_157 : decode cX6_faultOf 157 = .ok (.goto 7, 3) := by decide +kernel
theorem dX6_faultOf_160 : decode cX6_faultOf 160 = .ok (.aload_n 0, 1) := by decide +kernel
theorem dX6_faultOf_161 : decode cX6_faultOf 161 = .ok (.getfield 52, 3) := by decide +kernel
theorem dX6_faultOf_164 : decode cX6_faultOf 164 = .ok (.ireturn, 1) := by decide +kernel
set_option maxRecDepth 20000 in
theorem ggX6_fault_X6_faultOf : GoodIn wsX6_fault wsX6_faultOf := goodIn_r _ [5, 6, 7, 8, 9, 4, 10, 11, 12, 13, 14, 15, 16, 17, 18, 19, 20, 21, 22, 23, 24, 25, 26, 27, 28, 29, 30, 31] (by decide +kernel) (by decide +kernel)
set_option maxRecDepth 20000 in
theorem gX6_fault_X6_faultOf : GoodIn wsX6_fault (wsV RX6 62 RX6 yX6_faultOf wsX6_faultOf) := goodIn_app (goodIn_of _ (by decide +kernel)) ggX6_fault_X6_faultOf
theorem dX6_fault_0 : decode cX6_fault 0 = .ok (.aload_n 0, 1) := by decide +kernel
theorem dX6_fault_1 : decode cX6_fault 1 = .ok (.invokevirtual 62, 3) := by decide +kernel
theorem dX6_fault_4 : decode cX6_fault 4 = .ok (.ireturn, 1) := by decide +kernel
theorem dX6_asNow_0 : decode cX6_asNow 0 = .ok (.iconst 0, 1) := by decide +kernel
theorem dX6_asNow_1 : decode cX6_asNow 1 = .ok (.istore_n 1, 1) := by decide +kernel
theorem dX6_asNow_2 : decode cX6_asNow 2 = .ok (.iload_n 1, 1) := by decide +kernel
theorem dX6_asNow_3 : decode cX6_asNow 3 = .ok (.bipush 97, 2) := by decide +kernel
theorem dX6_asNow_5 : decode cX6_asNow 5 = .ok (.if_icmp .ge 21, 3) := by decide +kernel
theorem dX6_asNow_8 : decode cX6_asNow 8 = .ok (.aload_n 0, 1) := by decide +kernel
theorem dX6_asNow_9 : decode cX6_asNow 9 = .ok (.getfield 13, 3) := by decide +kernel
theorem dX6_asNow_12 : decode cX6_asNow 12 = .ok (.iload_n 1, 1) := by decide +kernel
theorem dX6_asNow_13 : decode cX6_asNow 13 = .ok (.aload_n 0, 1) := by decide +kernel
theorem dX6_asNow_14 : decode cX6_asNow 14 = .ok (.getfield 7, 3) := by decide +kernel
theorem dX6_asNow_17 : decode cX6_asNow 17 = .ok (.iload_n 1, 1) := by decide +kernel
theorem dX6_asNow_18 : decode cX6_asNow 18 = .ok (.iaload, 1) := by decide +kernel
theorem dX6_asNow_19 : decode cX6_asNow 19 = .ok (.iastore, 1) := by decide +kernel
theorem dX6_asNow_20 : decode cX6_asNow 20 = .ok (.iinc 1 1, 3) := by decide +kernel
theorem dX6_asNow_23 : decode cX6_asNow 23 = .ok (.goto (-21), 3) := by decide +kernel
theorem dX6_asNow_26 : decode cX6_asNow 26 = .ok (.aload_n 0, 1) := by decide +kernel
theorem dX6_asNow_27 : decode cX6_asNow 27 = .ok (.iconst 0, 1) := by decide +kernel
theorem dX6_asNow_28 : decode cX6_asNow 28 = .ok (.putfield 66, 3) := by decide +kernel
theorem dX6_asNow_31 : decode cX6_asNow 31 = .ok (.return_, 1) := by decide +kernel
set_option maxRecDepth 20000 in
theorem ggX6_threadOf_X6_has : GoodIn wsX6_threadOf wsX6_has := goodIn_r _ [5] (by decide +kernel) (by decide +kernel)
set_option maxRecDepth 20000 in
theorem gX6_threadOf_X6_has : GoodIn wsX6_threadOf (va_wsS RX6 69 yX6_has wsX6_has) := goodIn_app (goodIn_of _ (by decide +kernel)) ggX6_threadOf_X6_has
theorem dX6_threadOf_0 : decode cX6_threadOf 0 = .ok (.iconst 1, 1) := by decide +kernel
theorem dX6_threadOf_1 : decode cX6_threadOf 1 = .ok (.iload_n 1, 1) := by decide +kernel
theorem dX6_threadOf_2 : decode cX6_threadOf 2 = .ok (.ishl, 1) := by decide +kernel
theorem dX6_threadOf_3 : decode cX6_threadOf 3 = .ok (.istore_n 2, 1) := by decide +kernel
theorem dX6_threadOf_4 : decode cX6_threadOf 4 = .ok (.iload_n 1, 1) := by decide +kernel
theorem dX6_threadOf_5 : decode cX6_threadOf 5 = .ok (.iconst 1, 1) := by decide +kernel
theorem dX6_threadOf_6 : decode cX6_threadOf 6 = .ok (.iadd, 1) := by decide +kernel
theorem dX6_threadOf_7 : decode cX6_threadOf 7 = .ok (.istore_n 3, 1) := by decide +kernel
theorem dX6_threadOf_8 : decode cX6_threadOf 8 = .ok (.iload_n 3, 1) := by decide +kernel
theorem dX6_threadOf_9 : decode cX6_threadOf 9 = .ok (.aload_n 0, 1) := by decide +kernel
theorem dX6_threadOf_10 : decode cX6_threadOf 10 = .ok (.getfield 13, 3) := by decide +kernel
theorem dX6_threadOf_13 : decode cX6_threadOf 13 = .ok (.bipush 96, 2) := by decide +kernel
theorem dX6_threadOf_15 : decode cX6_threadOf 15 = .ok (.iaload, 1) := by decide +kernel
theorem dX6_threadOf_16 : decode cX6_threadOf 16 = .ok (.if_icmp .ge 44, 3) := by decide +kernel
theorem dX6_threadOf_19 : decode cX6_threadOf 19 = .ok (.aload_n 0, 1) := by decide +kernel
theorem dX6_threadOf_20 : decode cX6_threadOf 20 = .ok (.getfield 13, 3) := by decide +kernel
theorem dX6_threadOf_23 : decode cX6_threadOf 23 = .ok (.bipush 48, 2) := by decide +kernel
theorem dX6_threadOf_25 : decode cX6_threadOf 25 = .ok (.iload_n 3, 1) := by decide +kernel
theorem dX6_threadOf_26 : decode cX6_threadOf 26 = .ok (.iadd, 1) := by decide +kernel
theorem dX6_threadOf_27 : decode cX6_threadOf 27 = .ok (.iaload, 1) := by decide +kernel
theorem dX6_threadOf_28 : decode cX6_threadOf 28 = .ok (.istore 4, 2) := by decide +kernel
theorem dX6_threadOf_30 : decode cX6_threadOf 30 = .ok (.iload_n 2, 1) := by decide +kernel
theorem dX6_threadOf_31 : decode cX6_threadOf 31 = .ok (.iload 4, 2) := by decide +kernel
theorem dX6_threadOf_33 : decode cX6_threadOf 33 = .ok (.ifCond .lt 18, 3) := by decide +kernel
theorem dX6_threadOf_36 : decode cX6_threadOf 36 = .ok (.iload_n 2, 1) := by decide +kernel
theorem dX6_threadOf_37 : decode cX6_threadOf 37 = .ok (.iload 4, 2) := by decide +kernel
theorem dX6_threadOf_39 : decode cX6_threadOf 39 = .ok (.invokestatic 69, 3) := by decide +kernel
theorem dX6_threadOf_42 : decode cX6_threadOf 42 = .ok (.ifCond .eq 9, 3) := by decide +kernel
theorem dX6_threadOf_45 : decode cX6_threadOf 45 = .ok (.iconst 1, 1) := by decide +kernel
theorem dX6_threadOf_46 : decode cX6_threadOf 46 = .ok (.iload_n 3, 1) := by decide +kernel
theorem dX6_threadOf_47 : decode cX6_threadOf 47 = .ok (.ishl, 1) := by decide +kernel
theorem dX6_threadOf_48 : decode cX6_threadOf 48 = .ok (.goto 4, 3) := by decide +kernel
theorem dX6_threadOf_51 : decode cX6_threadOf 51 = .ok (.iconst 0, 1) := by decide +kernel
theorem dX6_threadOf_52 : decode cX6_threadOf 52 = .ok (.ior, 1) := by decide +kernel
theorem dX6_threadOf_53 : decode cX6_threadOf 53 = .ok (.istore_n 2, 1) := by decide +kernel
theorem dX6_threadOf_54 : decode cX6_threadOf 54 = .ok (.iinc 3 1, 3) := by decide +kernel
theorem dX6_threadOf_57 : decode cX6_threadOf 57 = .ok (.goto (-49), 3) := by decide +kernel
theorem dX6_threadOf_60 : decode cX6_threadOf 60 = .ok (.iload_n 2, 1) := by decide +kernel
theorem dX6_threadOf_61 : decode cX6_threadOf 61 = .ok (.ireturn, 1) := by decide +kernel
set_option maxRecDepth 20000 in
theorem ggX6_takeOut_X6_has : GoodIn wsX6_takeOut wsX6_has := goodIn_r _ [6] (by decide +kernel) (by decide +kernel)
set_option maxRecDepth 20000 in
theorem gX6_takeOut_X6_has : GoodIn wsX6_takeOut (va_wsS RX6 69 yX6_has wsX6_has) := goodIn_app (goodIn_of _ (by decide +kernel)) ggX6_takeOut_X6_has
theorem dX6_takeOut_0 : decode cX6_takeOut 0 = .ok (.iconst 0, 1) := by decide +kernel
theorem dX6_takeOut_1 : decode cX6_takeOut 1 = .ok (.istore_n 2, 1) := by decide +kernel
theorem dX6_takeOut_2 : decode cX6_takeOut 2 = .ok (.iconst 0, 1) := by decide +kernel
theorem dX6_takeOut_3 : decode cX6_takeOut 3 = .ok (.istore_n 3, 1) := by decide +kernel
theorem dX6_takeOut_4 : decode cX6_takeOut 4 = .ok (.iload_n 3, 1) := by decide +kernel
theorem dX6_takeOut_5 : decode cX6_takeOut 5 = .ok (.aload_n 0, 1) := by decide +kernel
theorem dX6_takeOut_6 : decode cX6_takeOut 6 = .ok (.getfield 13, 3) := by decide +kernel
theorem dX6_takeOut_9 : decode cX6_takeOut 9 = .ok (.bipush 96, 2) := by decide +kernel
theorem dX6_takeOut_11 : decode cX6_takeOut 11 = .ok (.iaload, 1) := by decide +kernel
theorem dX6_takeOut_12 : decode cX6_takeOut 12 = .ok (.if_icmp .ge 112, 3) := by decide +kernel
theorem dX6_takeOut_15 : decode cX6_takeOut 15 = .ok (.aload_n 0, 1) := by decide +kernel
theorem dX6_takeOut_16 : decode cX6_takeOut 16 = .ok (.getfield 25, 3) := by decide +kernel
theorem dX6_takeOut_19 : decode cX6_takeOut 19 = .ok (.iload_n 3, 1) := by decide +kernel
theorem dX6_takeOut_20 : decode cX6_takeOut 20 = .ok (.iload_n 2, 1) := by decide +kernel
theorem dX6_takeOut_21 : decode cX6_takeOut 21 = .ok (.iastore, 1) := by decide +kernel
theorem dX6_takeOut_22 : decode cX6_takeOut 22 = .ok (.iload_n 1, 1) := by decide +kernel
theorem dX6_takeOut_23 : decode cX6_takeOut 23 = .ok (.iload_n 3, 1) := by decide +kernel
theorem dX6_takeOut_24 : decode cX6_takeOut 24 = .ok (.invokestatic 69, 3) := by decide +kernel
theorem dX6_takeOut_27 : decode cX6_takeOut 27 = .ok (.ifCond .ne 91, 3) := by decide +kernel
theorem dX6_takeOut_30 : decode cX6_takeOut 30 = .ok (.aload_n 0, 1) := by decide +kernel
theorem dX6_takeOut_31 : decode cX6_takeOut 31 = .ok (.getfield 13, 3) := by decide +kernel
theorem dX6_takeOut_34 : decode cX6_takeOut 34 = .ok (.bipush 48, 2) := by decide +kernel
theorem dX6_takeOut_36 : decode cX6_takeOut 36 = .ok (.iload_n 3, 1) := by decide +kernel
theorem dX6_takeOut_37 : decode cX6_takeOut 37 = .ok (.iadd, 1) := by decide +kernel
theorem dX6_takeOut_38 : decode cX6_takeOut 38 = .ok (.iaload, 1) := by decide +kernel
theorem dX6_takeOut_39 : decode cX6_takeOut 39 = .ok (.istore 4, 2) := by decide +kernel
theorem dX6_takeOut_41 : decode cX6_takeOut 41 = .ok (.aload_n 0, 1) := by decide +kernel
theorem dX6_takeOut_42 : decode cX6_takeOut 42 = .ok (.getfield 13, 3) := by decide +kernel
theorem dX6_takeOut_45 : decode cX6_takeOut 45 = .ok (.iload_n 2, 1) := by decide +kernel
theorem dX6_takeOut_46 : decode cX6_takeOut 46 = .ok (.aload_n 0, 1) := by decide +kernel
theorem dX6_takeOut_47 : decode cX6_takeOut 47 = .ok (.getfield 13, 3) := by decide +kernel
theorem dX6_takeOut_50 : decode cX6_takeOut 50 = .ok (.iload_n 3, 1) := by decide +kernel
theorem dX6_takeOut_51 : decode cX6_takeOut 51 = .ok (.iaload, 1) := by decide +kernel
theorem dX6_takeOut_52 : decode cX6_takeOut 52 = .ok (.iastore, 1) := by decide +kernel
theorem dX6_takeOut_53 : decode cX6_takeOut 53 = .ok (.aload_n 0, 1) := by decide +kernel
theorem dX6_takeOut_54 : decode cX6_takeOut 54 = .ok (.getfield 13, 3) := by decide +kernel
theorem dX6_takeOut_57 : decode cX6_takeOut 57 = .ok (.bipush 24, 2) := by decide +kernel
theorem dX6_takeOut_59 : decode cX6_takeOut 59 = .ok (.iload_n 2, 1) := by decide +kernel
theorem dX6_takeOut_60 : decode cX6_takeOut 60 = .ok (.iadd, 1) := by decide +kernel
theorem dX6_takeOut_61 : decode cX6_takeOut 61 = .ok (.aload_n 0, 1) := by decide +kernel
theorem dX6_takeOut_62 : decode cX6_takeOut 62 = .ok (.getfield 13, 3) := by decide +kernel
theorem dX6_takeOut_65 : decode cX6_takeOut 65 = .ok (.bipush 24, 2) := by decide +kernel
theorem dX6_takeOut_67 : decode cX6_takeOut 67 = .ok (.iload_n 3, 1) := by decide +kernel
theorem dX6_takeOut_68 : decode cX6_takeOut 68 = .ok (.iadd, 1) := by decide +kernel
theorem dX6_takeOut_69 : decode cX6_takeOut 69 = .ok (.iaload, 1) := by decide +kernel
theorem dX6_takeOut_70 : decode cX6_takeOut 70 = .ok (.iastore, 1) := by decide +kernel
theorem dX6_takeOut_71 : decode cX6_takeOut 71 = .ok (.aload_n 0, 1) := by decide +kernel
theorem dX6_takeOut_72 : decode cX6_takeOut 72 = .ok (.getfield 13, 3) := by decide +kernel
theorem dX6_takeOut_75 : decode cX6_takeOut 75 = .ok (.bipush 48, 2) := by decide +kernel
theorem dX6_takeOut_77 : decode cX6_takeOut 77 = .ok (.iload_n 2, 1) := by decide +kernel
theorem dX6_takeOut_78 : decode cX6_takeOut 78 = .ok (.iadd, 1) := by decide +kernel
theorem dX6_takeOut_79 : decode cX6_takeOut 79 = .ok (.iload 4, 2) := by decide +kernel
theorem dX6_takeOut_81 : decode cX6_takeOut 81 = .ok (.ifCond .ge 8, 3) := by decide +kernel
theorem dX6_takeOut_84 : decode cX6_takeOut 84 = .ok (.bipush (-6), 2) := by decide +kernel
theorem dX6_takeOut_86 : decode cX6_takeOut 86 = .ok (.goto 10, 3) := by decide +kernel
theorem dX6_takeOut_89 : decode cX6_takeOut 89 = .ok (.aload_n 0, 1) := by decide +kernel
theorem dX6_takeOut_90 : decode cX6_takeOut 90 = .ok (.getfield 25, 3) := by decide +kernel
theorem dX6_takeOut_93 : decode cX6_takeOut 93 = .ok (.iload 4, 2) := by decide +kernel
theorem dX6_takeOut_95 : decode cX6_takeOut 95 = .ok (.iaload, 1) := by decide +kernel
theorem dX6_takeOut_96 : decode cX6_takeOut 96 = .ok (.iastore, 1) := by decide +kernel
theorem dX6_takeOut_97 : decode cX6_takeOut 97 = .ok (.aload_n 0, 1) := by decide +kernel
theorem dX6_takeOut_98 : decode cX6_takeOut 98 = .ok (.getfield 13, 3) := by decide +kernel
theorem dX6_takeOut_101 : decode cX6_takeOut 101 = .ok (.bipush 72, 2) := by decide +kernel
theorem dX6_takeOut_103 : decode cX6_takeOut 103 = .ok (.iload_n 2, 1) := by decide +kernel
theorem dX6_takeOut_104 : decode cX6_takeOut 104 = .ok (.iadd, 1) := by decide +kernel
theorem dX6_takeOut_105 : decode cX6_takeOut 105 = .ok (.aload_n 0, 1) := by decide +kernel
theorem dX6_takeOut_106 : decode cX6_takeOut 106 = .ok (.getfield 13, 3) := by decide +kernel
theorem dX6_takeOut_109 : decode cX6_takeOut 109 = .ok (.bipush 72, 2) := by decide +kernel
theorem dX6_takeOut_111 : decode cX6_takeOut 111 = .ok (.iload_n 3, 1) := by decide +kernel
theorem dX6_takeOut_112 : decode cX6_takeOut 112 = .ok (.iadd, 1) := by decide +kernel
theorem dX6_takeOut_113 : decode cX6_takeOut 113 = .ok (.iaload, 1) := by decide +kernel
theorem dX6_takeOut_114 : decode cX6_takeOut 114 = .ok (.iastore, 1) := by decide +kernel
theorem dX6_takeOut_115 : decode cX6_takeOut 115 = .ok (.iinc 2 1, 3) := by decide +kernel
theorem dX6_takeOut_118 : decode cX6_takeOut 118 = .ok (.iinc 3 1, 3) := by decide +kernel
theorem dX6_takeOut_121 : decode cX6_takeOut 121 = .ok (.goto (-117), 3) := by decide +kernel
theorem dX6_takeOut_124 : decode cX6_takeOut 124 = .ok (.aload_n 0, 1) := by decide +kernel
theorem dX6_takeOut_125 : decode cX6_takeOut 125 = .ok (.getfield 13, 3) := by decide +kernel
theorem dX6_takeOut_128 : decode cX6_takeOut 128 = .ok (.bipush 96, 2) := by decide +kernel
theorem dX6_takeOut_130 : decode cX6_takeOut 130 = .ok (.iload_n 2, 1) := by decide +kernel
theorem dX6_takeOut_131 : decode cX6_takeOut 131 = .ok (.iastore, 1) := by decide +kernel
theorem dX6_takeOut_132 : decode cX6_takeOut 132 = .ok (.return_, 1) := by decide +kernel
theorem dX6_knit_0 : decode cX6_knit 0 = .ok (.aload_n 0, 1) := by decide +kernel
theorem dX6_knit_1 : decode cX6_knit 1 = .ok (.getfield 13, 3) := by decide +kernel
theorem dX6_knit_4 : decode cX6_knit 4 = .ok (.bipush 96, 2) := by decide +kernel
theorem dX6_knit_6 : decode cX6_knit 6 = .ok (.iaload, 1) := by decide +kernel
theorem dX6_knit_7 : decode cX6_knit 7 = .ok (.istore_n 3, 1) := by decide +kernel
theorem dX6_knit_8 : decode cX6_knit 8 = .ok (.iload_n 3, 1) := by decide +kernel
theorem dX6_knit_9 : decode cX6_knit 9 = .ok (.bipush 24, 2) := by decide +kernel
theorem dX6_knit_11 : decode cX6_knit 11 = .ok (.if_icmp .ne 5, 3) := by decide +kernel
theorem dX6_knit_14 : decode cX6_knit 14 = .ok (.iconst 2, 1) := by decide +kernel
theorem dX6_knit_15 : decode cX6_knit 15 = .ok (.ireturn, 1) := by decide +kernel
theorem dX6_knit_16 : decode cX6_knit 16 = .ok (.bipush (-6), 2) := by decide +kernel
theorem dX6_knit_18 : decode cX6_knit 18 = .ok (.istore 4, 2) := by decide +kernel
theorem dX6_knit_20 : decode cX6_knit 20 = .ok (.iconst 0, 1) := by decide +kernel
theorem dX6_knit_21 : decode cX6_knit 21 = .ok (.istore 5, 2) := by decide +kernel
theorem dX6_knit_23 : decode cX6_knit 23 = .ok (.iload 5, 2) := by decide +kernel
theorem dX6_knit_25 : decode cX6_knit 25 = .ok (.iload_n 3, 1) := by decide +kernel
theorem dX6_knit_26 : decode cX6_knit 26 = .ok (.if_icmp .ge 42, 3) := by decide +kernel
theorem dX6_knit_29 : decode cX6_knit 29 = .ok (.aload_n 0, 1) := by decide +kernel
theorem dX6_knit_30 : decode cX6_knit 30 = .ok (.getfield 13, 3) := by decide +kernel
theorem dX6_knit_33 : decode cX6_knit 33 = .ok (.iload 5, 2) := by decide +kernel
theorem dX6_knit_35 : decode cX6_knit 35 = .ok (.iaload, 1) := by decide +kernel
theorem dX6_knit_36 : decode cX6_knit 36 = .ok (.iload_n 2, 1) := by decide +kernel
theorem dX6_knit_37 : decode cX6_knit 37 = .ok (.if_icmp .ne 21, 3) := by decide +kernel
theorem dX6_knit_40 : decode cX6_knit 40 = .ok (.aload_n 0, 1) := by decide +kernel
theorem dX6_knit_41 : decode cX6_knit 41 = .ok (.getfield 13, 3) := by decide +kernel
theorem dX6_knit_44 : decode cX6_knit 44 = .ok (.bipush 72, 2) := by decide +kernel
theorem dX6_knit_46 : decode cX6_knit 46 = .ok (.iload 5, 2) := by decide +kernel
theorem dX6_knit_48 : decode cX6_knit 48 = .ok (.iadd, 1) := by decide +kernel
theorem dX6_knit_49 : decode cX6_knit 49 = .ok (.iaload, 1) := by decide +kernel
theorem dX6_knit_50 : decode cX6_knit 50 = .ok (.ifCond .ne 8, 3) := by decide +kernel
theorem dX6_knit_53 : decode cX6_knit 53 = .ok (.iload 5, 2) := by decide +kernel
theorem dX6_knit_55 : decode cX6_knit 55 = .ok (.goto 5, 3) := by decide +kernel
theorem dX6_knit_58 : decode cX6_knit 58 = .ok (.iload 4, 2) := by decide +kernel
theorem dX6_knit_60 : decode cX6_knit 60 = .ok (.istore 4, 2) := by decide +kernel
theorem dX6_knit_62 : decode cX6_knit 62 = .ok (.iinc 5 1, 3) := by decide +kernel
theorem dX6_knit_65 : decode cX6_knit 65 = .ok (.goto (-42), 3) := by decide +kernel
theorem dX6_knit_68 : decode cX6_knit 68 = .ok (.aload_n 0, 1) := by decide +kernel
theorem dX6_knit_69 : decode cX6_knit 69 = .ok (.getfield 13, 3) := by decide +kernel
theorem dX6_knit_72 : decode cX6_knit 72 = .ok (.iload_n 3, 1) := by decide +kernel
theorem dX6_knit_73 : decode cX6_knit 73 = .ok (.iload_n 2, 1) := by decide +kernel
theorem dX6_knit_74 : decode cX6_knit 74 = .ok (.iastore, 1) := by decide +kernel
theorem dX6_knit_75 : decode cX6_knit 75 = .ok (.aload_n 0, 1) := by decide +kernel
theorem dX6_knit_76 : decode cX6_knit 76 = .ok (.getfield 13, 3) := by decide +kernel
theorem dX6_knit_79 : decode cX6_knit 79 = .ok (.bipush 24, 2) := by decide +kernel
theorem dX6_knit_81 : decode cX6_knit 81 = .ok (.iload_n 3, 1) := by decide +kernel
theorem dX6_knit_82 : decode cX6_knit 82 = .ok (.iadd, 1) := by decide +kernel
theorem dX6_knit_83 : decode cX6_knit 83 = .ok (.aload_n 0, 1) := by decide +kernel
theorem dX6_knit_84 : decode cX6_knit 84 = .ok (.getfield 16, 3) := by decide +kernel
theorem dX6_knit_87 : decode cX6_knit 87 = .ok (.iload_n 1, 1) := by decide +kernel
theorem dX6_knit_88 : decode cX6_knit 88 = .ok (.iaload, 1) := by decide +kernel
theorem dX6_knit_89 : decode cX6_knit 89 = .ok (.iastore, 1) := by decide +kernel
theorem dX6_knit_90 : decode cX6_knit 90 = .ok (.aload_n 0, 1) := by decide +kernel
theorem dX6_knit_91 : decode cX6_knit 91 = .ok (.getfield 13, 3) := by decide +kernel
theorem dX6_knit_94 : decode cX6_knit 94 = .ok (.bipush 48, 2) := by decide +kernel
theorem dX6_knit_96 : decode cX6_knit 96 = .ok (.iload_n 3, 1) := by decide +kernel
theorem dX6_knit_97 : decode cX6_knit 97 = .ok (.iadd, 1) := by decide +kernel
theorem dX6_knit_98 : decode cX6_knit 98 = .ok (.iload 4, 2) := by decide +kernel
theorem dX6_knit_100 : decode cX6_knit 100 = .ok (.iastore, 1) := by decide +kernel
theorem dX6_knit_101 : decode cX6_knit 101 = .ok (.aload_n 0, 1) := by decide +kernel
theorem dX6_knit_102 : decode cX6_knit 102 = .ok (.getfield 13, 3) := by decide +kernel
theorem dX6_knit_105 : decode cX6_knit 105 = .ok (.bipush 72, 2) := by decide +kernel
theorem dX6_knit_107 : decode cX6_knit 107 = .ok (.iload_n 3, 1) := by decide +kernel
theorem dX6_knit_108 : decode cX6_knit 108 = .ok (.iadd, 1) := by decide +kernel
theorem dX6_knit_109 : decode cX6_knit 109 = .ok (.iconst 0, 1) := by decide +kernel
theorem dX6_knit_110 : decode cX6_knit 110 = .ok (.iastore, 1) := by decide +kernel
theorem dX6_knit_111 : decode cX6_knit 111 = .ok (.aload_n 0, 1) := by decide +kernel
theorem dX6_knit_112 : decode cX6_knit 112 = .ok (.getfield 13, 3) := by decide +kernel
theorem dX6_knit_115 : decode cX6_knit 115 = .ok (.bipush 96, 2) := by decide +kernel
theorem dX6_knit_117 : decode cX6_knit 117 = .ok (.iload_n 3, 1) := by decide +kernel
theorem dX6_knit_118 : decode cX6_knit 118 = .ok (.iconst 1, 1) := by decide +kernel
theorem dX6_knit_119 : decode cX6_knit 119 = .ok (.iadd, 1) := by decide +kernel
theorem dX6_knit_120 : decode cX6_knit 120 = .ok (.iastore, 1) := by decide +kernel
theorem dX6_knit_121 : decode cX6_knit 121 = .ok (.iconst 0, 1) := by decide +kernel
theorem dX6_knit_122 : decode cX6_knit 122 = .ok (.ireturn, 1) := by decide +kernel
set_option maxRecDepth 20000 in
theorem ggX6_pullOut_X6_threadOf : GoodIn wsX6_pullOut wsX6_threadOf := goodIn_r _ [6, 1, 7, 8, 5, 9, 18, 19, 20, 21, 22, 23, 24, 25, 26, 27, 28, 29, 30, 31, 32] (by decide +kernel) (by decide +kernel)
set_option maxRecDepth 20000 in
theorem gX6_pullOut_X6_threadOf : GoodIn wsX6_pullOut (wsV RX6 73 RX6 yX6_threadOf wsX6_threadOf) := goodIn_app (goodIn_of _ (by decide +kernel)) ggX6_pullOut_X6_threadOf
set_option maxRecDepth 20000 in
theorem ggX6_pullOut_X6_takeOut : GoodIn wsX6_pullOut wsX6_takeOut := goodIn_r _ [13, 1, 14, 7, 8, 5, 9, 18, 19, 20, 21, 22, 23, 24, 25, 26, 27, 28, 29, 30, 31, 32] (by decide +kernel) (by decide +kernel)
set_option maxRecDepth 20000 in
theorem gX6_pullOut_X6_takeOut : GoodIn wsX6_pullOut (wsV RX6 77 RX6 yX6_takeOut wsX6_takeOut) := goodIn_app (goodIn_of _ (by decide +kernel)) ggX6_pullOut_X6_takeOut
set_option maxRecDepth 20000 in
theorem ggX6_pullOut_X6_bits : GoodIn wsX6_pullOut wsX6_bits := goodIn_r _ [17] (by decide +kernel) (by decide +kernel)
set_option maxRecDepth 20000 in
theorem gX6_pullOut_X6_bits : GoodIn wsX6_pullOut (va_wsS RX6 81 yX6_bits wsX6_bits) := goodIn_app (goodIn_of _ (by decide +kernel)) ggX6_pullOut_X6_bits
theorem dX6_pullOut_0 : decode cX6_pullOut 0 = .ok (.iload_n 1, 1) := by decide +kernel
theorem dX6_pullOut_1 : decode cX6_pullOut 1 = .ok (.aload_n 0, 1) := by decide +kernel
theorem dX6_pullOut_2 : decode cX6_pullOut 2 = .ok (.getfield 13, 3) := by decide +kernel
theorem dX6_pullOut_5 : decode cX6_pullOut 5 = .ok (.bipush 96, 2) := by decide +kernel
theorem dX6_pullOut_7 : decode cX6_pullOut 7 = .ok (.iaload, 1) := by decide +kernel
theorem dX6_pullOut_8 : decode cX6_pullOut 8 = .ok (.if_icmp .lt 5, 3) := by decide +kernel
theorem dX6_pullOut_11 : decode cX6_pullOut 11 = .ok (.iconst (-1), 1) := by decide +kernel
theorem dX6_pullOut_12 : decode cX6_pullOut 12 = .ok (.ireturn, 1) := by decide +kernel
theorem dX6_pullOut_13 : decode cX6_pullOut 13 = .ok (.aload_n 0, 1) := by decide +kernel
theorem dX6_pullOut_14 : decode cX6_pullOut 14 = .ok (.iload_n 1, 1) := by decide +kernel
theorem dX6_pullOut_15 : decode cX6_pullOut 15 = .ok (.invokevirtual 73, 3) := by decide +kernel
theorem dX6_pullOut_18 : decode cX6_pullOut 18 = .ok (.istore_n 2, 1) := by decide +kernel
theorem dX6_pullOut_19 : decode cX6_pullOut 19 = .ok (.aload_n 0, 1) := by decide +kernel
theorem dX6_pullOut_20 : decode cX6_pullOut 20 = .ok (.iload_n 2, 1) := by decide +kernel
theorem dX6_pullOut_21 : decode cX6_pullOut 21 = .ok (.invokevirtual 77, 3) := by decide +kernel
theorem dX6_pullOut_24 : decode cX6_pullOut 24 = .ok (.iload_n 2, 1) := by decide +kernel
theorem dX6_pullOut_25 : decode cX6_pullOut 25 = .ok (.invokestatic 81, 3) := by decide +kernel
theorem dX6_pullOut_28 : decode cX6_pullOut 28 = .ok (.ireturn, 1) := by decide +kernel
theorem dX6_eat_0 : decode cX6_eat 0 = .ok (.iload_n 1, 1) := by decide +kernel
theorem dX6_eat_1 : decode cX6_eat 1 = .ok (.aload_n 0, 1) := by decide +kernel
theorem dX6_eat_2 : decode cX6_eat 2 = .ok (.getfield 13, 3) := by decide +kernel
theorem dX6_eat_5 : decode cX6_eat 5 = .ok (.bipush 96, 2) := by decide +kernel
theorem dX6_eat_7 : decode cX6_eat 7 = .ok (.iaload, 1) := by decide +kernel
theorem dX6_eat_8 : decode cX6_eat 8 = .ok (.if_icmp .lt 5, 3) := by decide +kernel
theorem dX6_eat_11 : decode cX6_eat 11 = .ok (.iconst 1, 1) := by decide +kernel
theorem dX6_eat_12 : decode cX6_eat 12 = .ok (.ireturn, 1) := by decide +kernel
theorem dX6_eat_13 : decode cX6_eat 13 = .ok (.aload_n 0, 1) := by decide +kernel
theorem dX6_eat_14 : decode cX6_eat 14 = .ok (.getfield 13, 3) := by decide +kernel
theorem dX6_eat_17 : decode cX6_eat 17 = .ok (.bipush 72, 2) := by decide +kernel
theorem dX6_eat_19 : decode cX6_eat 19 = .ok (.iload_n 1, 1) := by decide +kernel
theorem dX6_eat_20 : decode cX6_eat 20 = .ok (.iadd, 1) := by decide +kernel
theorem dX6_eat_21 : decode cX6_eat 21 = .ok (.iaload, 1) := by decide +kernel
theorem dX6_eat_22 : decode cX6_eat 22 = .ok (.iconst 1, 1) := by decide +kernel
theorem dX6_eat_23 : decode cX6_eat 23 = .ok (.if_icmp .ne 5, 3) := by decide +kernel
theorem dX6_eat_26 : decode cX6_eat 26 = .ok (.iconst 3, 1) := by decide +kernel
theorem dX6_eat_27 : decode cX6_eat 27 = .ok (.ireturn, 1) := by decide +kernel
theorem dX6_eat_28 : decode cX6_eat 28 = .ok (.aload_n 0, 1) := by decide +kernel
theorem dX6_eat_29 : decode cX6_eat 29 = .ok (.getfield 13, 3) := by decide +kernel
theorem dX6_eat_32 : decode cX6_eat 32 = .ok (.bipush 72, 2) := by decide +kernel
theorem dX6_eat_34 : decode cX6_eat 34 = .ok (.iload_n 1, 1) := by decide +kernel
theorem dX6_eat_35 : decode cX6_eat 35 = .ok (.iadd, 1) := by decide +kernel
theorem dX6_eat_36 : decode cX6_eat 36 = .ok (.iconst 1, 1) := by decide +kernel
theorem dX6_eat_37 : decode cX6_eat 37 = .ok (.iastore, 1) := by decide +kernel
theorem dX6_eat_38 : decode cX6_eat 38 = .ok (.iconst 0, 1) := by decide +kernel
theorem dX6_eat_39 : decode cX6_eat 39 = .ok (.ireturn, 1) := by decide +kernel
theorem dX6_mend_0 : decode cX6_mend 0 = .ok (.iload_n 1, 1) := by decide +kernel
theorem dX6_mend_1 : decode cX6_mend 1 = .ok (.aload_n 0, 1) := by decide +kernel
theorem dX6_mend_2 : decode cX6_mend 2 = .ok (.getfield 13, 3) := by decide +kernel
theorem dX6_mend_5 : decode cX6_mend 5 = .ok (.bipush 96, 2) := by decide +kernel
theorem dX6_mend_7 : decode cX6_mend 7 = .ok (.iaload, 1) := by decide +kernel
theorem dX6_mend_8 : decode cX6_mend 8 = .ok (.if_icmp .lt 5, 3) := by decide +kernel
theorem dX6_mend_11 : decode cX6_mend 11 = .ok (.iconst 1, 1) := by decide +kernel
theorem dX6_mend_12 : decode cX6_mend 12 = .ok (.ireturn, 1) := by decide +kernel
theorem dX6_mend_13 : decode cX6_mend 13 = .ok (.aload_n 0, 1) := by decide +kernel
theorem dX6_mend_14 : decode cX6_mend 14 = .ok (.getfield 13, 3) := by decide +kernel
theorem dX6_mend_17 : decode cX6_mend 17 = .ok (.bipush 72, 2) := by decide +kernel
theorem dX6_mend_19 : decode cX6_mend 19 = .ok (.iload_n 1, 1) := by decide +kernel
theorem dX6_mend_20 : decode cX6_mend 20 = .ok (.iadd, 1) := by decide +kernel
theorem dX6_mend_21 : decode cX6_mend 21 = .ok (.iaload, 1) := by decide +kernel
theorem dX6_mend_22 : decode cX6_mend 22 = .ok (.ifCond .ne 5, 3) := by decide +kernel
theorem dX6_mend_25 : decode cX6_mend 25 = .ok (.iconst 3, 1) := by decide +kernel
theorem dX6_mend_26 : decode cX6_mend 26 = .ok (.ireturn, 1) := by decide +kernel
theorem dX6_mend_27 : decode cX6_mend 27 = .ok (.aload_n 0, 1) := by decide +kernel
theorem dX6_mend_28 : decode cX6_mend 28 = .ok (.getfield 13, 3) := by decide +kernel
theorem dX6_mend_31 : decode cX6_mend 31 = .ok (.bipush 72, 2) := by decide +kernel
theorem dX6_mend_33 : decode cX6_mend 33 = .ok (.iload_n 1, 1) := by decide +kernel
theorem dX6_mend_34 : decode cX6_mend 34 = .ok (.iadd, 1) := by decide +kernel
theorem dX6_mend_35 : decode cX6_mend 35 = .ok (.iconst 0, 1) := by decide +kernel
theorem dX6_mend_36 : decode cX6_mend 36 = .ok (.iastore, 1) := by decide +kernel
theorem dX6_mend_37 : decode cX6_mend 37 = .ok (.aload_n 0, 1) := by decide +kernel
theorem dX6_mend_38 : decode cX6_mend 38 = .ok (.getfield 13, 3) := by decide +kernel
theorem dX6_mend_41 : decode cX6_mend 41 = .ok (.bipush 24, 2) := by decide +kernel
theorem dX6_mend_43 : decode cX6_mend 43 = .ok (.iload_n 1, 1) := by decide +kernel
theorem dX6_mend_44 : decode cX6_mend 44 = .ok (.iadd, 1) := by decide +kernel
theorem dX6_mend_45 : decode cX6_mend 45 = .ok (.aload_n 0, 1) := by decide +kernel
theorem dX6_mend_46 : decode cX6_mend 46 = .ok (.getfield 16, 3) := by decide +kernel
theorem dX6_mend_49 : decode cX6_mend 49 = .ok (.iload_n 2, 1) := by decide +kernel
theorem dX6_mend_50 : decode cX6_mend 50 = .ok (.iaload, 1) := by decide +kernel
theorem dX6_mend_51 : decode cX6_mend 51 = .ok (.iastore, 1) := by decide +kernel
theorem dX6_mend_52 : decode cX6_mend 52 = .ok (.iconst 0, 1) := by decide +kernel
theorem dX6_mend_53 : decode cX6_mend 53 = .ok (.ireturn, 1) := by decide +kernel
set_option maxRecDepth 20000 in
theorem ggX6_goWeeks_X6_asNow : GoodIn wsX6_goWeeks wsX6_asNow := goodIn_r _ [10, 11, 12, 5, 51, 52, 53, 54, 55, 56, 57, 58, 59, 60, 61, 62, 63, 64, 65] (by decide +kernel) (by decide +kernel)
set_option maxRecDepth 20000 in
theorem gX6_goWeeks_X6_asNow : GoodIn wsX6_goWeeks (wsV RX6 84 RX6 yX6_asNow wsX6_asNow) := goodIn_app (goodIn_of _ (by decide +kernel)) ggX6_goWeeks_X6_asNow
set_option maxRecDepth 20000 in
theorem ggX6_goWeeks_X6_isHand : GoodIn wsX6_goWeeks wsX6_isHand := goodIn_r _ [15, 16, 17, 9, 18] (by decide +kernel) (by decide +kernel)
set_option maxRecDepth 20000 in
theorem gX6_goWeeks_X6_isHand : GoodIn wsX6_goWeeks (va_wsS RX6 56 yX6_isHand wsX6_isHand) := goodIn_app (goodIn_of _ (by decide +kernel)) ggX6_goWeeks_X6_isHand
set_option maxRecDepth 20000 in
theorem ggX6_goWeeks_X6_knit : GoodIn wsX6_goWeeks wsX6_knit := goodIn_r _ [22, 11, 23, 51, 52, 53, 54, 55, 56, 57, 58, 59, 60, 61, 62, 63, 64, 65] (by decide +kernel) (by decide +kernel)
set_option maxRecDepth 20000 in
theorem gX6_goWeeks_X6_knit : GoodIn wsX6_goWeeks (wsV RX6 90 RX6 yX6_knit wsX6_knit) := goodIn_app (goodIn_of _ (by decide +kernel)) ggX6_goWeeks_X6_knit
set_option maxRecDepth 20000 in
theorem ggX6_goWeeks_X6_pullOut : GoodIn wsX6_goWeeks wsX6_pullOut := goodIn_r _ [27, 11, 28, 29, 30, 9, 31, 32, 33, 34, 35, 36, 37, 38, 39, 40, 41, 42, 51, 52, 53, 54, 55, 56, 57, 58, 59, 60, 61, 62, 63, 64, 65] (by decide +kernel) (by decide +kernel)
set_option maxRecDepth 20000 in
theorem gX6_goWeeks_X6_pullOut : GoodIn wsX6_goWeeks (wsV RX6 97 RX6 yX6_pullOut wsX6_pullOut) := goodIn_app (goodIn_of _ (by decide +kernel)) ggX6_goWeeks_X6_pullOut
set_option maxRecDepth 20000 in
theorem ggX6_goWeeks_X6_eat : GoodIn wsX6_goWeeks wsX6_eat := goodIn_r _ [46, 11, 51, 52, 53, 54, 55, 56, 57, 58, 59, 60, 61, 62, 63, 64, 65] (by decide +kernel) (by decide +kernel)
set_option maxRecDepth 20000 in
theorem gX6_goWeeks_X6_eat : GoodIn wsX6_goWeeks (wsV RX6 100 RX6 yX6_eat wsX6_eat) := goodIn_app (goodIn_of _ (by decide +kernel)) ggX6_goWeeks_X6_eat
set_option maxRecDepth 20000 in
theorem ggX6_goWeeks_X6_mend : GoodIn wsX6_goWeeks wsX6_mend := goodIn_r _ [50, 11, 23, 51, 52, 53, 54, 55, 56, 57, 58, 59, 60, 61, 62, 63, 64, 65] (by decide +kernel) (by decide +kernel)
set_option maxRecDepth 20000 in
theorem gX6_goWeeks_X6_mend : GoodIn wsX6_goWeeks (wsV RX6 103 RX6 yX6_mend wsX6_mend) := goodIn_app (goodIn_of _ (by decide +kernel)) ggX6_goWeeks_X6_mend
theorem dX6_goWeeks_0 : decode cX6_goWeeks 0 = .ok (.aload_n 0, 1) := by decide +kernel
theorem dX6_goWeeks_1 : decode cX6_goWeeks 1 = .ok (.invokevirtual 84, 3) := by decide +kernel
theorem dX6_goWeeks_4 : decode cX6_goWeeks 4 = .ok (.aload_n 0, 1) := by decide +kernel
theorem dX6_goWeeks_5 : decode cX6_goWeeks 5 = .ok (.iconst 0, 1) := by decide +kernel
theorem dX6_goWeeks_6 : decode cX6_goWeeks 6 = .ok (.putfield 87, 3) := by decide +kernel
theorem dX6_goWeeks_9 : decode cX6_goWeeks 9 = .ok (.iconst 0, 1) := by decide +kernel
theorem dX6_goWeeks_10 : decode cX6_goWeeks 10 = .ok (.istore_n 1, 1) := by decide +kernel
theorem dX6_goWeeks_11 : decode cX6_goWeeks 11 = .ok (.iload_n 1, 1) := by decide +kernel
theorem dX6_goWeeks_12 : decode cX6_goWeeks 12 = .ok (.aload_n 0, 1) := by decide +kernel
theorem dX6_goWeeks_13 : decode cX6_goWeeks 13 = .ok (.getfield 52, 3) := by decide +kernel
theorem dX6_goWeeks_16 : decode cX6_goWeeks 16 = .ok (.if_icmp .ge 181, 3) := by decide +kernel
theorem dX6_goWeeks_19 : decode cX6_goWeeks 19 = .ok (.aload_n 0, 1) := by decide +kernel
theorem dX6_goWeeks_20 : decode cX6_goWeeks 20 = .ok (.getfield 22, 3) := by decide +kernel
theorem dX6_goWeeks_23 : decode cX6_goWeeks 23 = .ok (.iload_n 1, 1) := by decide +kernel
theorem dX6_goWeeks_24 : decode cX6_goWeeks 24 = .ok (.iaload, 1) := by decide +kernel
theorem dX6_goWeeks_25 : decode cX6_goWeeks 25 = .ok (.istore_n 2, 1) := by decide +kernel
theorem dX6_goWeeks_26 : decode cX6_goWeeks 26 = .ok (.aload_n 0, 1) := by decide +kernel
theorem dX6_goWeeks_27 : decode cX6_goWeeks 27 = .ok (.getfield 22, 3) := by decide +kernel
theorem dX6_goWeeks_30 : decode cX6_goWeeks 30 = .ok (.iload_n 1, 1) := by decide +kernel
theorem dX6_goWeeks_31 : decode cX6_goWeeks 31 = .ok (.iconst 1, 1) := by decide +kernel
theorem dX6_goWeeks_32 : decode cX6_goWeeks 32 = .ok (.iadd, 1) := by decide +kernel
theorem dX6_goWeeks_33 : decode cX6_goWeeks 33 = .ok (.iaload, 1) := by decide +kernel
theorem dX6_goWeeks_34 : decode cX6_goWeeks 34 = .ok (.istore_n 3, 1) := by decide +kernel
theorem dX6_goWeeks_35 : decode cX6_goWeeks 35 = .ok (.iload_n 2, 1) := by decide +kernel
theorem dX6_goWeeks_36 : decode cX6_goWeeks 36 = .ok (.invokestatic 56, 3) := by decide +kernel
theorem dX6_goWeeks_39 : decode cX6_goWeeks 39 = .ok (.ifCond .eq 25, 3) := by decide +kernel
theorem dX6_goWeeks_42 : decode cX6_goWeeks 42 = .ok (.aload_n 0, 1) := by decide +kernel
theorem dX6_goWeeks_43 : decode cX6_goWeeks 43 = .ok (.aload_n 0, 1) := by decide +kernel
theorem dX6_goWeeks_44 : decode cX6_goWeeks 44 = .ok (.iload_n 2, 1) := by decide +kernel
theorem dX6_goWeeks_45 : decode cX6_goWeeks 45 = .ok (.bipush 97, 2) := by decide +kernel
theorem dX6_goWeeks_47 : decode cX6_goWeeks 47 = .ok (.isub, 1) := by decide +kernel
theorem dX6_goWeeks_48 : decode cX6_goWeeks 48 = .ok (.iload_n 3, 1) := by decide +kernel
theorem dX6_goWeeks_49 : decode cX6_goWeeks 49 = .ok (.bipush 48, 2) := by decide +kernel
theorem dX6_goWeeks_51 : decode cX6_goWeeks 51 = .ok (.isub, 1) := by decide +kernel
theorem dX6_goWeeks_52 : decode cX6_goWeeks 52 = .ok (.invokevirtual 90, 3) := by decide +kernel
theorem dX6_goWeeks_55 : decode cX6_goWeeks 55 = .ok (.putfield 94, 3) := by decide +kernel
theorem dX6_goWeeks_58 : decode cX6_goWeeks 58 = .ok (.iinc 1 2, 3) := by decide +kernel
theorem dX6_goWeeks_61 : decode cX6_goWeeks 61 = .ok (.goto 111, 3) := by decide +kernel
theorem dX6_goWeeks_64 : decode cX6_goWeeks 64 = .ok (.iload_n 2, 1) := by decide +kernel
theorem dX6_goWeeks_65 : decode cX6_goWeeks 65 = .ok (.bipush 45, 2) := by decide +kernel
theorem dX6_goWeeks_67 : decode cX6_goWeeks 67 = .ok (.if_icmp .ne 55, 3) := by decide +kernel
theorem dX6_goWeeks_70 : decode cX6_goWeeks 70 = .ok (.aload_n 0, 1) := by decide +kernel
theorem dX6_goWeeks_71 : decode cX6_goWeeks 71 = .ok (.iload_n 3, 1) := by decide +kernel
theorem dX6_goWeeks_72 : decode cX6_goWeeks 72 = .ok (.bipush 65, 2) := by decide +kernel
theorem dX6_goWeeks_74 : decode cX6_goWeeks 74 = .ok (.isub, 1) := by decide +kernel
theorem dX6_goWeeks_75 : decode cX6_goWeeks 75 = .ok (.invokevirtual 97, 3) := by decide +kernel
theorem dX6_goWeeks_78 : decode cX6_goWeeks 78 = .ok (.istore 4, 2) := by decide +kernel
theorem dX6_goWeeks_80 : decode cX6_goWeeks 80 = .ok (.aload_n 0, 1) := by decide +kernel
theorem dX6_goWeeks_81 : decode cX6_goWeeks 81 = .ok (.iload 4, 2) := by decide +kernel
theorem dX6_goWeeks_83 : decode cX6_goWeeks 83 = .ok (.ifCond .ge 7, 3) := by decide +kernel
theorem dX6_goWeeks_86 : decode cX6_goWeeks 86 = .ok (.iconst 1, 1) := by decide +kernel
theorem dX6_goWeeks_87 : decode cX6_goWeeks 87 = .ok (.goto 4, 3) := by decide +kernel
theorem dX6_goWeeks_90 : decode cX6_goWeeks 90 = .ok (.iconst 0, 1) := by decide +kernel
theorem dX6_goWeeks_91 : decode cX6_goWeeks 91 = .ok (.putfield 94, 3) := by decide +kernel
theorem dX6_goWeeks_94 : decode cX6_goWeeks 94 = .ok (.aload_n 0, 1) := by decide +kernel
theorem dX6_goWeeks_95 : decode cX6_goWeeks 95 = .ok (.iload 4, 2) := by decide +kernel
theorem dX6_goWeeks_97 : decode cX6_goWeeks 97 = .ok (.aload_n 0, 1) := by decide +kernel
theorem dX6_goWeeks_98 : decode cX6_goWeeks 98 = .ok (.getfield 66, 3) := by decide +kernel
theorem dX6_goWeeks_101 : decode cX6_goWeeks 101 = .ok (.if_icmp .le 8, 3) := by decide +kernel
theorem dX6_goWeeks_104 : decode cX6_goWeeks 104 = .ok (.iload 4, 2) := by decide +kernel
theorem dX6_goWeeks_106 : decode cX6_goWeeks 106 = .ok (.goto 7, 3) := by decide +kernel
theorem dX6_goWeeks_109 : decode cX6_goWeeks 109 = .ok (.aload_n 0, 1) := by decide +kernel
theorem dX6_goWeeks_110 : decode cX6_goWeeks 110 = .ok (.getfield 66, 3) := by decide +kernel
theorem dX6_goWeeks_113 : decode cX6_goWeeks 113 = .ok (.putfield 66, 3) := by decide +kernel
theorem dX6_goWeeks_116 : decode cX6_goWeeks 116 = .ok (.iinc 1 2, 3) := by decide +kernel
theorem dX6_goWeeks_119 : decode cX6_goWeeks 119 = .ok (.goto 53, 3) := by decide +kernel
theorem dX6_goWeeks_122 : decode cX6_goWeeks 122 = .ok (.iload_n 2, 1) := by decide +kernel
theorem dX6_goWeeks_123 : decode cX6_goWeeks 123 = .ok (.bipush 42, 2) := by decide +kernel
theorem dX6_goWeeks_125 : decode cX6_goWeeks 125 = .ok (.if_icmp .ne 21, 3) := by decide +kernel
theorem dX6_goWeeks_128 : decode cX6_goWeeks 128 = .ok (.aload_n 0, 1) := by decide +kernel
theorem dX6_goWeeks_129 : decode cX6_goWeeks 129 = .ok (.aload_n 0, 1) := by decide +kernel
theorem dX6_goWeeks_130 : decode cX6_goWeeks 130 = .ok (.iload_n 3, 1) := by decide +kernel
theorem dX6_goWeeks_131 : decode cX6_goWeeks 131 = .ok (.bipush 65, 2) := by decide +kernel
theorem dX6_goWeeks_133 : decode cX6_goWeeks 133 = .ok (.isub, 1) := by decide +kernel
theorem dX6_goWeeks_134 : decode cX6_goWeeks 134 = .ok (.invokevirtual 100, 3) := by decide +kernel
theorem dX6_goWeeks_137 : decode cX6_goWeeks 137 = .ok (.putfield 94, 3) := by decide +kernel
theorem dX6_goWeeks_140 : decode cX6_goWeeks 140 = .ok (.iinc 1 2, 3) := by decide +kernel
theorem dX6_goWeeks_143 : decode cX6_goWeeks 143 = .ok (.goto 29, 3) := by decide +kernel
theorem dX6_goWeeks_146 : decode cX6_goWeeks 146 = .ok (.aload_n 0, 1) := by decide +kernel
theorem dX6_goWeeks_147 : decode cX6_goWeeks 147 = .ok (.aload_n 0, 1) := by decide +kernel
theorem dX6_goWeeks_148 : decode cX6_goWeeks 148 = .ok (.iload_n 3, 1) := by decide +kernel
theorem dX6_goWeeks_149 : decode cX6_goWeeks 149 = .ok (.bipush 65, 2) := by decide +kernel
theorem dX6_goWeeks_151 : decode cX6_goWeeks 151 = .ok (.isub, 1) := by decide +kernel
theorem dX6_goWeeks_152 : decode cX6_goWeeks 152 = .ok (.aload_n 0, 1) := by decide +kernel
theorem dX6_goWeeks_153 : decode cX6_goWeeks 153 = .ok (.getfield 22, 3) := by decide +kernel
theorem dX6_goWeeks_156 : decode cX6_goWeeks 156 = .ok (.iload_n 1, 1) := by decide +kernel
theorem dX6_goWeeks_157 : decode cX6_goWeeks 157 = .ok (.iconst 2, 1) := by decide +kernel
theorem dX6_goWeeks_158 : decode cX6_goWeeks 158 = .ok (.iadd, 1) := by decide +kernel
theorem dX6_goWeeks_159 : decode cX6_goWeeks 159 = .ok (.iaload, 1) := by decide +kernel
theorem dX6_goWeeks_160 : decode cX6_goWeeks 160 = .ok (.bipush 97, 2) := by decide +kernel
theorem dX6_goWeeks_162 : decode cX6_goWeeks 162 = .ok (.isub, 1) := by decide +kernel
theorem dX6_goWeeks_163 : decode cX6_goWeeks 163 = .ok (.invokevirtual 103, 3) := by decide +kernel
theorem dX6_goWeeks_166 : decode cX6_goWeeks 166 = .ok (.putfield 94, 3) := by decide +kernel
theorem dX6_goWeeks_169 : decode cX6_goWeeks 169 = .ok (.iinc 1 3, 3) := by decide +kernel
theorem dX6_goWeeks_172 : decode cX6_goWeeks 172 = .ok (.aload_n 0, 1) := by decide +kernel
theorem dX6_goWeeks_173 : decode cX6_goWeeks 173 = .ok (.getfield 94, 3) := by decide +kernel
theorem dX6_goWeeks_176 : decode cX6_goWeeks 176 = .ok (.ifCond .le 8, 3) := by decide +kernel
theorem dX6_goWeeks_179 : decode cX6_goWeeks 179 = .ok (.aload_n 0, 1) := by decide +kernel
theorem dX6_goWeeks_180 : decode cX6_goWeeks 180 = .ok (.getfield 87, 3) := by decide +kernel
theorem dX6_goWeeks_183 : decode cX6_goWeeks 183 = .ok (.ireturn, 1) := by decide +kernel
theorem dX6_goWeeks_184 : decode cX6_goWeeks 184 = .ok (.aload_n 0, 1) := by decide +kernel
theorem dX6_goWeeks_185 : decode cX6_goWeeks 185 = .ok (.dup, 1) := by decide +kernel
theorem dX6_goWeeks_186 : decode cX6_goWeeks 186 = .ok (.getfield 87, 3) := by decide +kernel
theorem dX6_goWeeks_189 : decode cX6_goWeeks 189 = .ok (.iconst 1, 1) := by decide +kernel
theorem dX6_goWeeks_190 : decode cX6_goWeeks 190 = .ok (.iadd, 1) := by decide +kernel
theorem dX6_goWeeks_191 : decode cX6_goWeeks 191 = .ok (.putfield 87, 3) := by decide +kernel
theorem dX6_goWeeks_194 : decode cX6_goWeeks 194 = .ok (.goto (-183), 3) := by decide +kernel
theorem dX6_goWeeks_197 : decode cX6_goWeeks 197 = .ok (.bipush (-6), 2) := by decide +kernel
theorem dX6_goWeeks_199 : decode cX6_goWeeks 199 = .ok (.ireturn, 1) := by decide +kernel
set_option maxRecDepth 20000 in
theorem ggX6_judge_X6_in : GoodIn wsX6_judge wsX6_in := goodIn_r _ [5] (by decide +kernel) (by decide +kernel)
set_option maxRecDepth 20000 in
theorem gX6_judge_X6_in : GoodIn wsX6_judge (va_wsS RX6 41 yX6_in wsX6_in) := goodIn_app (goodIn_of _ (by decide +kernel)) ggX6_judge_X6_in
set_option maxRecDepth 20000 in
theorem ggX6_judge_X6_faultOf : GoodIn wsX6_judge wsX6_faultOf := goodIn_r _ [9, 10, 11, 12, 13, 4, 14, 2, 3, 5, 15, 16, 17, 62, 63, 64, 65, 66, 67, 68, 69, 70, 71, 72, 73, 74, 75, 76] (by decide +kernel) (by decide +kernel)
set_option maxRecDepth 20000 in
theorem gX6_judge_X6_faultOf : GoodIn wsX6_judge (wsV RX6 62 RX6 yX6_faultOf wsX6_faultOf) := goodIn_app (goodIn_of _ (by decide +kernel)) ggX6_judge_X6_faultOf
set_option maxRecDepth 20000 in
theorem ggX6_judge_X6_goWeeks : GoodIn wsX6_judge wsX6_goWeeks := goodIn_r _ [21, 22, 10, 11, 1, 23, 24, 25, 26, 4, 27, 28, 29, 12, 13, 14, 2, 3, 5, 30, 31, 32, 33, 34, 35, 36, 37, 38, 39, 40, 41, 42, 43, 44, 45, 46, 47, 48, 49, 50, 51, 52, 53, 54, 55, 56, 57, 58, 59, 60, 61, 62, 63, 64, 65, 66, 67, 68, 69, 70, 71, 72, 73, 74, 75, 76] (by decide +kernel) (by decide +kernel)
set_option maxRecDepth 20000 in
theorem gX6_judge_X6_goWeeks : GoodIn wsX6_judge (wsV RX6 106 RX6 yX6_goWeeks wsX6_goWeeks) := goodIn_app (goodIn_of _ (by decide +kernel)) ggX6_judge_X6_goWeeks
theorem dX6_judge_0 : decode cX6_judge 0 = .ok (.iload_n 1, 1) := by decide +kernel
theorem dX6_judge_1 : decode cX6_judge 1 = .ok (.iconst 0, 1) := by decide +kernel
theorem dX6_judge_2 : decode cX6_judge 2 = .ok (.iconst 1, 1) := by decide +kernel
theorem dX6_judge_3 : decode cX6_judge 3 = .ok (.invokestatic 41, 3) := by decide +kernel
theorem dX6_judge_6 : decode cX6_judge 6 = .ok (.ifCond .ne 6, 3) := by decide +kernel
theorem dX6_judge_9 : decode cX6_judge 9 = .ok (.bipush (-2), 2) := by decide +kernel
theorem dX6_judge_11 : decode cX6_judge 11 = .ok (.ireturn, 1) := by decide +kernel
theorem dX6_judge_12 : decode cX6_judge 12 = .ok (.aload_n 0, 1) := by decide +kernel
theorem dX6_judge_13 : decode cX6_judge 13 = .ok (.invokevirtual 62, 3) := by decide +kernel
theorem dX6_judge_16 : decode cX6_judge 16 = .ok (.ifCond .lt 6, 3) := by decide +kernel
theorem dX6_judge_19 : decode cX6_judge 19 = .ok (.bipush (-5), 2) := by decide +kernel
theorem dX6_judge_21 : decode cX6_judge 21 = .ok (.ireturn, 1) := by decide +kernel
theorem dX6_judge_22 : decode cX6_judge 22 = .ok (.aload_n 0, 1) := by decide +kernel
theorem dX6_judge_23 : decode cX6_judge 23 = .ok (.invokevirtual 106, 3) := by decide +kernel
theorem dX6_judge_26 : decode cX6_judge 26 = .ok (.istore_n 2, 1) := by decide +kernel
theorem dX6_judge_27 : decode cX6_judge 27 = .ok (.iload_n 2, 1) := by decide +kernel
theorem dX6_judge_28 : decode cX6_judge 28 = .ok (.ifCond .lt 7, 3) := by decide +kernel
theorem dX6_judge_31 : decode cX6_judge 31 = .ok (.iload_n 1, 1) := by decide +kernel
theorem dX6_judge_32 : decode cX6_judge 32 = .ok (.ifCond .ne 7, 3) := by decide +kernel
theorem dX6_judge_35 : decode cX6_judge 35 = .ok (.iload_n 2, 1) := by decide +kernel
theorem dX6_judge_36 : decode cX6_judge 36 = .ok (.goto 7, 3) := by decide +kernel
theorem dX6_judge_39 : decode cX6_judge 39 = .ok (.aload_n 0, 1) := by decide +kernel
theorem dX6_judge_40 : decode cX6_judge 40 = .ok (.getfield 94, 3) := by decide +kernel
theorem dX6_judge_43 : decode cX6_judge 43 = .ok (.ireturn, 1) := by decide +kernel
set_option maxRecDepth 20000 in
theorem ggX6_barOfWeeks_X6_faultOf : GoodIn wsX6_barOfWeeks wsX6_faultOf := goodIn_r _ [5, 6, 7, 8, 9, 4, 10, 11, 12, 13, 14, 15, 16, 62, 63, 64, 65, 66, 67, 68, 69, 70, 71, 72, 73, 74, 75, 76] (by decide +kernel) (by decide +kernel)
set_option maxRecDepth 20000 in
theorem gX6_barOfWeeks_X6_faultOf : GoodIn wsX6_barOfWeeks (wsV RX6 62 RX6 yX6_faultOf wsX6_faultOf) := goodIn_app (goodIn_of _ (by decide +kernel)) ggX6_barOfWeeks_X6_faultOf
set_option maxRecDepth 20000 in
theorem ggX6_barOfWeeks_X6_goWeeks : GoodIn wsX6_barOfWeeks wsX6_goWeeks := goodIn_r _ [20, 21, 6, 7, 22, 23, 24, 25, 26, 4, 27, 28, 29, 8, 9, 10, 11, 12, 13, 30, 31, 32, 33, 34, 35, 36, 37, 38, 39, 40, 41, 42, 43, 44, 45, 46, 47, 48, 49, 50, 51, 52, 53, 54, 55, 56, 57, 58, 59, 60, 61, 62, 63, 64, 65, 66, 67, 68, 69, 70, 71, 72, 73, 74, 75, 76] (by decide +kernel) (by decide +kernel)
set_option maxRecDepth 20000 in
theorem gX6_barOfWeeks_X6_goWeeks : GoodIn wsX6_barOfWeeks (wsV RX6 106 RX6 yX6_goWeeks wsX6_goWeeks) := goodIn_app (goodIn_of _ (by decide +kernel)) ggX6_barOfWeeks_X6_goWeeks
theorem dX6_barOfWeeks_0 : decode cX6_barOfWeeks 0 = .ok (.aload_n 0, 1) := by decide +kernel
theorem dX6_barOfWeeks_1 : decode cX6_barOfWeeks 1 = .ok (.invokevirtual 62, 3) := by decide +kernel
theorem dX6_barOfWeeks_4 : decode cX6_barOfWeeks 4 = .ok (.ifCond .ge 10, 3) := by decide +kernel
theorem dX6_barOfWeeks_7 : decode cX6_barOfWeeks 7 = .ok (.aload_n 0, 1) := by decide +kernel
theorem dX6_barOfWeeks_8 : decode cX6_barOfWeeks 8 = .ok (.invokevirtual 106, 3) := by decide +kernel
theorem dX6_barOfWeeks_11 : decode cX6_barOfWeeks 11 = .ok (.ifCond .lt 8, 3) := by decide +kernel
theorem dX6_barOfWeeks_14 : decode cX6_barOfWeeks 14 = .ok (.bipush (-5), 2) := by decide +kernel
theorem dX6_barOfWeeks_16 : decode cX6_barOfWeeks 16 = .ok (.goto 4, 3) := by decide +kernel
theorem dX6_barOfWeeks_19 : decode cX6_barOfWeeks 19 = .ok (.iconst 0, 1) := by decide +kernel
theorem dX6_barOfWeeks_20 : decode cX6_barOfWeeks 20 = .ok (.ireturn, 1) := by decide +kernel
set_option maxRecDepth 20000 in
theorem ggX6_done_X6_barOfWeeks : GoodIn wsX6_done wsX6_barOfWeeks := goodIn_r _ [9, 10, 11, 12, 8, 13, 3, 14, 15, 16, 17, 18, 19, 20, 21, 22, 23, 24, 25, 26, 27, 4, 28, 29, 30, 31, 32, 33, 2, 1, 34, 35, 36, 37, 38, 39, 40, 41, 42, 43, 44, 45, 46, 47, 48, 49, 50, 51, 52, 53, 54, 55, 56, 57, 58, 59, 60, 61, 62, 63, 64, 65, 66, 67, 68, 69, 70, 71, 72, 73, 74, 75, 76, 77, 78, 79, 80] (by decide +kernel) (by decide +kernel)
set_option maxRecDepth 20000 in
theorem gX6_done_X6_barOfWeeks : GoodIn wsX6_done (wsV RX6 109 RX6 yX6_barOfWeeks wsX6_barOfWeeks) := goodIn_app (goodIn_of _ (by decide +kernel)) ggX6_done_X6_barOfWeeks
theorem dX6_done_0 : decode cX6_done 0 = .ok (.aload_n 0, 1) := by decide +kernel
theorem dX6_done_1 : decode cX6_done 1 = .ok (.invokevirtual 109, 3) := by decide +kernel
theorem dX6_done_4 : decode cX6_done 4 = .ok (.ifCond .ge 6, 3) := by decide +kernel
theorem dX6_done_7 : decode cX6_done 7 = .ok (.bipush (-5), 2) := by decide +kernel
theorem dX6_done_9 : decode cX6_done 9 = .ok (.ireturn, 1) := by decide +kernel
theorem dX6_done_10 : decode cX6_done 10 = .ok (.iconst 0, 1) := by decide +kernel
theorem dX6_done_11 : decode cX6_done 11 = .ok (.istore_n 1, 1) := by decide +kernel
theorem dX6_done_12 : decode cX6_done 12 = .ok (.iload_n 1, 1) := by decide +kernel
theorem dX6_done_13 : decode cX6_done 13 = .ok (.bipush 97, 2) := by decide +kernel
theorem dX6_done_15 : decode cX6_done 15 = .ok (.if_icmp .ge 21, 3) := by decide +kernel
theorem dX6_done_18 : decode cX6_done 18 = .ok (.aload_n 0, 1) := by decide +kernel
theorem dX6_done_19 : decode cX6_done 19 = .ok (.getfield 7, 3) := by decide +kernel
theorem dX6_done_22 : decode cX6_done 22 = .ok (.iload_n 1, 1) := by decide +kernel
theorem dX6_done_23 : decode cX6_done 23 = .ok (.aload_n 0, 1) := by decide +kernel
theorem dX6_done_24 : decode cX6_done 24 = .ok (.getfield 13, 3) := by decide +kernel
theorem dX6_done_27 : decode cX6_done 27 = .ok (.iload_n 1, 1) := by decide +kernel
theorem dX6_done_28 : decode cX6_done 28 = .ok (.iaload, 1) := by decide +kernel
theorem dX6_done_29 : decode cX6_done 29 = .ok (.iastore, 1) := by decide +kernel
theorem dX6_done_30 : decode cX6_done 30 = .ok (.iinc 1 1, 3) := by decide +kernel
theorem dX6_done_33 : decode cX6_done 33 = .ok (.goto (-21), 3) := by decide +kernel
theorem dX6_done_36 : decode cX6_done 36 = .ok (.aload_n 0, 1) := by decide +kernel
theorem dX6_done_37 : decode cX6_done 37 = .ok (.iconst 0, 1) := by decide +kernel
theorem dX6_done_38 : decode cX6_done 38 = .ok (.putfield 52, 3) := by decide +kernel
theorem dX6_done_41 : decode cX6_done 41 = .ok (.aload_n 0, 1) := by decide +kernel
theorem dX6_done_42 : decode cX6_done 42 = .ok (.getfield 87, 3) := by decide +kernel
theorem dX6_done_45 : decode cX6_done 45 = .ok (.ireturn, 1) := by decide +kernel
theorem dX6_eatenSet_0 : decode cX6_eatenSet 0 = .ok (.iconst 0, 1) := by decide +kernel
theorem dX6_eatenSet_1 : decode cX6_eatenSet 1 = .ok (.istore_n 1, 1) := by decide +kernel
theorem dX6_eatenSet_2 : decode cX6_eatenSet 2 = .ok (.iconst 0, 1) := by decide +kernel
theorem dX6_eatenSet_3 : decode cX6_eatenSet 3 = .ok (.istore_n 2, 1) := by decide +kernel
theorem dX6_eatenSet_4 : decode cX6_eatenSet 4 = .ok (.iload_n 2, 1) := by decide +kernel
theorem dX6_eatenSet_5 : decode cX6_eatenSet 5 = .ok (.aload_n 0, 1) := by decide +kernel
theorem dX6_eatenSet_6 : decode cX6_eatenSet 6 = .ok (.getfield 13, 3) := by decide +kernel
theorem dX6_eatenSet_9 : decode cX6_eatenSet 9 = .ok (.bipush 96, 2) := by decide +kernel
theorem dX6_eatenSet_11 : decode cX6_eatenSet 11 = .ok (.iaload, 1) := by decide +kernel
theorem dX6_eatenSet_12 : decode cX6_eatenSet 12 = .ok (.if_icmp .ge 32, 3) := by decide +kernel
theorem dX6_eatenSet_15 : decode cX6_eatenSet 15 = .ok (.iload_n 1, 1) := by decide +kernel
theorem dX6_eatenSet_16 : decode cX6_eatenSet 16 = .ok (.aload_n 0, 1) := by decide +kernel
theorem dX6_eatenSet_17 : decode cX6_eatenSet 17 = .ok (.getfield 13, 3) := by decide +kernel
theorem dX6_eatenSet_20 : decode cX6_eatenSet 20 = .ok (.bipush 72, 2) := by decide +kernel
theorem dX6_eatenSet_22 : decode cX6_eatenSet 22 = .ok (.iload_n 2, 1) := by decide +kernel
theorem dX6_eatenSet_23 : decode cX6_eatenSet 23 = .ok (.iadd, 1) := by decide +kernel
theorem dX6_eatenSet_24 : decode cX6_eatenSet 24 = .ok (.iaload, 1) := by decide +kernel
theorem dX6_eatenSet_25 : decode cX6_eatenSet 25 = .ok (.iconst 1, 1) := by decide +kernel
theorem dX6_eatenSet_26 : decode cX6_eatenSet 26 = .ok (.if_icmp .ne 9, 3) := by decide +kernel
theorem dX6_eatenSet_29 : decode cX6_eatenSet 29 = .ok (.iconst 1, 1) := by decide +kernel
theorem dX6_eatenSet_30 : decode cX6_eatenSet 30 = .ok (.iload_n 2, 1) := by decide +kernel
theorem dX6_eatenSet_31 : decode cX6_eatenSet 31 = .ok (.ishl, 1) := by decide +kernel
theorem dX6_eatenSet_32 : decode cX6_eatenSet 32 = .ok (.goto 4, 3) := by decide +kernel
theorem dX6_eatenSet_35 : decode cX6_eatenSet 35 = .ok (.iconst 0, 1) := by decide +kernel
theorem dX6_eatenSet_36 : decode cX6_eatenSet 36 = .ok (.ior, 1) := by decide +kernel
theorem dX6_eatenSet_37 : decode cX6_eatenSet 37 = .ok (.istore_n 1, 1) := by decide +kernel
theorem dX6_eatenSet_38 : decode cX6_eatenSet 38 = .ok (.iinc 2 1, 3) := by decide +kernel
theorem dX6_eatenSet_41 : decode cX6_eatenSet 41 = .ok (.goto (-37), 3) := by decide +kernel
theorem dX6_eatenSet_44 : decode cX6_eatenSet 44 = .ok (.iload_n 1, 1) := by decide +kernel
theorem dX6_eatenSet_45 : decode cX6_eatenSet 45 = .ok (.ireturn, 1) := by decide +kernel
set_option maxRecDepth 20000 in
theorem ggX6_looseSet_X6_eatenSet : GoodIn wsX6_looseSet wsX6_eatenSet := goodIn_r _ [6, 1, 10, 11, 12, 13, 14, 15, 16, 17, 18, 19, 20, 21, 22, 23, 24] (by decide +kernel) (by decide +kernel)
set_option maxRecDepth 20000 in
theorem gX6_looseSet_X6_eatenSet : GoodIn wsX6_looseSet (wsV RX6 112 RX6 yX6_eatenSet wsX6_eatenSet) := goodIn_app (goodIn_of _ (by decide +kernel)) ggX6_looseSet_X6_eatenSet
set_option maxRecDepth 20000 in
theorem ggX6_looseSet_X6_has : GoodIn wsX6_looseSet wsX6_has := goodIn_r _ [9] (by decide +kernel) (by decide +kernel)
set_option maxRecDepth 20000 in
theorem gX6_looseSet_X6_has : GoodIn wsX6_looseSet (va_wsS RX6 69 yX6_has wsX6_has) := goodIn_app (goodIn_of _ (by decide +kernel)) ggX6_looseSet_X6_has
theorem dX6_looseSet_0 : decode cX6_looseSet 0 = .ok (.aload_n 0, 1) := by decide +kernel
theorem dX6_looseSet_1 : decode cX6_looseSet 1 = .ok (.invokevirtual 112, 3) := by decide +kernel
theorem dX6_looseSet_4 : decode cX6_looseSet 4 = .ok (.istore_n 1, 1) := by decide +kernel
theorem dX6_looseSet_5 : decode cX6_looseSet 5 = .ok (.iconst 0, 1) := by decide +kernel
theorem dX6_looseSet_6 : decode cX6_looseSet 6 = .ok (.istore_n 2, 1) := by decide +kernel
theorem dX6_looseSet_7 : decode cX6_looseSet 7 = .ok (.iconst 0, 1) := by decide +kernel
theorem dX6_looseSet_8 : decode cX6_looseSet 8 = .ok (.istore_n 3, 1) := by decide +kernel
theorem dX6_looseSet_9 : decode cX6_looseSet 9 = .ok (.iload_n 3, 1) := by decide +kernel
theorem dX6_looseSet_10 : decode cX6_looseSet 10 = .ok (.aload_n 0, 1) := by decide +kernel
theorem dX6_looseSet_11 : decode cX6_looseSet 11 = .ok (.getfield 13, 3) := by decide +kernel
theorem dX6_looseSet_14 : decode cX6_looseSet 14 = .ok (.bipush 96, 2) := by decide +kernel
theorem dX6_looseSet_16 : decode cX6_looseSet 16 = .ok (.iaload, 1) := by decide +kernel
theorem dX6_looseSet_17 : decode cX6_looseSet 17 = .ok (.if_icmp .ge 46, 3) := by decide +kernel
theorem dX6_looseSet_20 : decode cX6_looseSet 20 = .ok (.aload_n 0, 1) := by decide +kernel
theorem dX6_looseSet_21 : decode cX6_looseSet 21 = .ok (.getfield 13, 3) := by decide +kernel
theorem dX6_looseSet_24 : decode cX6_looseSet 24 = .ok (.bipush 48, 2) := by decide +kernel
theorem dX6_looseSet_26 : decode cX6_looseSet 26 = .ok (.iload_n 3, 1) := by decide +kernel
theorem dX6_looseSet_27 : decode cX6_looseSet 27 = .ok (.iadd, 1) := by decide +kernel
theorem dX6_looseSet_28 : decode cX6_looseSet 28 = .ok (.iaload, 1) := by decide +kernel
theorem dX6_looseSet_29 : decode cX6_looseSet 29 = .ok (.istore 4, 2) := by decide +kernel
theorem dX6_looseSet_31 : decode cX6_looseSet 31 = .ok (.iload_n 2, 1) := by decide +kernel
theorem dX6_looseSet_32 : decode cX6_looseSet 32 = .ok (.iload 4, 2) := by decide +kernel
theorem dX6_looseSet_34 : decode cX6_looseSet 34 = .ok (.ifCond .lt 20, 3) := by decide +kernel
theorem dX6_looseSet_37 : decode cX6_looseSet 37 = .ok (.iload_n 1, 1) := by decide +kernel
theorem dX6_looseSet_38 : decode cX6_looseSet 38 = .ok (.iload_n 2, 1) := by decide +kernel
theorem dX6_looseSet_39 : decode cX6_looseSet 39 = .ok (.ior, 1) := by decide +kernel
theorem dX6_looseSet_40 : decode cX6_looseSet 40 = .ok (.iload 4, 2) := by decide +kernel
theorem dX6_looseSet_42 : decode cX6_looseSet 42 = .ok (.invokestatic 69, 3) := by decide +kernel
theorem dX6_looseSet_45 : decode cX6_looseSet 45 = .ok (.ifCond .eq 9, 3) := by decide +kernel
theorem dX6_looseSet_48 : decode cX6_looseSet 48 = .ok (.iconst 1, 1) := by decide +kernel
theorem dX6_looseSet_49 : decode cX6_looseSet 49 = .ok (.iload_n 3, 1) := by decide +kernel
theorem dX6_looseSet_50 : decode cX6_looseSet 50 = .ok (.ishl, 1) := by decide +kernel
theorem dX6_looseSet_51 : decode cX6_looseSet 51 = .ok (.goto 4, 3) := by decide +kernel
theorem dX6_looseSet_54 : decode cX6_looseSet 54 = .ok (.iconst 0, 1) := by decide +kernel
theorem dX6_looseSet_55 : decode cX6_looseSet 55 = .ok (.ior, 1) := by decide +kernel
theorem dX6_looseSet_56 : decode cX6_looseSet 56 = .ok (.istore_n 2, 1) := by decide +kernel
theorem dX6_looseSet_57 : decode cX6_looseSet 57 = .ok (.iinc 3 1, 3) := by decide +kernel
theorem dX6_looseSet_60 : decode cX6_looseSet 60 = .ok (.goto (-51), 3) := by decide +kernel
theorem dX6_looseSet_63 : decode cX6_looseSet 63 = .ok (.iload_n 2, 1) := by decide +kernel
theorem dX6_looseSet_64 : decode cX6_looseSet 64 = .ok (.ireturn, 1) := by decide +kernel
set_option maxRecDepth 20000 in
theorem ggX6_behind_X6_in : GoodIn wsX6_behind wsX6_in := goodIn_r _ [6] (by decide +kernel) (by decide +kernel)
set_option maxRecDepth 20000 in
theorem gX6_behind_X6_in : GoodIn wsX6_behind (va_wsS RX6 41 yX6_in wsX6_in) := goodIn_app (goodIn_of _ (by decide +kernel)) ggX6_behind_X6_in
set_option maxRecDepth 20000 in
theorem ggX6_behind_X6_barOfWeeks : GoodIn wsX6_behind wsX6_barOfWeeks := goodIn_r _ [10, 11, 12, 13, 5, 14, 15, 16, 17, 18, 19, 3, 4, 6, 20, 21, 22, 23, 24, 25, 26, 27, 28, 2, 29, 30, 31, 32, 1, 33, 34, 35, 36, 37, 38, 39, 40, 41, 42, 43, 44, 45, 46, 47, 48, 49, 50, 51, 52, 53, 54, 55, 56, 57, 58, 59, 60, 61, 62, 63, 64, 65, 74, 75, 76, 77, 78, 79, 80, 81, 82, 83, 84, 85, 86, 87, 88] (by decide +kernel) (by decide +kernel)
set_option maxRecDepth 20000 in
theorem gX6_behind_X6_barOfWeeks : GoodIn wsX6_behind (wsV RX6 109 RX6 yX6_barOfWeeks wsX6_barOfWeeks) := goodIn_app (goodIn_of _ (by decide +kernel)) ggX6_behind_X6_barOfWeeks
set_option maxRecDepth 20000 in
theorem ggX6_behind_X6_eatenSet : GoodIn wsX6_behind wsX6_eatenSet := goodIn_r _ [69, 1, 74, 75, 76, 77, 78, 79, 80, 81, 82, 83, 84, 85, 86, 87, 88] (by decide +kernel) (by decide +kernel)
set_option maxRecDepth 20000 in
theorem gX6_behind_X6_eatenSet : GoodIn wsX6_behind (wsV RX6 112 RX6 yX6_eatenSet wsX6_eatenSet) := goodIn_app (goodIn_of _ (by decide +kernel)) ggX6_behind_X6_eatenSet
set_option maxRecDepth 20000 in
theorem ggX6_behind_X6_looseSet : GoodIn wsX6_behind wsX6_looseSet := goodIn_r _ [73, 1, 66, 67, 68, 5, 69, 47, 48, 49, 74, 75, 76, 77, 78, 79, 80, 81, 82, 83, 84, 85, 86, 87, 88] (by decide +kernel) (by decide +kernel)
set_option maxRecDepth 20000 in
theorem gX6_behind_X6_looseSet : GoodIn wsX6_behind (wsV RX6 115 RX6 yX6_looseSet wsX6_looseSet) := goodIn_app (goodIn_of _ (by decide +kernel)) ggX6_behind_X6_looseSet
theorem dX6_behind_0 : decode cX6_behind 0 = .ok (.iload_n 1, 1) := by decide +kernel
theorem dX6_behind_1 : decode cX6_behind 1 = .ok (.iconst 0, 1) := by decide +kernel
theorem dX6_behind_2 : decode cX6_behind 2 = .ok (.iconst 3, 1) := by decide +kernel
theorem dX6_behind_3 : decode cX6_behind 3 = .ok (.invokestatic 41, 3) := by decide +kernel
theorem dX6_behind_6 : decode cX6_behind 6 = .ok (.ifCond .ne 6, 3) := by decide +kernel
theorem dX6_behind_9 : decode cX6_behind 9 = .ok (.bipush (-2), 2) := by decide +kernel
theorem dX6_behind_11 : decode cX6_behind 11 = .ok (.ireturn, 1) := by decide +kernel
theorem dX6_behind_12 : decode cX6_behind 12 = .ok (.aload_n 0, 1) := by decide +kernel
theorem dX6_behind_13 : decode cX6_behind 13 = .ok (.invokevirtual 109, 3) := by decide +kernel
theorem dX6_behind_16 : decode cX6_behind 16 = .ok (.ifCond .ge 6, 3) := by decide +kernel
theorem dX6_behind_19 : decode cX6_behind 19 = .ok (.bipush (-5), 2) := by decide +kernel
theorem dX6_behind_21 : decode cX6_behind 21 = .ok (.ireturn, 1) := by decide +kernel
theorem dX6_behind_22 : decode cX6_behind 22 = .ok (.iload_n 1, 1) := by decide +kernel
theorem dX6_behind_23 : decode cX6_behind 23 = .ok (.ifCond .ne 13, 3) := by decide +kernel
theorem dX6_behind_26 : decode cX6_behind 26 = .ok (.aload_n 0, 1) := by decide +kernel
theorem dX6_behind_27 : decode cX6_behind 27 = .ok (.getfield 13, 3) := by decide +kernel
theorem dX6_behind_30 : decode cX6_behind 30 = .ok (.bipush 96, 2) := by decide +kernel
theorem dX6_behind_32 : decode cX6_behind 32 = .ok (.iaload, 1) := by decide +kernel
theorem dX6_behind_33 : decode cX6_behind 33 = .ok (.goto 31, 3) := by decide +kernel
theorem dX6_behind_36 : decode cX6_behind 36 = .ok (.iload_n 1, 1) := by decide +kernel
theorem dX6_behind_37 : decode cX6_behind 37 = .ok (.iconst 1, 1) := by decide +kernel
theorem dX6_behind_38 : decode cX6_behind 38 = .ok (.if_icmp .ne 10, 3) := by decide +kernel
theorem dX6_behind_41 : decode cX6_behind 41 = .ok (.aload_n 0, 1) := by decide +kernel
theorem dX6_behind_42 : decode cX6_behind 42 = .ok (.invokevirtual 112, 3) := by decide +kernel
theorem dX6_behind_45 : decode cX6_behind 45 = .ok (.goto 19, 3) := by decide +kernel
theorem dX6_behind_48 : decode cX6_behind 48 = .ok (.iload_n 1, 1) := by decide +kernel
theorem dX6_behind_49 : decode cX6_behind 49 = .ok (.iconst 2, 1) := by decide +kernel
theorem dX6_behind_50 : decode cX6_behind 50 = .ok (.if_icmp .ne 10, 3) := by decide +kernel
theorem dX6_behind_53 : decode cX6_behind 53 = .ok (.aload_n 0, 1) := by decide +kernel
theorem dX6_behind_54 : decode cX6_behind 54 = .ok (.invokevirtual 115, 3) := by decide +kernel
theorem dX6_behind_57 : decode cX6_behind 57 = .ok (.goto 7, 3) := by decide +kernel
theorem dX6_behind_60 : decode cX6_behind 60 = .ok (.aload_n 0, 1) := by decide +kernel
theorem dX6_behind_61 : decode cX6_behind 61 = .ok (.getfield 66, 3) := by decide +kernel
theorem dX6_behind_64 : decode cX6_behind 64 = .ok (.ireturn, 1) := by decide +kernel
set_option maxRecDepth 20000 in
theorem ggX6_of_X6_in : GoodIn wsX6_of wsX6_in := goodIn_r _ [5] (by decide +kernel) (by decide +kernel)
set_option maxRecDepth 20000 in
theorem gX6_of_X6_in : GoodIn wsX6_of (va_wsS RX6 41 yX6_in wsX6_in) := goodIn_app (goodIn_of _ (by decide +kernel)) ggX6_of_X6_in
set_option maxRecDepth 20000 in
theorem ggX6_of_X6_barOfWeeks : GoodIn wsX6_of wsX6_barOfWeeks := goodIn_r _ [9, 10, 11, 12, 4, 13, 14, 15, 16, 17, 18, 2, 3, 5, 19, 20, 21, 22, 23, 24, 25, 26, 27, 28, 29, 30, 31, 32, 1, 33, 34, 35, 36, 37, 38, 39, 40, 41, 42, 43, 44, 45, 46, 47, 48, 49, 50, 51, 52, 53, 54, 55, 56, 57, 58, 59, 60, 61, 62, 63, 64, 65, 66, 67, 68, 69, 70, 71, 72, 73, 74, 75, 76, 77, 78, 79, 80] (by decide +kernel) (by decide +kernel)
set_option maxRecDepth 20000 in
theorem gX6_of_X6_barOfWeeks : GoodIn wsX6_of (wsV RX6 109 RX6 yX6_barOfWeeks wsX6_barOfWeeks) := goodIn_app (goodIn_of _ (by decide +kernel)) ggX6_of_X6_barOfWeeks
theorem dX6_of_0 : decode cX6_of 0 = .ok (.iload_n 2, 1) := by decide +kernel
theorem dX6_of_1 : decode cX6_of 1 = .ok (.iconst 0, 1) := by decide +kernel
theorem dX6_of_2 : decode cX6_of 2 = .ok (.iconst 2, 1) := by decide +kernel
theorem dX6_of_3 : decode cX6_of 3 = .ok (.invokestatic 41, 3) := by decide +kernel
theorem dX6_of_6 : decode cX6_of 6 = .ok (.ifCond .ne 6, 3) := by decide +kernel
theorem dX6_of_9 : decode cX6_of 9 = .ok (.bipush (-2), 2) := by decide +kernel
theorem dX6_of_11 : decode cX6_of 11 = .ok (.ireturn, 1) := by decide +kernel
theorem dX6_of_12 : decode cX6_of 12 = .ok (.aload_n 0, 1) := by decide +kernel
theorem dX6_of_13 : decode cX6_of 13 = .ok (.invokevirtual 109, 3) := by decide +kernel
theorem dX6_of_16 : decode cX6_of 16 = .ok (.ifCond .ge 6, 3) := by decide +kernel
theorem dX6_of_19 : decode cX6_of 19 = .ok (.bipush (-5), 2) := by decide +kernel
theorem dX6_of_21 : decode cX6_of 21 = .ok (.ireturn, 1) := by decide +kernel
theorem dX6_of_22 : decode cX6_of 22 = .ok (.iload_n 1, 1) := by decide +kernel
theorem dX6_of_23 : decode cX6_of 23 = .ok (.iconst 0, 1) := by decide +kernel
theorem dX6_of_24 : decode cX6_of 24 = .ok (.aload_n 0, 1) := by decide +kernel
theorem dX6_of_25 : decode cX6_of 25 = .ok (.getfield 13, 3) := by decide +kernel
theorem dX6_of_28 : decode cX6_of 28 = .ok (.bipush 96, 2) := by decide +kernel
theorem dX6_of_30 : decode cX6_of 30 = .ok (.iaload, 1) := by decide +kernel
theorem dX6_of_31 : decode cX6_of 31 = .ok (.iconst 1, 1) := by decide +kernel
theorem dX6_of_32 : decode cX6_of 32 = .ok (.isub, 1) := by decide +kernel
theorem dX6_of_33 : decode cX6_of 33 = .ok (.invokestatic 41, 3) := by decide +kernel
theorem dX6_of_36 : decode cX6_of 36 = .ok (.ifCond .eq 17, 3) := by decide +kernel
theorem dX6_of_39 : decode cX6_of 39 = .ok (.aload_n 0, 1) := by decide +kernel
theorem dX6_of_40 : decode cX6_of 40 = .ok (.getfield 13, 3) := by decide +kernel
theorem dX6_of_43 : decode cX6_of 43 = .ok (.bipush 24, 2) := by decide +kernel
theorem dX6_of_45 : decode cX6_of 45 = .ok (.iload_n 2, 1) := by decide +kernel
theorem dX6_of_46 : decode cX6_of 46 = .ok (.imul, 1) := by decide +kernel
theorem dX6_of_47 : decode cX6_of 47 = .ok (.iload_n 1, 1) := by decide +kernel
theorem dX6_of_48 : decode cX6_of 48 = .ok (.iadd, 1) := by decide +kernel
theorem dX6_of_49 : decode cX6_of 49 = .ok (.iaload, 1) := by decide +kernel
theorem dX6_of_50 : decode cX6_of 50 = .ok (.goto 4, 3) := by decide +kernel
theorem dX6_of_53 : decode cX6_of 53 = .ok (.iconst (-1), 1) := by decide +kernel
theorem dX6_of_54 : decode cX6_of 54 = .ok (.ireturn, 1) := by decide +kernel
set_option maxRecDepth 20000 in
theorem ggX6_pull_X6_isStitch : GoodIn wsX6_pull wsX6_isStitch := goodIn_r _ [5, 6, 7, 8, 4, 9, 26, 27, 28, 29, 30, 31, 32, 33, 34, 35, 36, 37, 38, 39, 40] (by decide +kernel) (by decide +kernel)
set_option maxRecDepth 20000 in
theorem gX6_pull_X6_isStitch : GoodIn wsX6_pull (wsV RX6 45 RX6 yX6_isStitch wsX6_isStitch) := goodIn_app (goodIn_of _ (by decide +kernel)) ggX6_pull_X6_isStitch
set_option maxRecDepth 20000 in
theorem ggX6_pull_X6_asNow : GoodIn wsX6_pull wsX6_asNow := goodIn_r _ [13, 14, 6, 15, 26, 27, 28, 29, 30, 31, 32, 33, 34, 35, 36, 37, 38, 39, 40] (by decide +kernel) (by decide +kernel)
set_option maxRecDepth 20000 in
theorem gX6_pull_X6_asNow : GoodIn wsX6_pull (wsV RX6 84 RX6 yX6_asNow wsX6_asNow) := goodIn_app (goodIn_of _ (by decide +kernel)) ggX6_pull_X6_asNow
set_option maxRecDepth 20000 in
theorem ggX6_pull_X6_threadOf : GoodIn wsX6_pull wsX6_threadOf := goodIn_r _ [19, 14, 20, 21, 4, 22, 26, 27, 28, 29, 30, 31, 32, 33, 34, 35, 36, 37, 38, 39, 40] (by decide +kernel) (by decide +kernel)
set_option maxRecDepth 20000 in
theorem gX6_pull_X6_threadOf : GoodIn wsX6_pull (wsV RX6 73 RX6 yX6_threadOf wsX6_threadOf) := goodIn_app (goodIn_of _ (by decide +kernel)) ggX6_pull_X6_threadOf
set_option maxRecDepth 20000 in
theorem ggX6_pull_X6_bits : GoodIn wsX6_pull wsX6_bits := goodIn_r _ [25] (by decide +kernel) (by decide +kernel)
set_option maxRecDepth 20000 in
theorem gX6_pull_X6_bits : GoodIn wsX6_pull (va_wsS RX6 81 yX6_bits wsX6_bits) := goodIn_app (goodIn_of _ (by decide +kernel)) ggX6_pull_X6_bits
theorem dX6_pull_0 : decode cX6_pull 0 = .ok (.aload_n 0, 1) := by decide +kernel
theorem dX6_pull_1 : decode cX6_pull 1 = .ok (.iload_n 1, 1) := by decide +kernel
theorem dX6_pull_2 : decode cX6_pull 2 = .ok (.invokevirtual 45, 3) := by decide +kernel
theorem dX6_pull_5 : decode cX6_pull 5 = .ok (.ifCond .ne 5, 3) := by decide +kernel
theorem dX6_pull_8 : decode cX6_pull 8 = .ok (.iconst (-1), 1) := by decide +kernel
theorem dX6_pull_9 : decode cX6_pull 9 = .ok (.ireturn, 1) := by decide +kernel
theorem dX6_pull_10 : decode cX6_pull 10 = .ok (.aload_n 0, 1) := by decide +kernel
theorem dX6_pull_11 : decode cX6_pull 11 = .ok (.invokevirtual 84, 3) := by decide +kernel
theorem dX6_pull_14 : decode cX6_pull 14 = .ok (.aload_n 0, 1) := by decide +kernel
theorem dX6_pull_15 : decode cX6_pull 15 = .ok (.iload_n 1, 1) := by decide +kernel
theorem dX6_pull_16 : decode cX6_pull 16 = .ok (.invokevirtual 73, 3) := by decide +kernel
theorem dX6_pull_19 : decode cX6_pull 19 = .ok (.invokestatic 81, 3) := by decide +kernel
theorem dX6_pull_22 : decode cX6_pull 22 = .ok (.ireturn, 1) := by decide +kernel
set_option maxRecDepth 20000 in
theorem ggX6_pulls_X6_in : GoodIn wsX6_pulls wsX6_in := goodIn_r _ [6] (by decide +kernel) (by decide +kernel)
set_option maxRecDepth 20000 in
theorem gX6_pulls_X6_in : GoodIn wsX6_pulls (va_wsS RX6 41 yX6_in wsX6_in) := goodIn_app (goodIn_of _ (by decide +kernel)) ggX6_pulls_X6_in
set_option maxRecDepth 20000 in
theorem ggX6_pulls_X6_asNow : GoodIn wsX6_pulls wsX6_asNow := goodIn_r _ [10, 2, 1, 11, 22, 23, 24, 25, 26, 27, 28, 29, 30, 31, 32, 33, 34, 35, 36] (by decide +kernel) (by decide +kernel)
set_option maxRecDepth 20000 in
theorem gX6_pulls_X6_asNow : GoodIn wsX6_pulls (wsV RX6 84 RX6 yX6_asNow wsX6_asNow) := goodIn_app (goodIn_of _ (by decide +kernel)) ggX6_pulls_X6_asNow
set_option maxRecDepth 20000 in
theorem ggX6_pulls_X6_has : GoodIn wsX6_pulls wsX6_has := goodIn_r _ [14] (by decide +kernel) (by decide +kernel)
set_option maxRecDepth 20000 in
theorem gX6_pulls_X6_has : GoodIn wsX6_pulls (va_wsS RX6 69 yX6_has wsX6_has) := goodIn_app (goodIn_of _ (by decide +kernel)) ggX6_pulls_X6_has
set_option maxRecDepth 20000 in
theorem ggX6_pulls_X6_threadOf : GoodIn wsX6_pulls wsX6_threadOf := goodIn_r _ [18, 2, 12, 13, 5, 14, 22, 23, 24, 25, 26, 27, 28, 29, 30, 31, 32, 33, 34, 35, 36] (by decide +kernel) (by decide +kernel)
set_option maxRecDepth 20000 in
theorem gX6_pulls_X6_threadOf : GoodIn wsX6_pulls (wsV RX6 73 RX6 yX6_threadOf wsX6_threadOf) := goodIn_app (goodIn_of _ (by decide +kernel)) ggX6_pulls_X6_threadOf
set_option maxRecDepth 20000 in
theorem ggX6_pulls_X6_bits : GoodIn wsX6_pulls wsX6_bits := goodIn_r _ [21] (by decide +kernel) (by decide +kernel)
set_option maxRecDepth 20000 in
theorem gX6_pulls_X6_bits : GoodIn wsX6_pulls (va_wsS RX6 81 yX6_bits wsX6_bits) := goodIn_app (goodIn_of _ (by decide +kernel)) ggX6_pulls_X6_bits
theorem dX6_pulls_0 : decode cX6_pulls 0 = .ok (.iconst 1, 1) := by decide +kernel
theorem dX6_pulls_1 : decode cX6_pulls 1 = .ok (.aload_n 0, 1) := by decide +kernel
theorem dX6_pulls_2 : decode cX6_pulls 2 = .ok (.getfield 7, 3) := by decide +kernel
theorem dX6_pulls_5 : decode cX6_pulls 5 = .ok (.bipush 96, 2) := by decide +kernel
theorem dX6_pulls_7 : decode cX6_pulls 7 = .ok (.iaload, 1) := by decide +kernel
theorem dX6_pulls_8 : decode cX6_pulls 8 = .ok (.ishl, 1) := by decide +kernel
theorem dX6_pulls_9 : decode cX6_pulls 9 = .ok (.iconst 1, 1) := by decide +kernel
theorem dX6_pulls_10 : decode cX6_pulls 10 = .ok (.isub, 1) := by decide +kernel
theorem dX6_pulls_11 : decode cX6_pulls 11 = .ok (.istore 4, 2) := by decide +kernel
theorem dX6_pulls_13 : decode cX6_pulls 13 = .ok (.iload_n 1, 1) := by decide +kernel
theorem dX6_pulls_14 : decode cX6_pulls 14 = .ok (.iload 4, 2) := by decide +kernel
theorem dX6_pulls_16 : decode cX6_pulls 16 = .ok (.iconst (-1), 1) := by decide +kernel
theorem dX6_pulls_17 : decode cX6_pulls 17 = .ok (.ixor, 1) := by decide +kernel
theorem dX6_pulls_18 : decode cX6_pulls 18 = .ok (.iand, 1) := by decide +kernel
theorem dX6_pulls_19 : decode cX6_pulls 19 = .ok (.ifCond .ne 12, 3) := by decide +kernel
theorem dX6_pulls_22 : decode cX6_pulls 22 = .ok (.iload_n 2, 1) := by decide +kernel
theorem dX6_pulls_23 : decode cX6_pulls 23 = .ok (.iload 4, 2) := by decide +kernel
theorem dX6_pulls_25 : decode cX6_pulls 25 = .ok (.iconst (-1), 1) := by decide +kernel
theorem dX6_pulls_26 : decode cX6_pulls 26 = .ok (.ixor, 1) := by decide +kernel
theorem dX6_pulls_27 : decode cX6_pulls 27 = .ok (.iand, 1) := by decide +kernel
theorem dX6_pulls_28 : decode cX6_pulls 28 = .ok (.ifCond .eq 5, 3) := by decide +kernel
theorem dX6_pulls_31 : decode cX6_pulls 31 = .ok (.iconst (-1), 1) := by decide +kernel
theorem dX6_pulls_32 : decode cX6_pulls 32 = .ok (.ireturn, 1) := by decide +kernel
theorem dX6_pulls_33 : decode cX6_pulls 33 = .ok (.iload_n 3, 1) := by decide +kernel
theorem dX6_pulls_34 : decode cX6_pulls 34 = .ok (.iconst 0, 1) := by decide +kernel
theorem dX6_pulls_35 : decode cX6_pulls 35 = .ok (.iconst 1, 1) := by decide +kernel
theorem dX6_pulls_36 : decode cX6_pulls 36 = .ok (.invokestatic 41, 3) := by decide +kernel
theorem dX6_pulls_39 : decode cX6_pulls 39 = .ok (.ifCond .ne 6, 3) := by decide +kernel
theorem dX6_pulls_42 : decode cX6_pulls 42 = .ok (.bipush (-2), 2) := by decide +kernel
theorem dX6_pulls_44 : decode cX6_pulls 44 = .ok (.ireturn, 1) := by decide +kernel
theorem dX6_pulls_45 : decode cX6_pulls 45 = .ok (.aload_n 0, 1) := by decide +kernel
theorem dX6_pulls_46 : decode cX6_pulls 46 = .ok (.invokevirtual 84, 3) := by decide +kernel
theorem dX6_pulls_49 : decode cX6_pulls 49 = .ok (.iconst 0, 1) := by decide +kernel
theorem dX6_pulls_50 : decode cX6_pulls 50 = .ok (.istore 5, 2) := by decide +kernel
theorem dX6_pulls_52 : decode cX6_pulls 52 = .ok (.iconst 0, 1) := by decide +kernel
theorem dX6_pulls_53 : decode cX6_pulls 53 = .ok (.istore 6, 2) := by decide +kernel
theorem dX6_pulls_55 : decode cX6_pulls 55 = .ok (.iload 6, 2) := by decide +kernel
theorem dX6_pulls_57 : decode cX6_pulls 57 = .ok (.aload_n 0, 1) := by decide +kernel
theorem dX6_pulls_58 : decode cX6_pulls 58 = .ok (.getfield 13, 3) := by decide +kernel
theorem dX6_pulls_61 : decode cX6_pulls 61 = .ok (.bipush 96, 2) := by decide +kernel
theorem dX6_pulls_63 : decode cX6_pulls 63 = .ok (.iaload, 1) := by decide +kernel
theorem dX6_pulls_64 : decode cX6_pulls 64 = .ok (.if_icmp .ge 83, 3) := by decide +kernel
theorem dX6_pulls_67 : decode cX6_pulls 67 = .ok (.iload_n 1, 1) := by decide +kernel
theorem dX6_pulls_68 : decode cX6_pulls 68 = .ok (.iload 6, 2) := by decide +kernel
theorem dX6_pulls_70 : decode cX6_pulls 70 = .ok (.invokestatic 69, 3) := by decide +kernel
theorem dX6_pulls_73 : decode cX6_pulls 73 = .ok (.ifCond .eq 68, 3) := by decide +kernel
theorem dX6_pulls_76 : decode cX6_pulls 76 = .ok (.bipush (-6), 2) := by decide +kernel
theorem dX6_pulls_78 : decode cX6_pulls 78 = .ok (.istore 7, 2) := by decide +kernel
theorem dX6_pulls_80 : decode cX6_pulls 80 = .ok (.iload 6, 2) := by decide +kernel
theorem dX6_pulls_82 : decode cX6_pulls 82 = .ok (.istore 8, 2) := by decide +kernel
theorem dX6_pulls_84 : decode cX6_pulls 84 = .ok (.iload 8, 2) := by decide +kernel
theorem dX6_pulls_86 : decode cX6_pulls 86 = .ok (.ifCond .lt 38, 3) := by decide +kernel
theorem dX6_pulls_89 : decode cX6_pulls 89 = .ok (.aload_n 0, 1) := by decide +kernel
theorem dX6_pulls_90 : decode cX6_pulls 90 = .ok (.iload 8, 2) := by decide +kernel
theorem dX6_pulls_92 : decode cX6_pulls 92 = .ok (.invokevirtual 73, 3) := by decide +kernel
theorem dX6_pulls_95 : decode cX6_pulls 95 = .ok (.iload_n 2, 1) := by decide +kernel
theorem dX6_pulls_96 : decode cX6_pulls 96 = .ok (.iand, 1) := by decide +kernel
theorem dX6_pulls_97 : decode cX6_pulls 97 = .ok (.ifCond .ne 8, 3) := by decide +kernel
theorem dX6_pulls_100 : decode cX6_pulls 100 = .ok (.iload 8, 2) := by decide +kernel
theorem dX6_pulls_102 : decode cX6_pulls 102 = .ok (.goto 5, 3) := by decide +kernel
theorem dX6_pulls_105 : decode cX6_pulls 105 = .ok (.iload 7, 2) := by decide +kernel
theorem dX6_pulls_107 : decode cX6_pulls 107 = .ok (.istore 7, 2) := by decide +kernel
theorem dX6_pulls_109 : decode cX6_pulls 109 = .ok (.aload_n 0, 1) := by decide +kernel
theorem dX6_pulls_110 : decode cX6_pulls 110 = .ok (.getfield 13, 3) := by decide +kernel
theorem dX6_pulls_113 : decode cX6_pulls 113 = .ok (.bipush 48, 2) := by decide +kernel
theorem dX6_pulls_115 : decode cX6_pulls 115 = .ok (.iload 8, 2) := by decide +kernel
theorem dX6_pulls_117 : decode cX6_pulls 117 = .ok (.iadd, 1) := by decide +kernel
theorem dX6_pulls_118 : decode cX6_pulls 118 = .ok (.iaload, 1) := by decide +kernel
theorem dX6_pulls_119 : decode cX6_pulls 119 = .ok (.istore 8, 2) := by decide +kernel
theorem dX6_pulls_121 : decode cX6_pulls 121 = .ok (.goto (-37), 3) := by decide +kernel
theorem dX6_pulls_124 : decode cX6_pulls 124 = .ok (.iload 7, 2) := by decide +kernel
theorem dX6_pulls_126 : decode cX6_pulls 126 = .ok (.ifCond .ge 6, 3) := by decide +kernel
theorem dX6_pulls_129 : decode cX6_pulls 129 = .ok (.bipush (-6), 2) := by decide +kernel
theorem dX6_pulls_131 : decode cX6_pulls 131 = .ok (.ireturn, 1) := by decide +kernel
theorem dX6_pulls_132 : decode cX6_pulls 132 = .ok (.iload 5, 2) := by decide +kernel
theorem dX6_pulls_134 : decode cX6_pulls 134 = .ok (.iconst 1, 1) := by decide +kernel
theorem dX6_pulls_135 : decode cX6_pulls 135 = .ok (.iload 7, 2) := by decide +kernel
theorem dX6_pulls_137 : decode cX6_pulls 137 = .ok (.ishl, 1) := by decide +kernel
theorem dX6_pulls_138 : decode cX6_pulls 138 = .ok (.ior, 1) := by decide +kernel
theorem dX6_pulls_139 : decode cX6_pulls 139 = .ok (.istore 5, 2) := by decide +kernel
theorem dX6_pulls_141 : decode cX6_pulls 141 = .ok (.iinc 6 1, 3) := by decide +kernel
theorem dX6_pulls_144 : decode cX6_pulls 144 = .ok (.goto (-89), 3) := by decide +kernel
theorem dX6_pulls_147 : decode cX6_pulls 147 = .ok (.iload_n 3, 1) := by decide +kernel
theorem dX6_pulls_148 : decode cX6_pulls 148 = .ok (.iconst 1, 1) := by decide +kernel
theorem dX6_pulls_149 : decode cX6_pulls 149 = .ok (.if_icmp .ne 8, 3) := by decide +kernel
theorem dX6_pulls_152 : decode cX6_pulls 152 = .ok (.iload 5, 2) := by decide +kernel
theorem dX6_pulls_154 : decode cX6_pulls 154 = .ok (.goto 8, 3) := by decide +kernel
theorem dX6_pulls_157 : decode cX6_pulls 157 = .ok (.iload 5, 2) := by decide +kernel
theorem dX6_pulls_159 : decode cX6_pulls 159 = .ok (.invokestatic 81, 3) := by decide +kernel
theorem dX6_pulls_162 : decode cX6_pulls 162 = .ok (.ireturn, 1) := by decide +kernel
theorem dX6_patternOf_0 : decode cX6_patternOf 0 = .ok (.aload_n 0, 1) := by decide +kernel
theorem dX6_patternOf_1 : decode cX6_patternOf 1 = .ok (.getfield 7, 3) := by decide +kernel
theorem dX6_patternOf_4 : decode cX6_patternOf 4 = .ok (.bipush 96, 2) := by decide +kernel
theorem dX6_patternOf_6 : decode cX6_patternOf 6 = .ok (.iaload, 1) := by decide +kernel
theorem dX6_patternOf_7 : decode cX6_patternOf 7 = .ok (.ifCond .ne 5, 3) := by decide +kernel
theorem dX6_patternOf_10 : decode cX6_patternOf 10 = .ok (.iconst 0, 1) := by decide +kernel
theorem dX6_patternOf_11 : decode cX6_patternOf 11 = .ok (.ireturn, 1) := by decide +kernel
theorem dX6_patternOf_12 : decode cX6_patternOf 12 = .ok (.iconst 0, 1) := by decide +kernel
theorem dX6_patternOf_13 : decode cX6_patternOf 13 = .ok (.istore_n 1, 1) := by decide +kernel
theorem dX6_patternOf_14 : decode cX6_patternOf 14 = .ok (.iconst 0, 1) := by decide +kernel
theorem dX6_patternOf_15 : decode cX6_patternOf 15 = .ok (.istore_n 2, 1) := by decide +kernel
theorem dX6_patternOf_16 : decode cX6_patternOf 16 = .ok (.iload_n 2, 1) := by decide +kernel
theorem dX6_patternOf_17 : decode cX6_patternOf 17 = .ok (.ifCond .ne 109, 3) := by decide +kernel
theorem dX6_patternOf_20 : decode cX6_patternOf 20 = .ok (.iinc 1 1, 3) := by decide +kernel
theorem dX6_patternOf_23 : decode cX6_patternOf 23 = .ok (.iconst 1, 1) := by decide +kernel
theorem dX6_patternOf_24 : decode cX6_patternOf 24 = .ok (.istore_n 2, 1) := by decide +kernel
theorem dX6_patternOf_25 : decode cX6_patternOf 25 = .ok (.iconst 0, 1) := by decide +kernel
theorem dX6_patternOf_26 : decode cX6_patternOf 26 = .ok (.istore_n 3, 1) := by decide +kernel
theorem dX6_patternOf_27 : decode cX6_patternOf 27 = .ok (.iload_n 3, 1) := by decide +kernel
theorem dX6_patternOf_28 : decode cX6_patternOf 28 = .ok (.aload_n 0, 1) := by decide +kernel
theorem dX6_patternOf_29 : decode cX6_patternOf 29 = .ok (.getfield 7, 3) := by decide +kernel
theorem dX6_patternOf_32 : decode cX6_patternOf 32 = .ok (.bipush 96, 2) := by decide +kernel
theorem dX6_patternOf_34 : decode cX6_patternOf 34 = .ok (.iaload, 1) := by decide +kernel
theorem dX6_patternOf_35 : decode cX6_patternOf 35 = .ok (.if_icmp .ge 88, 3) := by decide +kernel
theorem dX6_patternOf_38 : decode cX6_patternOf 38 = .ok (.iload_n 3, 1) := by decide +kernel
theorem dX6_patternOf_39 : decode cX6_patternOf 39 = .ok (.iload_n 1, 1) := by decide +kernel
theorem dX6_patternOf_40 : decode cX6_patternOf 40 = .ok (.iadd, 1) := by decide +kernel
theorem dX6_patternOf_41 : decode cX6_patternOf 41 = .ok (.istore 4, 2) := by decide +kernel
theorem dX6_patternOf_43 : decode cX6_patternOf 43 = .ok (.iload 4, 2) := by decide +kernel
theorem dX6_patternOf_45 : decode cX6_patternOf 45 = .ok (.aload_n 0, 1) := by decide +kernel
theorem dX6_patternOf_46 : decode cX6_patternOf 46 = .ok (.getfield 7, 3) := by decide +kernel
theorem dX6_patternOf_49 : decode cX6_patternOf 49 = .ok (.bipush 96, 2) := by decide +kernel
theorem dX6_patternOf_51 : decode cX6_patternOf 51 = .ok (.iaload, 1) := by decide +kernel
theorem dX6_patternOf_52 : decode cX6_patternOf 52 = .ok (.if_icmp .ge 65, 3) := by decide +kernel
theorem dX6_patternOf_55 : decode cX6_patternOf 55 = .ok (.iload_n 2, 1) := by decide +kernel
theorem dX6_patternOf_56 : decode cX6_patternOf 56 = .ok (.ifCond .eq 50, 3) := by decide +kernel
theorem dX6_patternOf_59 : decode cX6_patternOf 59 = .ok (.aload_n 0, 1) := by decide +kernel
theorem dX6_patternOf_60 : decode cX6_patternOf 60 = .ok (.getfield 7, 3) := by decide +kernel
theorem dX6_patternOf_63 : decode cX6_patternOf 63 = .ok (.bipush 72, 2) := by decide +kernel
theorem dX6_patternOf_65 : decode cX6_patternOf 65 = .ok (.iload_n 3, 1) := by decide +kernel
theorem dX6_patternOf_66 : decode cX6_patternOf 66 = .ok (.iadd, 1) := by decide +kernel
theorem dX6_patternOf_67 : decode cX6_patternOf 67 = .ok (.iaload, 1) := by decide +kernel
theorem dX6_patternOf_68 : decode cX6_patternOf 68 = .ok (.iconst 1, 1) := by decide +kernel
theorem dX6_patternOf_69 : decode cX6_patternOf 69 = .ok (.if_icmp .eq 33, 3) := by decide +kernel
theorem dX6_patternOf_72 : decode cX6_patternOf 72 = .ok (.aload_n 0, 1) := by decide +kernel
theorem dX6_patternOf_73 : decode cX6_patternOf 73 = .ok (.getfield 7, 3) := by decide +kernel
theorem dX6_patternOf_76 : decode cX6_patternOf 76 = .ok (.bipush 72, 2) := by decide +kernel
theorem dX6_patternOf_78 : decode cX6_patternOf 78 = .ok (.iload 4, 2) := by decide +kernel
theorem dX6_patternOf_80 : decode cX6_patternOf 80 = .ok (.iadd, 1) := by decide +kernel
theorem dX6_patternOf_81 : decode cX6_patternOf 81 = .ok (.iaload, 1) := by decide +kernel
theorem dX6_patternOf_82 : decode cX6_patternOf 82 = .ok (.iconst 1, 1) := by decide +kernel
theorem dX6_patternOf_83 : decode cX6_patternOf 83 = .ok (.if_icmp .eq 19, 3) := by decide +kernel
theorem dX6_patternOf_86 : decode cX6_patternOf 86 = .ok (.aload_n 0, 1) := by decide +kernel
theorem dX6_patternOf_87 : decode cX6_patternOf 87 = .ok (.getfield 7, 3) := by decide +kernel
theorem dX6_patternOf_90 : decode cX6_patternOf 90 = .ok (.iload_n 3, 1) := by decide +kernel
theorem dX6_patternOf_91 : decode cX6_patternOf 91 = .ok (.iaload, 1) := by decide +kernel
theorem dX6_patternOf_92 : decode cX6_patternOf 92 = .ok (.aload_n 0, 1) := by decide +kernel
theorem dX6_patternOf_93 : decode cX6_patternOf 93 = .ok (.getfield 7, 3) := by decide +kernel
theorem dX6_patternOf_96 : decode cX6_patternOf 96 = .ok (.iload 4, 2) := by decide +kernel
theorem dX6_patternOf_98 : decode cX6_patternOf 98 = .ok (.iaload, 1) := by decide +kernel
theorem dX6_patternOf_99 : decode cX6_patternOf 99 = .ok (.if_icmp .ne 7, 3) := by decide +kernel
theorem dX6_patternOf_102 : decode cX6_patternOf 102 = .ok (.iconst 1, 1) := by decide +kernel
theorem dX6_patternOf_103 : decode cX6_patternOf 103 = .ok (.goto 4, 3) := by decide +kernel
theorem dX6_patternOf_106 : decode cX6_patternOf 106 = .ok (.iconst 0, 1) := by decide +kernel
theorem dX6_patternOf_107 : decode cX6_patternOf 107 = .ok (.istore_n 2, 1) := by decide +kernel
theorem dX6_patternOf_108 : decode cX6_patternOf 108 = .ok (.iload 4, 2) := by decide +kernel
theorem dX6_patternOf_110 : decode cX6_patternOf 110 = .ok (.iload_n 1, 1) := by decide +kernel
theorem dX6_patternOf_111 : decode cX6_patternOf 111 = .ok (.iadd, 1) := by decide +kernel
theorem dX6_patternOf_112 : decode cX6_patternOf 112 = .ok (.istore 4, 2) := by decide +kernel
theorem dX6_patternOf_114 : decode cX6_patternOf 114 = .ok (.goto (-71), 3) := by decide +kernel
theorem dX6_patternOf_117 : decode cX6_patternOf 117 = .ok (.iinc 3 1, 3) := by decide +kernel
theorem dX6_patternOf_120 : decode cX6_patternOf 120 = .ok (.goto (-93), 3) := by decide +kernel
theorem dX6_patternOf_123 : decode cX6_patternOf 123 = .ok (.goto (-107), 3) := by decide +kernel
theorem dX6_patternOf_126 : decode cX6_patternOf 126 = .ok (.iload_n 1, 1) := by decide +kernel
theorem dX6_patternOf_127 : decode cX6_patternOf 127 = .ok (.ireturn, 1) := by decide +kernel
set_option maxRecDepth 20000 in
theorem ggX6_pattern_X6_patternOf : GoodIn wsX6_pattern wsX6_patternOf := goodIn_r _ [5, 6, 7, 8, 9, 10, 11, 12, 13, 14, 15, 16, 17, 18, 19, 20, 21] (by decide +kernel) (by decide +kernel)
set_option maxRecDepth 20000 in
theorem gX6_pattern_X6_patternOf : GoodIn wsX6_pattern (wsV RX6 118 RX6 yX6_patternOf wsX6_patternOf) := goodIn_app (goodIn_of _ (by decide +kernel)) ggX6_pattern_X6_patternOf
theorem dX6_pattern_0 : decode cX6_pattern 0 = .ok (.aload_n 0, 1) := by decide +kernel
theorem dX6_pattern_1 : decode cX6_pattern 1 = .ok (.invokevirtual 118, 3) := by decide +kernel
theorem dX6_pattern_4 : decode cX6_pattern 4 = .ok (.ireturn, 1) := by decide +kernel
set_option maxRecDepth 20000 in
theorem ggX6_hole_X6_isStitch : GoodIn wsX6_hole wsX6_isStitch := goodIn_r _ [6, 1, 7, 8, 5, 9, 14, 15, 16, 17, 18, 19, 20, 21, 22, 23, 24, 25, 26, 27, 28] (by decide +kernel) (by decide +kernel)
set_option maxRecDepth 20000 in
theorem gX6_hole_X6_isStitch : GoodIn wsX6_hole (wsV RX6 45 RX6 yX6_isStitch wsX6_isStitch) := goodIn_app (goodIn_of _ (by decide +kernel)) ggX6_hole_X6_isStitch
set_option maxRecDepth 20000 in
theorem ggX6_hole_X6_patternOf : GoodIn wsX6_hole wsX6_patternOf := goodIn_r _ [13, 1, 14, 15, 16, 17, 18, 19, 20, 21, 22, 23, 24, 25, 26, 27, 28] (by decide +kernel) (by decide +kernel)
set_option maxRecDepth 20000 in
theorem gX6_hole_X6_patternOf : GoodIn wsX6_hole (wsV RX6 118 RX6 yX6_patternOf wsX6_patternOf) := goodIn_app (goodIn_of _ (by decide +kernel)) ggX6_hole_X6_patternOf
theorem dX6_hole_0 : decode cX6_hole 0 = .ok (.aload_n 0, 1) := by decide +kernel
theorem dX6_hole_1 : decode cX6_hole 1 = .ok (.iload_n 1, 1) := by decide +kernel
theorem dX6_hole_2 : decode cX6_hole 2 = .ok (.invokevirtual 45, 3) := by decide +kernel
theorem dX6_hole_5 : decode cX6_hole 5 = .ok (.ifCond .ne 5, 3) := by decide +kernel
theorem dX6_hole_8 : decode cX6_hole 8 = .ok (.iconst (-1), 1) := by decide +kernel
theorem dX6_hole_9 : decode cX6_hole 9 = .ok (.ireturn, 1) := by decide +kernel
theorem dX6_hole_10 : decode cX6_hole 10 = .ok (.aload_n 0, 1) := by decide +kernel
theorem dX6_hole_11 : decode cX6_hole 11 = .ok (.getfield 7, 3) := by decide +kernel
theorem dX6_hole_14 : decode cX6_hole 14 = .ok (.bipush 72, 2) := by decide +kernel
theorem dX6_hole_16 : decode cX6_hole 16 = .ok (.iload_n 1, 1) := by decide +kernel
theorem dX6_hole_17 : decode cX6_hole 17 = .ok (.iadd, 1) := by decide +kernel
theorem dX6_hole_18 : decode cX6_hole 18 = .ok (.iaload, 1) := by decide +kernel
theorem dX6_hole_19 : decode cX6_hole 19 = .ok (.ifCond .ne 6, 3) := by decide +kernel
theorem dX6_hole_22 : decode cX6_hole 22 = .ok (.bipush (-3), 2) := by decide +kernel
theorem dX6_hole_24 : decode cX6_hole 24 = .ok (.ireturn, 1) := by decide +kernel
theorem dX6_hole_25 : decode cX6_hole 25 = .ok (.aload_n 0, 1) := by decide +kernel
theorem dX6_hole_26 : decode cX6_hole 26 = .ok (.invokevirtual 118, 3) := by decide +kernel
theorem dX6_hole_29 : decode cX6_hole 29 = .ok (.istore_n 2, 1) := by decide +kernel
theorem dX6_hole_30 : decode cX6_hole 30 = .ok (.iconst 0, 1) := by decide +kernel
theorem dX6_hole_31 : decode cX6_hole 31 = .ok (.istore_n 3, 1) := by decide +kernel
theorem dX6_hole_32 : decode cX6_hole 32 = .ok (.iload_n 1, 1) := by decide +kernel
theorem dX6_hole_33 : decode cX6_hole 33 = .ok (.iload_n 2, 1) := by decide +kernel
theorem dX6_hole_34 : decode cX6_hole 34 = .ok (.irem, 1) := by decide +kernel
theorem dX6_hole_35 : decode cX6_hole 35 = .ok (.istore 4, 2) := by decide +kernel
theorem dX6_hole_37 : decode cX6_hole 37 = .ok (.iload 4, 2) := by decide +kernel
theorem dX6_hole_39 : decode cX6_hole 39 = .ok (.aload_n 0, 1) := by decide +kernel
theorem dX6_hole_40 : decode cX6_hole 40 = .ok (.getfield 7, 3) := by decide +kernel
theorem dX6_hole_43 : decode cX6_hole 43 = .ok (.bipush 96, 2) := by decide +kernel
theorem dX6_hole_45 : decode cX6_hole 45 = .ok (.iaload, 1) := by decide +kernel
theorem dX6_hole_46 : decode cX6_hole 46 = .ok (.if_icmp .ge 41, 3) := by decide +kernel
theorem dX6_hole_49 : decode cX6_hole 49 = .ok (.iload_n 3, 1) := by decide +kernel
theorem dX6_hole_50 : decode cX6_hole 50 = .ok (.aload_n 0, 1) := by decide +kernel
theorem dX6_hole_51 : decode cX6_hole 51 = .ok (.getfield 7, 3) := by decide +kernel
theorem dX6_hole_54 : decode cX6_hole 54 = .ok (.bipush 72, 2) := by decide +kernel
theorem dX6_hole_56 : decode cX6_hole 56 = .ok (.iload 4, 2) := by decide +kernel
theorem dX6_hole_58 : decode cX6_hole 58 = .ok (.iadd, 1) := by decide +kernel
theorem dX6_hole_59 : decode cX6_hole 59 = .ok (.iaload, 1) := by decide +kernel
theorem dX6_hole_60 : decode cX6_hole 60 = .ok (.ifCond .ne 15, 3) := by decide +kernel
theorem dX6_hole_63 : decode cX6_hole 63 = .ok (.iconst 1, 1) := by decide +kernel
theorem dX6_hole_64 : decode cX6_hole 64 = .ok (.aload_n 0, 1) := by decide +kernel
theorem dX6_hole_65 : decode cX6_hole 65 = .ok (.getfield 7, 3) := by decide +kernel
theorem dX6_hole_68 : decode cX6_hole 68 = .ok (.iload 4, 2) := by decide +kernel
theorem dX6_hole_70 : decode cX6_hole 70 = .ok (.iaload, 1) := by decide +kernel
theorem dX6_hole_71 : decode cX6_hole 71 = .ok (.ishl, 1) := by decide +kernel
theorem dX6_hole_72 : decode cX6_hole 72 = .ok (.goto 4, 3) := by decide +kernel
theorem dX6_hole_75 : decode cX6_hole 75 = .ok (.iconst 0, 1) := by decide +kernel
theorem dX6_hole_76 : decode cX6_hole 76 = .ok (.ior, 1) := by decide +kernel
theorem dX6_hole_77 : decode cX6_hole 77 = .ok (.istore_n 3, 1) := by decide +kernel
theorem dX6_hole_78 : decode cX6_hole 78 = .ok (.iload 4, 2) := by decide +kernel
theorem dX6_hole_80 : decode cX6_hole 80 = .ok (.iload_n 2, 1) := by decide +kernel
theorem dX6_hole_81 : decode cX6_hole 81 = .ok (.iadd, 1) := by decide +kernel
theorem dX6_hole_82 : decode cX6_hole 82 = .ok (.istore 4, 2) := by decide +kernel
theorem dX6_hole_84 : decode cX6_hole 84 = .ok (.goto (-47), 3) := by decide +kernel
theorem dX6_hole_87 : decode cX6_hole 87 = .ok (.iload_n 3, 1) := by decide +kernel
theorem dX6_hole_88 : decode cX6_hole 88 = .ok (.ifCond .ne 8, 3) := by decide +kernel
theorem dX6_hole_91 : decode cX6_hole 91 = .ok (.bipush 15, 2) := by decide +kernel
theorem dX6_hole_93 : decode cX6_hole 93 = .ok (.goto 4, 3) := by decide +kernel
theorem dX6_hole_96 : decode cX6_hole 96 = .ok (.iload_n 3, 1) := by decide +kernel
theorem dX6_hole_97 : decode cX6_hole 97 = .ok (.ireturn, 1) := by decide +kernel
set_option maxRecDepth 20000 in
theorem ggX6_rip_X6_in : GoodIn wsX6_rip wsX6_in := goodIn_r _ [8] (by decide +kernel) (by decide +kernel)
set_option maxRecDepth 20000 in
theorem gX6_rip_X6_in : GoodIn wsX6_rip (va_wsS RX6 41 yX6_in wsX6_in) := goodIn_app (goodIn_of _ (by decide +kernel)) ggX6_rip_X6_in
theorem dX6_rip_0 : decode cX6_rip 0 = .ok (.iload_n 1, 1) := by decide +kernel
theorem dX6_rip_1 : decode cX6_rip 1 = .ok (.iconst 0, 1) := by decide +kernel
theorem dX6_rip_2 : decode cX6_rip 2 = .ok (.iconst 1, 1) := by decide +kernel
theorem dX6_rip_3 : decode cX6_rip 3 = .ok (.invokestatic 41, 3) := by decide +kernel
theorem dX6_rip_6 : decode cX6_rip 6 = .ok (.ifCond .ne 6, 3) := by decide +kernel
theorem dX6_rip_9 : decode cX6_rip 9 = .ok (.bipush (-2), 2) := by decide +kernel
theorem dX6_rip_11 : decode cX6_rip 11 = .ok (.ireturn, 1) := by decide +kernel
theorem dX6_rip_12 : decode cX6_rip 12 = .ok (.aload_n 0, 1) := by decide +kernel
theorem dX6_rip_13 : decode cX6_rip 13 = .ok (.getfield 31, 3) := by decide +kernel
theorem dX6_rip_16 : decode cX6_rip 16 = .ok (.iload_n 1, 1) := by decide +kernel
theorem dX6_rip_17 : decode cX6_rip 17 = .ok (.baload, 1) := by decide +kernel
theorem dX6_rip_18 : decode cX6_rip 18 = .ok (.ifCond .ne 6, 3) := by decide +kernel
theorem dX6_rip_21 : decode cX6_rip 21 = .ok (.bipush (-3), 2) := by decide +kernel
theorem dX6_rip_23 : decode cX6_rip 23 = .ok (.ireturn, 1) := by decide +kernel
theorem dX6_rip_24 : decode cX6_rip 24 = .ok (.aload_n 0, 1) := by decide +kernel
theorem dX6_rip_25 : decode cX6_rip 25 = .ok (.getfield 28, 3) := by decide +kernel
theorem dX6_rip_28 : decode cX6_rip 28 = .ok (.sipush 150, 3) := by decide +kernel
theorem dX6_rip_31 : decode cX6_rip 31 = .ok (.iload_n 1, 1) := by decide +kernel
theorem dX6_rip_32 : decode cX6_rip 32 = .ok (.imul, 1) := by decide +kernel
theorem dX6_rip_33 : decode cX6_rip 33 = .ok (.bipush 96, 2) := by decide +kernel
theorem dX6_rip_35 : decode cX6_rip 35 = .ok (.iadd, 1) := by decide +kernel
theorem dX6_rip_36 : decode cX6_rip 36 = .ok (.iaload, 1) := by decide +kernel
theorem dX6_rip_37 : decode cX6_rip 37 = .ok (.istore_n 2, 1) := by decide +kernel
theorem dX6_rip_38 : decode cX6_rip 38 = .ok (.iconst 0, 1) := by decide +kernel
theorem dX6_rip_39 : decode cX6_rip 39 = .ok (.istore_n 3, 1) := by decide +kernel
theorem dX6_rip_40 : decode cX6_rip 40 = .ok (.iload_n 3, 1) := by decide +kernel
theorem dX6_rip_41 : decode cX6_rip 41 = .ok (.aload_n 0, 1) := by decide +kernel
theorem dX6_rip_42 : decode cX6_rip 42 = .ok (.getfield 7, 3) := by decide +kernel
theorem dX6_rip_45 : decode cX6_rip 45 = .ok (.bipush 96, 2) := by decide +kernel
theorem dX6_rip_47 : decode cX6_rip 47 = .ok (.iaload, 1) := by decide +kernel
theorem dX6_rip_48 : decode cX6_rip 48 = .ok (.if_icmp .gt 164, 3) := by decide +kernel
theorem dX6_rip_51 : decode cX6_rip 51 = .ok (.iconst 0, 1) := by decide +kernel
theorem dX6_rip_52 : decode cX6_rip 52 = .ok (.istore 4, 2) := by decide +kernel
theorem dX6_rip_54 : decode cX6_rip 54 = .ok (.iload 4, 2) := by decide +kernel
theorem dX6_rip_56 : decode cX6_rip 56 = .ok (.iload_n 2, 1) := by decide +kernel
theorem dX6_rip_57 : decode cX6_rip 57 = .ok (.if_icmp .gt 149, 3) := by decide +kernel
theorem dX6_rip_60 : decode cX6_rip 60 = .ok (.iconst 0, 1) := by decide +kernel
theorem dX6_rip_61 : decode cX6_rip 61 = .ok (.istore 5, 2) := by decide +kernel
theorem dX6_rip_63 : decode cX6_rip 63 = .ok (.iload_n 3, 1) := by decide +kernel
theorem dX6_rip_64 : decode cX6_rip 64 = .ok (.ifCond .le 122, 3) := by decide +kernel
theorem dX6_rip_67 : decode cX6_rip 67 = .ok (.iload 4, 2) := by decide +kernel
theorem dX6_rip_69 : decode cX6_rip 69 = .ok (.ifCond .le 117, 3) := by decide +kernel
theorem dX6_rip_72 : decode cX6_rip 72 = .ok (.aload_n 0, 1) := by decide +kernel
theorem dX6_rip_73 : decode cX6_rip 73 = .ok (.getfield 35, 3) := by decide +kernel
theorem dX6_rip_76 : decode cX6_rip 76 = .ok (.bipush 25, 2) := by decide +kernel
theorem dX6_rip_78 : decode cX6_rip 78 = .ok (.iload_n 3, 1) := by decide +kernel
theorem dX6_rip_79 : decode cX6_rip 79 = .ok (.iconst 1, 1) := by decide +kernel
theorem dX6_rip_80 : decode cX6_rip 80 = .ok (.isub, 1) := by decide +kernel
theorem dX6_rip_81 : decode cX6_rip 81 = .ok (.imul, 1) := by decide +kernel
theorem dX6_rip_82 : decode cX6_rip 82 = .ok (.iload 4, 2) := by decide +kernel
theorem dX6_rip_84 : decode cX6_rip 84 = .ok (.iadd, 1) := by decide +kernel
theorem dX6_rip_85 : decode cX6_rip 85 = .ok (.iaload, 1) := by decide +kernel
theorem dX6_rip_86 : decode cX6_rip 86 = .ok (.istore 6, 2) := by decide +kernel
theorem dX6_rip_88 : decode cX6_rip 88 = .ok (.aload_n 0, 1) := by decide +kernel
theorem dX6_rip_89 : decode cX6_rip 89 = .ok (.getfield 35, 3) := by decide +kernel
theorem dX6_rip_92 : decode cX6_rip 92 = .ok (.bipush 25, 2) := by decide +kernel
theorem dX6_rip_94 : decode cX6_rip 94 = .ok (.iload_n 3, 1) := by decide +kernel
theorem dX6_rip_95 : decode cX6_rip 95 = .ok (.imul, 1) := by decide +kernel
theorem dX6_rip_96 : decode cX6_rip 96 = .ok (.iload 4, 2) := by decide +kernel
theorem dX6_rip_98 : decode cX6_rip 98 = .ok (.iadd, 1) := by decide +kernel
theorem dX6_rip_99 : decode cX6_rip 99 = .ok (.iconst 1, 1) := by decide +kernel
theorem dX6_rip_100 : decode cX6_rip 100 = .ok (.isub, 1) := by decide +kernel
theorem dX6_rip_101 : decode cX6_rip 101 = .ok (.iaload, 1) := by decide +kernel
theorem dX6_rip_102 : decode cX6_rip 102 = .ok (.istore 7, 2) := by decide +kernel
theorem dX6_rip_104 : decode cX6_rip 104 = .ok (.aload_n 0, 1) := by decide +kernel
theorem dX6_rip_105 : decode cX6_rip 105 = .ok (.getfield 35, 3) := by decide +kernel
theorem dX6_rip_108 : decode cX6_rip 108 = .ok (.bipush 25, 2) := by decide +kernel
theorem dX6_rip_110 : decode cX6_rip 110 = .ok (.iload_n 3, 1) := by decide +kernel
theorem dX6_rip_111 : decode cX6_rip 111 = .ok (.iconst 1, 1) := by decide +kernel
theorem dX6_rip_112 : decode cX6_rip 112 = .ok (.isub, 1) := by decide +kernel
theorem dX6_rip_113 : decode cX6_rip 113 = .ok (.imul, 1) := by decide +kernel
theorem dX6_rip_114 : decode cX6_rip 114 = .ok (.iload 4, 2) := by decide +kernel
theorem dX6_rip_116 : decode cX6_rip 116 = .ok (.iadd, 1) := by decide +kernel
theorem dX6_rip_117 : decode cX6_rip 117 = .ok (.iconst 1, 1) := by decide +kernel
theorem dX6_rip_118 : decode cX6_rip 118 = .ok (.isub, 1) := by decide +kernel
theorem dX6_rip_119 : decode cX6_rip 119 = .ok (.iaload, 1) := by decide +kernel
theorem dX6_rip_120 : decode cX6_rip 120 = .ok (.aload_n 0, 1) := by decide +kernel
theorem dX6_rip_121 : decode cX6_rip 121 = .ok (.getfield 7, 3) := by decide +kernel
theorem dX6_rip_124 : decode cX6_rip 124 = .ok (.iload_n 3, 1) := by decide +kernel
theorem dX6_rip_125 : decode cX6_rip 125 = .ok (.iconst 1, 1) := by decide +kernel
theorem dX6_rip_126 : decode cX6_rip 126 = .ok (.isub, 1) := by decide +kernel
theorem dX6_rip_127 : decode cX6_rip 127 = .ok (.iaload, 1) := by decide +kernel
theorem dX6_rip_128 : decode cX6_rip 128 = .ok (.aload_n 0, 1) := by decide +kernel
theorem dX6_rip_129 : decode cX6_rip 129 = .ok (.getfield 28, 3) := by decide +kernel
theorem dX6_rip_132 : decode cX6_rip 132 = .ok (.sipush 150, 3) := by decide +kernel
theorem dX6_rip_135 : decode cX6_rip 135 = .ok (.iload_n 1, 1) := by decide +kernel
theorem dX6_rip_136 : decode cX6_rip 136 = .ok (.imul, 1) := by decide +kernel
theorem dX6_rip_137 : decode cX6_rip 137 = .ok (.iload 4, 2) := by decide +kernel
theorem dX6_rip_139 : decode cX6_rip 139 = .ok (.iadd, 1) := by decide +kernel
theorem dX6_rip_140 : decode cX6_rip 140 = .ok (.iconst 1, 1) := by decide +kernel
theorem dX6_rip_141 : decode cX6_rip 141 = .ok (.isub, 1) := by decide +kernel
theorem dX6_rip_142 : decode cX6_rip 142 = .ok (.iaload, 1) := by decide +kernel
theorem dX6_rip_143 : decode cX6_rip 143 = .ok (.if_icmp .ne 7, 3) := by decide +kernel
theorem dX6_rip_146 : decode cX6_rip 146 = .ok (.iconst 1, 1) := by decide +kernel
theorem dX6_rip_147 : decode cX6_rip 147 = .ok (.goto 4, 3) := by decide +kernel
theorem dX6_rip_150 : decode cX6_rip 150 = .ok (.iconst 0, 1) := by decide +kernel
theorem dX6_rip_151 : decode cX6_rip 151 = .ok (.iadd, 1) := by decide +kernel
theorem dX6_rip_152 : decode cX6_rip 152 = .ok (.istore 8, 2) := by decide +kernel
theorem dX6_rip_154 : decode cX6_rip 154 = .ok (.iload 6, 2) := by decide +kernel
theorem dX6_rip_156 : decode cX6_rip 156 = .ok (.iload 7, 2) := by decide +kernel
theorem dX6_rip_158 : decode cX6_rip 158 = .ok (.if_icmp .le 8, 3) := by decide +kernel
theorem dX6_rip_161 : decode cX6_rip 161 = .ok (.iload 6, 2) := by decide +kernel
theorem dX6_rip_163 : decode cX6_rip 163 = .ok (.goto 5, 3) := by decide +kernel
theorem dX6_rip_166 : decode cX6_rip 166 = .ok (.iload 7, 2) := by decide +kernel
theorem dX6_rip_168 : decode cX6_rip 168 = .ok (.istore 5, 2) := by decide +kernel
theorem dX6_rip_170 : decode cX6_rip 170 = .ok (.iload 8, 2) := by decide +kernel
theorem dX6_rip_172 : decode cX6_rip 172 = .ok (.iload 5, 2) := by decide +kernel
theorem dX6_rip_174 : decode cX6_rip 174 = .ok (.if_icmp .le 8, 3) := by decide +kernel
theorem dX6_rip_177 : decode cX6_rip 177 = .ok (.iload 8, 2) := by decide +kernel
theorem dX6_rip_179 : decode cX6_rip 179 = .ok (.goto 5, 3) := by decide +kernel
theorem dX6_rip_182 : decode cX6_rip 182 = .ok (.iload 5, 2) := by decide +kernel
theorem dX6_rip_184 : decode cX6_rip 184 = .ok (.istore 5, 2) := by decide +kernel
theorem dX6_rip_186 : decode cX6_rip 186 = .ok (.aload_n 0, 1) := by decide +kernel
theorem dX6_rip_187 : decode cX6_rip 187 = .ok (.getfield 35, 3) := by decide +kernel
theorem dX6_rip_190 : decode cX6_rip 190 = .ok (.bipush 25, 2) := by decide +kernel
theorem dX6_rip_192 : decode cX6_rip 192 = .ok (.iload_n 3, 1) := by decide +kernel
theorem dX6_rip_193 : decode cX6_rip 193 = .ok (.imul, 1) := by decide +kernel
theorem dX6_rip_194 : decode cX6_rip 194 = .ok (.iload 4, 2) := by decide +kernel
theorem dX6_rip_196 : decode cX6_rip 196 = .ok (.iadd, 1) := by decide +kernel
theorem dX6_rip_197 : decode cX6_rip 197 = .ok (.iload 5, 2) := by decide +kernel
theorem dX6_rip_199 : decode cX6_rip 199 = .ok (.iastore, 1) := by decide +kernel
theorem dX6_rip_200 : decode cX6_rip 200 = .ok (.iinc 4 1, 3) := by decide +kernel
theorem dX6_rip_203 : decode cX6_rip 203 = .ok (.goto (-149), 3) := by decide +kernel
theorem dX6_rip_206 : decode cX6_rip 206 = .ok (.iinc 3 1, 3) := by decide +kernel
theorem dX6_rip_209 : decode cX6_rip 209 = .ok (.goto (-169), 3) := by decide +kernel
theorem dX6_rip_212 : decode cX6_rip 212 = .ok (.aload_n 0, 1) := by decide +kernel
theorem dX6_rip_213 : decode cX6_rip 213 = .ok (.getfield 7, 3) := by decide +kernel
theorem dX6_rip_216 : decode cX6_rip 216 = .ok (.bipush 96, 2) := by decide +kernel
theorem dX6_rip_218 : decode cX6_rip 218 = .ok (.iaload, 1) := by decide +kernel
theorem dX6_rip_219 : decode cX6_rip 219 = .ok (.iload_n 2, 1) := by decide +kernel
theorem dX6_rip_220 : decode cX6_rip 220 = .ok (.iadd, 1) := by decide +kernel
theorem dX6_rip_221 : decode cX6_rip 221 = .ok (.iconst 2, 1) := by decide +kernel
theorem dX6_rip_222 : decode cX6_rip 222 = .ok (.aload_n 0, 1) := by decide +kernel
theorem dX6_rip_223 : decode cX6_rip 223 = .ok (.getfield 35, 3) := by decide +kernel
theorem dX6_rip_226 : decode cX6_rip 226 = .ok (.bipush 25, 2) := by decide +kernel
theorem dX6_rip_228 : decode cX6_rip 228 = .ok (.aload_n 0, 1) := by decide +kernel
theorem dX6_rip_229 : decode cX6_rip 229 = .ok (.getfield 7, 3) := by decide +kernel
theorem dX6_rip_232 : decode cX6_rip 232 = .ok (.bipush 96, 2) := by decide +kernel
theorem dX6_rip_234 : decode cX6_rip 234 = .ok (.iaload, 1) := by decide +kernel
theorem dX6_rip_235 : decode cX6_rip 235 = .ok (.imul, 1) := by decide +kernel
theorem dX6_rip_236 : decode cX6_rip 236 = .ok (.iload_n 2, 1) := by decide +kernel
theorem dX6_rip_237 : decode cX6_rip 237 = .ok (.iadd, 1) := by decide +kernel
theorem dX6_rip_238 : decode cX6_rip 238 = .ok (.iaload, 1) := by decide +kernel
theorem dX6_rip_239 : decode cX6_rip 239 = .ok (.imul, 1) := by decide +kernel
theorem dX6_rip_240 : decode cX6_rip 240 = .ok (.isub, 1) := by decide +kernel
theorem dX6_rip_241 : decode cX6_rip 241 = .ok (.ireturn, 1) := by decide +kernel
theorem dX6_stretches_0 : decode cX6_stretches 0 = .ok (.iconst 0, 1) := by decide +kernel
theorem dX6_stretches_1 : decode cX6_stretches 1 = .ok (.istore_n 3, 1) := by decide +kernel
theorem dX6_stretches_2 : decode cX6_stretches 2 = .ok (.iconst 0, 1) := by decide +kernel
theorem dX6_stretches_3 : decode cX6_stretches 3 = .ok (.istore 4, 2) := by decide +kernel
theorem dX6_stretches_5 : decode cX6_stretches 5 = .ok (.iconst 0, 1) := by decide +kernel
theorem dX6_stretches_6 : decode cX6_stretches 6 = .ok (.istore 5, 2) := by decide +kernel
theorem dX6_stretches_8 : decode cX6_stretches 8 = .ok (.iload_n 1, 1) := by decide +kernel
theorem dX6_stretches_9 : decode cX6_stretches 9 = .ok (.istore 6, 2) := by decide +kernel
theorem dX6_stretches_11 : decode cX6_stretches 11 = .ok (.iload 6, 2) := by decide +kernel
theorem dX6_stretches_13 : decode cX6_stretches 13 = .ok (.aload_n 0, 1) := by decide +kernel
theorem dX6_stretches_14 : decode cX6_stretches 14 = .ok (.getfield 7, 3) := by decide +kernel
theorem dX6_stretches_17 : decode cX6_stretches 17 = .ok (.bipush 96, 2) := by decide +kernel
theorem dX6_stretches_19 : decode cX6_stretches 19 = .ok (.iaload, 1) := by decide +kernel
theorem dX6_stretches_20 : decode cX6_stretches 20 = .ok (.if_icmp .ge 60, 3) := by decide +kernel
theorem dX6_stretches_23 : decode cX6_stretches 23 = .ok (.aload_n 0, 1) := by decide +kernel
theorem dX6_stretches_24 : decode cX6_stretches 24 = .ok (.getfield 7, 3) := by decide +kernel
theorem dX6_stretches_27 : decode cX6_stretches 27 = .ok (.bipush 24, 2) := by decide +kernel
theorem dX6_stretches_29 : decode cX6_stretches 29 = .ok (.iload 6, 2) := by decide +kernel
theorem dX6_stretches_31 : decode cX6_stretches 31 = .ok (.iadd, 1) := by decide +kernel
theorem dX6_stretches_32 : decode cX6_stretches 32 = .ok (.iaload, 1) := by decide +kernel
theorem dX6_stretches_33 : decode cX6_stretches 33 = .ok (.istore 7, 2) := by decide +kernel
theorem dX6_stretches_35 : decode cX6_stretches 35 = .ok (.iload 7, 2) := by decide +kernel
theorem dX6_stretches_37 : decode cX6_stretches 37 = .ok (.iload_n 2, 1) := by decide +kernel
theorem dX6_stretches_38 : decode cX6_stretches 38 = .ok (.if_icmp .le 6, 3) := by decide +kernel
theorem dX6_stretches_41 : decode cX6_stretches 41 = .ok (.ldc 121, 2) := by decide +kernel
theorem dX6_stretches_43 : decode cX6_stretches 43 = .ok (.ireturn, 1) := by decide +kernel
theorem dX6_stretches_44 : decode cX6_stretches 44 = .ok (.iload 5, 2) := by decide +kernel
theorem dX6_stretches_46 : decode cX6_stretches 46 = .ok (.ifCond .eq 12, 3) := by decide +kernel
theorem dX6_stretches_49 : decode cX6_stretches 49 = .ok (.iload 4, 2) := by decide +kernel
theorem dX6_stretches_51 : decode cX6_stretches 51 = .ok (.iload 7, 2) := by decide +kernel
theorem dX6_stretches_53 : decode cX6_stretches 53 = .ok (.iadd, 1) := by decide +kernel
theorem dX6_stretches_54 : decode cX6_stretches 54 = .ok (.iload_n 2, 1) := by decide +kernel
theorem dX6_stretches_55 : decode cX6_stretches 55 = .ok (.if_icmp .le 12, 3) := by decide +kernel
theorem dX6_stretches_58 : decode cX6_stretches 58 = .ok (.iinc 3 1, 3) := by decide +kernel
theorem dX6_stretches_61 : decode cX6_stretches 61 = .ok (.iconst 0, 1) := by decide +kernel
theorem dX6_stretches_62 : decode cX6_stretches 62 = .ok (.istore 4, 2) := by decide +kernel
theorem dX6_stretches_64 : decode cX6_stretches 64 = .ok (.iconst 1, 1) := by decide +kernel
theorem dX6_stretches_65 : decode cX6_stretches 65 = .ok (.istore 5, 2) := by decide +kernel
theorem dX6_stretches_67 : decode cX6_stretches 67 = .ok (.iload 4, 2) := by decide +kernel
theorem dX6_stretches_69 : decode cX6_stretches 69 = .ok (.iload 7, 2) := by decide +kernel
theorem dX6_stretches_71 : decode cX6_stretches 71 = .ok (.iadd, 1) := by decide +kernel
theorem dX6_stretches_72 : decode cX6_stretches 72 = .ok (.istore 4, 2) := by decide +kernel
theorem dX6_stretches_74 : decode cX6_stretches 74 = .ok (.iinc 6 1, 3) := by decide +kernel
theorem dX6_stretches_77 : decode cX6_stretches 77 = .ok (.goto (-66), 3) := by decide +kernel
theorem dX6_stretches_80 : decode cX6_stretches 80 = .ok (.iload_n 3, 1) := by decide +kernel
theorem dX6_stretches_81 : decode cX6_stretches 81 = .ok (.ireturn, 1) := by decide +kernel
set_option maxRecDepth 20000 in
theorem ggX6_hold_X6_in : GoodIn wsX6_hold wsX6_in := goodIn_r _ [4] (by decide +kernel) (by decide +kernel)
set_option maxRecDepth 20000 in
theorem gX6_hold_X6_in : GoodIn wsX6_hold (va_wsS RX6 41 yX6_in wsX6_in) := goodIn_app (goodIn_of _ (by decide +kernel)) ggX6_hold_X6_in
set_option maxRecDepth 20000 in
theorem ggX6_hold_X6_stretches : GoodIn wsX6_hold wsX6_stretches := goodIn_r _ [8, 9, 10, 11, 12, 13, 14, 15, 16, 17, 18, 19, 20, 21, 22, 23, 24, 25] (by decide +kernel) (by decide +kernel)
set_option maxRecDepth 20000 in
theorem gX6_hold_X6_stretches : GoodIn wsX6_hold (wsV RX6 122 RX6 yX6_stretches wsX6_stretches) := goodIn_app (goodIn_of _ (by decide +kernel)) ggX6_hold_X6_stretches
theorem dX6_hold_0 : decode cX6_hold 0 = .ok (.iload_n 1, 1) := by decide +kernel
theorem dX6_hold_1 : decode cX6_hold 1 = .ok (.iconst 1, 1) := by decide +kernel
theorem dX6_hold_2 : decode cX6_hold 2 = .ok (.bipush 9, 2) := by decide +kernel
theorem dX6_hold_4 : decode cX6_hold 4 = .ok (.invokestatic 41, 3) := by decide +kernel
theorem dX6_hold_7 : decode cX6_hold 7 = .ok (.ifCond .eq 12, 3) := by decide +kernel
theorem dX6_hold_10 : decode cX6_hold 10 = .ok (.iload_n 2, 1) := by decide +kernel
theorem dX6_hold_11 : decode cX6_hold 11 = .ok (.iconst 0, 1) := by decide +kernel
theorem dX6_hold_12 : decode cX6_hold 12 = .ok (.iconst 1, 1) := by decide +kernel
theorem dX6_hold_13 : decode cX6_hold 13 = .ok (.invokestatic 41, 3) := by decide +kernel
theorem dX6_hold_16 : decode cX6_hold 16 = .ok (.ifCond .ne 6, 3) := by decide +kernel
theorem dX6_hold_19 : decode cX6_hold 19 = .ok (.bipush (-2), 2) := by decide +kernel
theorem dX6_hold_21 : decode cX6_hold 21 = .ok (.ireturn, 1) := by decide +kernel
theorem dX6_hold_22 : decode cX6_hold 22 = .ok (.iconst 0, 1) := by decide +kernel
theorem dX6_hold_23 : decode cX6_hold 23 = .ok (.istore_n 3, 1) := by decide +kernel
theorem dX6_hold_24 : decode cX6_hold 24 = .ok (.aload_n 0, 1) := by decide +kernel
theorem dX6_hold_25 : decode cX6_hold 25 = .ok (.iconst 0, 1) := by decide +kernel
theorem dX6_hold_26 : decode cX6_hold 26 = .ok (.iload_n 3, 1) := by decide +kernel
theorem dX6_hold_27 : decode cX6_hold 27 = .ok (.invokevirtual 122, 3) := by decide +kernel
theorem dX6_hold_30 : decode cX6_hold 30 = .ok (.iload_n 1, 1) := by decide +kernel
theorem dX6_hold_31 : decode cX6_hold 31 = .ok (.if_icmp .le 9, 3) := by decide +kernel
theorem dX6_hold_34 : decode cX6_hold 34 = .ok (.iinc 3 1, 3) := by decide +kernel
theorem dX6_hold_37 : decode cX6_hold 37 = .ok (.goto (-13), 3) := by decide +kernel
theorem dX6_hold_40 : decode cX6_hold 40 = .ok (.iload_n 2, 1) := by decide +kernel
theorem dX6_hold_41 : decode cX6_hold 41 = .ok (.ifCond .ne 5, 3) := by decide +kernel
theorem dX6_hold_44 : decode cX6_hold 44 = .ok (.iload_n 3, 1) := by decide +kernel
theorem dX6_hold_45 : decode cX6_hold 45 = .ok (.ireturn, 1) := by decide +kernel
theorem dX6_hold_46 : decode cX6_hold 46 = .ok (.iconst 0, 1) := by decide +kernel
theorem dX6_hold_47 : decode cX6_hold 47 = .ok (.istore 4, 2) := by decide +kernel
theorem dX6_hold_49 : decode cX6_hold 49 = .ok (.aload_n 0, 1) := by decide +kernel
theorem dX6_hold_50 : decode cX6_hold 50 = .ok (.iload 4, 2) := by decide +kernel
theorem dX6_hold_52 : decode cX6_hold 52 = .ok (.iload_n 3, 1) := by decide +kernel
theorem dX6_hold_53 : decode cX6_hold 53 = .ok (.invokevirtual 122, 3) := by decide +kernel
theorem dX6_hold_56 : decode cX6_hold 56 = .ok (.iload_n 1, 1) := by decide +kernel
theorem dX6_hold_57 : decode cX6_hold 57 = .ok (.iconst 1, 1) := by decide +kernel
theorem dX6_hold_58 : decode cX6_hold 58 = .ok (.isub, 1) := by decide +kernel
theorem dX6_hold_59 : decode cX6_hold 59 = .ok (.if_icmp .le 9, 3) := by decide +kernel
theorem dX6_hold_62 : decode cX6_hold 62 = .ok (.iinc 4 1, 3) := by decide +kernel
theorem dX6_hold_65 : decode cX6_hold 65 = .ok (.goto (-16), 3) := by decide +kernel
theorem dX6_hold_68 : decode cX6_hold 68 = .ok (.iload 4, 2) := by decide +kernel
theorem dX6_hold_70 : decode cX6_hold 70 = .ok (.ireturn, 1) := by decide +kernel
set_option maxRecDepth 20000 in
theorem ggX6_mayKnit_X6_in : GoodIn wsX6_mayKnit wsX6_in := goodIn_r _ [6] (by decide +kernel) (by decide +kernel)
set_option maxRecDepth 20000 in
theorem gX6_mayKnit_X6_in : GoodIn wsX6_mayKnit (va_wsS RX6 41 yX6_in wsX6_in) := goodIn_app (goodIn_of _ (by decide +kernel)) ggX6_mayKnit_X6_in
theorem dX6_mayKnit_0 : decode cX6_mayKnit 0 = .ok (.aload_n 0, 1) := by decide +kernel
theorem dX6_mayKnit_1 : decode cX6_mayKnit 1 = .ok (.getfield 7, 3) := by decide +kernel
theorem dX6_mayKnit_4 : decode cX6_mayKnit 4 = .ok (.bipush 24, 2) := by decide +kernel
theorem dX6_mayKnit_6 : decode cX6_mayKnit 6 = .ok (.iload_n 2, 1) := by decide +kernel
theorem dX6_mayKnit_7 : decode cX6_mayKnit 7 = .ok (.iadd, 1) := by decide +kernel
theorem dX6_mayKnit_8 : decode cX6_mayKnit 8 = .ok (.iaload, 1) := by decide +kernel
theorem dX6_mayKnit_9 : decode cX6_mayKnit 9 = .ok (.aload_n 0, 1) := by decide +kernel
theorem dX6_mayKnit_10 : decode cX6_mayKnit 10 = .ok (.getfield 16, 3) := by decide +kernel
theorem dX6_mayKnit_13 : decode cX6_mayKnit 13 = .ok (.iload_n 1, 1) := by decide +kernel
theorem dX6_mayKnit_14 : decode cX6_mayKnit 14 = .ok (.iaload, 1) := by decide +kernel
theorem dX6_mayKnit_15 : decode cX6_mayKnit 15 = .ok (.isub, 1) := by decide +kernel
theorem dX6_mayKnit_16 : decode cX6_mayKnit 16 = .ok (.iconst (-1), 1) := by decide +kernel
theorem dX6_mayKnit_17 : decode cX6_mayKnit 17 = .ok (.iconst 1, 1) := by decide +kernel
theorem dX6_mayKnit_18 : decode cX6_mayKnit 18 = .ok (.invokestatic 41, 3) := by decide +kernel
theorem dX6_mayKnit_21 : decode cX6_mayKnit 21 = .ok (.ireturn, 1) := by decide +kernel
set_option maxRecDepth 20000 in
theorem ggX6_layHands_X6_mayKnit : GoodIn wsX6_layHands wsX6_mayKnit := goodIn_r _ [8, 1, 9, 10, 11, 7, 12, 13, 14, 15, 16, 17, 18, 19, 20, 21, 22, 23, 24, 25, 26, 27] (by decide +kernel) (by decide +kernel)
set_option maxRecDepth 20000 in
theorem gX6_layHands_X6_mayKnit : GoodIn wsX6_layHands (wsV RX6 125 RX6 yX6_mayKnit wsX6_mayKnit) := goodIn_app (goodIn_of _ (by decide +kernel)) ggX6_layHands_X6_mayKnit
theorem dX6_layHands_0 : decode cX6_layHands 0 = .ok (.aload_n 0, 1) := by decide +kernel
theorem dX6_layHands_1 : decode cX6_layHands 1 = .ok (.getfield 7, 3) := by decide +kernel
theorem dX6_layHands_4 : decode cX6_layHands 4 = .ok (.bipush 96, 2) := by decide +kernel
theorem dX6_layHands_6 : decode cX6_layHands 6 = .ok (.iaload, 1) := by decide +kernel
theorem dX6_layHands_7 : decode cX6_layHands 7 = .ok (.iconst 1, 1) := by decide +kernel
theorem dX6_layHands_8 : decode cX6_layHands 8 = .ok (.isub, 1) := by decide +kernel
theorem dX6_layHands_9 : decode cX6_layHands 9 = .ok (.istore_n 1, 1) := by decide +kernel
theorem dX6_layHands_10 : decode cX6_layHands 10 = .ok (.iload_n 1, 1) := by decide +kernel
theorem dX6_layHands_11 : decode cX6_layHands 11 = .ok (.ifCond .lt 135, 3) := by decide +kernel
theorem dX6_layHands_14 : decode cX6_layHands 14 = .ok (.iconst 0, 1) := by decide +kernel
theorem dX6_layHands_15 : decode cX6_layHands 15 = .ok (.istore_n 2, 1) := by decide +kernel
theorem dX6_layHands_16 : decode cX6_layHands 16 = .ok (.iload_n 2, 1) := by decide +kernel
theorem dX6_layHands_17 : decode cX6_layHands 17 = .ok (.iconst 4, 1) := by decide +kernel
theorem dX6_layHands_18 : decode cX6_layHands 18 = .ok (.if_icmp .ge 122, 3) := by decide +kernel
theorem dX6_layHands_21 : decode cX6_layHands 21 = .ok (.iload_n 1, 1) := by decide +kernel
theorem dX6_layHands_22 : decode cX6_layHands 22 = .ok (.aload_n 0, 1) := by decide +kernel
theorem dX6_layHands_23 : decode cX6_layHands 23 = .ok (.getfield 7, 3) := by decide +kernel
theorem dX6_layHands_26 : decode cX6_layHands 26 = .ok (.bipush 96, 2) := by decide +kernel
theorem dX6_layHands_28 : decode cX6_layHands 28 = .ok (.iaload, 1) := by decide +kernel
theorem dX6_layHands_29 : decode cX6_layHands 29 = .ok (.iconst 1, 1) := by decide +kernel
theorem dX6_layHands_30 : decode cX6_layHands 30 = .ok (.isub, 1) := by decide +kernel
theorem dX6_layHands_31 : decode cX6_layHands 31 = .ok (.if_icmp .ne 7, 3) := by decide +kernel
theorem dX6_layHands_34 : decode cX6_layHands 34 = .ok (.iconst 0, 1) := by decide +kernel
theorem dX6_layHands_35 : decode cX6_layHands 35 = .ok (.goto 5, 3) := by decide +kernel
theorem dX6_layHands_38 : decode cX6_layHands 38 = .ok (.ldc 121, 2) := by decide +kernel
theorem dX6_layHands_40 : decode cX6_layHands 40 = .ok (.istore_n 3, 1) := by decide +kernel
theorem dX6_layHands_41 : decode cX6_layHands 41 = .ok (.iconst 0, 1) := by decide +kernel
theorem dX6_layHands_42 : decode cX6_layHands 42 = .ok (.istore 4, 2) := by decide +kernel
theorem dX6_layHands_44 : decode cX6_layHands 44 = .ok (.iload 4, 2) := by decide +kernel
theorem dX6_layHands_46 : decode cX6_layHands 46 = .ok (.iconst 4, 1) := by decide +kernel
theorem dX6_layHands_47 : decode cX6_layHands 47 = .ok (.if_icmp .ge 62, 3) := by decide +kernel
theorem dX6_layHands_50 : decode cX6_layHands 50 = .ok (.iload_n 1, 1) := by decide +kernel
theorem dX6_layHands_51 : decode cX6_layHands 51 = .ok (.aload_n 0, 1) := by decide +kernel
theorem dX6_layHands_52 : decode cX6_layHands 52 = .ok (.getfield 7, 3) := by decide +kernel
theorem dX6_layHands_55 : decode cX6_layHands 55 = .ok (.bipush 96, 2) := by decide +kernel
theorem dX6_layHands_57 : decode cX6_layHands 57 = .ok (.iaload, 1) := by decide +kernel
theorem dX6_layHands_58 : decode cX6_layHands 58 = .ok (.iconst 1, 1) := by decide +kernel
theorem dX6_layHands_59 : decode cX6_layHands 59 = .ok (.isub, 1) := by decide +kernel
theorem dX6_layHands_60 : decode cX6_layHands 60 = .ok (.if_icmp .ge 49, 3) := by decide +kernel
theorem dX6_layHands_63 : decode cX6_layHands 63 = .ok (.aload_n 0, 1) := by decide +kernel
theorem dX6_layHands_64 : decode cX6_layHands 64 = .ok (.getfield 38, 3) := by decide +kernel
theorem dX6_layHands_67 : decode cX6_layHands 67 = .ok (.iconst 4, 1) := by decide +kernel
theorem dX6_layHands_68 : decode cX6_layHands 68 = .ok (.iload_n 1, 1) := by decide +kernel
theorem dX6_layHands_69 : decode cX6_layHands 69 = .ok (.imul, 1) := by decide +kernel
theorem dX6_layHands_70 : decode cX6_layHands 70 = .ok (.iconst 4, 1) := by decide +kernel
theorem dX6_layHands_71 : decode cX6_layHands 71 = .ok (.iadd, 1) := by decide +kernel
theorem dX6_layHands_72 : decode cX6_layHands 72 = .ok (.iload 4, 2) := by decide +kernel
theorem dX6_layHands_74 : decode cX6_layHands 74 = .ok (.iadd, 1) := by decide +kernel
theorem dX6_layHands_75 : decode cX6_layHands 75 = .ok (.iaload, 1) := by decide +kernel
theorem dX6_layHands_76 : decode cX6_layHands 76 = .ok (.iload 4, 2) := by decide +kernel
theorem dX6_layHands_78 : decode cX6_layHands 78 = .ok (.iload_n 2, 1) := by decide +kernel
theorem dX6_layHands_79 : decode cX6_layHands 79 = .ok (.if_icmp .ne 7, 3) := by decide +kernel
theorem dX6_layHands_82 : decode cX6_layHands 82 = .ok (.iconst 0, 1) := by decide +kernel
theorem dX6_layHands_83 : decode cX6_layHands 83 = .ok (.goto 4, 3) := by decide +kernel
theorem dX6_layHands_86 : decode cX6_layHands 86 = .ok (.iconst 1, 1) := by decide +kernel
theorem dX6_layHands_87 : decode cX6_layHands 87 = .ok (.iadd, 1) := by decide +kernel
theorem dX6_layHands_88 : decode cX6_layHands 88 = .ok (.istore 5, 2) := by decide +kernel
theorem dX6_layHands_90 : decode cX6_layHands 90 = .ok (.iload 5, 2) := by decide +kernel
theorem dX6_layHands_92 : decode cX6_layHands 92 = .ok (.iload_n 3, 1) := by decide +kernel
theorem dX6_layHands_93 : decode cX6_layHands 93 = .ok (.if_icmp .ge 8, 3) := by decide +kernel
theorem dX6_layHands_96 : decode cX6_layHands 96 = .ok (.iload 5, 2) := by decide +kernel
theorem dX6_layHands_98 : decode cX6_layHands 98 = .ok (.goto 4, 3) := by decide +kernel
theorem dX6_layHands_101 : decode cX6_layHands 101 = .ok (.iload_n 3, 1) := by decide +kernel
theorem dX6_layHands_102 : decode cX6_layHands 102 = .ok (.istore_n 3, 1) := by decide +kernel
theorem dX6_layHands_103 : decode cX6_layHands 103 = .ok (.iinc 4 1, 3) := by decide +kernel
theorem dX6_layHands_106 : decode cX6_layHands 106 = .ok (.goto (-62), 3) := by decide +kernel
theorem dX6_layHands_109 : decode cX6_layHands 109 = .ok (.aload_n 0, 1) := by decide +kernel
theorem dX6_layHands_110 : decode cX6_layHands 110 = .ok (.getfield 38, 3) := by decide +kernel
theorem dX6_layHands_113 : decode cX6_layHands 113 = .ok (.iconst 4, 1) := by decide +kernel
theorem dX6_layHands_114 : decode cX6_layHands 114 = .ok (.iload_n 1, 1) := by decide +kernel
theorem dX6_layHands_115 : decode cX6_layHands 115 = .ok (.imul, 1) := by decide +kernel
theorem dX6_layHands_116 : decode cX6_layHands 116 = .ok (.iload_n 2, 1) := by decide +kernel
theorem dX6_layHands_117 : decode cX6_layHands 117 = .ok (.iadd, 1) := by decide +kernel
theorem dX6_layHands_118 : decode cX6_layHands 118 = .ok (.aload_n 0, 1) := by decide +kernel
theorem dX6_layHands_119 : decode cX6_layHands 119 = .ok (.iload_n 2, 1) := by decide +kernel
theorem dX6_layHands_120 : decode cX6_layHands 120 = .ok (.iload_n 1, 1) := by decide +kernel
theorem dX6_layHands_121 : decode cX6_layHands 121 = .ok (.invokevirtual 125, 3) := by decide +kernel
theorem dX6_layHands_124 : decode cX6_layHands 124 = .ok (.ifCond .eq 7, 3) := by decide +kernel
theorem dX6_layHands_127 : decode cX6_layHands 127 = .ok (.iload_n 3, 1) := by decide +kernel
theorem dX6_layHands_128 : decode cX6_layHands 128 = .ok (.goto 5, 3) := by decide +kernel
theorem dX6_layHands_131 : decode cX6_layHands 131 = .ok (.ldc 121, 2) := by decide +kernel
theorem dX6_layHands_133 : decode cX6_layHands 133 = .ok (.iastore, 1) := by decide +kernel
theorem dX6_layHands_134 : decode cX6_layHands 134 = .ok (.iinc 2 1, 3) := by decide +kernel
theorem dX6_layHands_137 : decode cX6_layHands 137 = .ok (.goto (-121), 3) := by decide +kernel
theorem dX6_layHands_140 : decode cX6_layHands 140 = .ok (.iinc 1 (-1), 3) := by decide +kernel
theorem dX6_layHands_143 : decode cX6_layHands 143 = .ok (.goto (-133), 3) := by decide +kernel
theorem dX6_layHands_146 : decode cX6_layHands 146 = .ok (.return_, 1) := by decide +kernel
theorem dX6_fewest_0 : decode cX6_fewest 0 = .ok (.ldc 121, 2) := by decide +kernel
theorem dX6_fewest_2 : decode cX6_fewest 2 = .ok (.istore_n 2, 1) := by decide +kernel
theorem dX6_fewest_3 : decode cX6_fewest 3 = .ok (.iconst 0, 1) := by decide +kernel
theorem dX6_fewest_4 : decode cX6_fewest 4 = .ok (.istore_n 3, 1) := by decide +kernel
theorem dX6_fewest_5 : decode cX6_fewest 5 = .ok (.iload_n 3, 1) := by decide +kernel
theorem dX6_fewest_6 : decode cX6_fewest 6 = .ok (.iconst 4, 1) := by decide +kernel
theorem dX6_fewest_7 : decode cX6_fewest 7 = .ok (.if_icmp .ge 38, 3) := by decide +kernel
theorem dX6_fewest_10 : decode cX6_fewest 10 = .ok (.aload_n 0, 1) := by decide +kernel
theorem dX6_fewest_11 : decode cX6_fewest 11 = .ok (.getfield 38, 3) := by decide +kernel
theorem dX6_fewest_14 : decode cX6_fewest 14 = .ok (.iconst 4, 1) := by decide +kernel
theorem dX6_fewest_15 : decode cX6_fewest 15 = .ok (.iload_n 1, 1) := by decide +kernel
theorem dX6_fewest_16 : decode cX6_fewest 16 = .ok (.imul, 1) := by decide +kernel
theorem dX6_fewest_17 : decode cX6_fewest 17 = .ok (.iload_n 3, 1) := by decide +kernel
theorem dX6_fewest_18 : decode cX6_fewest 18 = .ok (.iadd, 1) := by decide +kernel
theorem dX6_fewest_19 : decode cX6_fewest 19 = .ok (.iaload, 1) := by decide +kernel
theorem dX6_fewest_20 : decode cX6_fewest 20 = .ok (.iload_n 2, 1) := by decide +kernel
theorem dX6_fewest_21 : decode cX6_fewest 21 = .ok (.if_icmp .ge 16, 3) := by decide +kernel
theorem dX6_fewest_24 : decode cX6_fewest 24 = .ok (.aload_n 0, 1) := by decide +kernel
theorem dX6_fewest_25 : decode cX6_fewest 25 = .ok (.getfield 38, 3) := by decide +kernel
theorem dX6_fewest_28 : decode cX6_fewest 28 = .ok (.iconst 4, 1) := by decide +kernel
theorem dX6_fewest_29 : decode cX6_fewest 29 = .ok (.iload_n 1, 1) := by decide +kernel
theorem dX6_fewest_30 : decode cX6_fewest 30 = .ok (.imul, 1) := by decide +kernel
theorem dX6_fewest_31 : decode cX6_fewest 31 = .ok (.iload_n 3, 1) := by decide +kernel
theorem dX6_fewest_32 : decode cX6_fewest 32 = .ok (.iadd, 1) := by decide +kernel
theorem dX6_fewest_33 : decode cX6_fewest 33 = .ok (.iaload, 1) := by decide +kernel
theorem dX6_fewest_34 : decode cX6_fewest 34 = .ok (.goto 4, 3) := by decide +kernel
theorem dX6_fewest_37 : decode cX6_fewest 37 = .ok (.iload_n 2, 1) := by decide +kernel
theorem dX6_fewest_38 : decode cX6_fewest 38 = .ok (.istore_n 2, 1) := by decide +kernel
theorem dX6_fewest_39 : decode cX6_fewest 39 = .ok (.iinc 3 1, 3) := by decide +kernel
theorem dX6_fewest_42 : decode cX6_fewest 42 = .ok (.goto (-37), 3) := by decide +kernel
theorem dX6_fewest_45 : decode cX6_fewest 45 = .ok (.iload_n 2, 1) := by decide +kernel
theorem dX6_fewest_46 : decode cX6_fewest 46 = .ok (.ireturn, 1) := by decide +kernel
set_option maxRecDepth 20000 in
theorem ggX6_hands_X6_layHands : GoodIn wsX6_hands wsX6_layHands := goodIn_r _ [7, 1, 2, 8, 9, 10, 11, 6, 12, 13, 14, 15, 16, 21, 22, 23, 24, 25, 26, 27, 28, 29, 30, 31, 32, 33, 34, 35] (by decide +kernel) (by decide +kernel)
set_option maxRecDepth 20000 in
theorem gX6_hands_X6_layHands : GoodIn wsX6_hands (wsV RX6 128 RX6 yX6_layHands wsX6_layHands) := goodIn_app (goodIn_of _ (by decide +kernel)) ggX6_hands_X6_layHands
set_option maxRecDepth 20000 in
theorem ggX6_hands_X6_fewest : GoodIn wsX6_hands wsX6_fewest := goodIn_r _ [20, 2, 8, 21, 22, 23, 24, 25, 26, 27, 28, 29, 30, 31, 32, 33, 34, 35] (by decide +kernel) (by decide +kernel)
set_option maxRecDepth 20000 in
theorem gX6_hands_X6_fewest : GoodIn wsX6_hands (wsV RX6 131 RX6 yX6_fewest wsX6_fewest) := goodIn_app (goodIn_of _ (by decide +kernel)) ggX6_hands_X6_fewest
theorem dX6_hands_0 : decode cX6_hands 0 = .ok (.aload_n 0, 1) := by decide +kernel
theorem dX6_hands_1 : decode cX6_hands 1 = .ok (.getfield 7, 3) := by decide +kernel
theorem dX6_hands_4 : decode cX6_hands 4 = .ok (.bipush 96, 2) := by decide +kernel
theorem dX6_hands_6 : decode cX6_hands 6 = .ok (.iaload, 1) := by decide +kernel
theorem dX6_hands_7 : decode cX6_hands 7 = .ok (.ifCond .ne 5, 3) := by decide +kernel
theorem dX6_hands_10 : decode cX6_hands 10 = .ok (.iconst 0, 1) := by decide +kernel
theorem dX6_hands_11 : decode cX6_hands 11 = .ok (.ireturn, 1) := by decide +kernel
theorem dX6_hands_12 : decode cX6_hands 12 = .ok (.aload_n 0, 1) := by decide +kernel
theorem dX6_hands_13 : decode cX6_hands 13 = .ok (.invokevirtual 128, 3) := by decide +kernel
theorem dX6_hands_16 : decode cX6_hands 16 = .ok (.aload_n 0, 1) := by decide +kernel
theorem dX6_hands_17 : decode cX6_hands 17 = .ok (.iconst 0, 1) := by decide +kernel
theorem dX6_hands_18 : decode cX6_hands 18 = .ok (.invokevirtual 131, 3) := by decide +kernel
theorem dX6_hands_21 : decode cX6_hands 21 = .ok (.ldc 121, 2) := by decide +kernel
theorem dX6_hands_23 : decode cX6_hands 23 = .ok (.if_icmp .ge 11, 3) := by decide +kernel
theorem dX6_hands_26 : decode cX6_hands 26 = .ok (.aload_n 0, 1) := by decide +kernel
theorem dX6_hands_27 : decode cX6_hands 27 = .ok (.iconst 0, 1) := by decide +kernel
theorem dX6_hands_28 : decode cX6_hands 28 = .ok (.invokevirtual 131, 3) := by decide +kernel
theorem dX6_hands_31 : decode cX6_hands 31 = .ok (.goto 5, 3) := by decide +kernel
theorem dX6_hands_34 : decode cX6_hands 34 = .ok (.bipush (-6), 2) := by decide +kernel
theorem dX6_hands_36 : decode cX6_hands 36 = .ok (.ireturn, 1) := by decide +kernel
set_option maxRecDepth 20000 in
theorem ggX6_who_X6_isStitch : GoodIn wsX6_who wsX6_isStitch := goodIn_r _ [7, 8, 9, 10, 6, 11, 25, 26, 27, 28, 29, 30, 31, 32, 33, 34, 35, 36, 37, 38, 39] (by decide +kernel) (by decide +kernel)
set_option maxRecDepth 20000 in
theorem gX6_who_X6_isStitch : GoodIn wsX6_who (wsV RX6 45 RX6 yX6_isStitch wsX6_isStitch) := goodIn_app (goodIn_of _ (by decide +kernel)) ggX6_who_X6_isStitch
set_option maxRecDepth 20000 in
theorem ggX6_who_X6_layHands : GoodIn wsX6_who wsX6_layHands := goodIn_r _ [15, 8, 1, 2, 16, 17, 18, 6, 19, 20, 9, 10, 11, 25, 26, 27, 28, 29, 30, 31, 32, 33, 34, 35, 36, 37, 38, 39] (by decide +kernel) (by decide +kernel)
set_option maxRecDepth 20000 in
theorem gX6_who_X6_layHands : GoodIn wsX6_who (wsV RX6 128 RX6 yX6_layHands wsX6_layHands) := goodIn_app (goodIn_of _ (by decide +kernel)) ggX6_who_X6_layHands
set_option maxRecDepth 20000 in
theorem ggX6_who_X6_fewest : GoodIn wsX6_who wsX6_fewest := goodIn_r _ [24, 1, 2, 25, 26, 27, 28, 29, 30, 31, 32, 33, 34, 35, 36, 37, 38, 39] (by decide +kernel) (by decide +kernel)
set_option maxRecDepth 20000 in
theorem gX6_who_X6_fewest : GoodIn wsX6_who (wsV RX6 131 RX6 yX6_fewest wsX6_fewest) := goodIn_app (goodIn_of _ (by decide +kernel)) ggX6_who_X6_fewest
theorem dX6_who_0 : decode cX6_who 0 = .ok (.aload_n 0, 1) := by decide +kernel
theorem dX6_who_1 : decode cX6_who 1 = .ok (.iload_n 1, 1) := by decide +kernel
theorem dX6_who_2 : decode cX6_who 2 = .ok (.invokevirtual 45, 3) := by decide +kernel
theorem dX6_who_5 : decode cX6_who 5 = .ok (.ifCond .ne 5, 3) := by decide +kernel
theorem dX6_who_8 : decode cX6_who 8 = .ok (.iconst (-1), 1) := by decide +kernel
theorem dX6_who_9 : decode cX6_who 9 = .ok (.ireturn, 1) := by decide +kernel
theorem dX6_who_10 : decode cX6_who 10 = .ok (.aload_n 0, 1) := by decide +kernel
theorem dX6_who_11 : decode cX6_who 11 = .ok (.invokevirtual 128, 3) := by decide +kernel
theorem dX6_who_14 : decode cX6_who 14 = .ok (.aload_n 0, 1) := by decide +kernel
theorem dX6_who_15 : decode cX6_who 15 = .ok (.iconst 0, 1) := by decide +kernel
theorem dX6_who_16 : decode cX6_who 16 = .ok (.invokevirtual 131, 3) := by decide +kernel
theorem dX6_who_19 : decode cX6_who 19 = .ok (.ldc 121, 2) := by decide +kernel
theorem dX6_who_21 : decode cX6_who 21 = .ok (.if_icmp .lt 6, 3) := by decide +kernel
theorem dX6_who_24 : decode cX6_who 24 = .ok (.bipush (-6), 2) := by decide +kernel
theorem dX6_who_26 : decode cX6_who 26 = .ok (.ireturn, 1) := by decide +kernel
theorem dX6_who_27 : decode cX6_who 27 = .ok (.aload_n 0, 1) := by decide +kernel
theorem dX6_who_28 : decode cX6_who 28 = .ok (.iconst 0, 1) := by decide +kernel
theorem dX6_who_29 : decode cX6_who 29 = .ok (.invokevirtual 131, 3) := by decide +kernel
theorem dX6_who_32 : decode cX6_who 32 = .ok (.istore_n 2, 1) := by decide +kernel
theorem dX6_who_33 : decode cX6_who 33 = .ok (.bipush (-6), 2) := by decide +kernel
theorem dX6_who_35 : decode cX6_who 35 = .ok (.istore_n 3, 1) := by decide +kernel
theorem dX6_who_36 : decode cX6_who 36 = .ok (.iconst 0, 1) := by decide +kernel
theorem dX6_who_37 : decode cX6_who 37 = .ok (.istore 4, 2) := by decide +kernel
theorem dX6_who_39 : decode cX6_who 39 = .ok (.iload 4, 2) := by decide +kernel
theorem dX6_who_41 : decode cX6_who 41 = .ok (.iload_n 1, 1) := by decide +kernel
theorem dX6_who_42 : decode cX6_who 42 = .ok (.if_icmp .gt 93, 3) := by decide +kernel
theorem dX6_who_45 : decode cX6_who 45 = .ok (.bipush (-6), 2) := by decide +kernel
theorem dX6_who_47 : decode cX6_who 47 = .ok (.istore 5, 2) := by decide +kernel
theorem dX6_who_49 : decode cX6_who 49 = .ok (.iconst 3, 1) := by decide +kernel
theorem dX6_who_50 : decode cX6_who 50 = .ok (.istore 6, 2) := by decide +kernel
theorem dX6_who_52 : decode cX6_who 52 = .ok (.iload 6, 2) := by decide +kernel
theorem dX6_who_54 : decode cX6_who 54 = .ok (.ifCond .lt 54, 3) := by decide +kernel
theorem dX6_who_57 : decode cX6_who 57 = .ok (.iload_n 3, 1) := by decide +kernel
theorem dX6_who_58 : decode cX6_who 58 = .ok (.ifCond .lt 13, 3) := by decide +kernel
theorem dX6_who_61 : decode cX6_who 61 = .ok (.iload_n 3, 1) := by decide +kernel
theorem dX6_who_62 : decode cX6_who 62 = .ok (.iload 6, 2) := by decide +kernel
theorem dX6_who_64 : decode cX6_who 64 = .ok (.if_icmp .eq 7, 3) := by decide +kernel
theorem dX6_who_67 : decode cX6_who 67 = .ok (.iconst 1, 1) := by decide +kernel
theorem dX6_who_68 : decode cX6_who 68 = .ok (.goto 4, 3) := by decide +kernel
theorem dX6_who_71 : decode cX6_who 71 = .ok (.iconst 0, 1) := by decide +kernel
theorem dX6_who_72 : decode cX6_who 72 = .ok (.istore 7, 2) := by decide +kernel
theorem dX6_who_74 : decode cX6_who 74 = .ok (.aload_n 0, 1) := by decide +kernel
theorem dX6_who_75 : decode cX6_who 75 = .ok (.getfield 38, 3) := by decide +kernel
theorem dX6_who_78 : decode cX6_who 78 = .ok (.iconst 4, 1) := by decide +kernel
theorem dX6_who_79 : decode cX6_who 79 = .ok (.iload 4, 2) := by decide +kernel
theorem dX6_who_81 : decode cX6_who 81 = .ok (.imul, 1) := by decide +kernel
theorem dX6_who_82 : decode cX6_who 82 = .ok (.iload 6, 2) := by decide +kernel
theorem dX6_who_84 : decode cX6_who 84 = .ok (.iadd, 1) := by decide +kernel
theorem dX6_who_85 : decode cX6_who 85 = .ok (.iaload, 1) := by decide +kernel
theorem dX6_who_86 : decode cX6_who 86 = .ok (.iload 7, 2) := by decide +kernel
theorem dX6_who_88 : decode cX6_who 88 = .ok (.iadd, 1) := by decide +kernel
theorem dX6_who_89 : decode cX6_who 89 = .ok (.iload_n 2, 1) := by decide +kernel
theorem dX6_who_90 : decode cX6_who 90 = .ok (.if_icmp .ne 8, 3) := by decide +kernel
theorem dX6_who_93 : decode cX6_who 93 = .ok (.iload 6, 2) := by decide +kernel
theorem dX6_who_95 : decode cX6_who 95 = .ok (.goto 5, 3) := by decide +kernel
theorem dX6_who_98 : decode cX6_who 98 = .ok (.iload 5, 2) := by decide +kernel
theorem dX6_who_100 : decode cX6_who 100 = .ok (.istore 5, 2) := by decide +kernel
theorem dX6_who_102 : decode cX6_who 102 = .ok (.iinc 6 (-1), 3) := by decide +kernel
theorem dX6_who_105 : decode cX6_who 105 = .ok (.goto (-53), 3) := by decide +kernel
theorem dX6_who_108 : decode cX6_who 108 = .ok (.iload_n 2, 1) := by decide +kernel
theorem dX6_who_109 : decode cX6_who 109 = .ok (.iload_n 3, 1) := by decide +kernel
theorem dX6_who_110 : decode cX6_who 110 = .ok (.ifCond .lt 13, 3) := by decide +kernel
theorem dX6_who_113 : decode cX6_who 113 = .ok (.iload_n 3, 1) := by decide +kernel
theorem dX6_who_114 : decode cX6_who 114 = .ok (.iload 5, 2) := by decide +kernel
theorem dX6_who_116 : decode cX6_who 116 = .ok (.if_icmp .eq 7, 3) := by decide +kernel
theorem dX6_who_119 : decode cX6_who 119 = .ok (.iconst 1, 1) := by decide +kernel
theorem dX6_who_120 : decode cX6_who 120 = .ok (.goto 4, 3) := by decide +kernel
theorem dX6_who_123 : decode cX6_who 123 = .ok (.iconst 0, 1) := by decide +kernel
theorem dX6_who_124 : decode cX6_who 124 = .ok (.isub, 1) := by decide +kernel
theorem dX6_who_125 : decode cX6_who 125 = .ok (.istore_n 2, 1) := by decide +kernel
theorem dX6_who_126 : decode cX6_who 126 = .ok (.iload 5, 2) := by decide +kernel
theorem dX6_who_128 : decode cX6_who 128 = .ok (.istore_n 3, 1) := by decide +kernel
theorem dX6_who_129 : decode cX6_who 129 = .ok (.iinc 4 1, 3) := by decide +kernel
theorem dX6_who_132 : decode cX6_who 132 = .ok (.goto (-93), 3) := by decide +kernel
theorem dX6_who_135 : decode cX6_who 135 = .ok (.iload_n 3, 1) := by decide +kernel
theorem dX6_who_136 : decode cX6_who 136 = .ok (.ireturn, 1) := by decide +kernel
set_option maxRecDepth 20000 in
theorem ggX6_seen_X6_in : GoodIn wsX6_seen wsX6_in := goodIn_r _ [6] (by decide +kernel) (by decide +kernel)
set_option maxRecDepth 20000 in
theorem gX6_seen_X6_in : GoodIn wsX6_seen (va_wsS RX6 41 yX6_in wsX6_in) := goodIn_app (goodIn_of _ (by decide +kernel)) ggX6_seen_X6_in
theorem dX6_seen_0 : decode cX6_seen 0 = .ok (.iload_n 1, 1) := by decide +kernel
theorem dX6_seen_1 : decode cX6_seen 1 = .ok (.iconst 0, 1) := by decide +kernel
theorem dX6_seen_2 : decode cX6_seen 2 = .ok (.bipush 9, 2) := by decide +kernel
theorem dX6_seen_4 : decode cX6_seen 4 = .ok (.invokestatic 41, 3) := by decide +kernel
theorem dX6_seen_7 : decode cX6_seen 7 = .ok (.ifCond .ne 6, 3) := by decide +kernel
theorem dX6_seen_10 : decode cX6_seen 10 = .ok (.bipush (-2), 2) := by decide +kernel
theorem dX6_seen_12 : decode cX6_seen 12 = .ok (.ireturn, 1) := by decide +kernel
theorem dX6_seen_13 : decode cX6_seen 13 = .ok (.aload_n 0, 1) := by decide +kernel
theorem dX6_seen_14 : decode cX6_seen 14 = .ok (.getfield 134, 3) := by decide +kernel
theorem dX6_seen_17 : decode cX6_seen 17 = .ok (.bipush 8, 2) := by decide +kernel
theorem dX6_seen_19 : decode cX6_seen 19 = .ok (.if_icmp .ne 6, 3) := by decide +kernel
theorem dX6_seen_22 : decode cX6_seen 22 = .ok (.bipush (-4), 2) := by decide +kernel
theorem dX6_seen_24 : decode cX6_seen 24 = .ok (.ireturn, 1) := by decide +kernel
theorem dX6_seen_25 : decode cX6_seen 25 = .ok (.aload_n 0, 1) := by decide +kernel
theorem dX6_seen_26 : decode cX6_seen 26 = .ok (.getfield 19, 3) := by decide +kernel
theorem dX6_seen_29 : decode cX6_seen 29 = .ok (.iconst 2, 1) := by decide +kernel
theorem dX6_seen_30 : decode cX6_seen 30 = .ok (.aload_n 0, 1) := by decide +kernel
theorem dX6_seen_31 : decode cX6_seen 31 = .ok (.getfield 134, 3) := by decide +kernel
theorem dX6_seen_34 : decode cX6_seen 34 = .ok (.imul, 1) := by decide +kernel
theorem dX6_seen_35 : decode cX6_seen 35 = .ok (.iload_n 1, 1) := by decide +kernel
theorem dX6_seen_36 : decode cX6_seen 36 = .ok (.iastore, 1) := by decide +kernel
theorem dX6_seen_37 : decode cX6_seen 37 = .ok (.aload_n 0, 1) := by decide +kernel
theorem dX6_seen_38 : decode cX6_seen 38 = .ok (.getfield 19, 3) := by decide +kernel
theorem dX6_seen_41 : decode cX6_seen 41 = .ok (.iconst 2, 1) := by decide +kernel
theorem dX6_seen_42 : decode cX6_seen 42 = .ok (.aload_n 0, 1) := by decide +kernel
theorem dX6_seen_43 : decode cX6_seen 43 = .ok (.getfield 134, 3) := by decide +kernel
theorem dX6_seen_46 : decode cX6_seen 46 = .ok (.imul, 1) := by decide +kernel
theorem dX6_seen_47 : decode cX6_seen 47 = .ok (.iconst 1, 1) := by decide +kernel
theorem dX6_seen_48 : decode cX6_seen 48 = .ok (.iadd, 1) := by decide +kernel
theorem dX6_seen_49 : decode cX6_seen 49 = .ok (.iload_n 2, 1) := by decide +kernel
theorem dX6_seen_50 : decode cX6_seen 50 = .ok (.ifCond .eq 7, 3) := by decide +kernel
theorem dX6_seen_53 : decode cX6_seen 53 = .ok (.iconst 1, 1) := by decide +kernel
theorem dX6_seen_54 : decode cX6_seen 54 = .ok (.goto 4, 3) := by decide +kernel
theorem dX6_seen_57 : decode cX6_seen 57 = .ok (.iconst 0, 1) := by decide +kernel
theorem dX6_seen_58 : decode cX6_seen 58 = .ok (.iastore, 1) := by decide +kernel
theorem dX6_seen_59 : decode cX6_seen 59 = .ok (.aload_n 0, 1) := by decide +kernel
theorem dX6_seen_60 : decode cX6_seen 60 = .ok (.dup, 1) := by decide +kernel
theorem dX6_seen_61 : decode cX6_seen 61 = .ok (.getfield 134, 3) := by decide +kernel
theorem dX6_seen_64 : decode cX6_seen 64 = .ok (.iconst 1, 1) := by decide +kernel
theorem dX6_seen_65 : decode cX6_seen 65 = .ok (.iadd, 1) := by decide +kernel
theorem dX6_seen_66 : decode cX6_seen 66 = .ok (.putfield 134, 3) := by decide +kernel
theorem dX6_seen_69 : decode cX6_seen 69 = .ok (.aload_n 0, 1) := by decide +kernel
theorem dX6_seen_70 : decode cX6_seen 70 = .ok (.getfield 134, 3) := by decide +kernel
theorem dX6_seen_73 : decode cX6_seen 73 = .ok (.ireturn, 1) := by decide +kernel
theorem dX6_forget_0 : decode cX6_forget 0 = .ok (.aload_n 0, 1) := by decide +kernel
theorem dX6_forget_1 : decode cX6_forget 1 = .ok (.getfield 134, 3) := by decide +kernel
theorem dX6_forget_4 : decode cX6_forget 4 = .ok (.istore_n 1, 1) := by decide +kernel
theorem dX6_forget_5 : decode cX6_forget 5 = .ok (.aload_n 0, 1) := by decide +kernel
theorem dX6_forget_6 : decode cX6_forget 6 = .ok (.iconst 0, 1) := by decide +kernel
theorem dX6_forget_7 : decode cX6_forget 7 = .ok (.putfield 134, 3) := by decide +kernel
theorem dX6_forget_10 : decode cX6_forget 10 = .ok (.iload_n 1, 1) := by decide +kernel
theorem dX6_forget_11 : decode cX6_forget 11 = .ok (.ireturn, 1) := by decide +kernel
set_option maxRecDepth 20000 in
theorem ggX6_tightSet_X6_in : GoodIn wsX6_tightSet wsX6_in := goodIn_r _ [6] (by decide +kernel) (by decide +kernel)
set_option maxRecDepth 20000 in
theorem gX6_tightSet_X6_in : GoodIn wsX6_tightSet (va_wsS RX6 41 yX6_in wsX6_in) := goodIn_app (goodIn_of _ (by decide +kernel)) ggX6_tightSet_X6_in
theorem dX6_tightSet_0 : decode cX6_tightSet 0 = .ok (.iconst 0, 1) := by decide +kernel
theorem dX6_tightSet_1 : decode cX6_tightSet 1 = .ok (.istore_n 1, 1) := by decide +kernel
theorem dX6_tightSet_2 : decode cX6_tightSet 2 = .ok (.iconst 0, 1) := by decide +kernel
theorem dX6_tightSet_3 : decode cX6_tightSet 3 = .ok (.istore_n 2, 1) := by decide +kernel
theorem dX6_tightSet_4 : decode cX6_tightSet 4 = .ok (.iload_n 2, 1) := by decide +kernel
theorem dX6_tightSet_5 : decode cX6_tightSet 5 = .ok (.bipush 10, 2) := by decide +kernel
theorem dX6_tightSet_7 : decode cX6_tightSet 7 = .ok (.if_icmp .ge 92, 3) := by decide +kernel
theorem dX6_tightSet_10 : decode cX6_tightSet 10 = .ok (.iconst 1, 1) := by decide +kernel
theorem dX6_tightSet_11 : decode cX6_tightSet 11 = .ok (.istore_n 3, 1) := by decide +kernel
theorem dX6_tightSet_12 : decode cX6_tightSet 12 = .ok (.iconst 0, 1) := by decide +kernel
theorem dX6_tightSet_13 : decode cX6_tightSet 13 = .ok (.istore 4, 2) := by decide +kernel
theorem dX6_tightSet_15 : decode cX6_tightSet 15 = .ok (.iload 4, 2) := by decide +kernel
theorem dX6_tightSet_17 : decode cX6_tightSet 17 = .ok (.aload_n 0, 1) := by decide +kernel
theorem dX6_tightSet_18 : decode cX6_tightSet 18 = .ok (.getfield 134, 3) := by decide +kernel
theorem dX6_tightSet_21 : decode cX6_tightSet 21 = .ok (.if_icmp .ge 58, 3) := by decide +kernel
theorem dX6_tightSet_24 : decode cX6_tightSet 24 = .ok (.iload_n 3, 1) := by decide +kernel
theorem dX6_tightSet_25 : decode cX6_tightSet 25 = .ok (.ifCond .eq 46, 3) := by decide +kernel
theorem dX6_tightSet_28 : decode cX6_tightSet 28 = .ok (.iload_n 2, 1) := by decide +kernel
theorem dX6_tightSet_29 : decode cX6_tightSet 29 = .ok (.aload_n 0, 1) := by decide +kernel
theorem dX6_tightSet_30 : decode cX6_tightSet 30 = .ok (.getfield 19, 3) := by decide +kernel
theorem dX6_tightSet_33 : decode cX6_tightSet 33 = .ok (.iconst 2, 1) := by decide +kernel
theorem dX6_tightSet_34 : decode cX6_tightSet 34 = .ok (.iload 4, 2) := by decide +kernel
theorem dX6_tightSet_36 : decode cX6_tightSet 36 = .ok (.imul, 1) := by decide +kernel
theorem dX6_tightSet_37 : decode cX6_tightSet 37 = .ok (.iaload, 1) := by decide +kernel
theorem dX6_tightSet_38 : decode cX6_tightSet 38 = .ok (.isub, 1) := by decide +kernel
theorem dX6_tightSet_39 : decode cX6_tightSet 39 = .ok (.iconst (-1), 1) := by decide +kernel
theorem dX6_tightSet_40 : decode cX6_tightSet 40 = .ok (.iconst 1, 1) := by decide +kernel
theorem dX6_tightSet_41 : decode cX6_tightSet 41 = .ok (.invokestatic 41, 3) := by decide +kernel
theorem dX6_tightSet_44 : decode cX6_tightSet 44 = .ok (.aload_n 0, 1) := by decide +kernel
theorem dX6_tightSet_45 : decode cX6_tightSet 45 = .ok (.getfield 19, 3) := by decide +kernel
theorem dX6_tightSet_48 : decode cX6_tightSet 48 = .ok (.iconst 2, 1) := by decide +kernel
theorem dX6_tightSet_49 : decode cX6_tightSet 49 = .ok (.iload 4, 2) := by decide +kernel
theorem dX6_tightSet_51 : decode cX6_tightSet 51 = .ok (.imul, 1) := by decide +kernel
theorem dX6_tightSet_52 : decode cX6_tightSet 52 = .ok (.iconst 1, 1) := by decide +kernel
theorem dX6_tightSet_53 : decode cX6_tightSet 53 = .ok (.iadd, 1) := by decide +kernel
theorem dX6_tightSet_54 : decode cX6_tightSet 54 = .ok (.iaload, 1) := by decide +kernel
theorem dX6_tightSet_55 : decode cX6_tightSet 55 = .ok (.iconst 1, 1) := by decide +kernel
theorem dX6_tightSet_56 : decode cX6_tightSet 56 = .ok (.if_icmp .ne 7, 3) := by decide +kernel
theorem dX6_tightSet_59 : decode cX6_tightSet 59 = .ok (.iconst 1, 1) := by decide +kernel
theorem dX6_tightSet_60 : decode cX6_tightSet 60 = .ok (.goto 4, 3) := by decide +kernel
theorem dX6_tightSet_63 : decode cX6_tightSet 63 = .ok (.iconst 0, 1) := by decide +kernel
theorem dX6_tightSet_64 : decode cX6_tightSet 64 = .ok (.if_icmp .ne 7, 3) := by decide +kernel
theorem dX6_tightSet_67 : decode cX6_tightSet 67 = .ok (.iconst 1, 1) := by decide +kernel
theorem dX6_tightSet_68 : decode cX6_tightSet 68 = .ok (.goto 4, 3) := by decide +kernel
theorem dX6_tightSet_71 : decode cX6_tightSet 71 = .ok (.iconst 0, 1) := by decide +kernel
theorem dX6_tightSet_72 : decode cX6_tightSet 72 = .ok (.istore_n 3, 1) := by decide +kernel
theorem dX6_tightSet_73 : decode cX6_tightSet 73 = .ok (.iinc 4 1, 3) := by decide +kernel
theorem dX6_tightSet_76 : decode cX6_tightSet 76 = .ok (.goto (-61), 3) := by decide +kernel
theorem dX6_tightSet_79 : decode cX6_tightSet 79 = .ok (.iload_n 1, 1) := by decide +kernel
theorem dX6_tightSet_80 : decode cX6_tightSet 80 = .ok (.iload_n 3, 1) := by decide +kernel
theorem dX6_tightSet_81 : decode cX6_tightSet 81 = .ok (.ifCond .eq 9, 3) := by decide +kernel
theorem dX6_tightSet_84 : decode cX6_tightSet 84 = .ok (.iconst 1, 1) := by decide +kernel
theorem dX6_tightSet_85 : decode cX6_tightSet 85 = .ok (.iload_n 2, 1) := by decide +kernel
theorem dX6_tightSet_86 : decode cX6_tightSet 86 = .ok (.ishl, 1) := by decide +kernel
theorem dX6_tightSet_87 : decode cX6_tightSet 87 = .ok (.goto 4, 3) := by decide +kernel
theorem dX6_tightSet_90 : decode cX6_tightSet 90 = .ok (.iconst 0, 1) := by decide +kernel
theorem dX6_tightSet_91 : decode cX6_tightSet 91 = .ok (.ior, 1) := by decide +kernel
theorem dX6_tightSet_92 : decode cX6_tightSet 92 = .ok (.istore_n 1, 1) := by decide +kernel
theorem dX6_tightSet_93 : decode cX6_tightSet 93 = .ok (.iinc 2 1, 3) := by decide +kernel
theorem dX6_tightSet_96 : decode cX6_tightSet 96 = .ok (.goto (-92), 3) := by decide +kernel
theorem dX6_tightSet_99 : decode cX6_tightSet 99 = .ok (.iload_n 1, 1) := by decide +kernel
theorem dX6_tightSet_100 : decode cX6_tightSet 100 = .ok (.ireturn, 1) := by decide +kernel
set_option maxRecDepth 20000 in
theorem ggX6_tights_X6_tightSet : GoodIn wsX6_tights wsX6_tightSet := goodIn_r _ [5, 6, 7, 8, 9, 4, 10, 11, 12, 13, 14, 15, 16, 17, 18, 19, 20, 21, 22, 23, 24, 25] (by decide +kernel) (by decide +kernel)
set_option maxRecDepth 20000 in
theorem gX6_tights_X6_tightSet : GoodIn wsX6_tights (wsV RX6 137 RX6 yX6_tightSet wsX6_tightSet) := goodIn_app (goodIn_of _ (by decide +kernel)) ggX6_tights_X6_tightSet
theorem dX6_tights_0 : decode cX6_tights 0 = .ok (.aload_n 0, 1) := by decide +kernel
theorem dX6_tights_1 : decode cX6_tights 1 = .ok (.invokevirtual 137, 3) := by decide +kernel
theorem dX6_tights_4 : decode cX6_tights 4 = .ok (.ireturn, 1) := by decide +kernel
set_option maxRecDepth 20000 in
theorem ggX6_next_X6_in : GoodIn wsX6_next wsX6_in := goodIn_r _ [5] (by decide +kernel) (by decide +kernel)
set_option maxRecDepth 20000 in
theorem gX6_next_X6_in : GoodIn wsX6_next (va_wsS RX6 41 yX6_in wsX6_in) := goodIn_app (goodIn_of _ (by decide +kernel)) ggX6_next_X6_in
set_option maxRecDepth 20000 in
theorem ggX6_next_X6_tightSet : GoodIn wsX6_next wsX6_tightSet := goodIn_r _ [9, 10, 11, 2, 3, 4, 5, 18, 19, 20, 21, 22, 23, 24, 25, 26, 27, 28, 29, 30, 31, 32] (by decide +kernel) (by decide +kernel)
set_option maxRecDepth 20000 in
theorem gX6_next_X6_tightSet : GoodIn wsX6_next (wsV RX6 137 RX6 yX6_tightSet wsX6_tightSet) := goodIn_app (goodIn_of _ (by decide +kernel)) ggX6_next_X6_tightSet
set_option maxRecDepth 20000 in
theorem ggX6_next_X6_has : GoodIn wsX6_next wsX6_has := goodIn_r _ [14] (by decide +kernel) (by decide +kernel)
set_option maxRecDepth 20000 in
theorem gX6_next_X6_has : GoodIn wsX6_next (va_wsS RX6 69 yX6_has wsX6_has) := goodIn_app (goodIn_of _ (by decide +kernel)) ggX6_next_X6_has
set_option maxRecDepth 20000 in
theorem ggX6_next_X6_bits : GoodIn wsX6_next wsX6_bits := goodIn_r _ [17] (by decide +kernel) (by decide +kernel)
set_option maxRecDepth 20000 in
theorem gX6_next_X6_bits : GoodIn wsX6_next (va_wsS RX6 81 yX6_bits wsX6_bits) := goodIn_app (goodIn_of _ (by decide +kernel)) ggX6_next_X6_bits
theorem dX6_next_0 : decode cX6_next 0 = .ok (.iload_n 1, 1) := by decide +kernel
theorem dX6_next_1 : decode cX6_next 1 = .ok (.iconst 0, 1) := by decide +kernel
theorem dX6_next_2 : decode cX6_next 2 = .ok (.iconst 1, 1) := by decide +kernel
theorem dX6_next_3 : decode cX6_next 3 = .ok (.invokestatic 41, 3) := by decide +kernel
theorem dX6_next_6 : decode cX6_next 6 = .ok (.ifCond .ne 6, 3) := by decide +kernel
theorem dX6_next_9 : decode cX6_next 9 = .ok (.bipush (-2), 2) := by decide +kernel
theorem dX6_next_11 : decode cX6_next 11 = .ok (.ireturn, 1) := by decide +kernel
theorem dX6_next_12 : decode cX6_next 12 = .ok (.aload_n 0, 1) := by decide +kernel
theorem dX6_next_13 : decode cX6_next 13 = .ok (.invokevirtual 137, 3) := by decide +kernel
theorem dX6_next_16 : decode cX6_next 16 = .ok (.istore_n 2, 1) := by decide +kernel
theorem dX6_next_17 : decode cX6_next 17 = .ok (.bipush (-6), 2) := by decide +kernel
theorem dX6_next_19 : decode cX6_next 19 = .ok (.istore_n 3, 1) := by decide +kernel
theorem dX6_next_20 : decode cX6_next 20 = .ok (.ldc 121, 2) := by decide +kernel
theorem dX6_next_22 : decode cX6_next 22 = .ok (.istore 4, 2) := by decide +kernel
theorem dX6_next_24 : decode cX6_next 24 = .ok (.iconst 0, 1) := by decide +kernel
theorem dX6_next_25 : decode cX6_next 25 = .ok (.istore 5, 2) := by decide +kernel
theorem dX6_next_27 : decode cX6_next 27 = .ok (.iload 5, 2) := by decide +kernel
theorem dX6_next_29 : decode cX6_next 29 = .ok (.bipush 10, 2) := by decide +kernel
theorem dX6_next_31 : decode cX6_next 31 = .ok (.if_icmp .ge 120, 3) := by decide +kernel
theorem dX6_next_34 : decode cX6_next 34 = .ok (.iload_n 2, 1) := by decide +kernel
theorem dX6_next_35 : decode cX6_next 35 = .ok (.ifCond .eq 116, 3) := by decide +kernel
theorem dX6_next_38 : decode cX6_next 38 = .ok (.iconst 0, 1) := by decide +kernel
theorem dX6_next_39 : decode cX6_next 39 = .ok (.istore 6, 2) := by decide +kernel
theorem dX6_next_41 : decode cX6_next 41 = .ok (.iconst 0, 1) := by decide +kernel
theorem dX6_next_42 : decode cX6_next 42 = .ok (.istore 7, 2) := by decide +kernel
theorem dX6_next_44 : decode cX6_next 44 = .ok (.iload 7, 2) := by decide +kernel
theorem dX6_next_46 : decode cX6_next 46 = .ok (.bipush 10, 2) := by decide +kernel
theorem dX6_next_48 : decode cX6_next 48 = .ok (.if_icmp .ge 41, 3) := by decide +kernel
theorem dX6_next_51 : decode cX6_next 51 = .ok (.iload 6, 2) := by decide +kernel
theorem dX6_next_53 : decode cX6_next 53 = .ok (.iload_n 2, 1) := by decide +kernel
theorem dX6_next_54 : decode cX6_next 54 = .ok (.iload 7, 2) := by decide +kernel
theorem dX6_next_56 : decode cX6_next 56 = .ok (.invokestatic 69, 3) := by decide +kernel
theorem dX6_next_59 : decode cX6_next 59 = .ok (.ifCond .eq 20, 3) := by decide +kernel
theorem dX6_next_62 : decode cX6_next 62 = .ok (.iload 7, 2) := by decide +kernel
theorem dX6_next_64 : decode cX6_next 64 = .ok (.iload 5, 2) := by decide +kernel
theorem dX6_next_66 : decode cX6_next 66 = .ok (.isub, 1) := by decide +kernel
theorem dX6_next_67 : decode cX6_next 67 = .ok (.iconst (-1), 1) := by decide +kernel
theorem dX6_next_68 : decode cX6_next 68 = .ok (.iconst 1, 1) := by decide +kernel
theorem dX6_next_69 : decode cX6_next 69 = .ok (.invokestatic 41, 3) := by decide +kernel
theorem dX6_next_72 : decode cX6_next 72 = .ok (.ifCond .eq 7, 3) := by decide +kernel
theorem dX6_next_75 : decode cX6_next 75 = .ok (.iconst 1, 1) := by decide +kernel
theorem dX6_next_76 : decode cX6_next 76 = .ok (.goto 4, 3) := by decide +kernel
theorem dX6_next_79 : decode cX6_next 79 = .ok (.iconst 0, 1) := by decide +kernel
theorem dX6_next_80 : decode cX6_next 80 = .ok (.iadd, 1) := by decide +kernel
theorem dX6_next_81 : decode cX6_next 81 = .ok (.istore 6, 2) := by decide +kernel
theorem dX6_next_83 : decode cX6_next 83 = .ok (.iinc 7 1, 3) := by decide +kernel
theorem dX6_next_86 : decode cX6_next 86 = .ok (.goto (-42), 3) := by decide +kernel
theorem dX6_next_89 : decode cX6_next 89 = .ok (.iload 6, 2) := by decide +kernel
theorem dX6_next_91 : decode cX6_next 91 = .ok (.iload_n 2, 1) := by decide +kernel
theorem dX6_next_92 : decode cX6_next 92 = .ok (.invokestatic 81, 3) := by decide +kernel
theorem dX6_next_95 : decode cX6_next 95 = .ok (.iload 6, 2) := by decide +kernel
theorem dX6_next_97 : decode cX6_next 97 = .ok (.isub, 1) := by decide +kernel
theorem dX6_next_98 : decode cX6_next 98 = .ok (.if_icmp .le 8, 3) := by decide +kernel
theorem dX6_next_101 : decode cX6_next 101 = .ok (.iload 6, 2) := by decide +kernel
theorem dX6_next_103 : decode cX6_next 103 = .ok (.goto 10, 3) := by decide +kernel
theorem dX6_next_106 : decode cX6_next 106 = .ok (.iload_n 2, 1) := by decide +kernel
theorem dX6_next_107 : decode cX6_next 107 = .ok (.invokestatic 81, 3) := by decide +kernel
theorem dX6_next_110 : decode cX6_next 110 = .ok (.iload 6, 2) := by decide +kernel
theorem dX6_next_112 : decode cX6_next 112 = .ok (.isub, 1) := by decide +kernel
theorem dX6_next_113 : decode cX6_next 113 = .ok (.istore 7, 2) := by decide +kernel
theorem dX6_next_115 : decode cX6_next 115 = .ok (.iload 7, 2) := by decide +kernel
theorem dX6_next_117 : decode cX6_next 117 = .ok (.iload 4, 2) := by decide +kernel
theorem dX6_next_119 : decode cX6_next 119 = .ok (.if_icmp .ge 8, 3) := by decide +kernel
theorem dX6_next_122 : decode cX6_next 122 = .ok (.iload 5, 2) := by decide +kernel
theorem dX6_next_124 : decode cX6_next 124 = .ok (.goto 4, 3) := by decide +kernel
theorem dX6_next_127 : decode cX6_next 127 = .ok (.iload_n 3, 1) := by decide +kernel
theorem dX6_next_128 : decode cX6_next 128 = .ok (.istore_n 3, 1) := by decide +kernel
theorem dX6_next_129 : decode cX6_next 129 = .ok (.iload 7, 2) := by decide +kernel
theorem dX6_next_131 : decode cX6_next 131 = .ok (.iload 4, 2) := by decide +kernel
theorem dX6_next_133 : decode cX6_next 133 = .ok (.if_icmp .ge 8, 3) := by decide +kernel
theorem dX6_next_136 : decode cX6_next 136 = .ok (.iload 7, 2) := by decide +kernel
theorem dX6_next_138 : decode cX6_next 138 = .ok (.goto 5, 3) := by decide +kernel
theorem dX6_next_141 : decode cX6_next 141 = .ok (.iload 4, 2) := by decide +kernel
theorem dX6_next_143 : decode cX6_next 143 = .ok (.istore 4, 2) := by decide +kernel
theorem dX6_next_145 : decode cX6_next 145 = .ok (.iinc 5 1, 3) := by decide +kernel
theorem dX6_next_148 : decode cX6_next 148 = .ok (.goto (-121), 3) := by decide +kernel
theorem dX6_next_151 : decode cX6_next 151 = .ok (.iload_n 3, 1) := by decide +kernel
theorem dX6_next_152 : decode cX6_next 152 = .ok (.ifCond .lt 7, 3) := by decide +kernel
theorem dX6_next_155 : decode cX6_next 155 = .ok (.iload_n 1, 1) := by decide +kernel
theorem dX6_next_156 : decode cX6_next 156 = .ok (.ifCond .ne 7, 3) := by decide +kernel
theorem dX6_next_159 : decode cX6_next 159 = .ok (.iload_n 3, 1) := by decide +kernel
theorem dX6_next_160 : decode cX6_next 160 = .ok (.goto 5, 3) := by decide +kernel
theorem dX6_next_163 : decode cX6_next 163 = .ok (.iload 4, 2) := by decide +kernel
theorem dX6_next_165 : decode cX6_next 165 = .ok (.ireturn, 1) := by decide +kernel
theorem dX6_power_0 : decode cX6_power 0 = .ok (.lconst 1, 1) := by decide +kernel
theorem dX6_power_1 : decode cX6_power 1 = .ok (.lstore_n 3, 1) := by decide +kernel
theorem dX6_power_2 : decode cX6_power 2 = .ok (.iconst 0, 1) := by decide +kernel
theorem dX6_power_3 : decode cX6_power 3 = .ok (.istore 5, 2) := by decide +kernel
theorem dX6_power_5 : decode cX6_power 5 = .ok (.iload 5, 2) := by decide +kernel
theorem dX6_power_7 : decode cX6_power 7 = .ok (.iload_n 2, 1) := by decide +kernel
theorem dX6_power_8 : decode cX6_power 8 = .ok (.if_icmp .ge 13, 3) := by decide +kernel
theorem dX6_power_11 : decode cX6_power 11 = .ok (.lload_n 3, 1) := by decide +kernel
theorem dX6_power_12 : decode cX6_power 12 = .ok (.lload_n 0, 1) := by decide +kernel
theorem dX6_power_13 : decode cX6_power 13 = .ok (.lmul, 1) := by decide +kernel
theorem dX6_power_14 : decode cX6_power 14 = .ok (.lstore_n 3, 1) := by decide +kernel
theorem dX6_power_15 : decode cX6_power 15 = .ok (.iinc 5 1, 3) := by decide +kernel
theorem dX6_power_18 : decode cX6_power 18 = .ok (.goto (-13), 3) := by decide +kernel
theorem dX6_power_21 : decode cX6_power 21 = .ok (.lload_n 3, 1) := by decide +kernel
theorem dX6_power_22 : decode cX6_power 22 = .ok (.lreturn, 1) := by decide +kernel
set_option maxRecDepth 20000 in
theorem ggX6_moths_X6_in : GoodIn wsX6_moths wsX6_in := goodIn_r _ [9] (by decide +kernel) (by decide +kernel)
set_option maxRecDepth 20000 in
theorem gX6_moths_X6_in : GoodIn wsX6_moths (va_wsS RX6 41 yX6_in wsX6_in) := goodIn_app (goodIn_of _ (by decide +kernel)) ggX6_moths_X6_in
set_option maxRecDepth 20000 in
theorem ggX6_moths_X6_has : GoodIn wsX6_moths wsX6_has := goodIn_r _ [12] (by decide +kernel) (by decide +kernel)
set_option maxRecDepth 20000 in
theorem gX6_moths_X6_has : GoodIn wsX6_moths (va_wsS RX6 69 yX6_has wsX6_has) := goodIn_app (goodIn_of _ (by decide +kernel)) ggX6_moths_X6_has
set_option maxRecDepth 20000 in
theorem ggX6_moths_X6_bits : GoodIn wsX6_moths wsX6_bits := goodIn_r _ [15] (by decide +kernel) (by decide +kernel)
set_option maxRecDepth 20000 in
theorem gX6_moths_X6_bits : GoodIn wsX6_moths (va_wsS RX6 81 yX6_bits wsX6_bits) := goodIn_app (goodIn_of _ (by decide +kernel)) ggX6_moths_X6_bits
set_option maxRecDepth 20000 in
theorem ggX6_moths_X6_power : GoodIn wsX6_moths wsX6_power := goodIn_r _ [18] (by decide +kernel) (by decide +kernel)
set_option maxRecDepth 20000 in
theorem gX6_moths_X6_power : GoodIn wsX6_moths (va_wsS RX6 148 yX6_power wsX6_power) := goodIn_app (goodIn_of _ (by decide +kernel)) ggX6_moths_X6_power
theorem dX6_moths_0 : decode cX6_moths 0 = .ok (.iload_n 1, 1) := by decide +kernel
theorem dX6_moths_1 : decode cX6_moths 1 = .ok (.iconst 1, 1) := by decide +kernel
theorem dX6_moths_2 : decode cX6_moths 2 = .ok (.aload_n 0, 1) := by decide +kernel
theorem dX6_moths_3 : decode cX6_moths 3 = .ok (.getfield 7, 3) := by decide +kernel
theorem dX6_moths_6 : decode cX6_moths 6 = .ok (.bipush 96, 2) := by decide +kernel
theorem dX6_moths_8 : decode cX6_moths 8 = .ok (.iaload, 1) := by decide +kernel
theorem dX6_moths_9 : decode cX6_moths 9 = .ok (.ishl, 1) := by decide +kernel
theorem dX6_moths_10 : decode cX6_moths 10 = .ok (.iconst 1, 1) := by decide +kernel
theorem dX6_moths_11 : decode cX6_moths 11 = .ok (.isub, 1) := by decide +kernel
theorem dX6_moths_12 : decode cX6_moths 12 = .ok (.iconst (-1), 1) := by decide +kernel
theorem dX6_moths_13 : decode cX6_moths 13 = .ok (.ixor, 1) := by decide +kernel
theorem dX6_moths_14 : decode cX6_moths 14 = .ok (.iand, 1) := by decide +kernel
theorem dX6_moths_15 : decode cX6_moths 15 = .ok (.ifCond .eq 7, 3) := by decide +kernel
theorem dX6_moths_18 : decode cX6_moths 18 = .ok (.ldc2_w 140, 3) := by decide +kernel
theorem dX6_moths_21 : decode cX6_moths 21 = .ok (.lreturn, 1) := by decide +kernel
theorem dX6_moths_22 : decode cX6_moths 22 = .ok (.iload_n 2, 1) := by decide +kernel
theorem dX6_moths_23 : decode cX6_moths 23 = .ok (.iconst 0, 1) := by decide +kernel
theorem dX6_moths_24 : decode cX6_moths 24 = .ok (.bipush 10, 2) := by decide +kernel
theorem dX6_moths_26 : decode cX6_moths 26 = .ok (.invokestatic 41, 3) := by decide +kernel
theorem dX6_moths_29 : decode cX6_moths 29 = .ok (.ifCond .eq 12, 3) := by decide +kernel
theorem dX6_moths_32 : decode cX6_moths 32 = .ok (.iload_n 3, 1) := by decide +kernel
theorem dX6_moths_33 : decode cX6_moths 33 = .ok (.iconst 0, 1) := by decide +kernel
theorem dX6_moths_34 : decode cX6_moths 34 = .ok (.iconst 1, 1) := by decide +kernel
theorem dX6_moths_35 : decode cX6_moths 35 = .ok (.invokestatic 41, 3) := by decide +kernel
theorem dX6_moths_38 : decode cX6_moths 38 = .ok (.ifCond .ne 7, 3) := by decide +kernel
theorem dX6_moths_41 : decode cX6_moths 41 = .ok (.ldc2_w 142, 3) := by decide +kernel
theorem dX6_moths_44 : decode cX6_moths 44 = .ok (.lreturn, 1) := by decide +kernel
theorem dX6_moths_45 : decode cX6_moths 45 = .ok (.iload_n 1, 1) := by decide +kernel
theorem dX6_moths_46 : decode cX6_moths 46 = .ok (.istore 4, 2) := by decide +kernel
theorem dX6_moths_48 : decode cX6_moths 48 = .ok (.iconst 0, 1) := by decide +kernel
theorem dX6_moths_49 : decode cX6_moths 49 = .ok (.istore 5, 2) := by decide +kernel
theorem dX6_moths_51 : decode cX6_moths 51 = .ok (.aload_n 0, 1) := by decide +kernel
theorem dX6_moths_52 : decode cX6_moths 52 = .ok (.getfield 7, 3) := by decide +kernel
theorem dX6_moths_55 : decode cX6_moths 55 = .ok (.bipush 96, 2) := by decide +kernel
theorem dX6_moths_57 : decode cX6_moths 57 = .ok (.iaload, 1) := by decide +kernel
theorem dX6_moths_58 : decode cX6_moths 58 = .ok (.iconst 1, 1) := by decide +kernel
theorem dX6_moths_59 : decode cX6_moths 59 = .ok (.isub, 1) := by decide +kernel
theorem dX6_moths_60 : decode cX6_moths 60 = .ok (.istore 6, 2) := by decide +kernel
theorem dX6_moths_62 : decode cX6_moths 62 = .ok (.iload 6, 2) := by decide +kernel
theorem dX6_moths_64 : decode cX6_moths 64 = .ok (.ifCond .lt 79, 3) := by decide +kernel
theorem dX6_moths_67 : decode cX6_moths 67 = .ok (.iload 4, 2) := by decide +kernel
theorem dX6_moths_69 : decode cX6_moths 69 = .ok (.iload 6, 2) := by decide +kernel
theorem dX6_moths_71 : decode cX6_moths 71 = .ok (.invokestatic 69, 3) := by decide +kernel
theorem dX6_moths_74 : decode cX6_moths 74 = .ok (.ifCond .eq 63, 3) := by decide +kernel
theorem dX6_moths_77 : decode cX6_moths 77 = .ok (.iload 4, 2) := by decide +kernel
theorem dX6_moths_79 : decode cX6_moths 79 = .ok (.aload_n 0, 1) := by decide +kernel
theorem dX6_moths_80 : decode cX6_moths 80 = .ok (.getfield 7, 3) := by decide +kernel
theorem dX6_moths_83 : decode cX6_moths 83 = .ok (.bipush 48, 2) := by decide +kernel
theorem dX6_moths_85 : decode cX6_moths 85 = .ok (.iload 6, 2) := by decide +kernel
theorem dX6_moths_87 : decode cX6_moths 87 = .ok (.iadd, 1) := by decide +kernel
theorem dX6_moths_88 : decode cX6_moths 88 = .ok (.iaload, 1) := by decide +kernel
theorem dX6_moths_89 : decode cX6_moths 89 = .ok (.ifCond .lt 18, 3) := by decide +kernel
theorem dX6_moths_92 : decode cX6_moths 92 = .ok (.iconst 1, 1) := by decide +kernel
theorem dX6_moths_93 : decode cX6_moths 93 = .ok (.aload_n 0, 1) := by decide +kernel
theorem dX6_moths_94 : decode cX6_moths 94 = .ok (.getfield 7, 3) := by decide +kernel
theorem dX6_moths_97 : decode cX6_moths 97 = .ok (.bipush 48, 2) := by decide +kernel
theorem dX6_moths_99 : decode cX6_moths 99 = .ok (.iload 6, 2) := by decide +kernel
theorem dX6_moths_101 : decode cX6_moths 101 = .ok (.iadd, 1) := by decide +kernel
theorem dX6_moths_102 : decode cX6_moths 102 = .ok (.iaload, 1) := by decide +kernel
theorem dX6_moths_103 : decode cX6_moths 103 = .ok (.ishl, 1) := by decide +kernel
theorem dX6_moths_104 : decode cX6_moths 104 = .ok (.goto 4, 3) := by decide +kernel
theorem dX6_moths_107 : decode cX6_moths 107 = .ok (.iconst 0, 1) := by decide +kernel
theorem dX6_moths_108 : decode cX6_moths 108 = .ok (.ior, 1) := by decide +kernel
theorem dX6_moths_109 : decode cX6_moths 109 = .ok (.istore 4, 2) := by decide +kernel
theorem dX6_moths_111 : decode cX6_moths 111 = .ok (.iload 5, 2) := by decide +kernel
theorem dX6_moths_113 : decode cX6_moths 113 = .ok (.ifCond .ne 17, 3) := by decide +kernel
theorem dX6_moths_116 : decode cX6_moths 116 = .ok (.aload_n 0, 1) := by decide +kernel
theorem dX6_moths_117 : decode cX6_moths 117 = .ok (.getfield 7, 3) := by decide +kernel
theorem dX6_moths_120 : decode cX6_moths 120 = .ok (.bipush 72, 2) := by decide +kernel
theorem dX6_moths_122 : decode cX6_moths 122 = .ok (.iload 6, 2) := by decide +kernel
theorem dX6_moths_124 : decode cX6_moths 124 = .ok (.iadd, 1) := by decide +kernel
theorem dX6_moths_125 : decode cX6_moths 125 = .ok (.iaload, 1) := by decide +kernel
theorem dX6_moths_126 : decode cX6_moths 126 = .ok (.iconst 1, 1) := by decide +kernel
theorem dX6_moths_127 : decode cX6_moths 127 = .ok (.if_icmp .ne 7, 3) := by decide +kernel
theorem dX6_moths_130 : decode cX6_moths 130 = .ok (.iconst 1, 1) := by decide +kernel
theorem dX6_moths_131 : decode cX6_moths 131 = .ok (.goto 4, 3) := by decide +kernel
theorem dX6_moths_134 : decode cX6_moths 134 = .ok (.iconst 0, 1) := by decide +kernel
theorem dX6_moths_135 : decode cX6_moths 135 = .ok (.istore 5, 2) := by decide +kernel
theorem dX6_moths_137 : decode cX6_moths 137 = .ok (.iinc 6 (-1), 3) := by decide +kernel
theorem dX6_moths_140 : decode cX6_moths 140 = .ok (.goto (-78), 3) := by decide +kernel
theorem dX6_moths_143 : decode cX6_moths 143 = .ok (.iload 4, 2) := by decide +kernel
theorem dX6_moths_145 : decode cX6_moths 145 = .ok (.invokestatic 81, 3) := by decide +kernel
theorem dX6_moths_148 : decode cX6_moths 148 = .ok (.bipush 18, 2) := by decide +kernel
theorem dX6_moths_150 : decode cX6_moths 150 = .ok (.if_icmp .le 7, 3) := by decide +kernel
theorem dX6_moths_153 : decode cX6_moths 153 = .ok (.ldc2_w 144, 3) := by decide +kernel
theorem dX6_moths_156 : decode cX6_moths 156 = .ok (.lreturn, 1) := by decide +kernel
theorem dX6_moths_157 : decode cX6_moths 157 = .ok (.iload 5, 2) := by decide +kernel
theorem dX6_moths_159 : decode cX6_moths 159 = .ok (.ifCond .eq 7, 3) := by decide +kernel
theorem dX6_moths_162 : decode cX6_moths 162 = .ok (.lconst 0, 1) := by decide +kernel
theorem dX6_moths_163 : decode cX6_moths 163 = .ok (.goto 17, 3) := by decide +kernel
theorem dX6_moths_166 : decode cX6_moths 166 = .ok (.ldc2_w 146, 3) := by decide +kernel
theorem dX6_moths_169 : decode cX6_moths 169 = .ok (.iload_n 2, 1) := by decide +kernel
theorem dX6_moths_170 : decode cX6_moths 170 = .ok (.i2l, 1) := by decide +kernel
theorem dX6_moths_171 : decode cX6_moths 171 = .ok (.lsub, 1) := by decide +kernel
theorem dX6_moths_172 : decode cX6_moths 172 = .ok (.iload 4, 2) := by decide +kernel
theorem dX6_moths_174 : decode cX6_moths 174 = .ok (.invokestatic 81, 3) := by decide +kernel
theorem dX6_moths_177 : decode cX6_moths 177 = .ok (.invokestatic 148, 3) := by decide +kernel
theorem dX6_moths_180 : decode cX6_moths 180 = .ok (.lstore 6, 2) := by decide +kernel
theorem dX6_moths_182 : decode cX6_moths 182 = .ok (.ldc2_w 146, 3) := by decide +kernel
theorem dX6_moths_185 : decode cX6_moths 185 = .ok (.iload 4, 2) := by decide +kernel
theorem dX6_moths_187 : decode cX6_moths 187 = .ok (.invokestatic 81, 3) := by decide +kernel
theorem dX6_moths_190 : decode cX6_moths 190 = .ok (.invokestatic 148, 3) := by decide +kernel
theorem dX6_moths_193 : decode cX6_moths 193 = .ok (.lstore 8, 2) := by decide +kernel
theorem dX6_moths_195 : decode cX6_moths 195 = .ok (.lload 6, 2) := by decide +kernel
theorem dX6_moths_197 : decode cX6_moths 197 = .ok (.lstore 10, 2) := by decide +kernel
theorem dX6_moths_199 : decode cX6_moths 199 = .ok (.lload 8, 2) := by decide +kernel
theorem dX6_moths_201 : decode cX6_moths 201 = .ok (.lstore 12, 2) := by decide +kernel
theorem dX6_moths_203 : decode cX6_moths 203 = .ok (.lload 12, 2) := by decide +kernel
theorem dX6_moths_205 : decode cX6_moths 205 = .ok (.lconst 0, 1) := by decide +kernel
theorem dX6_moths_206 : decode cX6_moths 206 = .ok (.lcmp, 1) := by decide +kernel
theorem dX6_moths_207 : decode cX6_moths 207 = .ok (.ifCond .eq 21, 3) := by decide +kernel
theorem dX6_moths_210 : decode cX6_moths 210 = .ok (.lload 10, 2) := by decide +kernel
theorem dX6_moths_212 : decode cX6_moths 212 = .ok (.lload 12, 2) := by decide +kernel
theorem dX6_moths_214 : decode cX6_moths 214 = .ok (.lrem, 1) := by decide +kernel
theorem dX6_moths_215 : decode cX6_moths 215 = .ok (.lstore 14, 2) := by decide +kernel
theorem dX6_moths_217 : decode cX6_moths 217 = .ok (.lload 12, 2) := by decide +kernel
theorem dX6_moths_219 : decode cX6_moths 219 = .ok (.lstore 10, 2) := by decide +kernel
theorem dX6_moths_221 : decode cX6_moths 221 = .ok (.lload 14, 2) := by decide +kernel
theorem dX6_moths_223 : decode cX6_moths 223 = .ok (.lstore 12, 2) := by decide +kernel
theorem dX6_moths_225 : decode cX6_moths 225 = .ok (.goto (-22), 3) := by decide +kernel
theorem dX6_moths_228 : decode cX6_moths 228 = .ok (.iload_n 3, 1) := by decide +kernel
theorem dX6_moths_229 : decode cX6_moths 229 = .ok (.ifCond .ne 11, 3) := by decide +kernel
theorem dX6_moths_232 : decode cX6_moths 232 = .ok (.lload 6, 2) := by decide +kernel
theorem dX6_moths_234 : decode cX6_moths 234 = .ok (.lload 10, 2) := by decide +kernel
theorem dX6_moths_236 : decode cX6_moths 236 = .ok (.ldiv, 1) := by decide +kernel
theorem dX6_moths_237 : decode cX6_moths 237 = .ok (.goto 8, 3) := by decide +kernel
theorem dX6_moths_240 : decode cX6_moths 240 = .ok (.lload 8, 2) := by decide +kernel
theorem dX6_moths_242 : decode cX6_moths 242 = .ok (.lload 10, 2) := by decide +kernel
theorem dX6_moths_244 : decode cX6_moths 244 = .ok (.ldiv, 1) := by decide +kernel
theorem dX6_moths_245 : decode cX6_moths 245 = .ok (.lreturn, 1) := by decide +kernel
set_option maxRecDepth 20000 in
theorem ggX6_year_X6_in : GoodIn wsX6_year wsX6_in := goodIn_r _ [6] (by decide +kernel) (by decide +kernel)
set_option maxRecDepth 20000 in
theorem gX6_year_X6_in : GoodIn wsX6_year (va_wsS RX6 41 yX6_in wsX6_in) := goodIn_app (goodIn_of _ (by decide +kernel)) ggX6_year_X6_in
set_option maxRecDepth 20000 in
theorem ggX6_year_X6_asNow : GoodIn wsX6_year wsX6_asNow := goodIn_r _ [10, 2, 11, 12, 53, 54, 55, 56, 57, 58, 59, 60, 61, 62, 63, 64, 65, 66, 67] (by decide +kernel) (by decide +kernel)
set_option maxRecDepth 20000 in
theorem gX6_year_X6_asNow : GoodIn wsX6_year (wsV RX6 84 RX6 yX6_asNow wsX6_asNow) := goodIn_app (goodIn_of _ (by decide +kernel)) ggX6_year_X6_asNow
set_option maxRecDepth 20000 in
theorem ggX6_year_X6_pullOut : GoodIn wsX6_year wsX6_pullOut := goodIn_r _ [16, 2, 17, 18, 19, 5, 20, 21, 22, 23, 24, 25, 26, 27, 28, 29, 30, 31, 53, 54, 55, 56, 57, 58, 59, 60, 61, 62, 63, 64, 65, 66, 67] (by decide +kernel) (by decide +kernel)
set_option maxRecDepth 20000 in
theorem gX6_year_X6_pullOut : GoodIn wsX6_year (wsV RX6 97 RX6 yX6_pullOut wsX6_pullOut) := goodIn_app (goodIn_of _ (by decide +kernel)) ggX6_year_X6_pullOut
set_option maxRecDepth 20000 in
theorem ggX6_year_X6_eat : GoodIn wsX6_year wsX6_eat := goodIn_r _ [35, 2, 53, 54, 55, 56, 57, 58, 59, 60, 61, 62, 63, 64, 65, 66, 67] (by decide +kernel) (by decide +kernel)
set_option maxRecDepth 20000 in
theorem gX6_year_X6_eat : GoodIn wsX6_year (wsV RX6 100 RX6 yX6_eat wsX6_eat) := goodIn_app (goodIn_of _ (by decide +kernel)) ggX6_year_X6_eat
set_option maxRecDepth 20000 in
theorem ggX6_year_X6_mend : GoodIn wsX6_year wsX6_mend := goodIn_r _ [39, 2, 40, 53, 54, 55, 56, 57, 58, 59, 60, 61, 62, 63, 64, 65, 66, 67] (by decide +kernel) (by decide +kernel)
set_option maxRecDepth 20000 in
theorem gX6_year_X6_mend : GoodIn wsX6_year (wsV RX6 103 RX6 yX6_mend wsX6_mend) := goodIn_app (goodIn_of _ (by decide +kernel)) ggX6_year_X6_mend
set_option maxRecDepth 20000 in
theorem ggX6_year_X6_knit : GoodIn wsX6_year wsX6_knit := goodIn_r _ [44, 2, 40, 53, 54, 55, 56, 57, 58, 59, 60, 61, 62, 63, 64, 65, 66, 67] (by decide +kernel) (by decide +kernel)
set_option maxRecDepth 20000 in
theorem gX6_year_X6_knit : GoodIn wsX6_year (wsV RX6 90 RX6 yX6_knit wsX6_knit) := goodIn_app (goodIn_of _ (by decide +kernel)) ggX6_year_X6_knit
set_option maxRecDepth 20000 in
theorem ggX6_year_X6_eatenSet : GoodIn wsX6_year wsX6_eatenSet := goodIn_r _ [48, 2, 53, 54, 55, 56, 57, 58, 59, 60, 61, 62, 63, 64, 65, 66, 67] (by decide +kernel) (by decide +kernel)
set_option maxRecDepth 20000 in
theorem gX6_year_X6_eatenSet : GoodIn wsX6_year (wsV RX6 112 RX6 yX6_eatenSet wsX6_eatenSet) := goodIn_app (goodIn_of _ (by decide +kernel)) ggX6_year_X6_eatenSet
set_option maxRecDepth 20000 in
theorem ggX6_year_X6_looseSet : GoodIn wsX6_year wsX6_looseSet := goodIn_r _ [52, 2, 45, 46, 47, 5, 48, 21, 22, 23, 53, 54, 55, 56, 57, 58, 59, 60, 61, 62, 63, 64, 65, 66, 67] (by decide +kernel) (by decide +kernel)
set_option maxRecDepth 20000 in
theorem gX6_year_X6_looseSet : GoodIn wsX6_year (wsV RX6 115 RX6 yX6_looseSet wsX6_looseSet) := goodIn_app (goodIn_of _ (by decide +kernel)) ggX6_year_X6_looseSet
set_option maxRecDepth 20000 in
theorem ggX6_year_X6_bits : GoodIn wsX6_year wsX6_bits := goodIn_r _ [31] (by decide +kernel) (by decide +kernel)
set_option maxRecDepth 20000 in
theorem gX6_year_X6_bits : GoodIn wsX6_year (va_wsS RX6 81 yX6_bits wsX6_bits) := goodIn_app (goodIn_of _ (by decide +kernel)) ggX6_year_X6_bits
theorem dX6_year_0 : decode cX6_year 0 = .ok (.iload_n 1, 1) := by decide +kernel
theorem dX6_year_1 : decode cX6_year 1 = .ok (.iconst 0, 1) := by decide +kernel
theorem dX6_year_2 : decode cX6_year 2 = .ok (.sipush 9999, 3) := by decide +kernel
theorem dX6_year_5 : decode cX6_year 5 = .ok (.invokestatic 41, 3) := by decide +kernel
theorem dX6_year_8 : decode cX6_year 8 = .ok (.ifCond .eq 22, 3) := by decide +kernel
theorem dX6_year_11 : decode cX6_year 11 = .ok (.iload_n 2, 1) := by decide +kernel
theorem dX6_year_12 : decode cX6_year 12 = .ok (.iconst 1, 1) := by decide +kernel
theorem dX6_year_13 : decode cX6_year 13 = .ok (.bipush 99, 2) := by decide +kernel
theorem dX6_year_15 : decode cX6_year 15 = .ok (.invokestatic 41, 3) := by decide +kernel
theorem dX6_year_18 : decode cX6_year 18 = .ok (.ifCond .eq 12, 3) := by decide +kernel
theorem dX6_year_21 : decode cX6_year 21 = .ok (.iload_n 3, 1) := by decide +kernel
theorem dX6_year_22 : decode cX6_year 22 = .ok (.iconst 0, 1) := by decide +kernel
theorem dX6_year_23 : decode cX6_year 23 = .ok (.iconst 2, 1) := by decide +kernel
theorem dX6_year_24 : decode cX6_year 24 = .ok (.invokestatic 41, 3) := by decide +kernel
theorem dX6_year_27 : decode cX6_year 27 = .ok (.ifCond .ne 6, 3) := by decide +kernel
theorem dX6_year_30 : decode cX6_year 30 = .ok (.bipush (-2), 2) := by decide +kernel
theorem dX6_year_32 : decode cX6_year 32 = .ok (.ireturn, 1) := by decide +kernel
theorem dX6_year_33 : decode cX6_year 33 = .ok (.aload_n 0, 1) := by decide +kernel
theorem dX6_year_34 : decode cX6_year 34 = .ok (.invokevirtual 84, 3) := by decide +kernel
theorem dX6_year_37 : decode cX6_year 37 = .ok (.iload_n 1, 1) := by decide +kernel
theorem dX6_year_38 : decode cX6_year 38 = .ok (.istore 4, 2) := by decide +kernel
theorem dX6_year_40 : decode cX6_year 40 = .ok (.iconst 0, 1) := by decide +kernel
theorem dX6_year_41 : decode cX6_year 41 = .ok (.istore 5, 2) := by decide +kernel
theorem dX6_year_43 : decode cX6_year 43 = .ok (.iconst 0, 1) := by decide +kernel
theorem dX6_year_44 : decode cX6_year 44 = .ok (.istore 6, 2) := by decide +kernel
theorem dX6_year_46 : decode cX6_year 46 = .ok (.iload 6, 2) := by decide +kernel
theorem dX6_year_48 : decode cX6_year 48 = .ok (.iload_n 2, 1) := by decide +kernel
theorem dX6_year_49 : decode cX6_year 49 = .ok (.if_icmp .ge 130, 3) := by decide +kernel
theorem dX6_year_52 : decode cX6_year 52 = .ok (.bipush 75, 2) := by decide +kernel
theorem dX6_year_54 : decode cX6_year 54 = .ok (.iload 4, 2) := by decide +kernel
theorem dX6_year_56 : decode cX6_year 56 = .ok (.imul, 1) := by decide +kernel
theorem dX6_year_57 : decode cX6_year 57 = .ok (.bipush 74, 2) := by decide +kernel
theorem dX6_year_59 : decode cX6_year 59 = .ok (.iadd, 1) := by decide +kernel
theorem dX6_year_60 : decode cX6_year 60 = .ok (.ldc 152, 2) := by decide +kernel
theorem dX6_year_62 : decode cX6_year 62 = .ok (.irem, 1) := by decide +kernel
theorem dX6_year_63 : decode cX6_year 63 = .ok (.istore 4, 2) := by decide +kernel
theorem dX6_year_65 : decode cX6_year 65 = .ok (.iload 4, 2) := by decide +kernel
theorem dX6_year_67 : decode cX6_year 67 = .ok (.bipush 8, 2) := by decide +kernel
theorem dX6_year_69 : decode cX6_year 69 = .ok (.irem, 1) := by decide +kernel
theorem dX6_year_70 : decode cX6_year 70 = .ok (.istore 7, 2) := by decide +kernel
theorem dX6_year_72 : decode cX6_year 72 = .ok (.iload 4, 2) := by decide +kernel
theorem dX6_year_74 : decode cX6_year 74 = .ok (.bipush 8, 2) := by decide +kernel
theorem dX6_year_76 : decode cX6_year 76 = .ok (.idiv, 1) := by decide +kernel
theorem dX6_year_77 : decode cX6_year 77 = .ok (.bipush 24, 2) := by decide +kernel
theorem dX6_year_79 : decode cX6_year 79 = .ok (.irem, 1) := by decide +kernel
theorem dX6_year_80 : decode cX6_year 80 = .ok (.istore 8, 2) := by decide +kernel
theorem dX6_year_82 : decode cX6_year 82 = .ok (.iload 7, 2) := by decide +kernel
theorem dX6_year_84 : decode cX6_year 84 = .ok (.ifCond .ne 30, 3) := by decide +kernel
theorem dX6_year_87 : decode cX6_year 87 = .ok (.aload_n 0, 1) := by decide +kernel
theorem dX6_year_88 : decode cX6_year 88 = .ok (.iload 8, 2) := by decide +kernel
theorem dX6_year_90 : decode cX6_year 90 = .ok (.invokevirtual 97, 3) := by decide +kernel
theorem dX6_year_93 : decode cX6_year 93 = .ok (.istore 9, 2) := by decide +kernel
theorem dX6_year_95 : decode cX6_year 95 = .ok (.iload 5, 2) := by decide +kernel
theorem dX6_year_97 : decode cX6_year 97 = .ok (.iload 9, 2) := by decide +kernel
theorem dX6_year_99 : decode cX6_year 99 = .ok (.ifCond .ge 7, 3) := by decide +kernel
theorem dX6_year_102 : decode cX6_year 102 = .ok (.iconst 0, 1) := by decide +kernel
theorem dX6_year_103 : decode cX6_year 103 = .ok (.goto 5, 3) := by decide +kernel
theorem dX6_year_106 : decode cX6_year 106 = .ok (.iload 9, 2) := by decide +kernel
theorem dX6_year_108 : decode cX6_year 108 = .ok (.iadd, 1) := by decide +kernel
theorem dX6_year_109 : decode cX6_year 109 = .ok (.istore 5, 2) := by decide +kernel
theorem dX6_year_111 : decode cX6_year 111 = .ok (.goto 62, 3) := by decide +kernel
theorem dX6_year_114 : decode cX6_year 114 = .ok (.iload 7, 2) := by decide +kernel
theorem dX6_year_116 : decode cX6_year 116 = .ok (.iconst 1, 1) := by decide +kernel
theorem dX6_year_117 : decode cX6_year 117 = .ok (.if_icmp .ne 13, 3) := by decide +kernel
theorem dX6_year_120 : decode cX6_year 120 = .ok (.aload_n 0, 1) := by decide +kernel
theorem dX6_year_121 : decode cX6_year 121 = .ok (.iload 8, 2) := by decide +kernel
theorem dX6_year_123 : decode cX6_year 123 = .ok (.invokevirtual 100, 3) := by decide +kernel
theorem dX6_year_126 : decode cX6_year 126 = .ok (.pop, 1) := by decide +kernel
theorem dX6_year_127 : decode cX6_year 127 = .ok (.goto 46, 3) := by decide +kernel
theorem dX6_year_130 : decode cX6_year 130 = .ok (.iload 7, 2) := by decide +kernel
theorem dX6_year_132 : decode cX6_year 132 = .ok (.iconst 2, 1) := by decide +kernel
theorem dX6_year_133 : decode cX6_year 133 = .ok (.if_icmp .ne 21, 3) := by decide +kernel
theorem dX6_year_136 : decode cX6_year 136 = .ok (.aload_n 0, 1) := by decide +kernel
theorem dX6_year_137 : decode cX6_year 137 = .ok (.iload 8, 2) := by decide +kernel
theorem dX6_year_139 : decode cX6_year 139 = .ok (.iload 4, 2) := by decide +kernel
theorem dX6_year_141 : decode cX6_year 141 = .ok (.sipush 192, 3) := by decide +kernel
theorem dX6_year_144 : decode cX6_year 144 = .ok (.idiv, 1) := by decide +kernel
theorem dX6_year_145 : decode cX6_year 145 = .ok (.iconst 4, 1) := by decide +kernel
theorem dX6_year_146 : decode cX6_year 146 = .ok (.irem, 1) := by decide +kernel
theorem dX6_year_147 : decode cX6_year 147 = .ok (.invokevirtual 103, 3) := by decide +kernel
theorem dX6_year_150 : decode cX6_year 150 = .ok (.pop, 1) := by decide +kernel
theorem dX6_year_151 : decode cX6_year 151 = .ok (.goto 22, 3) := by decide +kernel
theorem dX6_year_154 : decode cX6_year 154 = .ok (.aload_n 0, 1) := by decide +kernel
theorem dX6_year_155 : decode cX6_year 155 = .ok (.iload 4, 2) := by decide +kernel
theorem dX6_year_157 : decode cX6_year 157 = .ok (.bipush 8, 2) := by decide +kernel
theorem dX6_year_159 : decode cX6_year 159 = .ok (.idiv, 1) := by decide +kernel
theorem dX6_year_160 : decode cX6_year 160 = .ok (.iconst 4, 1) := by decide +kernel
theorem dX6_year_161 : decode cX6_year 161 = .ok (.irem, 1) := by decide +kernel
theorem dX6_year_162 : decode cX6_year 162 = .ok (.iload 4, 2) := by decide +kernel
theorem dX6_year_164 : decode cX6_year 164 = .ok (.bipush 32, 2) := by decide +kernel
theorem dX6_year_166 : decode cX6_year 166 = .ok (.idiv, 1) := by decide +kernel
theorem dX6_year_167 : decode cX6_year 167 = .ok (.iconst 4, 1) := by decide +kernel
theorem dX6_year_168 : decode cX6_year 168 = .ok (.irem, 1) := by decide +kernel
theorem dX6_year_169 : decode cX6_year 169 = .ok (.invokevirtual 90, 3) := by decide +kernel
theorem dX6_year_172 : decode cX6_year 172 = .ok (.pop, 1) := by decide +kernel
theorem dX6_year_173 : decode cX6_year 173 = .ok (.iinc 6 1, 3) := by decide +kernel
theorem dX6_year_176 : decode cX6_year 176 = .ok (.goto (-130), 3) := by decide +kernel
theorem dX6_year_179 : decode cX6_year 179 = .ok (.iload_n 3, 1) := by decide +kernel
theorem dX6_year_180 : decode cX6_year 180 = .ok (.ifCond .ne 13, 3) := by decide +kernel
theorem dX6_year_183 : decode cX6_year 183 = .ok (.aload_n 0, 1) := by decide +kernel
theorem dX6_year_184 : decode cX6_year 184 = .ok (.getfield 13, 3) := by decide +kernel
theorem dX6_year_187 : decode cX6_year 187 = .ok (.bipush 96, 2) := by decide +kernel
theorem dX6_year_189 : decode cX6_year 189 = .ok (.iaload, 1) := by decide +kernel
theorem dX6_year_190 : decode cX6_year 190 = .ok (.goto 25, 3) := by decide +kernel
theorem dX6_year_193 : decode cX6_year 193 = .ok (.iload_n 3, 1) := by decide +kernel
theorem dX6_year_194 : decode cX6_year 194 = .ok (.iconst 1, 1) := by decide +kernel
theorem dX6_year_195 : decode cX6_year 195 = .ok (.if_icmp .ne 18, 3) := by decide +kernel
theorem dX6_year_198 : decode cX6_year 198 = .ok (.aload_n 0, 1) := by decide +kernel
theorem dX6_year_199 : decode cX6_year 199 = .ok (.invokevirtual 112, 3) := by decide +kernel
theorem dX6_year_202 : decode cX6_year 202 = .ok (.aload_n 0, 1) := by decide +kernel
theorem dX6_year_203 : decode cX6_year 203 = .ok (.invokevirtual 115, 3) := by decide +kernel
theorem dX6_year_206 : decode cX6_year 206 = .ok (.ior, 1) := by decide +kernel
theorem dX6_year_207 : decode cX6_year 207 = .ok (.invokestatic 81, 3) := by decide +kernel
theorem dX6_year_210 : decode cX6_year 210 = .ok (.goto 5, 3) := by decide +kernel
theorem dX6_year_213 : decode cX6_year 213 = .ok (.iload 5, 2) := by decide +kernel
theorem dX6_year_215 : decode cX6_year 215 = .ok (.ireturn, 1) := by decide +kernel
set_option maxRecDepth 20000 in
theorem ggX6_image_X6_in : GoodIn wsX6_image wsX6_in := goodIn_r _ [10] (by decide +kernel) (by decide +kernel)
set_option maxRecDepth 20000 in
theorem gX6_image_X6_in : GoodIn wsX6_image (va_wsS RX6 41 yX6_in wsX6_in) := goodIn_app (goodIn_of _ (by decide +kernel)) ggX6_image_X6_in
theorem dX6_image_0 : decode cX6_image 0 = .ok (.iload_n 1, 1) := by decide +kernel
theorem dX6_image_1 : decode cX6_image 1 = .ok (.iconst 0, 1) := by decide +kernel
theorem dX6_image_2 : decode cX6_image 2 = .ok (.iconst 1, 1) := by decide +kernel
theorem dX6_image_3 : decode cX6_image 3 = .ok (.invokestatic 41, 3) := by decide +kernel
theorem dX6_image_6 : decode cX6_image 6 = .ok (.ifCond .ne 6, 3) := by decide +kernel
theorem dX6_image_9 : decode cX6_image 9 = .ok (.bipush (-2), 2) := by decide +kernel
theorem dX6_image_11 : decode cX6_image 11 = .ok (.ireturn, 1) := by decide +kernel
theorem dX6_image_12 : decode cX6_image 12 = .ok (.sipush 150, 3) := by decide +kernel
theorem dX6_image_15 : decode cX6_image 15 = .ok (.iload_n 1, 1) := by decide +kernel
theorem dX6_image_16 : decode cX6_image 16 = .ok (.imul, 1) := by decide +kernel
theorem dX6_image_17 : decode cX6_image 17 = .ok (.istore_n 2, 1) := by decide +kernel
theorem dX6_image_18 : decode cX6_image 18 = .ok (.iconst 0, 1) := by decide +kernel
theorem dX6_image_19 : decode cX6_image 19 = .ok (.istore_n 3, 1) := by decide +kernel
theorem dX6_image_20 : decode cX6_image 20 = .ok (.iload_n 3, 1) := by decide +kernel
theorem dX6_image_21 : decode cX6_image 21 = .ok (.bipush 97, 2) := by decide +kernel
theorem dX6_image_23 : decode cX6_image 23 = .ok (.if_icmp .ge 23, 3) := by decide +kernel
theorem dX6_image_26 : decode cX6_image 26 = .ok (.aload_n 0, 1) := by decide +kernel
theorem dX6_image_27 : decode cX6_image 27 = .ok (.getfield 28, 3) := by decide +kernel
theorem dX6_image_30 : decode cX6_image 30 = .ok (.iload_n 2, 1) := by decide +kernel
theorem dX6_image_31 : decode cX6_image 31 = .ok (.iload_n 3, 1) := by decide +kernel
theorem dX6_image_32 : decode cX6_image 32 = .ok (.iadd, 1) := by decide +kernel
theorem dX6_image_33 : decode cX6_image 33 = .ok (.aload_n 0, 1) := by decide +kernel
theorem dX6_image_34 : decode cX6_image 34 = .ok (.getfield 7, 3) := by decide +kernel
theorem dX6_image_37 : decode cX6_image 37 = .ok (.iload_n 3, 1) := by decide +kernel
theorem dX6_image_38 : decode cX6_image 38 = .ok (.iaload, 1) := by decide +kernel
theorem dX6_image_39 : decode cX6_image 39 = .ok (.iastore, 1) := by decide +kernel
theorem dX6_image_40 : decode cX6_image 40 = .ok (.iinc 3 1, 3) := by decide +kernel
theorem dX6_image_43 : decode cX6_image 43 = .ok (.goto (-23), 3) := by decide +kernel
theorem dX6_image_46 : decode cX6_image 46 = .ok (.iconst 0, 1) := by decide +kernel
theorem dX6_image_47 : decode cX6_image 47 = .ok (.istore_n 3, 1) := by decide +kernel
theorem dX6_image_48 : decode cX6_image 48 = .ok (.iload_n 3, 1) := by decide +kernel
theorem dX6_image_49 : decode cX6_image 49 = .ok (.iconst 4, 1) := by decide +kernel
theorem dX6_image_50 : decode cX6_image 50 = .ok (.if_icmp .ge 26, 3) := by decide +kernel
theorem dX6_image_53 : decode cX6_image 53 = .ok (.aload_n 0, 1) := by decide +kernel
theorem dX6_image_54 : decode cX6_image 54 = .ok (.getfield 28, 3) := by decide +kernel
theorem dX6_image_57 : decode cX6_image 57 = .ok (.iload_n 2, 1) := by decide +kernel
theorem dX6_image_58 : decode cX6_image 58 = .ok (.bipush 100, 2) := by decide +kernel
theorem dX6_image_60 : decode cX6_image 60 = .ok (.iadd, 1) := by decide +kernel
theorem dX6_image_61 : decode cX6_image 61 = .ok (.iload_n 3, 1) := by decide +kernel
theorem dX6_image_62 : decode cX6_image 62 = .ok (.iadd, 1) := by decide +kernel
theorem dX6_image_63 : decode cX6_image 63 = .ok (.aload_n 0, 1) := by decide +kernel
theorem dX6_image_64 : decode cX6_image 64 = .ok (.getfield 16, 3) := by decide +kernel
theorem dX6_image_67 : decode cX6_image 67 = .ok (.iload_n 3, 1) := by decide +kernel
theorem dX6_image_68 : decode cX6_image 68 = .ok (.iaload, 1) := by decide +kernel
theorem dX6_image_69 : decode cX6_image 69 = .ok (.iastore, 1) := by decide +kernel
theorem dX6_image_70 : decode cX6_image 70 = .ok (.iinc 3 1, 3) := by decide +kernel
theorem dX6_image_73 : decode cX6_image 73 = .ok (.goto (-25), 3) := by decide +kernel
theorem dX6_image_76 : decode cX6_image 76 = .ok (.iconst 0, 1) := by decide +kernel
theorem dX6_image_77 : decode cX6_image 77 = .ok (.istore_n 3, 1) := by decide +kernel
theorem dX6_image_78 : decode cX6_image 78 = .ok (.iload_n 3, 1) := by decide +kernel
theorem dX6_image_79 : decode cX6_image 79 = .ok (.bipush 16, 2) := by decide +kernel
theorem dX6_image_81 : decode cX6_image 81 = .ok (.if_icmp .ge 26, 3) := by decide +kernel
theorem dX6_image_84 : decode cX6_image 84 = .ok (.aload_n 0, 1) := by decide +kernel
theorem dX6_image_85 : decode cX6_image 85 = .ok (.getfield 28, 3) := by decide +kernel
theorem dX6_image_88 : decode cX6_image 88 = .ok (.iload_n 2, 1) := by decide +kernel
theorem dX6_image_89 : decode cX6_image 89 = .ok (.bipush 110, 2) := by decide +kernel
theorem dX6_image_91 : decode cX6_image 91 = .ok (.iadd, 1) := by decide +kernel
theorem dX6_image_92 : decode cX6_image 92 = .ok (.iload_n 3, 1) := by decide +kernel
theorem dX6_image_93 : decode cX6_image 93 = .ok (.iadd, 1) := by decide +kernel
theorem dX6_image_94 : decode cX6_image 94 = .ok (.aload_n 0, 1) := by decide +kernel
theorem dX6_image_95 : decode cX6_image 95 = .ok (.getfield 19, 3) := by decide +kernel
theorem dX6_image_98 : decode cX6_image 98 = .ok (.iload_n 3, 1) := by decide +kernel
theorem dX6_image_99 : decode cX6_image 99 = .ok (.iaload, 1) := by decide +kernel
theorem dX6_image_100 : decode cX6_image 100 = .ok (.iastore, 1) := by decide +kernel
theorem dX6_image_101 : decode cX6_image 101 = .ok (.iinc 3 1, 3) := by decide +kernel
theorem dX6_image_104 : decode cX6_image 104 = .ok (.goto (-26), 3) := by decide +kernel
theorem dX6_image_107 : decode cX6_image 107 = .ok (.aload_n 0, 1) := by decide +kernel
theorem dX6_image_108 : decode cX6_image 108 = .ok (.getfield 28, 3) := by decide +kernel
theorem dX6_image_111 : decode cX6_image 111 = .ok (.iload_n 2, 1) := by decide +kernel
theorem dX6_image_112 : decode cX6_image 112 = .ok (.sipush 130, 3) := by decide +kernel
theorem dX6_image_115 : decode cX6_image 115 = .ok (.iadd, 1) := by decide +kernel
theorem dX6_image_116 : decode cX6_image 116 = .ok (.aload_n 0, 1) := by decide +kernel
theorem dX6_image_117 : decode cX6_image 117 = .ok (.getfield 134, 3) := by decide +kernel
theorem dX6_image_120 : decode cX6_image 120 = .ok (.iastore, 1) := by decide +kernel
theorem dX6_image_121 : decode cX6_image 121 = .ok (.aload_n 0, 1) := by decide +kernel
theorem dX6_image_122 : decode cX6_image 122 = .ok (.getfield 31, 3) := by decide +kernel
theorem dX6_image_125 : decode cX6_image 125 = .ok (.iload_n 1, 1) := by decide +kernel
theorem dX6_image_126 : decode cX6_image 126 = .ok (.iconst 1, 1) := by decide +kernel
theorem dX6_image_127 : decode cX6_image 127 = .ok (.bastore, 1) := by decide +kernel
theorem dX6_image_128 : decode cX6_image 128 = .ok (.iconst 1, 1) := by decide +kernel
theorem dX6_image_129 : decode cX6_image 129 = .ok (.ireturn, 1) := by decide +kernel
set_option maxRecDepth 20000 in
theorem ggX6_restore_X6_in : GoodIn wsX6_restore wsX6_in := goodIn_r _ [10] (by decide +kernel) (by decide +kernel)
set_option maxRecDepth 20000 in
theorem gX6_restore_X6_in : GoodIn wsX6_restore (va_wsS RX6 41 yX6_in wsX6_in) := goodIn_app (goodIn_of _ (by decide +kernel)) ggX6_restore_X6_in
theorem dX6_restore_0 : decode cX6_restore 0 = .ok (.iload_n 1, 1) := by decide +kernel
theorem dX6_restore_1 : decode cX6_restore 1 = .ok (.iconst 0, 1) := by decide +kernel
theorem dX6_restore_2 : decode cX6_restore 2 = .ok (.iconst 1, 1) := by decide +kernel
theorem dX6_restore_3 : decode cX6_restore 3 = .ok (.invokestatic 41, 3) := by decide +kernel
theorem dX6_restore_6 : decode cX6_restore 6 = .ok (.ifCond .ne 6, 3) := by decide +kernel
theorem dX6_restore_9 : decode cX6_restore 9 = .ok (.bipush (-2), 2) := by decide +kernel
theorem dX6_restore_11 : decode cX6_restore 11 = .ok (.ireturn, 1) := by decide +kernel
theorem dX6_restore_12 : decode cX6_restore 12 = .ok (.aload_n 0, 1) := by decide +kernel
theorem dX6_restore_13 : decode cX6_restore 13 = .ok (.getfield 31, 3) := by decide +kernel
theorem dX6_restore_16 : decode cX6_restore 16 = .ok (.iload_n 1, 1) := by decide +kernel
theorem dX6_restore_17 : decode cX6_restore 17 = .ok (.baload, 1) := by decide +kernel
theorem dX6_restore_18 : decode cX6_restore 18 = .ok (.ifCond .ne 6, 3) := by decide +kernel
theorem dX6_restore_21 : decode cX6_restore 21 = .ok (.bipush (-3), 2) := by decide +kernel
theorem dX6_restore_23 : decode cX6_restore 23 = .ok (.ireturn, 1) := by decide +kernel
theorem dX6_restore_24 : decode cX6_restore 24 = .ok (.sipush 150, 3) := by decide +kernel
theorem dX6_restore_27 : decode cX6_restore 27 = .ok (.iload_n 1, 1) := by decide +kernel
theorem dX6_restore_28 : decode cX6_restore 28 = .ok (.imul, 1) := by decide +kernel
theorem dX6_restore_29 : decode cX6_restore 29 = .ok (.istore_n 2, 1) := by decide +kernel
theorem dX6_restore_30 : decode cX6_restore 30 = .ok (.iconst 0, 1) := by decide +kernel
theorem dX6_restore_31 : decode cX6_restore 31 = .ok (.istore_n 3, 1) := by decide +kernel
theorem dX6_restore_32 : decode cX6_restore 32 = .ok (.iload_n 3, 1) := by decide +kernel
theorem dX6_restore_33 : decode cX6_restore 33 = .ok (.bipush 97, 2) := by decide +kernel
theorem dX6_restore_35 : decode cX6_restore 35 = .ok (.if_icmp .ge 23, 3) := by decide +kernel
theorem dX6_restore_38 : decode cX6_restore 38 = .ok (.aload_n 0, 1) := by decide +kernel
theorem dX6_restore_39 : decode cX6_restore 39 = .ok (.getfield 7, 3) := by decide +kernel
theorem dX6_restore_42 : decode cX6_restore 42 = .ok (.iload_n 3, 1) := by decide +kernel
theorem dX6_restore_43 : decode cX6_restore 43 = .ok (.aload_n 0, 1) := by decide +kernel
theorem dX6_restore_44 : decode cX6_restore 44 = .ok (.getfield 28, 3) := by decide +kernel
theorem dX6_restore_47 : decode cX6_restore 47 = .ok (.iload_n 2, 1) := by decide +kernel
theorem dX6_restore_48 : decode cX6_restore 48 = .ok (.iload_n 3, 1) := by decide +kernel
theorem dX6_restore_49 : decode cX6_restore 49 = .ok (.iadd, 1) := by decide +kernel
theorem dX6_restore_50 : decode cX6_restore 50 = .ok (.iaload, 1) := by decide +kernel
theorem dX6_restore_51 : decode cX6_restore 51 = .ok (.iastore, 1) := by decide +kernel
theorem dX6_restore_52 : decode cX6_restore 52 = .ok (.iinc 3 1, 3) := by decide +kernel
theorem dX6_restore_55 : decode cX6_restore 55 = .ok (.goto (-23), 3) := by decide +kernel
theorem dX6_restore_58 : decode cX6_restore 58 = .ok (.iconst 0, 1) := by decide +kernel
theorem dX6_restore_59 : decode cX6_restore 59 = .ok (.istore_n 3, 1) := by decide +kernel
theorem dX6_restore_60 : decode cX6_restore 60 = .ok (.iload_n 3, 1) := by decide +kernel
theorem dX6_restore_61 : decode cX6_restore 61 = .ok (.iconst 4, 1) := by decide +kernel
theorem dX6_restore_62 : decode cX6_restore 62 = .ok (.if_icmp .ge 26, 3) := by decide +kernel
theorem dX6_restore_65 : decode cX6_restore 65 = .ok (.aload_n 0, 1) := by decide +kernel
theorem dX6_restore_66 : decode cX6_restore 66 = .ok (.getfield 16, 3) := by decide +kernel
theorem dX6_restore_69 : decode cX6_restore 69 = .ok (.iload_n 3, 1) := by decide +kernel
theorem dX6_restore_70 : decode cX6_restore 70 = .ok (.aload_n 0, 1) := by decide +kernel
theorem dX6_restore_71 : decode cX6_restore 71 = .ok (.getfield 28, 3) := by decide +kernel
theorem dX6_restore_74 : decode cX6_restore 74 = .ok (.iload_n 2, 1) := by decide +kernel
theorem dX6_restore_75 : decode cX6_restore 75 = .ok (.bipush 100, 2) := by decide +kernel
theorem dX6_restore_77 : decode cX6_restore 77 = .ok (.iadd, 1) := by decide +kernel
theorem dX6_restore_78 : decode cX6_restore 78 = .ok (.iload_n 3, 1) := by decide +kernel
theorem dX6_restore_79 : decode cX6_restore 79 = .ok (.iadd, 1) := by decide +kernel
theorem dX6_restore_80 : decode cX6_restore 80 = .ok (.iaload, 1) := by decide +kernel
theorem dX6_restore_81 : decode cX6_restore 81 = .ok (.iastore, 1) := by decide +kernel
theorem dX6_restore_82 : decode cX6_restore 82 = .ok (.iinc 3 1, 3) := by decide +kernel
theorem dX6_restore_85 : decode cX6_restore 85 = .ok (.goto (-25), 3) := by decide +kernel
theorem dX6_restore_88 : decode cX6_restore 88 = .ok (.iconst 0, 1) := by decide +kernel
theorem dX6_restore_89 : decode cX6_restore 89 = .ok (.istore_n 3, 1) := by decide +kernel
theorem dX6_restore_90 : decode cX6_restore 90 = .ok (.iload_n 3, 1) := by decide +kernel
theorem dX6_restore_91 : decode cX6_restore 91 = .ok (.bipush 16, 2) := by decide +kernel
theorem dX6_restore_93 : decode cX6_restore 93 = .ok (.if_icmp .ge 26, 3) := by decide +kernel
theorem dX6_restore_96 : decode cX6_restore 96 = .ok (.aload_n 0, 1) := by decide +kernel
theorem dX6_restore_97 : decode cX6_restore 97 = .ok (.getfield 19, 3) := by decide +kernel
theorem dX6_restore_100 : decode cX6_restore 100 = .ok (.iload_n 3, 1) := by decide +kernel
theorem dX6_restore_101 : decode cX6_restore 101 = .ok (.aload_n 0, 1) := by decide +kernel
theorem dX6_restore_102 : decode cX6_restore 102 = .ok (.getfield 28, 3) := by decide +kernel
theorem dX6_restore_105 : decode cX6_restore 105 = .ok (.iload_n 2, 1) := by decide +kernel
theorem dX6_restore_106 : decode cX6_restore 106 = .ok (.bipush 110, 2) := by decide +kernel
theorem dX6_restore_108 : decode cX6_restore 108 = .ok (.iadd, 1) := by decide +kernel
theorem dX6_restore_109 : decode cX6_restore 109 = .ok (.iload_n 3, 1) := by decide +kernel
theorem dX6_restore_110 : decode cX6_restore 110 = .ok (.iadd, 1) := by decide +kernel
theorem dX6_restore_111 : decode cX6_restore 111 = .ok (.iaload, 1) := by decide +kernel
theorem dX6_restore_112 : decode cX6_restore 112 = .ok (.iastore, 1) := by decide +kernel
theorem dX6_restore_113 : decode cX6_restore 113 = .ok (.iinc 3 1, 3) := by decide +kernel
theorem dX6_restore_116 : decode cX6_restore 116 = .ok (.goto (-26), 3) := by decide +kernel
theorem dX6_restore_119 : decode cX6_restore 119 = .ok (.aload_n 0, 1) := by decide +kernel
theorem dX6_restore_120 : decode cX6_restore 120 = .ok (.aload_n 0, 1) := by decide +kernel
theorem dX6_restore_121 : decode cX6_restore 121 = .ok (.getfield 28, 3) := by decide +kernel
theorem dX6_restore_124 : decode cX6_restore 124 = .ok (.iload_n 2, 1) := by decide +kernel
theorem dX6_restore_125 : decode cX6_restore 125 = .ok (.sipush 130, 3) := by decide +kernel
theorem dX6_restore_128 : decode cX6_restore 128 = .ok (.iadd, 1) := by decide +kernel
theorem dX6_restore_129 : decode cX6_restore 129 = .ok (.iaload, 1) := by decide +kernel
theorem dX6_restore_130 : decode cX6_restore 130 = .ok (.putfield 134, 3) := by decide +kernel
theorem dX6_restore_133 : decode cX6_restore 133 = .ok (.iconst 1, 1) := by decide +kernel
theorem dX6_restore_134 : decode cX6_restore 134 = .ok (.ireturn, 1) := by decide +kernel
set_option maxRecDepth 20000 in
theorem ggX6_told_X6_isStitch : GoodIn wsX6_told wsX6_isStitch := goodIn_r _ [9, 1, 10, 11, 8, 12, 33, 34, 35, 36, 37, 38, 39, 40, 41, 42, 43, 44, 45, 46, 47] (by decide +kernel) (by decide +kernel)
set_option maxRecDepth 20000 in
theorem gX6_told_X6_isStitch : GoodIn wsX6_told (wsV RX6 45 RX6 yX6_isStitch wsX6_isStitch) := goodIn_app (goodIn_of _ (by decide +kernel)) ggX6_told_X6_isStitch
set_option maxRecDepth 20000 in
theorem ggX6_told_X6_isKnitter : GoodIn wsX6_told wsX6_isKnitter := goodIn_r _ [15, 10, 11, 8, 12] (by decide +kernel) (by decide +kernel)
set_option maxRecDepth 20000 in
theorem gX6_told_X6_isKnitter : GoodIn wsX6_told (va_wsS RX6 49 yX6_isKnitter wsX6_isKnitter) := goodIn_app (goodIn_of _ (by decide +kernel)) ggX6_told_X6_isKnitter
set_option maxRecDepth 20000 in
theorem ggX6_told_X6_asNow : GoodIn wsX6_told wsX6_asNow := goodIn_r _ [19, 20, 1, 21, 33, 34, 35, 36, 37, 38, 39, 40, 41, 42, 43, 44, 45, 46, 47] (by decide +kernel) (by decide +kernel)
set_option maxRecDepth 20000 in
theorem gX6_told_X6_asNow : GoodIn wsX6_told (wsV RX6 84 RX6 yX6_asNow wsX6_asNow) := goodIn_app (goodIn_of _ (by decide +kernel)) ggX6_told_X6_asNow
set_option maxRecDepth 20000 in
theorem ggX6_told_X6_eatenSet : GoodIn wsX6_told wsX6_eatenSet := goodIn_r _ [25, 20, 33, 34, 35, 36, 37, 38, 39, 40, 41, 42, 43, 44, 45, 46, 47] (by decide +kernel) (by decide +kernel)
set_option maxRecDepth 20000 in
theorem gX6_told_X6_eatenSet : GoodIn wsX6_told (wsV RX6 112 RX6 yX6_eatenSet wsX6_eatenSet) := goodIn_app (goodIn_of _ (by decide +kernel)) ggX6_told_X6_eatenSet
set_option maxRecDepth 20000 in
theorem ggX6_told_X6_looseSet : GoodIn wsX6_told wsX6_looseSet := goodIn_r _ [29, 20, 22, 23, 24, 8, 25, 30, 31, 32, 33, 34, 35, 36, 37, 38, 39, 40, 41, 42, 43, 44, 45, 46, 47] (by decide +kernel) (by decide +kernel)
set_option maxRecDepth 20000 in
theorem gX6_told_X6_looseSet : GoodIn wsX6_told (wsV RX6 115 RX6 yX6_looseSet wsX6_looseSet) := goodIn_app (goodIn_of _ (by decide +kernel)) ggX6_told_X6_looseSet
theorem dX6_told_0 : decode cX6_told 0 = .ok (.iload_n 1, 1) := by decide +kernel
theorem dX6_told_1 : decode cX6_told 1 = .ok (.bipush 100, 2) := by decide +kernel
theorem dX6_told_3 : decode cX6_told 3 = .ok (.if_icmp .lt 46, 3) := by decide +kernel
theorem dX6_told_6 : decode cX6_told 6 = .ok (.iload_n 1, 1) := by decide +kernel
theorem dX6_told_7 : decode cX6_told 7 = .ok (.bipush 100, 2) := by decide +kernel
theorem dX6_told_9 : decode cX6_told 9 = .ok (.idiv, 1) := by decide +kernel
theorem dX6_told_10 : decode cX6_told 10 = .ok (.iconst 1, 1) := by decide +kernel
theorem dX6_told_11 : decode cX6_told 11 = .ok (.isub, 1) := by decide +kernel
theorem dX6_told_12 : decode cX6_told 12 = .ok (.istore_n 2, 1) := by decide +kernel
theorem dX6_told_13 : decode cX6_told 13 = .ok (.aload_n 0, 1) := by decide +kernel
theorem dX6_told_14 : decode cX6_told 14 = .ok (.iload_n 2, 1) := by decide +kernel
theorem dX6_told_15 : decode cX6_told 15 = .ok (.invokevirtual 45, 3) := by decide +kernel
theorem dX6_told_18 : decode cX6_told 18 = .ok (.ifCond .eq 28, 3) := by decide +kernel
theorem dX6_told_21 : decode cX6_told 21 = .ok (.iload_n 1, 1) := by decide +kernel
theorem dX6_told_22 : decode cX6_told 22 = .ok (.bipush 100, 2) := by decide +kernel
theorem dX6_told_24 : decode cX6_told 24 = .ok (.irem, 1) := by decide +kernel
theorem dX6_told_25 : decode cX6_told 25 = .ok (.iconst 3, 1) := by decide +kernel
theorem dX6_told_26 : decode cX6_told 26 = .ok (.if_icmp .ge 20, 3) := by decide +kernel
theorem dX6_told_29 : decode cX6_told 29 = .ok (.aload_n 0, 1) := by decide +kernel
theorem dX6_told_30 : decode cX6_told 30 = .ok (.getfield 7, 3) := by decide +kernel
theorem dX6_told_33 : decode cX6_told 33 = .ok (.bipush 24, 2) := by decide +kernel
theorem dX6_told_35 : decode cX6_told 35 = .ok (.iload_n 1, 1) := by decide +kernel
theorem dX6_told_36 : decode cX6_told 36 = .ok (.bipush 100, 2) := by decide +kernel
theorem dX6_told_38 : decode cX6_told 38 = .ok (.irem, 1) := by decide +kernel
theorem dX6_told_39 : decode cX6_told 39 = .ok (.imul, 1) := by decide +kernel
theorem dX6_told_40 : decode cX6_told 40 = .ok (.iload_n 2, 1) := by decide +kernel
theorem dX6_told_41 : decode cX6_told 41 = .ok (.iadd, 1) := by decide +kernel
theorem dX6_told_42 : decode cX6_told 42 = .ok (.iaload, 1) := by decide +kernel
theorem dX6_told_43 : decode cX6_told 43 = .ok (.goto 5, 3) := by decide +kernel
theorem dX6_told_46 : decode cX6_told 46 = .ok (.bipush (-2), 2) := by decide +kernel
theorem dX6_told_48 : decode cX6_told 48 = .ok (.ireturn, 1) := by decide +kernel
theorem dX6_told_49 : decode cX6_told 49 = .ok (.iload_n 1, 1) := by decide +kernel
theorem dX6_told_50 : decode cX6_told 50 = .ok (.bipush 10, 2) := by decide +kernel
theorem dX6_told_52 : decode cX6_told 52 = .ok (.if_icmp .lt 28, 3) := by decide +kernel
theorem dX6_told_55 : decode cX6_told 55 = .ok (.iload_n 1, 1) := by decide +kernel
theorem dX6_told_56 : decode cX6_told 56 = .ok (.bipush 10, 2) := by decide +kernel
theorem dX6_told_58 : decode cX6_told 58 = .ok (.isub, 1) := by decide +kernel
theorem dX6_told_59 : decode cX6_told 59 = .ok (.invokestatic 49, 3) := by decide +kernel
theorem dX6_told_62 : decode cX6_told 62 = .ok (.ifCond .eq 15, 3) := by decide +kernel
theorem dX6_told_65 : decode cX6_told 65 = .ok (.aload_n 0, 1) := by decide +kernel
theorem dX6_told_66 : decode cX6_told 66 = .ok (.getfield 16, 3) := by decide +kernel
theorem dX6_told_69 : decode cX6_told 69 = .ok (.iload_n 1, 1) := by decide +kernel
theorem dX6_told_70 : decode cX6_told 70 = .ok (.bipush 10, 2) := by decide +kernel
theorem dX6_told_72 : decode cX6_told 72 = .ok (.isub, 1) := by decide +kernel
theorem dX6_told_73 : decode cX6_told 73 = .ok (.iaload, 1) := by decide +kernel
theorem dX6_told_74 : decode cX6_told 74 = .ok (.goto 5, 3) := by decide +kernel
theorem dX6_told_77 : decode cX6_told 77 = .ok (.bipush (-2), 2) := by decide +kernel
theorem dX6_told_79 : decode cX6_told 79 = .ok (.ireturn, 1) := by decide +kernel
theorem dX6_told_80 : decode cX6_told 80 = .ok (.aload_n 0, 1) := by decide +kernel
theorem dX6_told_81 : decode cX6_told 81 = .ok (.invokevirtual 84, 3) := by decide +kernel
theorem dX6_told_84 : decode cX6_told 84 = .ok (.iload_n 1, 1) := by decide +kernel
theorem dX6_told_85 : decode cX6_told 85 = .ok (.tableswitch 54 0 3 #[31, 36, 44, 49], 31) := by decide +kernel
theorem dX6_told_116 : decode cX6_told 116 = .ok (.aload_n 0, 1) := by decide +kernel
theorem dX6_told_117 : decode cX6_told 117 = .ok (.getfield 52, 3) := by decide +kernel
theorem dX6_told_120 : decode cX6_told 120 = .ok (.ireturn, 1) := by decide +kernel
theorem dX6_told_121 : decode cX6_told 121 = .ok (.aload_n 0, 1) := by decide +kernel
theorem dX6_told_122 : decode cX6_told 122 = .ok (.getfield 7, 3) := by decide +kernel
theorem dX6_told_125 : decode cX6_told 125 = .ok (.bipush 96, 2) := by decide +kernel
theorem dX6_told_127 : decode cX6_told 127 = .ok (.iaload, 1) := by decide +kernel
theorem dX6_told_128 : decode cX6_told 128 = .ok (.ireturn, 1) := by decide +kernel
theorem dX6_told_129 : decode cX6_told 129 = .ok (.aload_n 0, 1) := by decide +kernel
theorem dX6_told_130 : decode cX6_told 130 = .ok (.invokevirtual 112, 3) := by decide +kernel
theorem dX6_told_133 : decode cX6_told 133 = .ok (.ireturn, 1) := by decide +kernel
theorem dX6_told_134 : decode cX6_told 134 = .ok (.aload_n 0, 1) := by decide +kernel
theorem dX6_told_135 : decode cX6_told 135 = .ok (.getfield 134, 3) := by decide +kernel
theorem dX6_told_138 : decode cX6_told 138 = .ok (.ireturn, 1) := by decide +kernel
theorem dX6_told_139 : decode cX6_told 139 = .ok (.iload_n 1, 1) := by decide +kernel
theorem dX6_told_140 : decode cX6_told 140 = .ok (.iconst 4, 1) := by decide +kernel
theorem dX6_told_141 : decode cX6_told 141 = .ok (.if_icmp .ne 10, 3) := by decide +kernel
theorem dX6_told_144 : decode cX6_told 144 = .ok (.aload_n 0, 1) := by decide +kernel
theorem dX6_told_145 : decode cX6_told 145 = .ok (.invokevirtual 115, 3) := by decide +kernel
theorem dX6_told_148 : decode cX6_told 148 = .ok (.goto 5, 3) := by decide +kernel
theorem dX6_told_151 : decode cX6_told 151 = .ok (.bipush (-2), 2) := by decide +kernel
theorem dX6_told_153 : decode cX6_told 153 = .ok (.ireturn, 1) := by decide +kernel
