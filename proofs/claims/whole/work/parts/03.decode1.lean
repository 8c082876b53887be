theorem dX0_init_0 : decode cX0_init 0 = .ok (.aload_n 0, 1) := by decide +kernel
theorem dX0_init_1 : decode cX0_init 1 = .ok (.invokespecial 3, 3) := by decide +kernel
theorem dX0_init_4 : decode cX0_init 4 = .ok (.aload_n 0, 1) := by decide +kernel
theorem dX0_init_5 : decode cX0_init 5 = .ok (.new 9, 3) := by decide +kernel
theorem dX0_init_8 : decode cX0_init 8 = .ok (.dup, 1) := by decide +kernel
theorem dX0_init_9 : decode cX0_init 9 = .ok (.invokespecial 11, 3) := by decide +kernel
theorem dX0_init_12 : decode cX0_init 12 = .ok (.putfield 12, 3) := by decide +kernel
theorem dX0_init_15 : decode cX0_init 15 = .ok (.aload_n 0, 1) := by decide +kernel
theorem dX0_init_16 : decode cX0_init 16 = .ok (.bipush 8, 2) := by decide +kernel
theorem dX0_init_18 : decode cX0_init 18 = .ok (.newarray .int, 2) := by decide +kernel
theorem dX0_init_20 : decode cX0_init 20 = .ok (.putfield 18, 3) := by decide +kernel
theorem dX0_init_23 : decode cX0_init 23 = .ok (.aload_n 0, 1) := by decide +kernel
theorem dX0_init_24 : decode cX0_init 24 = .ok (.iconst 4, 1) := by decide +kernel
theorem dX0_init_25 : decode cX0_init 25 = .ok (.newarray .long, 2) := by decide +kernel
theorem dX0_init_27 : decode cX0_init 27 = .ok (.putfield 22, 3) := by decide +kernel
theorem dX0_init_30 : decode cX0_init 30 = .ok (.aload_n 0, 1) := by decide +kernel
theorem dX0_init_31 : decode cX0_init 31 = .ok (.sipush 256, 3) := by decide +kernel
theorem dX0_init_34 : decode cX0_init 34 = .ok (.newarray .long, 2) := by decide +kernel
theorem dX0_init_36 : decode cX0_init 36 = .ok (.putfield 26, 3) := by decide +kernel
theorem dX0_init_39 : decode cX0_init 39 = .ok (.aload_n 0, 1) := by decide +kernel
theorem dX0_init_40 : decode cX0_init 40 = .ok (.iconst 0, 1) := by decide +kernel
theorem dX0_init_41 : decode cX0_init 41 = .ok (.putfield 29, 3) := by decide +kernel
theorem dX0_init_44 : decode cX0_init 44 = .ok (.aload_n 0, 1) := by decide +kernel
theorem dX0_init_45 : decode cX0_init 45 = .ok (.iconst 0, 1) := by decide +kernel
theorem dX0_init_46 : decode cX0_init 46 = .ok (.putfield 33, 3) := by decide +kernel
theorem dX0_init_49 : decode cX0_init 49 = .ok (.aload_n 0, 1) := by decide +kernel
theorem dX0_init_50 : decode cX0_init 50 = .ok (.iconst 0, 1) := by decide +kernel
theorem dX0_init_51 : decode cX0_init 51 = .ok (.putfield 37, 3) := by decide +kernel
theorem dX0_init_54 : decode cX0_init 54 = .ok (.aload_n 0, 1) := by decide +kernel
theorem dX0_init_55 : decode cX0_init 55 = .ok (.aload_n 1, 1) := by decide +kernel
theorem dX0_init_56 : decode cX0_init 56 = .ok (.putfield 40, 3) := by decide +kernel
theorem dX0_init_59 : decode cX0_init 59 = .ok (.aload_n 0, 1) := by decide +kernel
theorem dX0_init_60 : decode cX0_init 60 = .ok (.aload_n 2, 1) := by decide +kernel
theorem dX0_init_61 : decode cX0_init 61 = .ok (.putfield 44, 3) := by decide +kernel
theorem dX0_init_64 : decode cX0_init 64 = .ok (.aload_n 0, 1) := by decide +kernel
theorem dX0_init_65 : decode cX0_init 65 = .ok (.aload_n 3, 1) := by decide +kernel
theorem dX0_init_66 : decode cX0_init 66 = .ok (.putfield 48, 3) := by decide +kernel
theorem dX0_init_69 : decode cX0_init 69 = .ok (.return_, 1) := by decide +kernel
theorem dX0_outdate_0 : decode cX0_outdate 0 = .ok (.aload_n 0, 1) := by decide +kernel
theorem dX0_outdate_1 : decode cX0_outdate 1 = .ok (.iconst 0, 1) := by decide +kernel
theorem dX0_outdate_2 : decode cX0_outdate 2 = .ok (.putfield 33, 3) := by decide +kernel
theorem dX0_outdate_5 : decode cX0_outdate 5 = .ok (.aload_n 0, 1) := by decide +kernel
theorem dX0_outdate_6 : decode cX0_outdate 6 = .ok (.iconst 0, 1) := by decide +kernel
theorem dX0_outdate_7 : decode cX0_outdate 7 = .ok (.putfield 37, 3) := by decide +kernel
theorem dX0_outdate_10 : decode cX0_outdate 10 = .ok (.return_, 1) := by decide +kernel
theorem dX0_areFew_0 : decode cX0_areFew 0 = .ok (.aload_n 0, 1) := by decide +kernel
theorem dX0_areFew_1 : decode cX0_areFew 1 = .ok (.getfield 40, 3) := by decide +kernel
theorem dX0_areFew_4 : decode cX0_areFew 4 = .ok (.getfield 52, 3) := by decide +kernel
theorem dX0_areFew_7 : decode cX0_areFew 7 = .ok (.aload_n 0, 1) := by decide +kernel
theorem dX0_areFew_8 : decode cX0_areFew 8 = .ok (.getfield 44, 3) := by decide +kernel
theorem dX0_areFew_11 : decode cX0_areFew 11 = .ok (.getfield 57, 3) := by decide +kernel
theorem dX0_areFew_14 : decode cX0_areFew 14 = .ok (.invokestatic 62, 3) := by decide +kernel
theorem dX0_areFew_17 : decode cX0_areFew 17 = .ok (.isub, 1) := by decide +kernel
theorem dX0_areFew_18 : decode cX0_areFew 18 = .ok (.bipush 8, 2) := by decide +kernel
theorem dX0_areFew_20 : decode cX0_areFew 20 = .ok (.if_icmp .gt 7, 3) := by decide +kernel
theorem dX0_areFew_23 : decode cX0_areFew 23 = .ok (.iconst 1, 1) := by decide +kernel
theorem dX0_areFew_24 : decode cX0_areFew 24 = .ok (.goto 4, 3) := by decide +kernel
theorem dX0_areFew_27 : decode cX0_areFew 27 = .ok (.iconst 0, 1) := by decide +kernel
theorem dX0_areFew_28 : decode cX0_areFew 28 = .ok (.ireturn, 1) := by decide +kernel
theorem dX0_orders_0 : decode cX0_orders 0 = .ok (.aload_n 0, 1) := by decide +kernel
theorem dX0_orders_1 : decode cX0_orders 1 = .ok (.getfield 29, 3) := by decide +kernel
theorem dX0_orders_4 : decode cX0_orders 4 = .ok (.ifCond .lt 24, 3) := by decide +kernel
theorem dX0_orders_7 : decode cX0_orders 7 = .ok (.aload_n 0, 1) := by decide +kernel
theorem dX0_orders_8 : decode cX0_orders 8 = .ok (.getfield 29, 3) := by decide +kernel
theorem dX0_orders_11 : decode cX0_orders 11 = .ok (.bipush 8, 2) := by decide +kernel
theorem dX0_orders_13 : decode cX0_orders 13 = .ok (.if_icmp .gt 15, 3) := by decide +kernel
theorem dX0_orders_16 : decode cX0_orders 16 = .ok (.getstatic 68, 3) := by decide +kernel
theorem dX0_orders_19 : decode cX0_orders 19 = .ok (.aload_n 0, 1) := by decide +kernel
theorem dX0_orders_20 : decode cX0_orders 20 = .ok (.getfield 29, 3) := by decide +kernel
theorem dX0_orders_23 : decode cX0_orders 23 = .ok (.iaload, 1) := by decide +kernel
theorem dX0_orders_24 : decode cX0_orders 24 = .ok (.i2l, 1) := by decide +kernel
theorem dX0_orders_25 : decode cX0_orders 25 = .ok (.goto 4, 3) := by decide +kernel
theorem dX0_orders_28 : decode cX0_orders 28 = .ok (.lconst 1, 1) := by decide +kernel
theorem dX0_orders_29 : decode cX0_orders 29 = .ok (.lreturn, 1) := by decide +kernel
theorem dX0_listComing_0 : decode cX0_listComing 0 = .ok (.aload_n 0, 1) := by decide +kernel
theorem dX0_listComing_1 : decode cX0_listComing 1 = .ok (.iconst 0, 1) := by decide +kernel
theorem dX0_listComing_2 : decode cX0_listComing 2 = .ok (.putfield 29, 3) := by decide +kernel
theorem dX0_listComing_5 : decode cX0_listComing 5 = .ok (.iconst 0, 1) := by decide +kernel
theorem dX0_listComing_6 : decode cX0_listComing 6 = .ok (.istore_n 1, 1) := by decide +kernel
theorem dX0_listComing_7 : decode cX0_listComing 7 = .ok (.iload_n 1, 1) := by decide +kernel
theorem dX0_listComing_8 : decode cX0_listComing 8 = .ok (.aload_n 0, 1) := by decide +kernel
theorem dX0_listComing_9 : decode cX0_listComing 9 = .ok (.getfield 40, 3) := by decide +kernel
theorem dX0_listComing_12 : decode cX0_listComing 12 = .ok (.getfield 52, 3) := by decide +kernel
theorem dX0_listComing_15 : decode cX0_listComing 15 = .ok (.if_icmp .ge 52, 3) := by decide +kernel
theorem dX0_listComing_18 : decode cX0_listComing 18 = .ok (.aload_n 0, 1) := by decide +kernel
theorem dX0_listComing_19 : decode cX0_listComing 19 = .ok (.getfield 29, 3) := by decide +kernel
theorem dX0_listComing_22 : decode cX0_listComing 22 = .ok (.bipush 8, 2) := by decide +kernel
theorem dX0_listComing_24 : decode cX0_listComing 24 = .ok (.if_icmp .ge 43, 3) := by decide +kernel
theorem dX0_listComing_27 : decode cX0_listComing 27 = .ok (.aload_n 0, 1) := by decide +kernel
theorem dX0_listComing_28 : decode cX0_listComing 28 = .ok (.getfield 44, 3) := by decide +kernel
theorem dX0_listComing_31 : decode cX0_listComing 31 = .ok (.getfield 57, 3) := by decide +kernel
theorem dX0_listComing_34 : decode cX0_listComing 34 = .ok (.iload_n 1, 1) := by decide +kernel
theorem dX0_listComing_35 : decode cX0_listComing 35 = .ok (.ishr, 1) := by decide +kernel
theorem dX0_listComing_36 : decode cX0_listComing 36 = .ok (.iconst 1, 1) := by decide +kernel
theorem dX0_listComing_37 : decode cX0_listComing 37 = .ok (.iand, 1) := by decide +kernel
theorem dX0_listComing_38 : decode cX0_listComing 38 = .ok (.ifCond .ne 23, 3) := by decide +kernel
theorem dX0_listComing_41 : decode cX0_listComing 41 = .ok (.aload_n 0, 1) := by decide +kernel
theorem dX0_listComing_42 : decode cX0_listComing 42 = .ok (.getfield 18, 3) := by decide +kernel
theorem dX0_listComing_45 : decode cX0_listComing 45 = .ok (.aload_n 0, 1) := by decide +kernel
theorem dX0_listComing_46 : decode cX0_listComing 46 = .ok (.getfield 29, 3) := by decide +kernel
theorem dX0_listComing_49 : decode cX0_listComing 49 = .ok (.iload_n 1, 1) := by decide +kernel
theorem dX0_listComing_50 : decode cX0_listComing 50 = .ok (.iastore, 1) := by decide +kernel
theorem dX0_listComing_51 : decode cX0_listComing 51 = .ok (.aload_n 0, 1) := by decide +kernel
theorem dX0_listComing_52 : decode cX0_listComing 52 = .ok (.dup, 1) := by decide +kernel
theorem dX0_listComing_53 : decode cX0_listComing 53 = .ok (.getfield 29, 3) := by decide +kernel
theorem dX0_listComing_56 : decode cX0_listComing 56 = .ok (.iconst 1, 1) := by decide +kernel
theorem dX0_listComing_57 : decode cX0_listComing 57 = .ok (.iadd, 1) := by decide +kernel
theorem dX0_listComing_58 : decode cX0_listComing 58 = .ok (.putfield 29, 3) := by decide +kernel
theorem dX0_listComing_61 : decode cX0_listComing 61 = .ok (.iinc 1 1, 3) := by decide +kernel
theorem dX0_listComing_64 : decode cX0_listComing 64 = .ok (.goto (-57), 3) := by decide +kernel
theorem dX0_listComing_67 : decode cX0_listComing 67 = .ok (.return_, 1) := by decide +kernel
theorem dX0_openSets_0 : decode cX0_openSets 0 = .ok (.aload_n 0, 1) := by decide +kernel
theorem dX0_openSets_1 : decode cX0_openSets 1 = .ok (.getfield 33, 3) := by decide +kernel
theorem dX0_openSets_4 : decode cX0_openSets 4 = .ok (.ifCond .eq 4, 3) := by decide +kernel
theorem dX0_openSets_7 : decode cX0_openSets 7 = .ok (.return_, 1) := by decide +kernel
theorem dX0_openSets_8 : decode cX0_openSets 8 = .ok (.aload_n 0, 1) := by decide +kernel
theorem dX0_openSets_9 : decode cX0_openSets 9 = .ok (.getfield 48, 3) := by decide +kernel
theorem dX0_openSets_12 : decode cX0_openSets 12 = .ok (.invokevirtual 71, 3) := by decide +kernel
theorem dX0_openSets_15 : decode cX0_openSets 15 = .ok (.aload_n 0, 1) := by decide +kernel
theorem dX0_openSets_16 : decode cX0_openSets 16 = .ok (.invokevirtual 76, 3) := by decide +kernel
theorem dX0_openSets_19 : decode cX0_openSets 19 = .ok (.iconst 0, 1) := by decide +kernel
theorem dX0_openSets_20 : decode cX0_openSets 20 = .ok (.istore_n 1, 1) := by decide +kernel
theorem dX0_openSets_21 : decode cX0_openSets 21 = .ok (.iload_n 1, 1) := by decide +kernel
theorem dX0_openSets_22 : decode cX0_openSets 22 = .ok (.iconst 4, 1) := by decide +kernel
theorem dX0_openSets_23 : decode cX0_openSets 23 = .ok (.if_icmp .ge 124, 3) := by decide +kernel
theorem dX0_openSets_26 : decode cX0_openSets 26 = .ok (.iconst 0, 1) := by decide +kernel
theorem dX0_openSets_27 : decode cX0_openSets 27 = .ok (.istore_n 2, 1) := by decide +kernel
theorem dX0_openSets_28 : decode cX0_openSets 28 = .ok (.iload_n 2, 1) := by decide +kernel
theorem dX0_openSets_29 : decode cX0_openSets 29 = .ok (.aload_n 0, 1) := by decide +kernel
theorem dX0_openSets_30 : decode cX0_openSets 30 = .ok (.getfield 29, 3) := by decide +kernel
theorem dX0_openSets_33 : decode cX0_openSets 33 = .ok (.if_icmp .ge 71, 3) := by decide +kernel
theorem dX0_openSets_36 : decode cX0_openSets 36 = .ok (.iload_n 2, 1) := by decide +kernel
theorem dX0_openSets_37 : decode cX0_openSets 37 = .ok (.bipush 6, 2) := by decide +kernel
theorem dX0_openSets_39 : decode cX0_openSets 39 = .ok (.if_icmp .lt 18, 3) := by decide +kernel
theorem dX0_openSets_42 : decode cX0_openSets 42 = .ok (.iload_n 1, 1) := by decide +kernel
theorem dX0_openSets_43 : decode cX0_openSets 43 = .ok (.iload_n 2, 1) := by decide +kernel
theorem dX0_openSets_44 : decode cX0_openSets 44 = .ok (.bipush 6, 2) := by decide +kernel
theorem dX0_openSets_46 : decode cX0_openSets 46 = .ok (.isub, 1) := by decide +kernel
theorem dX0_openSets_47 : decode cX0_openSets 47 = .ok (.ishr, 1) := by decide +kernel
theorem dX0_openSets_48 : decode cX0_openSets 48 = .ok (.iconst 1, 1) := by decide +kernel
theorem dX0_openSets_49 : decode cX0_openSets 49 = .ok (.iand, 1) := by decide +kernel
theorem dX0_openSets_50 : decode cX0_openSets 50 = .ok (.ifCond .eq 7, 3) := by decide +kernel
theorem dX0_openSets_53 : decode cX0_openSets 53 = .ok (.iconst 1, 1) := by decide +kernel
theorem dX0_openSets_54 : decode cX0_openSets 54 = .ok (.goto 4, 3) := by decide +kernel
theorem dX0_openSets_57 : decode cX0_openSets 57 = .ok (.iconst 0, 1) := by decide +kernel
theorem dX0_openSets_58 : decode cX0_openSets 58 = .ok (.istore_n 3, 1) := by decide +kernel
theorem dX0_openSets_59 : decode cX0_openSets 59 = .ok (.aload_n 0, 1) := by decide +kernel
theorem dX0_openSets_60 : decode cX0_openSets 60 = .ok (.getfield 12, 3) := by decide +kernel
theorem dX0_openSets_63 : decode cX0_openSets 63 = .ok (.getfield 79, 3) := by decide +kernel
theorem dX0_openSets_66 : decode cX0_openSets 66 = .ok (.aload_n 0, 1) := by decide +kernel
theorem dX0_openSets_67 : decode cX0_openSets 67 = .ok (.getfield 18, 3) := by decide +kernel
theorem dX0_openSets_70 : decode cX0_openSets 70 = .ok (.iload_n 2, 1) := by decide +kernel
theorem dX0_openSets_71 : decode cX0_openSets 71 = .ok (.iaload, 1) := by decide +kernel
theorem dX0_openSets_72 : decode cX0_openSets 72 = .ok (.iload_n 2, 1) := by decide +kernel
theorem dX0_openSets_73 : decode cX0_openSets 73 = .ok (.bipush 6, 2) := by decide +kernel
theorem dX0_openSets_75 : decode cX0_openSets 75 = .ok (.if_icmp .ge 11, 3) := by decide +kernel
theorem dX0_openSets_78 : decode cX0_openSets 78 = .ok (.getstatic 82, 3) := by decide +kernel
theorem dX0_openSets_81 : decode cX0_openSets 81 = .ok (.iload_n 2, 1) := by decide +kernel
theorem dX0_openSets_82 : decode cX0_openSets 82 = .ok (.laload, 1) := by decide +kernel
theorem dX0_openSets_83 : decode cX0_openSets 83 = .ok (.goto 14, 3) := by decide +kernel
theorem dX0_openSets_86 : decode cX0_openSets 86 = .ok (.iload_n 3, 1) := by decide +kernel
theorem dX0_openSets_87 : decode cX0_openSets 87 = .ok (.ifCond .eq 9, 3) := by decide +kernel
theorem dX0_openSets_90 : decode cX0_openSets 90 = .ok (.ldc2_w 85, 3) := by decide +kernel
theorem dX0_openSets_93 : decode cX0_openSets 93 = .ok (.goto 4, 3) := by decide +kernel
theorem dX0_openSets_96 : decode cX0_openSets 96 = .ok (.lconst 0, 1) := by decide +kernel
theorem dX0_openSets_97 : decode cX0_openSets 97 = .ok (.lastore, 1) := by decide +kernel
theorem dX0_openSets_98 : decode cX0_openSets 98 = .ok (.iinc 2 1, 3) := by decide +kernel
theorem dX0_openSets_101 : decode cX0_openSets 101 = .ok (.goto (-73), 3) := by decide +kernel
theorem dX0_openSets_104 : decode cX0_openSets 104 = .ok (.aload_n 0, 1) := by decide +kernel
theorem dX0_openSets_105 : decode cX0_openSets 105 = .ok (.getfield 22, 3) := by decide +kernel
theorem dX0_openSets_108 : decode cX0_openSets 108 = .ok (.iload_n 1, 1) := by decide +kernel
theorem dX0_openSets_109 : decode cX0_openSets 109 = .ok (.iload_n 1, 1) := by decide +kernel
theorem dX0_openSets_110 : decode cX0_openSets 110 = .ok (.bipush 64, 2) := by decide +kernel
theorem dX0_openSets_112 : decode cX0_openSets 112 = .ok (.imul, 1) := by decide +kernel
theorem dX0_openSets_113 : decode cX0_openSets 113 = .ok (.iconst 1, 1) := by decide +kernel
theorem dX0_openSets_114 : decode cX0_openSets 114 = .ok (.aload_n 0, 1) := by decide +kernel
theorem dX0_openSets_115 : decode cX0_openSets 115 = .ok (.getfield 29, 3) := by decide +kernel
theorem dX0_openSets_118 : decode cX0_openSets 118 = .ok (.ishl, 1) := by decide +kernel
theorem dX0_openSets_119 : decode cX0_openSets 119 = .ok (.if_icmp .ge 20, 3) := by decide +kernel
theorem dX0_openSets_122 : decode cX0_openSets 122 = .ok (.aload_n 0, 1) := by decide +kernel
theorem dX0_openSets_123 : decode cX0_openSets 123 = .ok (.getfield 48, 3) := by decide +kernel
theorem dX0_openSets_126 : decode cX0_openSets 126 = .ok (.aload_n 0, 1) := by decide +kernel
theorem dX0_openSets_127 : decode cX0_openSets 127 = .ok (.getfield 12, 3) := by decide +kernel
theorem dX0_openSets_130 : decode cX0_openSets 130 = .ok (.sipush 1023, 3) := by decide +kernel
theorem dX0_openSets_133 : decode cX0_openSets 133 = .ok (.invokevirtual 87, 3) := by decide +kernel
theorem dX0_openSets_136 : decode cX0_openSets 136 = .ok (.goto 4, 3) := by decide +kernel
theorem dX0_openSets_139 : decode cX0_openSets 139 = .ok (.lconst 0, 1) := by decide +kernel
theorem dX0_openSets_140 : decode cX0_openSets 140 = .ok (.lastore, 1) := by decide +kernel
theorem dX0_openSets_141 : decode cX0_openSets 141 = .ok (.iinc 1 1, 3) := by decide +kernel
theorem dX0_openSets_144 : decode cX0_openSets 144 = .ok (.goto (-123), 3) := by decide +kernel
theorem dX0_openSets_147 : decode cX0_openSets 147 = .ok (.aload_n 0, 1) := by decide +kernel
theorem dX0_openSets_148 : decode cX0_openSets 148 = .ok (.iconst 1, 1) := by decide +kernel
theorem dX0_openSets_149 : decode cX0_openSets 149 = .ok (.putfield 33, 3) := by decide +kernel
theorem dX0_openSets_152 : decode cX0_openSets 152 = .ok (.return_, 1) := by decide +kernel
theorem dX0_isOpened_0 : decode cX0_isOpened 0 = .ok (.aload_n 0, 1) := by decide +kernel
theorem dX0_isOpened_1 : decode cX0_isOpened 1 = .ok (.getfield 22, 3) := by decide +kernel
theorem dX0_isOpened_4 : decode cX0_isOpened 4 = .ok (.iload_n 1, 1) := by decide +kernel
theorem dX0_isOpened_5 : decode cX0_isOpened 5 = .ok (.bipush 64, 2) := by decide +kernel
theorem dX0_isOpened_7 : decode cX0_isOpened 7 = .ok (.idiv, 1) := by decide +kernel
theorem dX0_isOpened_8 : decode cX0_isOpened 8 = .ok (.laload, 1) := by decide +kernel
theorem dX0_isOpened_9 : decode cX0_isOpened 9 = .ok (.iload_n 1, 1) := by decide +kernel
theorem dX0_isOpened_10 : decode cX0_isOpened 10 = .ok (.bipush 64, 2) := by decide +kernel
theorem dX0_isOpened_12 : decode cX0_isOpened 12 = .ok (.irem, 1) := by decide +kernel
theorem dX0_isOpened_13 : decode cX0_isOpened 13 = .ok (.lshr, 1) := by decide +kernel
theorem dX0_isOpened_14 : decode cX0_isOpened 14 = .ok (.lconst 1, 1) := by decide +kernel
theorem dX0_isOpened_15 : decode cX0_isOpened 15 = .ok (.land, 1) := by decide +kernel
theorem dX0_isOpened_16 : decode cX0_isOpened 16 = .ok (.lconst 0, 1) := by decide +kernel
theorem dX0_isOpened_17 : decode cX0_isOpened 17 = .ok (.lcmp, 1) := by decide +kernel
theorem dX0_isOpened_18 : decode cX0_isOpened 18 = .ok (.ifCond .eq 7, 3) := by decide +kernel
theorem dX0_isOpened_21 : decode cX0_isOpened 21 = .ok (.iconst 1, 1) := by decide +kernel
theorem dX0_isOpened_22 : decode cX0_isOpened 22 = .ok (.goto 4, 3) := by decide +kernel
theorem dX0_isOpened_25 : decode cX0_isOpened 25 = .ok (.iconst 0, 1) := by decide +kernel
theorem dX0_isOpened_26 : decode cX0_isOpened 26 = .ok (.ireturn, 1) := by decide +kernel
theorem dX0_countSets_0 : decode cX0_countSets 0 = .ok (.aload_n 0, 1) := by decide +kernel
theorem dX0_countSets_1 : decode cX0_countSets 1 = .ok (.getfield 37, 3) := by decide +kernel
theorem dX0_countSets_4 : decode cX0_countSets 4 = .ok (.ifCond .eq 4, 3) := by decide +kernel
theorem dX0_countSets_7 : decode cX0_countSets 7 = .ok (.return_, 1) := by decide +kernel
theorem dX0_countSets_8 : decode cX0_countSets 8 = .ok (.aload_n 0, 1) := by decide +kernel
theorem dX0_countSets_9 : decode cX0_countSets 9 = .ok (.getfield 48, 3) := by decide +kernel
theorem dX0_countSets_12 : decode cX0_countSets 12 = .ok (.invokevirtual 71, 3) := by decide +kernel
theorem dX0_countSets_15 : decode cX0_countSets 15 = .ok (.iconst 0, 1) := by decide +kernel
theorem dX0_countSets_16 : decode cX0_countSets 16 = .ok (.istore_n 1, 1) := by decide +kernel
theorem dX0_countSets_17 : decode cX0_countSets 17 = .ok (.iload_n 1, 1) := by decide +kernel
theorem dX0_countSets_18 : decode cX0_countSets 18 = .ok (.iconst 1, 1) := by decide +kernel
theorem dX0_countSets_19 : decode cX0_countSets 19 = .ok (.aload_n 0, 1) := by decide +kernel
theorem dX0_countSets_20 : decode cX0_countSets 20 = .ok (.getfield 29, 3) := by decide +kernel
theorem dX0_countSets_23 : decode cX0_countSets 23 = .ok (.ishl, 1) := by decide +kernel
theorem dX0_countSets_24 : decode cX0_countSets 24 = .ok (.if_icmp .ge 46, 3) := by decide +kernel
theorem dX0_countSets_27 : decode cX0_countSets 27 = .ok (.aload_n 0, 1) := by decide +kernel
theorem dX0_countSets_28 : decode cX0_countSets 28 = .ok (.getfield 26, 3) := by decide +kernel
theorem dX0_countSets_31 : decode cX0_countSets 31 = .ok (.iload_n 1, 1) := by decide +kernel
theorem dX0_countSets_32 : decode cX0_countSets 32 = .ok (.aload_n 0, 1) := by decide +kernel
theorem dX0_countSets_33 : decode cX0_countSets 33 = .ok (.iload_n 1, 1) := by decide +kernel
theorem dX0_countSets_34 : decode cX0_countSets 34 = .ok (.invokevirtual 91, 3) := by decide +kernel
theorem dX0_countSets_37 : decode cX0_countSets 37 = .ok (.ifCond .eq 25, 3) := by decide +kernel
theorem dX0_countSets_40 : decode cX0_countSets 40 = .ok (.aload_n 0, 1) := by decide +kernel
theorem dX0_countSets_41 : decode cX0_countSets 41 = .ok (.getfield 48, 3) := by decide +kernel
theorem dX0_countSets_44 : decode cX0_countSets 44 = .ok (.aload_n 0, 1) := by decide +kernel
theorem dX0_countSets_45 : decode cX0_countSets 45 = .ok (.getfield 48, 3) := by decide +kernel
theorem dX0_countSets_48 : decode cX0_countSets 48 = .ok (.getfield 95, 3) := by decide +kernel
theorem dX0_countSets_51 : decode cX0_countSets 51 = .ok (.aload_n 0, 1) := by decide +kernel
theorem dX0_countSets_52 : decode cX0_countSets 52 = .ok (.iload_n 1, 1) := by decide +kernel
theorem dX0_countSets_53 : decode cX0_countSets 53 = .ok (.invokevirtual 99, 3) := by decide +kernel
theorem dX0_countSets_56 : decode cX0_countSets 56 = .ok (.invokevirtual 87, 3) := by decide +kernel
theorem dX0_countSets_59 : decode cX0_countSets 59 = .ok (.goto 4, 3) := by decide +kernel
theorem dX0_countSets_62 : decode cX0_countSets 62 = .ok (.lconst 0, 1) := by decide +kernel
theorem dX0_countSets_63 : decode cX0_countSets 63 = .ok (.lastore, 1) := by decide +kernel
theorem dX0_countSets_64 : decode cX0_countSets 64 = .ok (.iinc 1 1, 3) := by decide +kernel
theorem dX0_countSets_67 : decode cX0_countSets 67 = .ok (.goto (-50), 3) := by decide +kernel
theorem dX0_countSets_70 : decode cX0_countSets 70 = .ok (.aload_n 0, 1) := by decide +kernel
theorem dX0_countSets_71 : decode cX0_countSets 71 = .ok (.iconst 1, 1) := by decide +kernel
theorem dX0_countSets_72 : decode cX0_countSets 72 = .ok (.putfield 37, 3) := by decide +kernel
theorem dX0_countSets_75 : decode cX0_countSets 75 = .ok (.return_, 1) := by decide +kernel
theorem dX0_wordsOf_0 : decode cX0_wordsOf 0 = .ok (.iconst 0, 1) := by decide +kernel
theorem dX0_wordsOf_1 : decode cX0_wordsOf 1 = .ok (.istore_n 2, 1) := by decide +kernel
theorem dX0_wordsOf_2 : decode cX0_wordsOf 2 = .ok (.iconst 0, 1) := by decide +kernel
theorem dX0_wordsOf_3 : decode cX0_wordsOf 3 = .ok (.istore_n 3, 1) := by decide +kernel
theorem dX0_wordsOf_4 : decode cX0_wordsOf 4 = .ok (.iload_n 3, 1) := by decide +kernel
theorem dX0_wordsOf_5 : decode cX0_wordsOf 5 = .ok (.aload_n 0, 1) := by decide +kernel
theorem dX0_wordsOf_6 : decode cX0_wordsOf 6 = .ok (.getfield 29, 3) := by decide +kernel
theorem dX0_wordsOf_9 : decode cX0_wordsOf 9 = .ok (.if_icmp .ge 28, 3) := by decide +kernel
theorem dX0_wordsOf_12 : decode cX0_wordsOf 12 = .ok (.iload_n 1, 1) := by decide +kernel
theorem dX0_wordsOf_13 : decode cX0_wordsOf 13 = .ok (.iload_n 3, 1) := by decide +kernel
theorem dX0_wordsOf_14 : decode cX0_wordsOf 14 = .ok (.ishr, 1) := by decide +kernel
theorem dX0_wordsOf_15 : decode cX0_wordsOf 15 = .ok (.iconst 1, 1) := by decide +kernel
theorem dX0_wordsOf_16 : decode cX0_wordsOf 16 = .ok (.iand, 1) := by decide +kernel
theorem dX0_wordsOf_17 : decode cX0_wordsOf 17 = .ok (.ifCond .eq 14, 3) := by decide +kernel
theorem dX0_wordsOf_20 : decode cX0_wordsOf 20 = .ok (.iload_n 2, 1) := by decide +kernel
theorem dX0_wordsOf_21 : decode cX0_wordsOf 21 = .ok (.iconst 1, 1) := by decide +kernel
theorem dX0_wordsOf_22 : decode cX0_wordsOf 22 = .ok (.aload_n 0, 1) := by decide +kernel
theorem dX0_wordsOf_23 : decode cX0_wordsOf 23 = .ok (.getfield 18, 3) := by decide +kernel
theorem dX0_wordsOf_26 : decode cX0_wordsOf 26 = .ok (.iload_n 3, 1) := by decide +kernel
theorem dX0_wordsOf_27 : decode cX0_wordsOf 27 = .ok (.iaload, 1) := by decide +kernel
theorem dX0_wordsOf_28 : decode cX0_wordsOf 28 = .ok (.ishl, 1) := by decide +kernel
theorem dX0_wordsOf_29 : decode cX0_wordsOf 29 = .ok (.ior, 1) := by decide +kernel
theorem dX0_wordsOf_30 : decode cX0_wordsOf 30 = .ok (.istore_n 2, 1) := by decide +kernel
theorem dX0_wordsOf_31 : decode cX0_wordsOf 31 = .ok (.iinc 3 1, 3) := by decide +kernel
theorem dX0_wordsOf_34 : decode cX0_wordsOf 34 = .ok (.goto (-30), 3) := by decide +kernel
theorem dX0_wordsOf_37 : decode cX0_wordsOf 37 = .ok (.iload_n 2, 1) := by decide +kernel
theorem dX0_wordsOf_38 : decode cX0_wordsOf 38 = .ok (.ireturn, 1) := by decide +kernel
theorem dX0_shareOf_0 : decode cX0_shareOf 0 = .ok (.aload_n 0, 1) := by decide +kernel
theorem dX0_shareOf_1 : decode cX0_shareOf 1 = .ok (.invokevirtual 102, 3) := by decide +kernel
theorem dX0_shareOf_4 : decode cX0_shareOf 4 = .ok (.aload_n 0, 1) := by decide +kernel
theorem dX0_shareOf_5 : decode cX0_shareOf 5 = .ok (.invokevirtual 105, 3) := by decide +kernel
theorem dX0_shareOf_8 : decode cX0_shareOf 8 = .ok (.iconst 0, 1) := by decide +kernel
theorem dX0_shareOf_9 : decode cX0_shareOf 9 = .ok (.istore_n 2, 1) := by decide +kernel
theorem dX0_shareOf_10 : decode cX0_shareOf 10 = .ok (.iconst 0, 1) := by decide +kernel
theorem dX0_shareOf_11 : decode cX0_shareOf 11 = .ok (.istore_n 3, 1) := by decide +kernel
theorem dX0_shareOf_12 : decode cX0_shareOf 12 = .ok (.iload_n 3, 1) := by decide +kernel
theorem dX0_shareOf_13 : decode cX0_shareOf 13 = .ok (.aload_n 0, 1) := by decide +kernel
theorem dX0_shareOf_14 : decode cX0_shareOf 14 = .ok (.getfield 29, 3) := by decide +kernel
theorem dX0_shareOf_17 : decode cX0_shareOf 17 = .ok (.if_icmp .ge 23, 3) := by decide +kernel
theorem dX0_shareOf_20 : decode cX0_shareOf 20 = .ok (.aload_n 0, 1) := by decide +kernel
theorem dX0_shareOf_21 : decode cX0_shareOf 21 = .ok (.getfield 18, 3) := by decide +kernel
theorem dX0_shareOf_24 : decode cX0_shareOf 24 = .ok (.iload_n 3, 1) := by decide +kernel
theorem dX0_shareOf_25 : decode cX0_shareOf 25 = .ok (.iaload, 1) := by decide +kernel
theorem dX0_shareOf_26 : decode cX0_shareOf 26 = .ok (.iload_n 1, 1) := by decide +kernel
theorem dX0_shareOf_27 : decode cX0_shareOf 27 = .ok (.if_icmp .ne 7, 3) := by decide +kernel
theorem dX0_shareOf_30 : decode cX0_shareOf 30 = .ok (.iconst 1, 1) := by decide +kernel
theorem dX0_shareOf_31 : decode cX0_shareOf 31 = .ok (.iload_n 3, 1) := by decide +kernel
theorem dX0_shareOf_32 : decode cX0_shareOf 32 = .ok (.ishl, 1) := by decide +kernel
theorem dX0_shareOf_33 : decode cX0_shareOf 33 = .ok (.istore_n 2, 1) := by decide +kernel
theorem dX0_shareOf_34 : decode cX0_shareOf 34 = .ok (.iinc 3 1, 3) := by decide +kernel
theorem dX0_shareOf_37 : decode cX0_shareOf 37 = .ok (.goto (-25), 3) := by decide +kernel
theorem dX0_shareOf_40 : decode cX0_shareOf 40 = .ok (.lconst 0, 1) := by decide +kernel
theorem dX0_shareOf_41 : decode cX0_shareOf 41 = .ok (.lstore_n 3, 1) := by decide +kernel
theorem dX0_shareOf_42 : decode cX0_shareOf 42 = .ok (.iconst 0, 1) := by decide +kernel
theorem dX0_shareOf_43 : decode cX0_shareOf 43 = .ok (.istore 5, 2) := by decide +kernel
theorem dX0_shareOf_45 : decode cX0_shareOf 45 = .ok (.iload 5, 2) := by decide +kernel
theorem dX0_shareOf_47 : decode cX0_shareOf 47 = .ok (.iconst 1, 1) := by decide +kernel
theorem dX0_shareOf_48 : decode cX0_shareOf 48 = .ok (.aload_n 0, 1) := by decide +kernel
theorem dX0_shareOf_49 : decode cX0_shareOf 49 = .ok (.getfield 29, 3) := by decide +kernel
theorem dX0_shareOf_52 : decode cX0_shareOf 52 = .ok (.ishl, 1) := by decide +kernel
theorem dX0_shareOf_53 : decode cX0_shareOf 53 = .ok (.if_icmp .ge 72, 3) := by decide +kernel
theorem dX0_shareOf_56 : decode cX0_shareOf 56 = .ok (.iload 5, 2) := by decide +kernel
theorem dX0_shareOf_58 : decode cX0_shareOf 58 = .ok (.iload_n 2, 1) := by decide +kernel
theorem dX0_shareOf_59 : decode cX0_shareOf 59 = .ok (.iand, 1) := by decide +kernel
theorem dX0_shareOf_60 : decode cX0_shareOf 60 = .ok (.ifCond .eq 59, 3) := by decide +kernel
theorem dX0_shareOf_63 : decode cX0_shareOf 63 = .ok (.iload 5, 2) := by decide +kernel
theorem dX0_shareOf_65 : decode cX0_shareOf 65 = .ok (.invokestatic 62, 3) := by decide +kernel
theorem dX0_shareOf_68 : decode cX0_shareOf 68 = .ok (.iconst 1, 1) := by decide +kernel
theorem dX0_shareOf_69 : decode cX0_shareOf 69 = .ok (.isub, 1) := by decide +kernel
theorem dX0_shareOf_70 : decode cX0_shareOf 70 = .ok (.istore 6, 2) := by decide +kernel
theorem dX0_shareOf_72 : decode cX0_shareOf 72 = .ok (.getstatic 68, 3) := by decide +kernel
theorem dX0_shareOf_75 : decode cX0_shareOf 75 = .ok (.iload 6, 2) := by decide +kernel
theorem dX0_shareOf_77 : decode cX0_shareOf 77 = .ok (.iaload, 1) := by decide +kernel
theorem dX0_shareOf_78 : decode cX0_shareOf 78 = .ok (.i2l, 1) := by decide +kernel
theorem dX0_shareOf_79 : decode cX0_shareOf 79 = .ok (.getstatic 68, 3) := by decide +kernel
theorem dX0_shareOf_82 : decode cX0_shareOf 82 = .ok (.aload_n 0, 1) := by decide +kernel
theorem dX0_shareOf_83 : decode cX0_shareOf 83 = .ok (.getfield 29, 3) := by decide +kernel
theorem dX0_shareOf_86 : decode cX0_shareOf 86 = .ok (.iconst 1, 1) := by decide +kernel
theorem dX0_shareOf_87 : decode cX0_shareOf 87 = .ok (.isub, 1) := by decide +kernel
theorem dX0_shareOf_88 : decode cX0_shareOf 88 = .ok (.iload 6, 2) := by decide +kernel
theorem dX0_shareOf_90 : decode cX0_shareOf 90 = .ok (.isub, 1) := by decide +kernel
theorem dX0_shareOf_91 : decode cX0_shareOf 91 = .ok (.iaload, 1) := by decide +kernel
theorem dX0_shareOf_92 : decode cX0_shareOf 92 = .ok (.i2l, 1) := by decide +kernel
theorem dX0_shareOf_93 : decode cX0_shareOf 93 = .ok (.lmul, 1) := by decide +kernel
theorem dX0_shareOf_94 : decode cX0_shareOf 94 = .ok (.lstore 7, 2) := by decide +kernel
theorem dX0_shareOf_96 : decode cX0_shareOf 96 = .ok (.lload_n 3, 1) := by decide +kernel
theorem dX0_shareOf_97 : decode cX0_shareOf 97 = .ok (.lload 7, 2) := by decide +kernel
theorem dX0_shareOf_99 : decode cX0_shareOf 99 = .ok (.aload_n 0, 1) := by decide +kernel
theorem dX0_shareOf_100 : decode cX0_shareOf 100 = .ok (.getfield 26, 3) := by decide +kernel
theorem dX0_shareOf_103 : decode cX0_shareOf 103 = .ok (.iload 5, 2) := by decide +kernel
theorem dX0_shareOf_105 : decode cX0_shareOf 105 = .ok (.laload, 1) := by decide +kernel
theorem dX0_shareOf_106 : decode cX0_shareOf 106 = .ok (.aload_n 0, 1) := by decide +kernel
theorem dX0_shareOf_107 : decode cX0_shareOf 107 = .ok (.getfield 26, 3) := by decide +kernel
theorem dX0_shareOf_110 : decode cX0_shareOf 110 = .ok (.iload 5, 2) := by decide +kernel
theorem dX0_shareOf_112 : decode cX0_shareOf 112 = .ok (.iload_n 2, 1) := by decide +kernel
theorem dX0_shareOf_113 : decode cX0_shareOf 113 = .ok (.ixor, 1) := by decide +kernel
theorem dX0_shareOf_114 : decode cX0_shareOf 114 = .ok (.laload, 1) := by decide +kernel
theorem dX0_shareOf_115 : decode cX0_shareOf 115 = .ok (.lsub, 1) := by decide +kernel
theorem dX0_shareOf_116 : decode cX0_shareOf 116 = .ok (.lmul, 1) := by decide +kernel
theorem dX0_shareOf_117 : decode cX0_shareOf 117 = .ok (.ladd, 1) := by decide +kernel
theorem dX0_shareOf_118 : decode cX0_shareOf 118 = .ok (.lstore_n 3, 1) := by decide +kernel
theorem dX0_shareOf_119 : decode cX0_shareOf 119 = .ok (.iinc 5 1, 3) := by decide +kernel
theorem dX0_shareOf_122 : decode cX0_shareOf 122 = .ok (.goto (-77), 3) := by decide +kernel
theorem dX0_shareOf_125 : decode cX0_shareOf 125 = .ok (.lload_n 3, 1) := by decide +kernel
theorem dX0_shareOf_126 : decode cX0_shareOf 126 = .ok (.lreturn, 1) := by decide +kernel
theorem dX0_hopeAt_0 : decode cX0_hopeAt 0 = .ok (.aload_n 0, 1) := by decide +kernel
theorem dX0_hopeAt_1 : decode cX0_hopeAt 1 = .ok (.invokevirtual 102, 3) := by decide +kernel
theorem dX0_hopeAt_4 : decode cX0_hopeAt 4 = .ok (.lconst 0, 1) := by decide +kernel
theorem dX0_hopeAt_5 : decode cX0_hopeAt 5 = .ok (.lstore_n 2, 1) := by decide +kernel
theorem dX0_hopeAt_6 : decode cX0_hopeAt 6 = .ok (.iconst 0, 1) := by decide +kernel
theorem dX0_hopeAt_7 : decode cX0_hopeAt 7 = .ok (.istore 4, 2) := by decide +kernel
theorem dX0_hopeAt_9 : decode cX0_hopeAt 9 = .ok (.iload 4, 2) := by decide +kernel
theorem dX0_hopeAt_11 : decode cX0_hopeAt 11 = .ok (.iconst 1, 1) := by decide +kernel
theorem dX0_hopeAt_12 : decode cX0_hopeAt 12 = .ok (.aload_n 0, 1) := by decide +kernel
theorem dX0_hopeAt_13 : decode cX0_hopeAt 13 = .ok (.getfield 29, 3) := by decide +kernel
theorem dX0_hopeAt_16 : decode cX0_hopeAt 16 = .ok (.ishl, 1) := by decide +kernel
theorem dX0_hopeAt_17 : decode cX0_hopeAt 17 = .ok (.if_icmp .ge 49, 3) := by decide +kernel
theorem dX0_hopeAt_20 : decode cX0_hopeAt 20 = .ok (.aload_n 0, 1) := by decide +kernel
theorem dX0_hopeAt_21 : decode cX0_hopeAt 21 = .ok (.iload 4, 2) := by decide +kernel
theorem dX0_hopeAt_23 : decode cX0_hopeAt 23 = .ok (.invokevirtual 91, 3) := by decide +kernel
theorem dX0_hopeAt_26 : decode cX0_hopeAt 26 = .ok (.ifCond .eq 34, 3) := by decide +kernel
theorem dX0_hopeAt_29 : decode cX0_hopeAt 29 = .ok (.iload 4, 2) := by decide +kernel
theorem dX0_hopeAt_31 : decode cX0_hopeAt 31 = .ok (.invokestatic 62, 3) := by decide +kernel
theorem dX0_hopeAt_34 : decode cX0_hopeAt 34 = .ok (.istore 5, 2) := by decide +kernel
theorem dX0_hopeAt_36 : decode cX0_hopeAt 36 = .ok (.lload_n 2, 1) := by decide +kernel
theorem dX0_hopeAt_37 : decode cX0_hopeAt 37 = .ok (.bipush 10, 2) := by decide +kernel
theorem dX0_hopeAt_39 : decode cX0_hopeAt 39 = .ok (.iload_n 1, 1) := by decide +kernel
theorem dX0_hopeAt_40 : decode cX0_hopeAt 40 = .ok (.isub, 1) := by decide +kernel
theorem dX0_hopeAt_41 : decode cX0_hopeAt 41 = .ok (.iload 5, 2) := by decide +kernel
theorem dX0_hopeAt_43 : decode cX0_hopeAt 43 = .ok (.invokestatic 108, 3) := by decide +kernel
theorem dX0_hopeAt_46 : decode cX0_hopeAt 46 = .ok (.iload_n 1, 1) := by decide +kernel
theorem dX0_hopeAt_47 : decode cX0_hopeAt 47 = .ok (.aload_n 0, 1) := by decide +kernel
theorem dX0_hopeAt_48 : decode cX0_hopeAt 48 = .ok (.getfield 29, 3) := by decide +kernel
theorem dX0_hopeAt_51 : decode cX0_hopeAt 51 = .ok (.iload 5, 2) := by decide +kernel
theorem dX0_hopeAt_53 : decode cX0_hopeAt 53 = .ok (.isub, 1) := by decide +kernel
theorem dX0_hopeAt_54 : decode cX0_hopeAt 54 = .ok (.invokestatic 108, 3) := by decide +kernel
theorem dX0_hopeAt_57 : decode cX0_hopeAt 57 = .ok (.lmul, 1) := by decide +kernel
theorem dX0_hopeAt_58 : decode cX0_hopeAt 58 = .ok (.ladd, 1) := by decide +kernel
theorem dX0_hopeAt_59 : decode cX0_hopeAt 59 = .ok (.lstore_n 2, 1) := by decide +kernel
theorem dX0_hopeAt_60 : decode cX0_hopeAt 60 = .ok (.iinc 4 1, 3) := by decide +kernel
theorem dX0_hopeAt_63 : decode cX0_hopeAt 63 = .ok (.goto (-54), 3) := by decide +kernel
theorem dX0_hopeAt_66 : decode cX0_hopeAt 66 = .ok (.lload_n 2, 1) := by decide +kernel
theorem dX0_hopeAt_67 : decode cX0_hopeAt 67 = .ok (.lreturn, 1) := by decide +kernel
theorem dX0_hopeBelow_0 : decode cX0_hopeBelow 0 = .ok (.bipush 10, 2) := by decide +kernel
theorem dX0_hopeBelow_2 : decode cX0_hopeBelow 2 = .ok (.aload_n 0, 1) := by decide +kernel
theorem dX0_hopeBelow_3 : decode cX0_hopeBelow 3 = .ok (.getfield 29, 3) := by decide +kernel
theorem dX0_hopeBelow_6 : decode cX0_hopeBelow 6 = .ok (.invokestatic 108, 3) := by decide +kernel
theorem dX0_hopeBelow_9 : decode cX0_hopeBelow 9 = .ok (.lreturn, 1) := by decide +kernel
theorem dX0_power_0 : decode cX0_power 0 = .ok (.lconst 1, 1) := by decide +kernel
theorem dX0_power_1 : decode cX0_power 1 = .ok (.lstore_n 2, 1) := by decide +kernel
theorem dX0_power_2 : decode cX0_power 2 = .ok (.iconst 0, 1) := by decide +kernel
theorem dX0_power_3 : decode cX0_power 3 = .ok (.istore 4, 2) := by decide +kernel
theorem dX0_power_5 : decode cX0_power 5 = .ok (.iload 4, 2) := by decide +kernel
theorem dX0_power_7 : decode cX0_power 7 = .ok (.iload_n 1, 1) := by decide +kernel
theorem dX0_power_8 : decode cX0_power 8 = .ok (.if_icmp .ge 14, 3) := by decide +kernel
theorem dX0_power_11 : decode cX0_power 11 = .ok (.lload_n 2, 1) := by decide +kernel
theorem dX0_power_12 : decode cX0_power 12 = .ok (.iload_n 0, 1) := by decide +kernel
theorem dX0_power_13 : decode cX0_power 13 = .ok (.i2l, 1) := by decide +kernel
theorem dX0_power_14 : decode cX0_power 14 = .ok (.lmul, 1) := by decide +kernel
theorem dX0_power_15 : decode cX0_power 15 = .ok (.lstore_n 2, 1) := by decide +kernel
theorem dX0_power_16 : decode cX0_power 16 = .ok (.iinc 4 1, 3) := by decide +kernel
theorem dX0_power_19 : decode cX0_power 19 = .ok (.goto (-14), 3) := by decide +kernel
theorem dX0_power_22 : decode cX0_power 22 = .ok (.lload_n 2, 1) := by decide +kernel
theorem dX0_power_23 : decode cX0_power 23 = .ok (.lreturn, 1) := by decide +kernel
theorem dX1_init_0 : decode cX1_init 0 = .ok (.aload_n 0, 1) := by decide +kernel
theorem dX1_init_1 : decode cX1_init 1 = .ok (.invokespecial 1, 3) := by decide +kernel
theorem dX1_init_4 : decode cX1_init 4 = .ok (.return_, 1) := by decide +kernel
theorem dX1_none_0 : decode cX1_none 0 = .ok (.lconst 0, 1) := by decide +kernel
theorem dX1_none_1 : decode cX1_none 1 = .ok (.lreturn, 1) := by decide +kernel
theorem dX1_ended_0 : decode cX1_ended 0 = .ok (.lconst 1, 1) := by decide +kernel
theorem dX1_ended_1 : decode cX1_ended 1 = .ok (.lreturn, 1) := by decide +kernel
theorem dX1_joined_0 : decode cX1_joined 0 = .ok (.lload_n 1, 1) := by decide +kernel
theorem dX1_joined_1 : decode cX1_joined 1 = .ok (.lload_n 3, 1) := by decide +kernel
theorem dX1_joined_2 : decode cX1_joined 2 = .ok (.ladd, 1) := by decide +kernel
theorem dX1_joined_3 : decode cX1_joined 3 = .ok (.lreturn, 1) := by decide +kernel
theorem dX1_with_0 : decode cX1_with 0 = .ok (.lload_n 1, 1) := by decide +kernel
theorem dX1_with_1 : decode cX1_with 1 = .ok (.lload_n 3, 1) := by decide +kernel
theorem dX1_with_2 : decode cX1_with 2 = .ok (.ladd, 1) := by decide +kernel
theorem dX1_with_3 : decode cX1_with 3 = .ok (.lreturn, 1) := by decide +kernel
theorem dX2_init_0 : decode cX2_init 0 = .ok (.aload_n 0, 1) := by decide +kernel
theorem dX2_init_1 : decode cX2_init 1 = .ok (.invokespecial 3, 3) := by decide +kernel
theorem dX2_init_4 : decode cX2_init 4 = .ok (.aload_n 0, 1) := by decide +kernel
theorem dX2_init_5 : decode cX2_init 5 = .ok (.bipush 14, 2) := by decide +kernel
theorem dX2_init_7 : decode cX2_init 7 = .ok (.newarray .int, 2) := by decide +kernel
theorem dX2_init_9 : decode cX2_init 9 = .ok (.putfield 9, 3) := by decide +kernel
theorem dX2_init_12 : decode cX2_init 12 = .ok (.aload_n 0, 1) := by decide +kernel
theorem dX2_init_13 : decode cX2_init 13 = .ok (.bipush 14, 2) := by decide +kernel
theorem dX2_init_15 : decode cX2_init 15 = .ok (.newarray .int, 2) := by decide +kernel
theorem dX2_init_17 : decode cX2_init 17 = .ok (.putfield 15, 3) := by decide +kernel
theorem dX2_init_20 : decode cX2_init 20 = .ok (.aload_n 0, 1) := by decide +kernel
theorem dX2_init_21 : decode cX2_init 21 = .ok (.bipush 14, 2) := by decide +kernel
theorem dX2_init_23 : decode cX2_init 23 = .ok (.newarray .int, 2) := by decide +kernel
theorem dX2_init_25 : decode cX2_init 25 = .ok (.putfield 18, 3) := by decide +kernel
theorem dX2_init_28 : decode cX2_init 28 = .ok (.aload_n 0, 1) := by decide +kernel
theorem dX2_init_29 : decode cX2_init 29 = .ok (.iconst 0, 1) := by decide +kernel
theorem dX2_init_30 : decode cX2_init 30 = .ok (.putfield 21, 3) := by decide +kernel
theorem dX2_init_33 : decode cX2_init 33 = .ok (.return_, 1) := by decide +kernel
theorem dX2_note_0 : decode cX2_note 0 = .ok (.aload_n 0, 1) := by decide +kernel
theorem dX2_note_1 : decode cX2_note 1 = .ok (.getfield 21, 3) := by decide +kernel
theorem dX2_note_4 : decode cX2_note 4 = .ok (.bipush 14, 2) := by decide +kernel
theorem dX2_note_6 : decode cX2_note 6 = .ok (.if_icmp .lt 7, 3) := by decide +kernel
theorem dX2_note_9 : decode cX2_note 9 = .ok (.aload_n 0, 1) := by decide +kernel
theorem dX2_note_10 : decode cX2_note 10 = .ok (.invokevirtual 25, 3) := by decide +kernel
theorem dX2_note_13 : decode cX2_note 13 = .ok (.aload_n 0, 1) := by decide +kernel
theorem dX2_note_14 : decode cX2_note 14 = .ok (.getfield 9, 3) := by decide +kernel
theorem dX2_note_17 : decode cX2_note 17 = .ok (.aload_n 0, 1) := by decide +kernel
theorem dX2_note_18 : decode cX2_note 18 = .ok (.getfield 21, 3) := by decide +kernel
theorem dX2_note_21 : decode cX2_note 21 = .ok (.iload_n 1, 1) := by decide +kernel
theorem dX2_note_22 : decode cX2_note 22 = .ok (.iastore, 1) := by decide +kernel
theorem dX2_note_23 : decode cX2_note 23 = .ok (.aload_n 0, 1) := by decide +kernel
theorem dX2_note_24 : decode cX2_note 24 = .ok (.getfield 15, 3) := by decide +kernel
theorem dX2_note_27 : decode cX2_note 27 = .ok (.aload_n 0, 1) := by decide +kernel
theorem dX2_note_28 : decode cX2_note 28 = .ok (.getfield 21, 3) := by decide +kernel
theorem dX2_note_31 : decode cX2_note 31 = .ok (.iload_n 2, 1) := by decide +kernel
theorem dX2_note_32 : decode cX2_note 32 = .ok (.iastore, 1) := by decide +kernel
theorem dX2_note_33 : decode cX2_note 33 = .ok (.aload_n 0, 1) := by decide +kernel
theorem dX2_note_34 : decode cX2_note 34 = .ok (.getfield 18, 3) := by decide +kernel
theorem dX2_note_37 : decode cX2_note 37 = .ok (.aload_n 0, 1) := by decide +kernel
theorem dX2_note_38 : decode cX2_note 38 = .ok (.getfield 21, 3) := by decide +kernel
theorem dX2_note_41 : decode cX2_note 41 = .ok (.iload_n 3, 1) := by decide +kernel
theorem dX2_note_42 : decode cX2_note 42 = .ok (.iastore, 1) := by decide +kernel
theorem dX2_note_43 : decode cX2_note 43 = .ok (.aload_n 0, 1) := by decide +kernel
theorem dX2_note_44 : decode cX2_note 44 = .ok (.dup, 1) := by decide +kernel
theorem dX2_note_45 : decode cX2_note 45 = .ok (.getfield 21, 3) := by decide +kernel
theorem dX2_note_48 : decode cX2_note 48 = .ok (.iconst 1, 1) := by decide +kernel
theorem dX2_note_49 : decode cX2_note 49 = .ok (.iadd, 1) := by decide +kernel
theorem dX2_note_50 : decode cX2_note 50 = .ok (.putfield 21, 3) := by decide +kernel
theorem dX2_note_53 : decode cX2_note 53 = .ok (.return_, 1) := by decide +kernel
theorem dX2_forgetFirst_0 : decode cX2_forgetFirst 0 = .ok (.aload_n 0, 1) := by decide +kernel
theorem dX2_forgetFirst_1 : decode cX2_forgetFirst 1 = .ok (.bipush 13, 2) := by decide +kernel
theorem dX2_forgetFirst_3 : decode cX2_forgetFirst 3 = .ok (.putfield 21, 3) := by decide +kernel
theorem dX2_forgetFirst_6 : decode cX2_forgetFirst 6 = .ok (.aload_n 0, 1) := by decide +kernel
theorem dX2_forgetFirst_7 : decode cX2_forgetFirst 7 = .ok (.getfield 9, 3) := by decide +kernel
theorem dX2_forgetFirst_10 : decode cX2_forgetFirst 10 = .ok (.iconst 1, 1) := by decide +kernel
theorem dX2_forgetFirst_11 : decode cX2_forgetFirst 11 = .ok (.aload_n 0, 1) := by decide +kernel
theorem dX2_forgetFirst_12 : decode cX2_forgetFirst 12 = .ok (.getfield 9, 3) := by decide +kernel
theorem dX2_forgetFirst_15 : decode cX2_forgetFirst 15 = .ok (.iconst 0, 1) := by decide +kernel
theorem dX2_forgetFirst_16 : decode cX2_forgetFirst 16 = .ok (.aload_n 0, 1) := by decide +kernel
theorem dX2_forgetFirst_17 : decode cX2_forgetFirst 17 = .ok (.getfield 21, 3) := by decide +kernel
theorem dX2_forgetFirst_20 : decode cX2_forgetFirst 20 = .ok (.invokestatic 28, 3) := by decide +kernel
theorem dX2_forgetFirst_23 : decode cX2_forgetFirst 23 = .ok (.aload_n 0, 1) := by decide +kernel
theorem dX2_forgetFirst_24 : decode cX2_forgetFirst 24 = .ok (.getfield 15, 3) := by decide +kernel
theorem dX2_forgetFirst_27 : decode cX2_forgetFirst 27 = .ok (.iconst 1, 1) := by decide +kernel
theorem dX2_forgetFirst_28 : decode cX2_forgetFirst 28 = .ok (.aload_n 0, 1) := by decide +kernel
theorem dX2_forgetFirst_29 : decode cX2_forgetFirst 29 = .ok (.getfield 15, 3) := by decide +kernel
theorem dX2_forgetFirst_32 : decode cX2_forgetFirst 32 = .ok (.iconst 0, 1) := by decide +kernel
theorem dX2_forgetFirst_33 : decode cX2_forgetFirst 33 = .ok (.aload_n 0, 1) := by decide +kernel
theorem dX2_forgetFirst_34 : decode cX2_forgetFirst 34 = .ok (.getfield 21, 3) := by decide +kernel
theorem dX2_forgetFirst_37 : decode cX2_forgetFirst 37 = .ok (.invokestatic 28, 3) := by decide +kernel
theorem dX2_forgetFirst_40 : decode cX2_forgetFirst 40 = .ok (.aload_n 0, 1) := by decide +kernel
theorem dX2_forgetFirst_41 : decode cX2_forgetFirst 41 = .ok (.getfield 18, 3) := by decide +kernel
theorem dX2_forgetFirst_44 : decode cX2_forgetFirst 44 = .ok (.iconst 1, 1) := by decide +kernel
theorem dX2_forgetFirst_45 : decode cX2_forgetFirst 45 = .ok (.aload_n 0, 1) := by decide +kernel
theorem dX2_forgetFirst_46 : decode cX2_forgetFirst 46 = .ok (.getfield 18, 3) := by decide +kernel
theorem dX2_forgetFirst_49 : decode cX2_forgetFirst 49 = .ok (.iconst 0, 1) := by decide +kernel
theorem dX2_forgetFirst_50 : decode cX2_forgetFirst 50 = .ok (.aload_n 0, 1) := by decide +kernel
theorem dX2_forgetFirst_51 : decode cX2_forgetFirst 51 = .ok (.getfield 21, 3) := by decide +kernel
theorem dX2_forgetFirst_54 : decode cX2_forgetFirst 54 = .ok (.invokestatic 28, 3) := by decide +kernel
theorem dX2_forgetFirst_57 : decode cX2_forgetFirst 57 = .ok (.return_, 1) := by decide +kernel
theorem dX2_undoLast_0 : decode cX2_undoLast 0 = .ok (.aload_n 0, 1) := by decide +kernel
theorem dX2_undoLast_1 : decode cX2_undoLast 1 = .ok (.getfield 21, 3) := by decide +kernel
theorem dX2_undoLast_4 : decode cX2_undoLast 4 = .ok (.ifCond .gt 5, 3) := by decide +kernel
theorem dX2_undoLast_7 : decode cX2_undoLast 7 = .ok (.iconst 0, 1) := by decide +kernel
theorem dX2_undoLast_8 : decode cX2_undoLast 8 = .ok (.ireturn, 1) := by decide +kernel
theorem dX2_undoLast_9 : decode cX2_undoLast 9 = .ok (.aload_n 0, 1) := by decide +kernel
theorem dX2_undoLast_10 : decode cX2_undoLast 10 = .ok (.dup, 1) := by decide +kernel
theorem dX2_undoLast_11 : decode cX2_undoLast 11 = .ok (.getfield 21, 3) := by decide +kernel
theorem dX2_undoLast_14 : decode cX2_undoLast 14 = .ok (.iconst 1, 1) := by decide +kernel
theorem dX2_undoLast_15 : decode cX2_undoLast 15 = .ok (.isub, 1) := by decide +kernel
theorem dX2_undoLast_16 : decode cX2_undoLast 16 = .ok (.putfield 21, 3) := by decide +kernel
theorem dX2_undoLast_19 : decode cX2_undoLast 19 = .ok (.aload_n 1, 1) := by decide +kernel
theorem dX2_undoLast_20 : decode cX2_undoLast 20 = .ok (.aload_n 0, 1) := by decide +kernel
theorem dX2_undoLast_21 : decode cX2_undoLast 21 = .ok (.getfield 9, 3) := by decide +kernel
theorem dX2_undoLast_24 : decode cX2_undoLast 24 = .ok (.aload_n 0, 1) := by decide +kernel
theorem dX2_undoLast_25 : decode cX2_undoLast 25 = .ok (.getfield 21, 3) := by decide +kernel
theorem dX2_undoLast_28 : decode cX2_undoLast 28 = .ok (.iaload, 1) := by decide +kernel
theorem dX2_undoLast_29 : decode cX2_undoLast 29 = .ok (.aload_n 0, 1) := by decide +kernel
theorem dX2_undoLast_30 : decode cX2_undoLast 30 = .ok (.getfield 15, 3) := by decide +kernel
theorem dX2_undoLast_33 : decode cX2_undoLast 33 = .ok (.aload_n 0, 1) := by decide +kernel
theorem dX2_undoLast_34 : decode cX2_undoLast 34 = .ok (.getfield 21, 3) := by decide +kernel
theorem dX2_undoLast_37 : decode cX2_undoLast 37 = .ok (.iaload, 1) := by decide +kernel
theorem dX2_undoLast_38 : decode cX2_undoLast 38 = .ok (.aload_n 0, 1) := by decide +kernel
theorem dX2_undoLast_39 : decode cX2_undoLast 39 = .ok (.getfield 18, 3) := by decide +kernel
theorem dX2_undoLast_42 : decode cX2_undoLast 42 = .ok (.aload_n 0, 1) := by decide +kernel
theorem dX2_undoLast_43 : decode cX2_undoLast 43 = .ok (.getfield 21, 3) := by decide +kernel
theorem dX2_undoLast_46 : decode cX2_undoLast 46 = .ok (.iaload, 1) := by decide +kernel
theorem dX2_undoLast_47 : decode cX2_undoLast 47 = .ok (.invokevirtual 34, 3) := by decide +kernel
theorem dX2_undoLast_50 : decode cX2_undoLast 50 = .ok (.iconst 1, 1) := by decide +kernel
theorem dX2_undoLast_51 : decode cX2_undoLast 51 = .ok (.ireturn, 1) := by decide +kernel
theorem dX3_init_0 : decode cX3_init 0 = .ok (.aload_n 0, 1) := by decide +kernel
theorem dX3_init_1 : decode cX3_init 1 = .ok (.invokespecial 3, 3) := by decide +kernel
theorem dX3_init_4 : decode cX3_init 4 = .ok (.aload_n 0, 1) := by decide +kernel
theorem dX3_init_5 : decode cX3_init 5 = .ok (.bipush 10, 2) := by decide +kernel
theorem dX3_init_7 : decode cX3_init 7 = .ok (.newarray .long, 2) := by decide +kernel
theorem dX3_init_9 : decode cX3_init 9 = .ok (.putfield 9, 3) := by decide +kernel
theorem dX3_init_12 : decode cX3_init 12 = .ok (.return_, 1) := by decide +kernel
theorem dX3_none_0 : decode cX3_none 0 = .ok (.lconst 0, 1) := by decide +kernel
theorem dX3_none_1 : decode cX3_none 1 = .ok (.lreturn, 1) := by decide +kernel
theorem dX3_ended_0 : decode cX3_ended 0 = .ok (.ldc2_w 15, 3) := by decide +kernel
theorem dX3_ended_3 : decode cX3_ended 3 = .ok (.lreturn, 1) := by decide +kernel
theorem dX3_joined_0 : decode cX3_joined 0 = .ok (.lload_n 1, 1) := by decide +kernel
theorem dX3_joined_1 : decode cX3_joined 1 = .ok (.lload_n 3, 1) := by decide +kernel
theorem dX3_joined_2 : decode cX3_joined 2 = .ok (.lor, 1) := by decide +kernel
theorem dX3_joined_3 : decode cX3_joined 3 = .ok (.lreturn, 1) := by decide +kernel
theorem dX3_with_0 : decode cX3_with 0 = .ok (.lload_n 1, 1) := by decide +kernel
theorem dX3_with_1 : decode cX3_with 1 = .ok (.lload_n 3, 1) := by decide +kernel
theorem dX3_with_2 : decode cX3_with 2 = .ok (.aload_n 0, 1) := by decide +kernel
theorem dX3_with_3 : decode cX3_with 3 = .ok (.getfield 9, 3) := by decide +kernel
theorem dX3_with_6 : decode cX3_with 6 = .ok (.iload 5, 2) := by decide +kernel
theorem dX3_with_8 : decode cX3_with 8 = .ok (.laload, 1) := by decide +kernel
theorem dX3_with_9 : decode cX3_with 9 = .ok (.land, 1) := by decide +kernel
theorem dX3_with_10 : decode cX3_with 10 = .ok (.lor, 1) := by decide +kernel
theorem dX3_with_11 : decode cX3_with 11 = .ok (.lreturn, 1) := by decide +kernel
theorem dX4_init_0 : decode cX4_init 0 = .ok (.aload_n 0, 1) := by decide +kernel
theorem dX4_init_1 : decode cX4_init 1 = .ok (.invokespecial 3, 3) := by decide +kernel
theorem dX4_init_4 : decode cX4_init 4 = .ok (.aload_n 0, 1) := by decide +kernel
theorem dX4_init_5 : decode cX4_init 5 = .ok (.sipush 1944, 3) := by decide +kernel
theorem dX4_init_8 : decode cX4_init 8 = .ok (.newarray .long, 2) := by decide +kernel
theorem dX4_init_10 : decode cX4_init 10 = .ok (.putfield 9, 3) := by decide +kernel
theorem dX4_init_13 : decode cX4_init 13 = .ok (.aload_n 0, 1) := by decide +kernel
theorem dX4_init_14 : decode cX4_init 14 = .ok (.sipush 1944, 3) := by decide +kernel
theorem dX4_init_17 : decode cX4_init 17 = .ok (.newarray .int, 2) := by decide +kernel
theorem dX4_init_19 : decode cX4_init 19 = .ok (.putfield 15, 3) := by decide +kernel
theorem dX4_init_22 : decode cX4_init 22 = .ok (.aload_n 0, 1) := by decide +kernel
theorem dX4_init_23 : decode cX4_init 23 = .ok (.sipush 1944, 3) := by decide +kernel
theorem dX4_init_26 : decode cX4_init 26 = .ok (.newarray .int, 2) := by decide +kernel
theorem dX4_init_28 : decode cX4_init 28 = .ok (.putfield 19, 3) := by decide +kernel
theorem dX4_init_31 : decode cX4_init 31 = .ok (.aload_n 0, 1) := by decide +kernel
theorem dX4_init_32 : decode cX4_init 32 = .ok (.sipush 1944, 3) := by decide +kernel
theorem dX4_init_35 : decode cX4_init 35 = .ok (.newarray .int, 2) := by decide +kernel
theorem dX4_init_37 : decode cX4_init 37 = .ok (.putfield 22, 3) := by decide +kernel
theorem dX4_init_40 : decode cX4_init 40 = .ok (.aload_n 0, 1) := by decide +kernel
theorem dX4_init_41 : decode cX4_init 41 = .ok (.bipush 8, 2) := by decide +kernel
theorem dX4_init_43 : decode cX4_init 43 = .ok (.newarray .int, 2) := by decide +kernel
theorem dX4_init_45 : decode cX4_init 45 = .ok (.putfield 25, 3) := by decide +kernel
theorem dX4_init_48 : decode cX4_init 48 = .ok (.aload_n 0, 1) := by decide +kernel
theorem dX4_init_49 : decode cX4_init 49 = .ok (.bipush 10, 2) := by decide +kernel
theorem dX4_init_51 : decode cX4_init 51 = .ok (.newarray .int, 2) := by decide +kernel
theorem dX4_init_53 : decode cX4_init 53 = .ok (.putfield 28, 3) := by decide +kernel
theorem dX4_init_56 : decode cX4_init 56 = .ok (.aload_n 0, 1) := by decide +kernel
theorem dX4_init_57 : decode cX4_init 57 = .ok (.iconst 4, 1) := by decide +kernel
theorem dX4_init_58 : decode cX4_init 58 = .ok (.newarray .long, 2) := by decide +kernel
theorem dX4_init_60 : decode cX4_init 60 = .ok (.putfield 31, 3) := by decide +kernel
theorem dX4_init_63 : decode cX4_init 63 = .ok (.aload_n 0, 1) := by decide +kernel
theorem dX4_init_64 : decode cX4_init 64 = .ok (.iconst 0, 1) := by decide +kernel
theorem dX4_init_65 : decode cX4_init 65 = .ok (.putfield 34, 3) := by decide +kernel
theorem dX4_init_68 : decode cX4_init 68 = .ok (.aload_n 0, 1) := by decide +kernel
theorem dX4_init_69 : decode cX4_init 69 = .ok (.iconst 0, 1) := by decide +kernel
theorem dX4_init_70 : decode cX4_init 70 = .ok (.putfield 38, 3) := by decide +kernel
theorem dX4_init_73 : decode cX4_init 73 = .ok (.aload_n 0, 1) := by decide +kernel
theorem dX4_init_74 : decode cX4_init 74 = .ok (.iconst 0, 1) := by decide +kernel
theorem dX4_init_75 : decode cX4_init 75 = .ok (.putfield 41, 3) := by decide +kernel
theorem dX4_init_78 : decode cX4_init 78 = .ok (.aload_n 0, 1) := by decide +kernel
theorem dX4_init_79 : decode cX4_init 79 = .ok (.aload_n 1, 1) := by decide +kernel
theorem dX4_init_80 : decode cX4_init 80 = .ok (.putfield 44, 3) := by decide +kernel
theorem dX4_init_83 : decode cX4_init 83 = .ok (.aload_n 0, 1) := by decide +kernel
theorem dX4_init_84 : decode cX4_init 84 = .ok (.aload_n 2, 1) := by decide +kernel
theorem dX4_init_85 : decode cX4_init 85 = .ok (.putfield 48, 3) := by decide +kernel
theorem dX4_init_88 : decode cX4_init 88 = .ok (.return_, 1) := by decide +kernel
theorem dX4_lay_0 : decode cX4_lay 0 = .ok (.aload_n 0, 1) := by decide +kernel
theorem dX4_lay_1 : decode cX4_lay 1 = .ok (.invokevirtual 52, 3) := by decide +kernel
theorem dX4_lay_4 : decode cX4_lay 4 = .ok (.aload_n 0, 1) := by decide +kernel
theorem dX4_lay_5 : decode cX4_lay 5 = .ok (.iconst 0, 1) := by decide +kernel
theorem dX4_lay_6 : decode cX4_lay 6 = .ok (.putfield 34, 3) := by decide +kernel
theorem dX4_lay_9 : decode cX4_lay 9 = .ok (.iconst 0, 1) := by decide +kernel
theorem dX4_lay_10 : decode cX4_lay 10 = .ok (.istore_n 1, 1) := by decide +kernel
theorem dX4_lay_11 : decode cX4_lay 11 = .ok (.iload_n 1, 1) := by decide +kernel
theorem dX4_lay_12 : decode cX4_lay 12 = .ok (.aload_n 0, 1) := by decide +kernel
theorem dX4_lay_13 : decode cX4_lay 13 = .ok (.getfield 41, 3) := by decide +kernel
theorem dX4_lay_16 : decode cX4_lay 16 = .ok (.if_icmp .gt 16, 3) := by decide +kernel
theorem dX4_lay_19 : decode cX4_lay 19 = .ok (.aload_n 0, 1) := by decide +kernel
theorem dX4_lay_20 : decode cX4_lay 20 = .ok (.getfield 15, 3) := by decide +kernel
theorem dX4_lay_23 : decode cX4_lay 23 = .ok (.iload_n 1, 1) := by decide +kernel
theorem dX4_lay_24 : decode cX4_lay 24 = .ok (.iconst 0, 1) := by decide +kernel
theorem dX4_lay_25 : decode cX4_lay 25 = .ok (.iastore, 1) := by decide +kernel
theorem dX4_lay_26 : decode cX4_lay 26 = .ok (.iinc 1 1, 3) := by decide +kernel
theorem dX4_lay_29 : decode cX4_lay 29 = .ok (.goto (-18), 3) := by decide +kernel
theorem dX4_lay_32 : decode cX4_lay 32 = .ok (.aload_n 0, 1) := by decide +kernel
theorem dX4_lay_33 : decode cX4_lay 33 = .ok (.getfield 9, 3) := by decide +kernel
theorem dX4_lay_36 : decode cX4_lay 36 = .ok (.aload_n 0, 1) := by decide +kernel
theorem dX4_lay_37 : decode cX4_lay 37 = .ok (.getfield 41, 3) := by decide +kernel
theorem dX4_lay_40 : decode cX4_lay 40 = .ok (.aload_n 0, 1) := by decide +kernel
theorem dX4_lay_41 : decode cX4_lay 41 = .ok (.getfield 48, 3) := by decide +kernel
theorem dX4_lay_44 : decode cX4_lay 44 = .ok (.invokevirtual 55, 3) := by decide +kernel
theorem dX4_lay_47 : decode cX4_lay 47 = .ok (.lastore, 1) := by decide +kernel
theorem dX4_lay_48 : decode cX4_lay 48 = .ok (.aload_n 0, 1) := by decide +kernel
theorem dX4_lay_49 : decode cX4_lay 49 = .ok (.aload_n 0, 1) := by decide +kernel
theorem dX4_lay_50 : decode cX4_lay 50 = .ok (.getfield 9, 3) := by decide +kernel
theorem dX4_lay_53 : decode cX4_lay 53 = .ok (.aload_n 0, 1) := by decide +kernel
theorem dX4_lay_54 : decode cX4_lay 54 = .ok (.getfield 41, 3) := by decide +kernel
theorem dX4_lay_57 : decode cX4_lay 57 = .ok (.laload, 1) := by decide +kernel
theorem dX4_lay_58 : decode cX4_lay 58 = .ok (.invokevirtual 61, 3) := by decide +kernel
theorem dX4_lay_61 : decode cX4_lay 61 = .ok (.aload_n 0, 1) := by decide +kernel
theorem dX4_lay_62 : decode cX4_lay 62 = .ok (.getfield 41, 3) := by decide +kernel
theorem dX4_lay_65 : decode cX4_lay 65 = .ok (.ifCond .le 14, 3) := by decide +kernel
theorem dX4_lay_68 : decode cX4_lay 68 = .ok (.aload_n 0, 1) := by decide +kernel
theorem dX4_lay_69 : decode cX4_lay 69 = .ok (.getfield 15, 3) := by decide +kernel
theorem dX4_lay_72 : decode cX4_lay 72 = .ok (.aload_n 0, 1) := by decide +kernel
theorem dX4_lay_73 : decode cX4_lay 73 = .ok (.getfield 41, 3) := by decide +kernel
theorem dX4_lay_76 : decode cX4_lay 76 = .ok (.bipush 16, 2) := by decide +kernel
theorem dX4_lay_78 : decode cX4_lay 78 = .ok (.iastore, 1) := by decide +kernel
theorem dX4_lay_79 : decode cX4_lay 79 = .ok (.aload_n 0, 1) := by decide +kernel
theorem dX4_lay_80 : decode cX4_lay 80 = .ok (.getfield 41, 3) := by decide +kernel
theorem dX4_lay_83 : decode cX4_lay 83 = .ok (.istore_n 1, 1) := by decide +kernel
theorem dX4_lay_84 : decode cX4_lay 84 = .ok (.iload_n 1, 1) := by decide +kernel
theorem dX4_lay_85 : decode cX4_lay 85 = .ok (.ifCond .le 43, 3) := by decide +kernel
theorem dX4_lay_88 : decode cX4_lay 88 = .ok (.aload_n 0, 1) := by decide +kernel
theorem dX4_lay_89 : decode cX4_lay 89 = .ok (.getfield 15, 3) := by decide +kernel
theorem dX4_lay_92 : decode cX4_lay 92 = .ok (.iload_n 1, 1) := by decide +kernel
theorem dX4_lay_93 : decode cX4_lay 93 = .ok (.iaload, 1) := by decide +kernel
theorem dX4_lay_94 : decode cX4_lay 94 = .ok (.ifCond .eq 28, 3) := by decide +kernel
theorem dX4_lay_97 : decode cX4_lay 97 = .ok (.aload_n 0, 1) := by decide +kernel
theorem dX4_lay_98 : decode cX4_lay 98 = .ok (.getfield 22, 3) := by decide +kernel
theorem dX4_lay_101 : decode cX4_lay 101 = .ok (.aload_n 0, 1) := by decide +kernel
theorem dX4_lay_102 : decode cX4_lay 102 = .ok (.getfield 34, 3) := by decide +kernel
theorem dX4_lay_105 : decode cX4_lay 105 = .ok (.iload_n 1, 1) := by decide +kernel
theorem dX4_lay_106 : decode cX4_lay 106 = .ok (.iastore, 1) := by decide +kernel
theorem dX4_lay_107 : decode cX4_lay 107 = .ok (.aload_n 0, 1) := by decide +kernel
theorem dX4_lay_108 : decode cX4_lay 108 = .ok (.dup, 1) := by decide +kernel
theorem dX4_lay_109 : decode cX4_lay 109 = .ok (.getfield 34, 3) := by decide +kernel
theorem dX4_lay_112 : decode cX4_lay 112 = .ok (.iconst 1, 1) := by decide +kernel
theorem dX4_lay_113 : decode cX4_lay 113 = .ok (.iadd, 1) := by decide +kernel
theorem dX4_lay_114 : decode cX4_lay 114 = .ok (.putfield 34, 3) := by decide +kernel
theorem dX4_lay_117 : decode cX4_lay 117 = .ok (.aload_n 0, 1) := by decide +kernel
theorem dX4_lay_118 : decode cX4_lay 118 = .ok (.iload_n 1, 1) := by decide +kernel
theorem dX4_lay_119 : decode cX4_lay 119 = .ok (.invokevirtual 65, 3) := by decide +kernel
theorem dX4_lay_122 : decode cX4_lay 122 = .ok (.iinc 1 (-1), 3) := by decide +kernel
theorem dX4_lay_125 : decode cX4_lay 125 = .ok (.goto (-41), 3) := by decide +kernel
theorem dX4_lay_128 : decode cX4_lay 128 = .ok (.return_, 1) := by decide +kernel
theorem dX4_reachesEnd_0 : decode cX4_reachesEnd 0 = .ok (.aload_n 0, 1) := by decide +kernel
theorem dX4_reachesEnd_1 : decode cX4_reachesEnd 1 = .ok (.getfield 15, 3) := by decide +kernel
theorem dX4_reachesEnd_4 : decode cX4_reachesEnd 4 = .ok (.iconst 0, 1) := by decide +kernel
theorem dX4_reachesEnd_5 : decode cX4_reachesEnd 5 = .ok (.iaload, 1) := by decide +kernel
theorem dX4_reachesEnd_6 : decode cX4_reachesEnd 6 = .ok (.ifCond .eq 7, 3) := by decide +kernel
theorem dX4_reachesEnd_9 : decode cX4_reachesEnd 9 = .ok (.iconst 1, 1) := by decide +kernel
theorem dX4_reachesEnd_10 : decode cX4_reachesEnd 10 = .ok (.goto 4, 3) := by decide +kernel
theorem dX4_reachesEnd_13 : decode cX4_reachesEnd 13 = .ok (.iconst 0, 1) := by decide +kernel
theorem dX4_reachesEnd_14 : decode cX4_reachesEnd 14 = .ok (.ireturn, 1) := by decide +kernel
theorem dX4_measure_0 : decode cX4_measure 0 = .ok (.iconst 1, 1) := by decide +kernel
theorem dX4_measure_1 : decode cX4_measure 1 = .ok (.istore_n 1, 1) := by decide +kernel
theorem dX4_measure_2 : decode cX4_measure 2 = .ok (.iconst 0, 1) := by decide +kernel
theorem dX4_measure_3 : decode cX4_measure 3 = .ok (.istore_n 2, 1) := by decide +kernel
theorem dX4_measure_4 : decode cX4_measure 4 = .ok (.iload_n 2, 1) := by decide +kernel
theorem dX4_measure_5 : decode cX4_measure 5 = .ok (.bipush 8, 2) := by decide +kernel
theorem dX4_measure_7 : decode cX4_measure 7 = .ok (.if_icmp .ge 30, 3) := by decide +kernel
theorem dX4_measure_10 : decode cX4_measure 10 = .ok (.aload_n 0, 1) := by decide +kernel
theorem dX4_measure_11 : decode cX4_measure 11 = .ok (.getfield 25, 3) := by decide +kernel
theorem dX4_measure_14 : decode cX4_measure 14 = .ok (.iload_n 2, 1) := by decide +kernel
theorem dX4_measure_15 : decode cX4_measure 15 = .ok (.iload_n 1, 1) := by decide +kernel
theorem dX4_measure_16 : decode cX4_measure 16 = .ok (.iastore, 1) := by decide +kernel
theorem dX4_measure_17 : decode cX4_measure 17 = .ok (.iload_n 1, 1) := by decide +kernel
theorem dX4_measure_18 : decode cX4_measure 18 = .ok (.aload_n 0, 1) := by decide +kernel
theorem dX4_measure_19 : decode cX4_measure 19 = .ok (.getfield 48, 3) := by decide +kernel
theorem dX4_measure_22 : decode cX4_measure 22 = .ok (.getfield 69, 3) := by decide +kernel
theorem dX4_measure_25 : decode cX4_measure 25 = .ok (.iload_n 2, 1) := by decide +kernel
theorem dX4_measure_26 : decode cX4_measure 26 = .ok (.iaload, 1) := by decide +kernel
theorem dX4_measure_27 : decode cX4_measure 27 = .ok (.iconst 1, 1) := by decide +kernel
theorem dX4_measure_28 : decode cX4_measure 28 = .ok (.iadd, 1) := by decide +kernel
theorem dX4_measure_29 : decode cX4_measure 29 = .ok (.imul, 1) := by decide +kernel
theorem dX4_measure_30 : decode cX4_measure 30 = .ok (.istore_n 1, 1) := by decide +kernel
theorem dX4_measure_31 : decode cX4_measure 31 = .ok (.iinc 2 1, 3) := by decide +kernel
theorem dX4_measure_34 : decode cX4_measure 34 = .ok (.goto (-30), 3) := by decide +kernel
theorem dX4_measure_37 : decode cX4_measure 37 = .ok (.aload_n 0, 1) := by decide +kernel
theorem dX4_measure_38 : decode cX4_measure 38 = .ok (.iload_n 1, 1) := by decide +kernel
theorem dX4_measure_39 : decode cX4_measure 39 = .ok (.iconst 1, 1) := by decide +kernel
theorem dX4_measure_40 : decode cX4_measure 40 = .ok (.if_icmp .lt 16, 3) := by decide +kernel
theorem dX4_measure_43 : decode cX4_measure 43 = .ok (.iload_n 1, 1) := by decide +kernel
theorem dX4_measure_44 : decode cX4_measure 44 = .ok (.sipush 1944, 3) := by decide +kernel
theorem dX4_measure_47 : decode cX4_measure 47 = .ok (.if_icmp .gt 9, 3) := by decide +kernel
theorem dX4_measure_50 : decode cX4_measure 50 = .ok (.iload_n 1, 1) := by decide +kernel
theorem dX4_measure_51 : decode cX4_measure 51 = .ok (.iconst 1, 1) := by decide +kernel
theorem dX4_measure_52 : decode cX4_measure 52 = .ok (.isub, 1) := by decide +kernel
theorem dX4_measure_53 : decode cX4_measure 53 = .ok (.goto 4, 3) := by decide +kernel
theorem dX4_measure_56 : decode cX4_measure 56 = .ok (.iconst 0, 1) := by decide +kernel
theorem dX4_measure_57 : decode cX4_measure 57 = .ok (.putfield 41, 3) := by decide +kernel
theorem dX4_measure_60 : decode cX4_measure 60 = .ok (.return_, 1) := by decide +kernel
theorem dX4_listSteps_0 : decode cX4_listSteps 0 = .ok (.aload_n 0, 1) := by decide +kernel
theorem dX4_listSteps_1 : decode cX4_listSteps 1 = .ok (.iconst 0, 1) := by decide +kernel
theorem dX4_listSteps_2 : decode cX4_listSteps 2 = .ok (.putfield 38, 3) := by decide +kernel
theorem dX4_listSteps_5 : decode cX4_listSteps 5 = .ok (.iconst 0, 1) := by decide +kernel
theorem dX4_listSteps_6 : decode cX4_listSteps 6 = .ok (.istore_n 3, 1) := by decide +kernel
theorem dX4_listSteps_7 : decode cX4_listSteps 7 = .ok (.iload_n 3, 1) := by decide +kernel
theorem dX4_listSteps_8 : decode cX4_listSteps 8 = .ok (.aload_n 0, 1) := by decide +kernel
theorem dX4_listSteps_9 : decode cX4_listSteps 9 = .ok (.getfield 44, 3) := by decide +kernel
theorem dX4_listSteps_12 : decode cX4_listSteps 12 = .ok (.getfield 72, 3) := by decide +kernel
theorem dX4_listSteps_15 : decode cX4_listSteps 15 = .ok (.if_icmp .ge 104, 3) := by decide +kernel
theorem dX4_listSteps_18 : decode cX4_listSteps 18 = .ok (.aload_n 0, 1) := by decide +kernel
theorem dX4_listSteps_19 : decode cX4_listSteps 19 = .ok (.getfield 48, 3) := by decide +kernel
theorem dX4_listSteps_22 : decode cX4_listSteps 22 = .ok (.getfield 77, 3) := by decide +kernel
theorem dX4_listSteps_25 : decode cX4_listSteps 25 = .ok (.iload_n 3, 1) := by decide +kernel
theorem dX4_listSteps_26 : decode cX4_listSteps 26 = .ok (.ishr, 1) := by decide +kernel
theorem dX4_listSteps_27 : decode cX4_listSteps 27 = .ok (.iconst 1, 1) := by decide +kernel
theorem dX4_listSteps_28 : decode cX4_listSteps 28 = .ok (.iand, 1) := by decide +kernel
theorem dX4_listSteps_29 : decode cX4_listSteps 29 = .ok (.ifCond .ne 84, 3) := by decide +kernel
theorem dX4_listSteps_32 : decode cX4_listSteps 32 = .ok (.lload_n 1, 1) := by decide +kernel
theorem dX4_listSteps_33 : decode cX4_listSteps 33 = .ok (.aload_n 0, 1) := by decide +kernel
theorem dX4_listSteps_34 : decode cX4_listSteps 34 = .ok (.getfield 44, 3) := by decide +kernel
theorem dX4_listSteps_37 : decode cX4_listSteps 37 = .ok (.getfield 80, 3) := by decide +kernel
theorem dX4_listSteps_40 : decode cX4_listSteps 40 = .ok (.iload_n 3, 1) := by decide +kernel
theorem dX4_listSteps_41 : decode cX4_listSteps 41 = .ok (.laload, 1) := by decide +kernel
theorem dX4_listSteps_42 : decode cX4_listSteps 42 = .ok (.invokestatic 81, 3) := by decide +kernel
theorem dX4_listSteps_45 : decode cX4_listSteps 45 = .ok (.ifCond .ne 6, 3) := by decide +kernel
theorem dX4_listSteps_48 : decode cX4_listSteps 48 = .ok (.goto 65, 3) := by decide +kernel
theorem dX4_listSteps_51 : decode cX4_listSteps 51 = .ok (.aload_n 0, 1) := by decide +kernel
theorem dX4_listSteps_52 : decode cX4_listSteps 52 = .ok (.dup, 1) := by decide +kernel
theorem dX4_listSteps_53 : decode cX4_listSteps 53 = .ok (.getfield 38, 3) := by decide +kernel
theorem dX4_listSteps_56 : decode cX4_listSteps 56 = .ok (.iconst 1, 1) := by decide +kernel
theorem dX4_listSteps_57 : decode cX4_listSteps 57 = .ok (.iload_n 3, 1) := by decide +kernel
theorem dX4_listSteps_58 : decode cX4_listSteps 58 = .ok (.ishl, 1) := by decide +kernel
theorem dX4_listSteps_59 : decode cX4_listSteps 59 = .ok (.ior, 1) := by decide +kernel
theorem dX4_listSteps_60 : decode cX4_listSteps 60 = .ok (.putfield 38, 3) := by decide +kernel
theorem dX4_listSteps_63 : decode cX4_listSteps 63 = .ok (.iconst 0, 1) := by decide +kernel
theorem dX4_listSteps_64 : decode cX4_listSteps 64 = .ok (.istore 4, 2) := by decide +kernel
theorem dX4_listSteps_66 : decode cX4_listSteps 66 = .ok (.iconst 0, 1) := by decide +kernel
theorem dX4_listSteps_67 : decode cX4_listSteps 67 = .ok (.istore 5, 2) := by decide +kernel
theorem dX4_listSteps_69 : decode cX4_listSteps 69 = .ok (.iload 5, 2) := by decide +kernel
theorem dX4_listSteps_71 : decode cX4_listSteps 71 = .ok (.bipush 8, 2) := by decide +kernel
theorem dX4_listSteps_73 : decode cX4_listSteps 73 = .ok (.if_icmp .ge 32, 3) := by decide +kernel
theorem dX4_listSteps_76 : decode cX4_listSteps 76 = .ok (.iload 4, 2) := by decide +kernel
theorem dX4_listSteps_78 : decode cX4_listSteps 78 = .ok (.aload_n 0, 1) := by decide +kernel
theorem dX4_listSteps_79 : decode cX4_listSteps 79 = .ok (.getfield 44, 3) := by decide +kernel
theorem dX4_listSteps_82 : decode cX4_listSteps 82 = .ok (.iload_n 3, 1) := by decide +kernel
theorem dX4_listSteps_83 : decode cX4_listSteps 83 = .ok (.iload 5, 2) := by decide +kernel
theorem dX4_listSteps_85 : decode cX4_listSteps 85 = .ok (.invokevirtual 85, 3) := by decide +kernel
theorem dX4_listSteps_88 : decode cX4_listSteps 88 = .ok (.aload_n 0, 1) := by decide +kernel
theorem dX4_listSteps_89 : decode cX4_listSteps 89 = .ok (.getfield 25, 3) := by decide +kernel
theorem dX4_listSteps_92 : decode cX4_listSteps 92 = .ok (.iload 5, 2) := by decide +kernel
theorem dX4_listSteps_94 : decode cX4_listSteps 94 = .ok (.iaload, 1) := by decide +kernel
theorem dX4_listSteps_95 : decode cX4_listSteps 95 = .ok (.imul, 1) := by decide +kernel
theorem dX4_listSteps_96 : decode cX4_listSteps 96 = .ok (.iadd, 1) := by decide +kernel
theorem dX4_listSteps_97 : decode cX4_listSteps 97 = .ok (.istore 4, 2) := by decide +kernel
theorem dX4_listSteps_99 : decode cX4_listSteps 99 = .ok (.iinc 5 1, 3) := by decide +kernel
theorem dX4_listSteps_102 : decode cX4_listSteps 102 = .ok (.goto (-33), 3) := by decide +kernel
theorem dX4_listSteps_105 : decode cX4_listSteps 105 = .ok (.aload_n 0, 1) := by decide +kernel
theorem dX4_listSteps_106 : decode cX4_listSteps 106 = .ok (.getfield 28, 3) := by decide +kernel
theorem dX4_listSteps_109 : decode cX4_listSteps 109 = .ok (.iload_n 3, 1) := by decide +kernel
theorem dX4_listSteps_110 : decode cX4_listSteps 110 = .ok (.iload 4, 2) := by decide +kernel
theorem dX4_listSteps_112 : decode cX4_listSteps 112 = .ok (.iastore, 1) := by decide +kernel
theorem dX4_listSteps_113 : decode cX4_listSteps 113 = .ok (.iinc 3 1, 3) := by decide +kernel
theorem dX4_listSteps_116 : decode cX4_listSteps 116 = .ok (.goto (-109), 3) := by decide +kernel
theorem dX4_listSteps_119 : decode cX4_listSteps 119 = .ok (.return_, 1) := by decide +kernel
theorem dX4_spread_0 : decode cX4_spread 0 = .ok (.aload_n 0, 1) := by decide +kernel
theorem dX4_spread_1 : decode cX4_spread 1 = .ok (.aload_n 0, 1) := by decide +kernel
theorem dX4_spread_2 : decode cX4_spread 2 = .ok (.getfield 15, 3) := by decide +kernel
theorem dX4_spread_5 : decode cX4_spread 5 = .ok (.iload_n 1, 1) := by decide +kernel
theorem dX4_spread_6 : decode cX4_spread 6 = .ok (.iaload, 1) := by decide +kernel
theorem dX4_spread_7 : decode cX4_spread 7 = .ok (.invokevirtual 89, 3) := by decide +kernel
theorem dX4_spread_10 : decode cX4_spread 10 = .ok (.istore_n 2, 1) := by decide +kernel
theorem dX4_spread_11 : decode cX4_spread 11 = .ok (.iconst 0, 1) := by decide +kernel
theorem dX4_spread_12 : decode cX4_spread 12 = .ok (.istore_n 3, 1) := by decide +kernel
theorem dX4_spread_13 : decode cX4_spread 13 = .ok (.iconst 0, 1) := by decide +kernel
theorem dX4_spread_14 : decode cX4_spread 14 = .ok (.istore 4, 2) := by decide +kernel
theorem dX4_spread_16 : decode cX4_spread 16 = .ok (.iload 4, 2) := by decide +kernel
theorem dX4_spread_18 : decode cX4_spread 18 = .ok (.aload_n 0, 1) := by decide +kernel
theorem dX4_spread_19 : decode cX4_spread 19 = .ok (.getfield 44, 3) := by decide +kernel
theorem dX4_spread_22 : decode cX4_spread 22 = .ok (.getfield 72, 3) := by decide +kernel
theorem dX4_spread_25 : decode cX4_spread 25 = .ok (.if_icmp .ge 151, 3) := by decide +kernel
theorem dX4_spread_28 : decode cX4_spread 28 = .ok (.aload_n 0, 1) := by decide +kernel
theorem dX4_spread_29 : decode cX4_spread 29 = .ok (.getfield 44, 3) := by decide +kernel
theorem dX4_spread_32 : decode cX4_spread 32 = .ok (.getfield 93, 3) := by decide +kernel
theorem dX4_spread_35 : decode cX4_spread 35 = .ok (.iload 4, 2) := by decide +kernel
theorem dX4_spread_37 : decode cX4_spread 37 = .ok (.iaload, 1) := by decide +kernel
theorem dX4_spread_38 : decode cX4_spread 38 = .ok (.istore 5, 2) := by decide +kernel
theorem dX4_spread_40 : decode cX4_spread 40 = .ok (.aload_n 0, 1) := by decide +kernel
theorem dX4_spread_41 : decode cX4_spread 41 = .ok (.getfield 38, 3) := by decide +kernel
theorem dX4_spread_44 : decode cX4_spread 44 = .ok (.iload 4, 2) := by decide +kernel
theorem dX4_spread_46 : decode cX4_spread 46 = .ok (.ishr, 1) := by decide +kernel
theorem dX4_spread_47 : decode cX4_spread 47 = .ok (.iconst 1, 1) := by decide +kernel
theorem dX4_spread_48 : decode cX4_spread 48 = .ok (.iand, 1) := by decide +kernel
theorem dX4_spread_49 : decode cX4_spread 49 = .ok (.ifCond .eq 121, 3) := by decide +kernel
theorem dX4_spread_52 : decode cX4_spread 52 = .ok (.iload_n 2, 1) := by decide +kernel
theorem dX4_spread_53 : decode cX4_spread 53 = .ok (.iload 5, 2) := by decide +kernel
theorem dX4_spread_55 : decode cX4_spread 55 = .ok (.ishr, 1) := by decide +kernel
theorem dX4_spread_56 : decode cX4_spread 56 = .ok (.iconst 1, 1) := by decide +kernel
theorem dX4_spread_57 : decode cX4_spread 57 = .ok (.iand, 1) := by decide +kernel
theorem dX4_spread_58 : decode cX4_spread 58 = .ok (.ifCond .eq 112, 3) := by decide +kernel
theorem dX4_spread_61 : decode cX4_spread 61 = .ok (.aload_n 0, 1) := by decide +kernel
theorem dX4_spread_62 : decode cX4_spread 62 = .ok (.getfield 9, 3) := by decide +kernel
theorem dX4_spread_65 : decode cX4_spread 65 = .ok (.iload_n 1, 1) := by decide +kernel
theorem dX4_spread_66 : decode cX4_spread 66 = .ok (.laload, 1) := by decide +kernel
theorem dX4_spread_67 : decode cX4_spread 67 = .ok (.aload_n 0, 1) := by decide +kernel
theorem dX4_spread_68 : decode cX4_spread 68 = .ok (.getfield 44, 3) := by decide +kernel
theorem dX4_spread_71 : decode cX4_spread 71 = .ok (.getfield 80, 3) := by decide +kernel
theorem dX4_spread_74 : decode cX4_spread 74 = .ok (.iload 4, 2) := by decide +kernel
theorem dX4_spread_76 : decode cX4_spread 76 = .ok (.laload, 1) := by decide +kernel
theorem dX4_spread_77 : decode cX4_spread 77 = .ok (.invokestatic 81, 3) := by decide +kernel
theorem dX4_spread_80 : decode cX4_spread 80 = .ok (.ifCond .ne 6, 3) := by decide +kernel
theorem dX4_spread_83 : decode cX4_spread 83 = .ok (.goto 87, 3) := by decide +kernel
theorem dX4_spread_86 : decode cX4_spread 86 = .ok (.iload_n 1, 1) := by decide +kernel
theorem dX4_spread_87 : decode cX4_spread 87 = .ok (.aload_n 0, 1) := by decide +kernel
theorem dX4_spread_88 : decode cX4_spread 88 = .ok (.getfield 28, 3) := by decide +kernel
theorem dX4_spread_91 : decode cX4_spread 91 = .ok (.iload 4, 2) := by decide +kernel
theorem dX4_spread_93 : decode cX4_spread 93 = .ok (.iaload, 1) := by decide +kernel
theorem dX4_spread_94 : decode cX4_spread 94 = .ok (.isub, 1) := by decide +kernel
theorem dX4_spread_95 : decode cX4_spread 95 = .ok (.istore 6, 2) := by decide +kernel
theorem dX4_spread_97 : decode cX4_spread 97 = .ok (.iload 6, 2) := by decide +kernel
theorem dX4_spread_99 : decode cX4_spread 99 = .ok (.ifCond .lt 71, 3) := by decide +kernel
theorem dX4_spread_102 : decode cX4_spread 102 = .ok (.iload 6, 2) := by decide +kernel
theorem dX4_spread_104 : decode cX4_spread 104 = .ok (.ifCond .ne 21, 3) := by decide +kernel
theorem dX4_spread_107 : decode cX4_spread 107 = .ok (.aload_n 0, 1) := by decide +kernel
theorem dX4_spread_108 : decode cX4_spread 108 = .ok (.getfield 48, 3) := by decide +kernel
theorem dX4_spread_111 : decode cX4_spread 111 = .ok (.getfield 96, 3) := by decide +kernel
theorem dX4_spread_114 : decode cX4_spread 114 = .ok (.iload 5, 2) := by decide +kernel
theorem dX4_spread_116 : decode cX4_spread 116 = .ok (.ishr, 1) := by decide +kernel
theorem dX4_spread_117 : decode cX4_spread 117 = .ok (.iconst 1, 1) := by decide +kernel
theorem dX4_spread_118 : decode cX4_spread 118 = .ok (.iand, 1) := by decide +kernel
theorem dX4_spread_119 : decode cX4_spread 119 = .ok (.ifCond .ne 6, 3) := by decide +kernel
theorem dX4_spread_122 : decode cX4_spread 122 = .ok (.goto 48, 3) := by decide +kernel
theorem dX4_spread_125 : decode cX4_spread 125 = .ok (.iload_n 3, 1) := by decide +kernel
theorem dX4_spread_126 : decode cX4_spread 126 = .ok (.iconst 1, 1) := by decide +kernel
theorem dX4_spread_127 : decode cX4_spread 127 = .ok (.iload 4, 2) := by decide +kernel
theorem dX4_spread_129 : decode cX4_spread 129 = .ok (.ishl, 1) := by decide +kernel
theorem dX4_spread_130 : decode cX4_spread 130 = .ok (.ior, 1) := by decide +kernel
theorem dX4_spread_131 : decode cX4_spread 131 = .ok (.istore_n 3, 1) := by decide +kernel
theorem dX4_spread_132 : decode cX4_spread 132 = .ok (.aload_n 0, 1) := by decide +kernel
theorem dX4_spread_133 : decode cX4_spread 133 = .ok (.getfield 15, 3) := by decide +kernel
theorem dX4_spread_136 : decode cX4_spread 136 = .ok (.iload 6, 2) := by decide +kernel
theorem dX4_spread_138 : decode cX4_spread 138 = .ok (.dup2, 1) := by decide +kernel
theorem dX4_spread_139 : decode cX4_spread 139 = .ok (.iaload, 1) := by decide +kernel
theorem dX4_spread_140 : decode cX4_spread 140 = .ok (.iconst 1, 1) := by decide +kernel
theorem dX4_spread_141 : decode cX4_spread 141 = .ok (.iload 5, 2) := by decide +kernel
theorem dX4_spread_143 : decode cX4_spread 143 = .ok (.ishl, 1) := by decide +kernel
theorem dX4_spread_144 : decode cX4_spread 144 = .ok (.ior, 1) := by decide +kernel
theorem dX4_spread_145 : decode cX4_spread 145 = .ok (.iastore, 1) := by decide +kernel
theorem dX4_spread_146 : decode cX4_spread 146 = .ok (.aload_n 0, 1) := by decide +kernel
theorem dX4_spread_147 : decode cX4_spread 147 = .ok (.getfield 9, 3) := by decide +kernel
theorem dX4_spread_150 : decode cX4_spread 150 = .ok (.iload 6, 2) := by decide +kernel
theorem dX4_spread_152 : decode cX4_spread 152 = .ok (.aload_n 0, 1) := by decide +kernel
theorem dX4_spread_153 : decode cX4_spread 153 = .ok (.getfield 9, 3) := by decide +kernel
theorem dX4_spread_156 : decode cX4_spread 156 = .ok (.iload_n 1, 1) := by decide +kernel
theorem dX4_spread_157 : decode cX4_spread 157 = .ok (.laload, 1) := by decide +kernel
theorem dX4_spread_158 : decode cX4_spread 158 = .ok (.aload_n 0, 1) := by decide +kernel
theorem dX4_spread_159 : decode cX4_spread 159 = .ok (.getfield 44, 3) := by decide +kernel
theorem dX4_spread_162 : decode cX4_spread 162 = .ok (.getfield 80, 3) := by decide +kernel
theorem dX4_spread_165 : decode cX4_spread 165 = .ok (.iload 4, 2) := by decide +kernel
theorem dX4_spread_167 : decode cX4_spread 167 = .ok (.laload, 1) := by decide +kernel
theorem dX4_spread_168 : decode cX4_spread 168 = .ok (.lsub, 1) := by decide +kernel
theorem dX4_spread_169 : decode cX4_spread 169 = .ok (.lastore, 1) := by decide +kernel
theorem dX4_spread_170 : decode cX4_spread 170 = .ok (.iinc 4 1, 3) := by decide +kernel
theorem dX4_spread_173 : decode cX4_spread 173 = .ok (.goto (-157), 3) := by decide +kernel
theorem dX4_spread_176 : decode cX4_spread 176 = .ok (.aload_n 0, 1) := by decide +kernel
theorem dX4_spread_177 : decode cX4_spread 177 = .ok (.getfield 19, 3) := by decide +kernel
theorem dX4_spread_180 : decode cX4_spread 180 = .ok (.iload_n 1, 1) := by decide +kernel
theorem dX4_spread_181 : decode cX4_spread 181 = .ok (.iload_n 3, 1) := by decide +kernel
theorem dX4_spread_182 : decode cX4_spread 182 = .ok (.iastore, 1) := by decide +kernel
theorem dX4_spread_183 : decode cX4_spread 183 = .ok (.return_, 1) := by decide +kernel
theorem dX4_letBehind_0 : decode cX4_letBehind 0 = .ok (.iload_n 1, 1) := by decide +kernel
theorem dX4_letBehind_1 : decode cX4_letBehind 1 = .ok (.bipush 16, 2) := by decide +kernel
theorem dX4_letBehind_3 : decode cX4_letBehind 3 = .ok (.iand, 1) := by decide +kernel
theorem dX4_letBehind_4 : decode cX4_letBehind 4 = .ok (.ifCond .eq 11, 3) := by decide +kernel
theorem dX4_letBehind_7 : decode cX4_letBehind 7 = .ok (.aload_n 0, 1) := by decide +kernel
theorem dX4_letBehind_8 : decode cX4_letBehind 8 = .ok (.getfield 48, 3) := by decide +kernel
theorem dX4_letBehind_11 : decode cX4_letBehind 11 = .ok (.getfield 99, 3) := by decide +kernel
theorem dX4_letBehind_14 : decode cX4_letBehind 14 = .ok (.ireturn, 1) := by decide +kernel
theorem dX4_letBehind_15 : decode cX4_letBehind 15 = .ok (.iconst 0, 1) := by decide +kernel
theorem dX4_letBehind_16 : decode cX4_letBehind 16 = .ok (.istore_n 2, 1) := by decide +kernel
theorem dX4_letBehind_17 : decode cX4_letBehind 17 = .ok (.iconst 0, 1) := by decide +kernel
theorem dX4_letBehind_18 : decode cX4_letBehind 18 = .ok (.istore_n 3, 1) := by decide +kernel
theorem dX4_letBehind_19 : decode cX4_letBehind 19 = .ok (.iload_n 3, 1) := by decide +kernel
theorem dX4_letBehind_20 : decode cX4_letBehind 20 = .ok (.iconst 4, 1) := by decide +kernel
theorem dX4_letBehind_21 : decode cX4_letBehind 21 = .ok (.if_icmp .ge 29, 3) := by decide +kernel
theorem dX4_letBehind_24 : decode cX4_letBehind 24 = .ok (.iload_n 1, 1) := by decide +kernel
theorem dX4_letBehind_25 : decode cX4_letBehind 25 = .ok (.iload_n 3, 1) := by decide +kernel
theorem dX4_letBehind_26 : decode cX4_letBehind 26 = .ok (.ishr, 1) := by decide +kernel
theorem dX4_letBehind_27 : decode cX4_letBehind 27 = .ok (.iconst 1, 1) := by decide +kernel
theorem dX4_letBehind_28 : decode cX4_letBehind 28 = .ok (.iand, 1) := by decide +kernel
theorem dX4_letBehind_29 : decode cX4_letBehind 29 = .ok (.ifCond .eq 15, 3) := by decide +kernel
theorem dX4_letBehind_32 : decode cX4_letBehind 32 = .ok (.iload_n 2, 1) := by decide +kernel
theorem dX4_letBehind_33 : decode cX4_letBehind 33 = .ok (.aload_n 0, 1) := by decide +kernel
theorem dX4_letBehind_34 : decode cX4_letBehind 34 = .ok (.getfield 48, 3) := by decide +kernel
theorem dX4_letBehind_37 : decode cX4_letBehind 37 = .ok (.getfield 102, 3) := by decide +kernel
theorem dX4_letBehind_40 : decode cX4_letBehind 40 = .ok (.iload_n 3, 1) := by decide +kernel
theorem dX4_letBehind_41 : decode cX4_letBehind 41 = .ok (.iaload, 1) := by decide +kernel
theorem dX4_letBehind_42 : decode cX4_letBehind 42 = .ok (.ior, 1) := by decide +kernel
theorem dX4_letBehind_43 : decode cX4_letBehind 43 = .ok (.istore_n 2, 1) := by decide +kernel
theorem dX4_letBehind_44 : decode cX4_letBehind 44 = .ok (.iinc 3 1, 3) := by decide +kernel
theorem dX4_letBehind_47 : decode cX4_letBehind 47 = .ok (.goto (-28), 3) := by decide +kernel
theorem dX4_letBehind_50 : decode cX4_letBehind 50 = .ok (.iload_n 2, 1) := by decide +kernel
theorem dX4_letBehind_51 : decode cX4_letBehind 51 = .ok (.ireturn, 1) := by decide +kernel
theorem dX4_ground_0 : decode cX4_ground 0 = .ok (.iconst 0, 1) := by decide +kernel
theorem dX4_ground_1 : decode cX4_ground 1 = .ok (.istore_n 3, 1) := by decide +kernel
theorem dX4_ground_2 : decode cX4_ground 2 = .ok (.iload_n 3, 1) := by decide +kernel
theorem dX4_ground_3 : decode cX4_ground 3 = .ok (.iconst 4, 1) := by decide +kernel
theorem dX4_ground_4 : decode cX4_ground 4 = .ok (.if_icmp .ge 37, 3) := by decide +kernel
theorem dX4_ground_7 : decode cX4_ground 7 = .ok (.aload_n 2, 1) := by decide +kernel
theorem dX4_ground_8 : decode cX4_ground 8 = .ok (.iload_n 3, 1) := by decide +kernel
theorem dX4_ground_9 : decode cX4_ground 9 = .ok (.aload_n 0, 1) := by decide +kernel
theorem dX4_ground_10 : decode cX4_ground 10 = .ok (.getfield 48, 3) := by decide +kernel
theorem dX4_ground_13 : decode cX4_ground 13 = .ok (.getfield 96, 3) := by decide +kernel
theorem dX4_ground_16 : decode cX4_ground 16 = .ok (.iload_n 3, 1) := by decide +kernel
theorem dX4_ground_17 : decode cX4_ground 17 = .ok (.ishr, 1) := by decide +kernel
theorem dX4_ground_18 : decode cX4_ground 18 = .ok (.iconst 1, 1) := by decide +kernel
theorem dX4_ground_19 : decode cX4_ground 19 = .ok (.iand, 1) := by decide +kernel
theorem dX4_ground_20 : decode cX4_ground 20 = .ok (.ifCond .eq 10, 3) := by decide +kernel
theorem dX4_ground_23 : decode cX4_ground 23 = .ok (.aload_n 1, 1) := by decide +kernel
theorem dX4_ground_24 : decode cX4_ground 24 = .ok (.invokevirtual 105, 3) := by decide +kernel
theorem dX4_ground_27 : decode cX4_ground 27 = .ok (.goto 7, 3) := by decide +kernel
theorem dX4_ground_30 : decode cX4_ground 30 = .ok (.aload_n 1, 1) := by decide +kernel
theorem dX4_ground_31 : decode cX4_ground 31 = .ok (.invokevirtual 110, 3) := by decide +kernel
theorem dX4_ground_34 : decode cX4_ground 34 = .ok (.lastore, 1) := by decide +kernel
theorem dX4_ground_35 : decode cX4_ground 35 = .ok (.iinc 3 1, 3) := by decide +kernel
theorem dX4_ground_38 : decode cX4_ground 38 = .ok (.goto (-36), 3) := by decide +kernel
theorem dX4_ground_41 : decode cX4_ground 41 = .ok (.return_, 1) := by decide +kernel
theorem dX4_empty_0 : decode cX4_empty 0 = .ok (.iconst 0, 1) := by decide +kernel
theorem dX4_empty_1 : decode cX4_empty 1 = .ok (.istore_n 3, 1) := by decide +kernel
theorem dX4_empty_2 : decode cX4_empty 2 = .ok (.iload_n 3, 1) := by decide +kernel
theorem dX4_empty_3 : decode cX4_empty 3 = .ok (.aload_n 0, 1) := by decide +kernel
theorem dX4_empty_4 : decode cX4_empty 4 = .ok (.getfield 34, 3) := by decide +kernel
theorem dX4_empty_7 : decode cX4_empty 7 = .ok (.if_icmp .ge 53, 3) := by decide +kernel
theorem dX4_empty_10 : decode cX4_empty 10 = .ok (.iconst 0, 1) := by decide +kernel
theorem dX4_empty_11 : decode cX4_empty 11 = .ok (.istore 4, 2) := by decide +kernel
theorem dX4_empty_13 : decode cX4_empty 13 = .ok (.iload 4, 2) := by decide +kernel
theorem dX4_empty_15 : decode cX4_empty 15 = .ok (.iconst 4, 1) := by decide +kernel
theorem dX4_empty_16 : decode cX4_empty 16 = .ok (.if_icmp .ge 38, 3) := by decide +kernel
theorem dX4_empty_19 : decode cX4_empty 19 = .ok (.aload_n 0, 1) := by decide +kernel
theorem dX4_empty_20 : decode cX4_empty 20 = .ok (.getfield 22, 3) := by decide +kernel
theorem dX4_empty_23 : decode cX4_empty 23 = .ok (.iload_n 3, 1) := by decide +kernel
theorem dX4_empty_24 : decode cX4_empty 24 = .ok (.iaload, 1) := by decide +kernel
theorem dX4_empty_25 : decode cX4_empty 25 = .ok (.sipush 1296, 3) := by decide +kernel
theorem dX4_empty_28 : decode cX4_empty 28 = .ok (.if_icmp .ge 26, 3) := by decide +kernel
theorem dX4_empty_31 : decode cX4_empty 31 = .ok (.aload_n 2, 1) := by decide +kernel
theorem dX4_empty_32 : decode cX4_empty 32 = .ok (.aload_n 0, 1) := by decide +kernel
theorem dX4_empty_33 : decode cX4_empty 33 = .ok (.getfield 22, 3) := by decide +kernel
theorem dX4_empty_36 : decode cX4_empty 36 = .ok (.iload_n 3, 1) := by decide +kernel
theorem dX4_empty_37 : decode cX4_empty 37 = .ok (.iaload, 1) := by decide +kernel
theorem dX4_empty_38 : decode cX4_empty 38 = .ok (.iconst 4, 1) := by decide +kernel
theorem dX4_empty_39 : decode cX4_empty 39 = .ok (.imul, 1) := by decide +kernel
theorem dX4_empty_40 : decode cX4_empty 40 = .ok (.iload 4, 2) := by decide +kernel
theorem dX4_empty_42 : decode cX4_empty 42 = .ok (.iadd, 1) := by decide +kernel
theorem dX4_empty_43 : decode cX4_empty 43 = .ok (.aload_n 1, 1) := by decide +kernel
theorem dX4_empty_44 : decode cX4_empty 44 = .ok (.invokevirtual 110, 3) := by decide +kernel
theorem dX4_empty_47 : decode cX4_empty 47 = .ok (.lastore, 1) := by decide +kernel
theorem dX4_empty_48 : decode cX4_empty 48 = .ok (.iinc 4 1, 3) := by decide +kernel
theorem dX4_empty_51 : decode cX4_empty 51 = .ok (.goto (-38), 3) := by decide +kernel
theorem dX4_empty_54 : decode cX4_empty 54 = .ok (.iinc 3 1, 3) := by decide +kernel
theorem dX4_empty_57 : decode cX4_empty 57 = .ok (.goto (-55), 3) := by decide +kernel
theorem dX4_empty_60 : decode cX4_empty 60 = .ok (.return_, 1) := by decide +kernel
theorem dX4_fold_0 : decode cX4_fold 0 = .ok (.aload_n 1, 1) := by decide +kernel
theorem dX4_fold_1 : decode cX4_fold 1 = .ok (.invokevirtual 110, 3) := by decide +kernel
theorem dX4_fold_4 : decode cX4_fold 4 = .ok (.lstore 5, 2) := by decide +kernel
theorem dX4_fold_6 : decode cX4_fold 6 = .ok (.aload_n 0, 1) := by decide +kernel
theorem dX4_fold_7 : decode cX4_fold 7 = .ok (.getfield 41, 3) := by decide +kernel
theorem dX4_fold_10 : decode cX4_fold 10 = .ok (.sipush 1296, 3) := by decide +kernel
theorem dX4_fold_13 : decode cX4_fold 13 = .ok (.if_icmp .lt 6, 3) := by decide +kernel
theorem dX4_fold_16 : decode cX4_fold 16 = .ok (.lload 5, 2) := by decide +kernel
theorem dX4_fold_18 : decode cX4_fold 18 = .ok (.lreturn, 1) := by decide +kernel
theorem dX4_fold_19 : decode cX4_fold 19 = .ok (.aload_n 0, 1) := by decide +kernel
theorem dX4_fold_20 : decode cX4_fold 20 = .ok (.getfield 34, 3) := by decide +kernel
theorem dX4_fold_23 : decode cX4_fold 23 = .ok (.iconst 1, 1) := by decide +kernel
theorem dX4_fold_24 : decode cX4_fold 24 = .ok (.isub, 1) := by decide +kernel
theorem dX4_fold_25 : decode cX4_fold 25 = .ok (.istore 7, 2) := by decide +kernel
theorem dX4_fold_27 : decode cX4_fold 27 = .ok (.iload 7, 2) := by decide +kernel
theorem dX4_fold_29 : decode cX4_fold 29 = .ok (.ifCond .lt 113, 3) := by decide +kernel
theorem dX4_fold_32 : decode cX4_fold 32 = .ok (.aload_n 0, 1) := by decide +kernel
theorem dX4_fold_33 : decode cX4_fold 33 = .ok (.getfield 22, 3) := by decide +kernel
theorem dX4_fold_36 : decode cX4_fold 36 = .ok (.iload 7, 2) := by decide +kernel
theorem dX4_fold_38 : decode cX4_fold 38 = .ok (.iaload, 1) := by decide +kernel
theorem dX4_fold_39 : decode cX4_fold 39 = .ok (.istore 8, 2) := by decide +kernel
theorem dX4_fold_41 : decode cX4_fold 41 = .ok (.aload_n 0, 1) := by decide +kernel
theorem dX4_fold_42 : decode cX4_fold 42 = .ok (.aload_n 1, 1) := by decide +kernel
theorem dX4_fold_43 : decode cX4_fold 43 = .ok (.iload_n 2, 1) := by decide +kernel
theorem dX4_fold_44 : decode cX4_fold 44 = .ok (.aload_n 0, 1) := by decide +kernel
theorem dX4_fold_45 : decode cX4_fold 45 = .ok (.getfield 19, 3) := by decide +kernel
theorem dX4_fold_48 : decode cX4_fold 48 = .ok (.iload 8, 2) := by decide +kernel
theorem dX4_fold_50 : decode cX4_fold 50 = .ok (.iaload, 1) := by decide +kernel
theorem dX4_fold_51 : decode cX4_fold 51 = .ok (.iand, 1) := by decide +kernel
theorem dX4_fold_52 : decode cX4_fold 52 = .ok (.iload 8, 2) := by decide +kernel
theorem dX4_fold_54 : decode cX4_fold 54 = .ok (.aload_n 3, 1) := by decide +kernel
theorem dX4_fold_55 : decode cX4_fold 55 = .ok (.invokevirtual 113, 3) := by decide +kernel
theorem dX4_fold_58 : decode cX4_fold 58 = .ok (.iconst 0, 1) := by decide +kernel
theorem dX4_fold_59 : decode cX4_fold 59 = .ok (.istore 9, 2) := by decide +kernel
theorem dX4_fold_61 : decode cX4_fold 61 = .ok (.iload 9, 2) := by decide +kernel
theorem dX4_fold_63 : decode cX4_fold 63 = .ok (.iconst 4, 1) := by decide +kernel
theorem dX4_fold_64 : decode cX4_fold 64 = .ok (.if_icmp .ge 49, 3) := by decide +kernel
theorem dX4_fold_67 : decode cX4_fold 67 = .ok (.aload_n 0, 1) := by decide +kernel
theorem dX4_fold_68 : decode cX4_fold 68 = .ok (.getfield 15, 3) := by decide +kernel
theorem dX4_fold_71 : decode cX4_fold 71 = .ok (.iload 8, 2) := by decide +kernel
theorem dX4_fold_73 : decode cX4_fold 73 = .ok (.iaload, 1) := by decide +kernel
theorem dX4_fold_74 : decode cX4_fold 74 = .ok (.iload 9, 2) := by decide +kernel
theorem dX4_fold_76 : decode cX4_fold 76 = .ok (.ishr, 1) := by decide +kernel
theorem dX4_fold_77 : decode cX4_fold 77 = .ok (.iconst 1, 1) := by decide +kernel
theorem dX4_fold_78 : decode cX4_fold 78 = .ok (.iand, 1) := by decide +kernel
theorem dX4_fold_79 : decode cX4_fold 79 = .ok (.ifCond .eq 28, 3) := by decide +kernel
theorem dX4_fold_82 : decode cX4_fold 82 = .ok (.aload 4, 2) := by decide +kernel
theorem dX4_fold_84 : decode cX4_fold 84 = .ok (.iload 8, 2) := by decide +kernel
theorem dX4_fold_86 : decode cX4_fold 86 = .ok (.iconst 4, 1) := by decide +kernel
theorem dX4_fold_87 : decode cX4_fold 87 = .ok (.imul, 1) := by decide +kernel
theorem dX4_fold_88 : decode cX4_fold 88 = .ok (.iload 9, 2) := by decide +kernel
theorem dX4_fold_90 : decode cX4_fold 90 = .ok (.iadd, 1) := by decide +kernel
theorem dX4_fold_91 : decode cX4_fold 91 = .ok (.aload_n 0, 1) := by decide +kernel
theorem dX4_fold_92 : decode cX4_fold 92 = .ok (.aload_n 1, 1) := by decide +kernel
theorem dX4_fold_93 : decode cX4_fold 93 = .ok (.aload_n 0, 1) := by decide +kernel
theorem dX4_fold_94 : decode cX4_fold 94 = .ok (.getfield 48, 3) := by decide +kernel
theorem dX4_fold_97 : decode cX4_fold 97 = .ok (.getfield 102, 3) := by decide +kernel
theorem dX4_fold_100 : decode cX4_fold 100 = .ok (.iload 9, 2) := by decide +kernel
theorem dX4_fold_102 : decode cX4_fold 102 = .ok (.iaload, 1) := by decide +kernel
theorem dX4_fold_103 : decode cX4_fold 103 = .ok (.invokevirtual 117, 3) := by decide +kernel
theorem dX4_fold_106 : decode cX4_fold 106 = .ok (.lastore, 1) := by decide +kernel
theorem dX4_fold_107 : decode cX4_fold 107 = .ok (.iinc 9 1, 3) := by decide +kernel
theorem dX4_fold_110 : decode cX4_fold 110 = .ok (.goto (-49), 3) := by decide +kernel
theorem dX4_fold_113 : decode cX4_fold 113 = .ok (.iload 8, 2) := by decide +kernel
theorem dX4_fold_115 : decode cX4_fold 115 = .ok (.aload_n 0, 1) := by decide +kernel
theorem dX4_fold_116 : decode cX4_fold 116 = .ok (.getfield 41, 3) := by decide +kernel
theorem dX4_fold_119 : decode cX4_fold 119 = .ok (.if_icmp .ne 17, 3) := by decide +kernel
theorem dX4_fold_122 : decode cX4_fold 122 = .ok (.aload_n 0, 1) := by decide +kernel
theorem dX4_fold_123 : decode cX4_fold 123 = .ok (.aload_n 1, 1) := by decide +kernel
theorem dX4_fold_124 : decode cX4_fold 124 = .ok (.aload_n 0, 1) := by decide +kernel
theorem dX4_fold_125 : decode cX4_fold 125 = .ok (.getfield 48, 3) := by decide +kernel
theorem dX4_fold_128 : decode cX4_fold 128 = .ok (.getfield 99, 3) := by decide +kernel
theorem dX4_fold_131 : decode cX4_fold 131 = .ok (.invokevirtual 117, 3) := by decide +kernel
theorem dX4_fold_134 : decode cX4_fold 134 = .ok (.lstore 5, 2) := by decide +kernel
theorem dX4_fold_136 : decode cX4_fold 136 = .ok (.iinc 7 (-1), 3) := by decide +kernel
theorem dX4_fold_139 : decode cX4_fold 139 = .ok (.goto (-112), 3) := by decide +kernel
theorem dX4_fold_142 : decode cX4_fold 142 = .ok (.lload 5, 2) := by decide +kernel
theorem dX4_fold_144 : decode cX4_fold 144 = .ok (.lreturn, 1) := by decide +kernel
theorem dX4_gather_0 : decode cX4_gather 0 = .ok (.iconst 0, 1) := by decide +kernel
theorem dX4_gather_1 : decode cX4_gather 1 = .ok (.istore 5, 2) := by decide +kernel
theorem dX4_gather_3 : decode cX4_gather 3 = .ok (.iload 5, 2) := by decide +kernel
theorem dX4_gather_5 : decode cX4_gather 5 = .ok (.iconst 4, 1) := by decide +kernel
theorem dX4_gather_6 : decode cX4_gather 6 = .ok (.if_icmp .ge 20, 3) := by decide +kernel
theorem dX4_gather_9 : decode cX4_gather 9 = .ok (.aload_n 0, 1) := by decide +kernel
theorem dX4_gather_10 : decode cX4_gather 10 = .ok (.getfield 31, 3) := by decide +kernel
theorem dX4_gather_13 : decode cX4_gather 13 = .ok (.iload 5, 2) := by decide +kernel
theorem dX4_gather_15 : decode cX4_gather 15 = .ok (.aload_n 1, 1) := by decide +kernel
theorem dX4_gather_16 : decode cX4_gather 16 = .ok (.invokevirtual 110, 3) := by decide +kernel
theorem dX4_gather_19 : decode cX4_gather 19 = .ok (.lastore, 1) := by decide +kernel
theorem dX4_gather_20 : decode cX4_gather 20 = .ok (.iinc 5 1, 3) := by decide +kernel
theorem dX4_gather_23 : decode cX4_gather 23 = .ok (.goto (-20), 3) := by decide +kernel
theorem dX4_gather_26 : decode cX4_gather 26 = .ok (.iconst 0, 1) := by decide +kernel
theorem dX4_gather_27 : decode cX4_gather 27 = .ok (.istore 5, 2) := by decide +kernel
theorem dX4_gather_29 : decode cX4_gather 29 = .ok (.iload 5, 2) := by decide +kernel
theorem dX4_gather_31 : decode cX4_gather 31 = .ok (.aload_n 0, 1) := by decide +kernel
theorem dX4_gather_32 : decode cX4_gather 32 = .ok (.getfield 44, 3) := by decide +kernel
theorem dX4_gather_35 : decode cX4_gather 35 = .ok (.getfield 72, 3) := by decide +kernel
theorem dX4_gather_38 : decode cX4_gather 38 = .ok (.if_icmp .ge 59, 3) := by decide +kernel
theorem dX4_gather_41 : decode cX4_gather 41 = .ok (.iload_n 2, 1) := by decide +kernel
theorem dX4_gather_42 : decode cX4_gather 42 = .ok (.iload 5, 2) := by decide +kernel
theorem dX4_gather_44 : decode cX4_gather 44 = .ok (.ishr, 1) := by decide +kernel
theorem dX4_gather_45 : decode cX4_gather 45 = .ok (.iconst 1, 1) := by decide +kernel
theorem dX4_gather_46 : decode cX4_gather 46 = .ok (.iand, 1) := by decide +kernel
theorem dX4_gather_47 : decode cX4_gather 47 = .ok (.ifCond .eq 44, 3) := by decide +kernel
theorem dX4_gather_50 : decode cX4_gather 50 = .ok (.aload_n 0, 1) := by decide +kernel
theorem dX4_gather_51 : decode cX4_gather 51 = .ok (.getfield 44, 3) := by decide +kernel
theorem dX4_gather_54 : decode cX4_gather 54 = .ok (.getfield 93, 3) := by decide +kernel
theorem dX4_gather_57 : decode cX4_gather 57 = .ok (.iload 5, 2) := by decide +kernel
theorem dX4_gather_59 : decode cX4_gather 59 = .ok (.iaload, 1) := by decide +kernel
theorem dX4_gather_60 : decode cX4_gather 60 = .ok (.istore 6, 2) := by decide +kernel
theorem dX4_gather_62 : decode cX4_gather 62 = .ok (.aload_n 0, 1) := by decide +kernel
theorem dX4_gather_63 : decode cX4_gather 63 = .ok (.getfield 31, 3) := by decide +kernel
theorem dX4_gather_66 : decode cX4_gather 66 = .ok (.iload 6, 2) := by decide +kernel
theorem dX4_gather_68 : decode cX4_gather 68 = .ok (.aload_n 1, 1) := by decide +kernel
theorem dX4_gather_69 : decode cX4_gather 69 = .ok (.aload_n 0, 1) := by decide +kernel
theorem dX4_gather_70 : decode cX4_gather 70 = .ok (.getfield 31, 3) := by decide +kernel
theorem dX4_gather_73 : decode cX4_gather 73 = .ok (.iload 6, 2) := by decide +kernel
theorem dX4_gather_75 : decode cX4_gather 75 = .ok (.laload, 1) := by decide +kernel
theorem dX4_gather_76 : decode cX4_gather 76 = .ok (.aload_n 0, 1) := by decide +kernel
theorem dX4_gather_77 : decode cX4_gather 77 = .ok (.aload 4, 2) := by decide +kernel
theorem dX4_gather_79 : decode cX4_gather 79 = .ok (.iload_n 3, 1) := by decide +kernel
theorem dX4_gather_80 : decode cX4_gather 80 = .ok (.iload 5, 2) := by decide +kernel
theorem dX4_gather_82 : decode cX4_gather 82 = .ok (.invokevirtual 121, 3) := by decide +kernel
theorem dX4_gather_85 : decode cX4_gather 85 = .ok (.iload 5, 2) := by decide +kernel
theorem dX4_gather_87 : decode cX4_gather 87 = .ok (.invokevirtual 125, 3) := by decide +kernel
theorem dX4_gather_90 : decode cX4_gather 90 = .ok (.lastore, 1) := by decide +kernel
theorem dX4_gather_91 : decode cX4_gather 91 = .ok (.iinc 5 1, 3) := by decide +kernel
theorem dX4_gather_94 : decode cX4_gather 94 = .ok (.goto (-65), 3) := by decide +kernel
theorem dX4_gather_97 : decode cX4_gather 97 = .ok (.return_, 1) := by decide +kernel
theorem dX4_headsOf_0 : decode cX4_headsOf 0 = .ok (.aload_n 1, 1) := by decide +kernel
theorem dX4_headsOf_1 : decode cX4_headsOf 1 = .ok (.invokevirtual 110, 3) := by decide +kernel
theorem dX4_headsOf_4 : decode cX4_headsOf 4 = .ok (.lstore_n 3, 1) := by decide +kernel
theorem dX4_headsOf_5 : decode cX4_headsOf 5 = .ok (.iconst 0, 1) := by decide +kernel
theorem dX4_headsOf_6 : decode cX4_headsOf 6 = .ok (.istore 5, 2) := by decide +kernel
theorem dX4_headsOf_8 : decode cX4_headsOf 8 = .ok (.iload 5, 2) := by decide +kernel
theorem dX4_headsOf_10 : decode cX4_headsOf 10 = .ok (.iconst 4, 1) := by decide +kernel
theorem dX4_headsOf_11 : decode cX4_headsOf 11 = .ok (.if_icmp .ge 31, 3) := by decide +kernel
theorem dX4_headsOf_14 : decode cX4_headsOf 14 = .ok (.iload_n 2, 1) := by decide +kernel
theorem dX4_headsOf_15 : decode cX4_headsOf 15 = .ok (.iload 5, 2) := by decide +kernel
theorem dX4_headsOf_17 : decode cX4_headsOf 17 = .ok (.ishr, 1) := by decide +kernel
theorem dX4_headsOf_18 : decode cX4_headsOf 18 = .ok (.iconst 1, 1) := by decide +kernel
theorem dX4_headsOf_19 : decode cX4_headsOf 19 = .ok (.iand, 1) := by decide +kernel
theorem dX4_headsOf_20 : decode cX4_headsOf 20 = .ok (.ifCond .eq 16, 3) := by decide +kernel
theorem dX4_headsOf_23 : decode cX4_headsOf 23 = .ok (.aload_n 1, 1) := by decide +kernel
theorem dX4_headsOf_24 : decode cX4_headsOf 24 = .ok (.lload_n 3, 1) := by decide +kernel
theorem dX4_headsOf_25 : decode cX4_headsOf 25 = .ok (.aload_n 0, 1) := by decide +kernel
theorem dX4_headsOf_26 : decode cX4_headsOf 26 = .ok (.getfield 31, 3) := by decide +kernel
theorem dX4_headsOf_29 : decode cX4_headsOf 29 = .ok (.iload 5, 2) := by decide +kernel
theorem dX4_headsOf_31 : decode cX4_headsOf 31 = .ok (.laload, 1) := by decide +kernel
theorem dX4_headsOf_32 : decode cX4_headsOf 32 = .ok (.invokevirtual 129, 3) := by decide +kernel
theorem dX4_headsOf_35 : decode cX4_headsOf 35 = .ok (.lstore_n 3, 1) := by decide +kernel
theorem dX4_headsOf_36 : decode cX4_headsOf 36 = .ok (.iinc 5 1, 3) := by decide +kernel
theorem dX4_headsOf_39 : decode cX4_headsOf 39 = .ok (.goto (-31), 3) := by decide +kernel
theorem dX4_headsOf_42 : decode cX4_headsOf 42 = .ok (.lload_n 3, 1) := by decide +kernel
theorem dX4_headsOf_43 : decode cX4_headsOf 43 = .ok (.lreturn, 1) := by decide +kernel
theorem dX4_opens_0 : decode cX4_opens 0 = .ok (.iload_n 1, 1) := by decide +kernel
theorem dX4_opens_1 : decode cX4_opens 1 = .ok (.ifCond .le 43, 3) := by decide +kernel
theorem dX4_opens_4 : decode cX4_opens 4 = .ok (.iload_n 1, 1) := by decide +kernel
theorem dX4_opens_5 : decode cX4_opens 5 = .ok (.sipush 1296, 3) := by decide +kernel
theorem dX4_opens_8 : decode cX4_opens 8 = .ok (.if_icmp .ge 36, 3) := by decide +kernel
theorem dX4_opens_11 : decode cX4_opens 11 = .ok (.aload_n 0, 1) := by decide +kernel
theorem dX4_opens_12 : decode cX4_opens 12 = .ok (.getfield 19, 3) := by decide +kernel
theorem dX4_opens_15 : decode cX4_opens 15 = .ok (.iload_n 1, 1) := by decide +kernel
theorem dX4_opens_16 : decode cX4_opens 16 = .ok (.iaload, 1) := by decide +kernel
theorem dX4_opens_17 : decode cX4_opens 17 = .ok (.iload_n 3, 1) := by decide +kernel
theorem dX4_opens_18 : decode cX4_opens 18 = .ok (.ishr, 1) := by decide +kernel
theorem dX4_opens_19 : decode cX4_opens 19 = .ok (.iconst 1, 1) := by decide +kernel
theorem dX4_opens_20 : decode cX4_opens 20 = .ok (.iand, 1) := by decide +kernel
theorem dX4_opens_21 : decode cX4_opens 21 = .ok (.ifCond .eq 23, 3) := by decide +kernel
theorem dX4_opens_24 : decode cX4_opens 24 = .ok (.iload_n 2, 1) := by decide +kernel
theorem dX4_opens_25 : decode cX4_opens 25 = .ok (.aload_n 0, 1) := by decide +kernel
theorem dX4_opens_26 : decode cX4_opens 26 = .ok (.getfield 44, 3) := by decide +kernel
theorem dX4_opens_29 : decode cX4_opens 29 = .ok (.getfield 93, 3) := by decide +kernel
theorem dX4_opens_32 : decode cX4_opens 32 = .ok (.iload_n 3, 1) := by decide +kernel
theorem dX4_opens_33 : decode cX4_opens 33 = .ok (.iaload, 1) := by decide +kernel
theorem dX4_opens_34 : decode cX4_opens 34 = .ok (.ishr, 1) := by decide +kernel
theorem dX4_opens_35 : decode cX4_opens 35 = .ok (.iconst 1, 1) := by decide +kernel
theorem dX4_opens_36 : decode cX4_opens 36 = .ok (.iand, 1) := by decide +kernel
theorem dX4_opens_37 : decode cX4_opens 37 = .ok (.ifCond .eq 7, 3) := by decide +kernel
theorem dX4_opens_40 : decode cX4_opens 40 = .ok (.iconst 1, 1) := by decide +kernel
theorem dX4_opens_41 : decode cX4_opens 41 = .ok (.goto 4, 3) := by decide +kernel
theorem dX4_opens_44 : decode cX4_opens 44 = .ok (.iconst 0, 1) := by decide +kernel
theorem dX4_opens_45 : decode cX4_opens 45 = .ok (.ireturn, 1) := by decide +kernel
theorem dX4_tailBehind_0 : decode cX4_tailBehind 0 = .ok (.iload_n 2, 1) := by decide +kernel
theorem dX4_tailBehind_1 : decode cX4_tailBehind 1 = .ok (.aload_n 0, 1) := by decide +kernel
theorem dX4_tailBehind_2 : decode cX4_tailBehind 2 = .ok (.getfield 28, 3) := by decide +kernel
theorem dX4_tailBehind_5 : decode cX4_tailBehind 5 = .ok (.iload_n 3, 1) := by decide +kernel
theorem dX4_tailBehind_6 : decode cX4_tailBehind 6 = .ok (.iaload, 1) := by decide +kernel
theorem dX4_tailBehind_7 : decode cX4_tailBehind 7 = .ok (.isub, 1) := by decide +kernel
theorem dX4_tailBehind_8 : decode cX4_tailBehind 8 = .ok (.iconst 4, 1) := by decide +kernel
theorem dX4_tailBehind_9 : decode cX4_tailBehind 9 = .ok (.imul, 1) := by decide +kernel
theorem dX4_tailBehind_10 : decode cX4_tailBehind 10 = .ok (.aload_n 0, 1) := by decide +kernel
theorem dX4_tailBehind_11 : decode cX4_tailBehind 11 = .ok (.getfield 44, 3) := by decide +kernel
theorem dX4_tailBehind_14 : decode cX4_tailBehind 14 = .ok (.getfield 93, 3) := by decide +kernel
theorem dX4_tailBehind_17 : decode cX4_tailBehind 17 = .ok (.iload_n 3, 1) := by decide +kernel
theorem dX4_tailBehind_18 : decode cX4_tailBehind 18 = .ok (.iaload, 1) := by decide +kernel
theorem dX4_tailBehind_19 : decode cX4_tailBehind 19 = .ok (.iadd, 1) := by decide +kernel
theorem dX4_tailBehind_20 : decode cX4_tailBehind 20 = .ok (.istore 4, 2) := by decide +kernel
theorem dX4_tailBehind_22 : decode cX4_tailBehind 22 = .ok (.iload 4, 2) := by decide +kernel
theorem dX4_tailBehind_24 : decode cX4_tailBehind 24 = .ok (.ifCond .lt 17, 3) := by decide +kernel
theorem dX4_tailBehind_27 : decode cX4_tailBehind 27 = .ok (.iload 4, 2) := by decide +kernel
theorem dX4_tailBehind_29 : decode cX4_tailBehind 29 = .ok (.aload_n 1, 1) := by decide +kernel
theorem dX4_tailBehind_30 : decode cX4_tailBehind 30 = .ok (.arraylength, 1) := by decide +kernel
theorem dX4_tailBehind_31 : decode cX4_tailBehind 31 = .ok (.if_icmp .ge 10, 3) := by decide +kernel
theorem dX4_tailBehind_34 : decode cX4_tailBehind 34 = .ok (.aload_n 1, 1) := by decide +kernel
theorem dX4_tailBehind_35 : decode cX4_tailBehind 35 = .ok (.iload 4, 2) := by decide +kernel
theorem dX4_tailBehind_37 : decode cX4_tailBehind 37 = .ok (.laload, 1) := by decide +kernel
theorem dX4_tailBehind_38 : decode cX4_tailBehind 38 = .ok (.goto 4, 3) := by decide +kernel
theorem dX4_tailBehind_41 : decode cX4_tailBehind 41 = .ok (.lconst 0, 1) := by decide +kernel
theorem dX4_tailBehind_42 : decode cX4_tailBehind 42 = .ok (.lreturn, 1) := by decide +kernel
theorem dX5_init_0 : decode cX5_init 0 = .ok (.aload_n 0, 1) := by decide +kernel
theorem dX5_init_1 : decode cX5_init 1 = .ok (.invokespecial 3, 3) := by decide +kernel
theorem dX5_init_4 : decode cX5_init 4 = .ok (.aload_n 0, 1) := by decide +kernel
theorem dX5_init_5 : decode cX5_init 5 = .ok (.bipush 10, 2) := by decide +kernel
theorem dX5_init_7 : decode cX5_init 7 = .ok (.newarray .int, 2) := by decide +kernel
theorem dX5_init_9 : decode cX5_init 9 = .ok (.putfield 9, 3) := by decide +kernel
theorem dX5_init_12 : decode cX5_init 12 = .ok (.aload_n 0, 1) := by decide +kernel
theorem dX5_init_13 : decode cX5_init 13 = .ok (.bipush 10, 2) := by decide +kernel
theorem dX5_init_15 : decode cX5_init 15 = .ok (.newarray .int, 2) := by decide +kernel
theorem dX5_init_17 : decode cX5_init 17 = .ok (.putfield 15, 3) := by decide +kernel
theorem dX5_init_20 : decode cX5_init 20 = .ok (.aload_n 0, 1) := by decide +kernel
theorem dX5_init_21 : decode cX5_init 21 = .ok (.bipush 10, 2) := by decide +kernel
theorem dX5_init_23 : decode cX5_init 23 = .ok (.newarray .long, 2) := by decide +kernel
theorem dX5_init_25 : decode cX5_init 25 = .ok (.putfield 18, 3) := by decide +kernel
theorem dX5_init_28 : decode cX5_init 28 = .ok (.aload_n 0, 1) := by decide +kernel
theorem dX5_init_29 : decode cX5_init 29 = .ok (.bipush 60, 2) := by decide +kernel
theorem dX5_init_31 : decode cX5_init 31 = .ok (.newarray .int, 2) := by decide +kernel
theorem dX5_init_33 : decode cX5_init 33 = .ok (.putfield 22, 3) := by decide +kernel
theorem dX5_init_36 : decode cX5_init 36 = .ok (.aload_n 0, 1) := by decide +kernel
theorem dX5_init_37 : decode cX5_init 37 = .ok (.iconst 0, 1) := by decide +kernel
theorem dX5_init_38 : decode cX5_init 38 = .ok (.putfield 25, 3) := by decide +kernel
theorem dX5_init_41 : decode cX5_init 41 = .ok (.return_, 1) := by decide +kernel
theorem dX5_copy_0 : decode cX5_copy 0 = .ok (.aload_n 0, 1) := by decide +kernel
theorem dX5_copy_1 : decode cX5_copy 1 = .ok (.aload_n 1, 1) := by decide +kernel
theorem dX5_copy_2 : decode cX5_copy 2 = .ok (.getfield 25, 3) := by decide +kernel
theorem dX5_copy_5 : decode cX5_copy 5 = .ok (.putfield 25, 3) := by decide +kernel
theorem dX5_copy_8 : decode cX5_copy 8 = .ok (.aload_n 1, 1) := by decide +kernel
theorem dX5_copy_9 : decode cX5_copy 9 = .ok (.getfield 9, 3) := by decide +kernel
theorem dX5_copy_12 : decode cX5_copy 12 = .ok (.iconst 0, 1) := by decide +kernel
theorem dX5_copy_13 : decode cX5_copy 13 = .ok (.aload_n 0, 1) := by decide +kernel
theorem dX5_copy_14 : decode cX5_copy 14 = .ok (.getfield 9, 3) := by decide +kernel
theorem dX5_copy_17 : decode cX5_copy 17 = .ok (.iconst 0, 1) := by decide +kernel
theorem dX5_copy_18 : decode cX5_copy 18 = .ok (.bipush 10, 2) := by decide +kernel
theorem dX5_copy_20 : decode cX5_copy 20 = .ok (.invokestatic 29, 3) := by decide +kernel
theorem dX5_copy_23 : decode cX5_copy 23 = .ok (.aload_n 1, 1) := by decide +kernel
theorem dX5_copy_24 : decode cX5_copy 24 = .ok (.getfield 15, 3) := by decide +kernel
theorem dX5_copy_27 : decode cX5_copy 27 = .ok (.iconst 0, 1) := by decide +kernel
theorem dX5_copy_28 : decode cX5_copy 28 = .ok (.aload_n 0, 1) := by decide +kernel
theorem dX5_copy_29 : decode cX5_copy 29 = .ok (.getfield 15, 3) := by decide +kernel
theorem dX5_copy_32 : decode cX5_copy 32 = .ok (.iconst 0, 1) := by decide +kernel
theorem dX5_copy_33 : decode cX5_copy 33 = .ok (.bipush 10, 2) := by decide +kernel
theorem dX5_copy_35 : decode cX5_copy 35 = .ok (.invokestatic 29, 3) := by decide +kernel
theorem dX5_copy_38 : decode cX5_copy 38 = .ok (.aload_n 1, 1) := by decide +kernel
theorem dX5_copy_39 : decode cX5_copy 39 = .ok (.getfield 18, 3) := by decide +kernel
theorem dX5_copy_42 : decode cX5_copy 42 = .ok (.iconst 0, 1) := by decide +kernel
theorem dX5_copy_43 : decode cX5_copy 43 = .ok (.aload_n 0, 1) := by decide +kernel
theorem dX5_copy_44 : decode cX5_copy 44 = .ok (.getfield 18, 3) := by decide +kernel
theorem dX5_copy_47 : decode cX5_copy 47 = .ok (.iconst 0, 1) := by decide +kernel
theorem dX5_copy_48 : decode cX5_copy 48 = .ok (.bipush 10, 2) := by decide +kernel
theorem dX5_copy_50 : decode cX5_copy 50 = .ok (.invokestatic 29, 3) := by decide +kernel
theorem dX5_copy_53 : decode cX5_copy 53 = .ok (.aload_n 1, 1) := by decide +kernel
theorem dX5_copy_54 : decode cX5_copy 54 = .ok (.getfield 22, 3) := by decide +kernel
theorem dX5_copy_57 : decode cX5_copy 57 = .ok (.iconst 0, 1) := by decide +kernel
theorem dX5_copy_58 : decode cX5_copy 58 = .ok (.aload_n 0, 1) := by decide +kernel
theorem dX5_copy_59 : decode cX5_copy 59 = .ok (.getfield 22, 3) := by decide +kernel
theorem dX5_copy_62 : decode cX5_copy 62 = .ok (.iconst 0, 1) := by decide +kernel
theorem dX5_copy_63 : decode cX5_copy 63 = .ok (.bipush 60, 2) := by decide +kernel
theorem dX5_copy_65 : decode cX5_copy 65 = .ok (.invokestatic 29, 3) := by decide +kernel
theorem dX5_copy_68 : decode cX5_copy 68 = .ok (.return_, 1) := by decide +kernel
theorem dX5_has_0 : decode cX5_has 0 = .ok (.iload_n 1, 1) := by decide +kernel
theorem dX5_has_1 : decode cX5_has 1 = .ok (.ifCond .lt 15, 3) := by decide +kernel
theorem dX5_has_4 : decode cX5_has 4 = .ok (.iload_n 1, 1) := by decide +kernel
theorem dX5_has_5 : decode cX5_has 5 = .ok (.aload_n 0, 1) := by decide +kernel
theorem dX5_has_6 : decode cX5_has 6 = .ok (.getfield 25, 3) := by decide +kernel
theorem dX5_has_9 : decode cX5_has 9 = .ok (.if_icmp .ge 7, 3) := by decide +kernel
theorem dX5_has_12 : decode cX5_has 12 = .ok (.iconst 1, 1) := by decide +kernel
theorem dX5_has_13 : decode cX5_has 13 = .ok (.goto 4, 3) := by decide +kernel
theorem dX5_has_16 : decode cX5_has 16 = .ok (.iconst 0, 1) := by decide +kernel
theorem dX5_has_17 : decode cX5_has 17 = .ok (.ireturn, 1) := by decide +kernel
theorem dX5_open_0 : decode cX5_open 0 = .ok (.aload_n 0, 1) := by decide +kernel
theorem dX5_open_1 : decode cX5_open 1 = .ok (.getfield 25, 3) := by decide +kernel
theorem dX5_open_4 : decode cX5_open 4 = .ok (.bipush 10, 2) := by decide +kernel
theorem dX5_open_6 : decode cX5_open 6 = .ok (.if_icmp .lt 5, 3) := by decide +kernel
theorem dX5_open_9 : decode cX5_open 9 = .ok (.iconst 0, 1) := by decide +kernel
theorem dX5_open_10 : decode cX5_open 10 = .ok (.ireturn, 1) := by decide +kernel
theorem dX5_open_11 : decode cX5_open 11 = .ok (.aload_n 0, 1) := by decide +kernel
theorem dX5_open_12 : decode cX5_open 12 = .ok (.getfield 15, 3) := by decide +kernel
theorem dX5_open_15 : decode cX5_open 15 = .ok (.aload_n 0, 1) := by decide +kernel
theorem dX5_open_16 : decode cX5_open 16 = .ok (.getfield 25, 3) := by decide +kernel
theorem dX5_open_19 : decode cX5_open 19 = .ok (.iconst 0, 1) := by decide +kernel
theorem dX5_open_20 : decode cX5_open 20 = .ok (.iastore, 1) := by decide +kernel
theorem dX5_open_21 : decode cX5_open 21 = .ok (.aload_n 0, 1) := by decide +kernel
theorem dX5_open_22 : decode cX5_open 22 = .ok (.getfield 18, 3) := by decide +kernel
theorem dX5_open_25 : decode cX5_open 25 = .ok (.aload_n 0, 1) := by decide +kernel
theorem dX5_open_26 : decode cX5_open 26 = .ok (.getfield 25, 3) := by decide +kernel
theorem dX5_open_29 : decode cX5_open 29 = .ok (.lconst 0, 1) := by decide +kernel
theorem dX5_open_30 : decode cX5_open 30 = .ok (.lastore, 1) := by decide +kernel
theorem dX5_open_31 : decode cX5_open 31 = .ok (.aload_n 0, 1) := by decide +kernel
theorem dX5_open_32 : decode cX5_open 32 = .ok (.dup, 1) := by decide +kernel
theorem dX5_open_33 : decode cX5_open 33 = .ok (.getfield 25, 3) := by decide +kernel
theorem dX5_open_36 : decode cX5_open 36 = .ok (.iconst 1, 1) := by decide +kernel
theorem dX5_open_37 : decode cX5_open 37 = .ok (.iadd, 1) := by decide +kernel
theorem dX5_open_38 : decode cX5_open 38 = .ok (.putfield 25, 3) := by decide +kernel
theorem dX5_open_41 : decode cX5_open 41 = .ok (.iconst 1, 1) := by decide +kernel
theorem dX5_open_42 : decode cX5_open 42 = .ok (.ireturn, 1) := by decide +kernel
theorem dX5_spell_0 : decode cX5_spell 0 = .ok (.aload_n 0, 1) := by decide +kernel
theorem dX5_spell_1 : decode cX5_spell 1 = .ok (.getfield 25, 3) := by decide +kernel
theorem dX5_spell_4 : decode cX5_spell 4 = .ok (.iconst 1, 1) := by decide +kernel
theorem dX5_spell_5 : decode cX5_spell 5 = .ok (.isub, 1) := by decide +kernel
theorem dX5_spell_6 : decode cX5_spell 6 = .ok (.istore_n 2, 1) := by decide +kernel
theorem dX5_spell_7 : decode cX5_spell 7 = .ok (.iload_n 2, 1) := by decide +kernel
theorem dX5_spell_8 : decode cX5_spell 8 = .ok (.ifCond .lt 14, 3) := by decide +kernel
theorem dX5_spell_11 : decode cX5_spell 11 = .ok (.aload_n 0, 1) := by decide +kernel
theorem dX5_spell_12 : decode cX5_spell 12 = .ok (.getfield 15, 3) := by decide +kernel
theorem dX5_spell_15 : decode cX5_spell 15 = .ok (.iload_n 2, 1) := by decide +kernel
theorem dX5_spell_16 : decode cX5_spell 16 = .ok (.iaload, 1) := by decide +kernel
theorem dX5_spell_17 : decode cX5_spell 17 = .ok (.bipush 6, 2) := by decide +kernel
theorem dX5_spell_19 : decode cX5_spell 19 = .ok (.if_icmp .lt 5, 3) := by decide +kernel
theorem dX5_spell_22 : decode cX5_spell 22 = .ok (.iconst 0, 1) := by decide +kernel
theorem dX5_spell_23 : decode cX5_spell 23 = .ok (.ireturn, 1) := by decide +kernel
theorem dX5_spell_24 : decode cX5_spell 24 = .ok (.aload_n 0, 1) := by decide +kernel
theorem dX5_spell_25 : decode cX5_spell 25 = .ok (.getfield 22, 3) := by decide +kernel
theorem dX5_spell_28 : decode cX5_spell 28 = .ok (.iload_n 2, 1) := by decide +kernel
theorem dX5_spell_29 : decode cX5_spell 29 = .ok (.bipush 6, 2) := by decide +kernel
theorem dX5_spell_31 : decode cX5_spell 31 = .ok (.imul, 1) := by decide +kernel
theorem dX5_spell_32 : decode cX5_spell 32 = .ok (.aload_n 0, 1) := by decide +kernel
theorem dX5_spell_33 : decode cX5_spell 33 = .ok (.getfield 15, 3) := by decide +kernel
theorem dX5_spell_36 : decode cX5_spell 36 = .ok (.iload_n 2, 1) := by decide +kernel
theorem dX5_spell_37 : decode cX5_spell 37 = .ok (.iaload, 1) := by decide +kernel
theorem dX5_spell_38 : decode cX5_spell 38 = .ok (.iadd, 1) := by decide +kernel
theorem dX5_spell_39 : decode cX5_spell 39 = .ok (.iload_n 1, 1) := by decide +kernel
theorem dX5_spell_40 : decode cX5_spell 40 = .ok (.iastore, 1) := by decide +kernel
theorem dX5_spell_41 : decode cX5_spell 41 = .ok (.aload_n 0, 1) := by decide +kernel
theorem dX5_spell_42 : decode cX5_spell 42 = .ok (.getfield 15, 3) := by decide +kernel
theorem dX5_spell_45 : decode cX5_spell 45 = .ok (.iload_n 2, 1) := by decide +kernel
theorem dX5_spell_46 : decode cX5_spell 46 = .ok (.dup2, 1) := by decide +kernel
theorem dX5_spell_47 : decode cX5_spell 47 = .ok (.iaload, 1) := by decide +kernel
theorem dX5_spell_48 : decode cX5_spell 48 = .ok (.iconst 1, 1) := by decide +kernel
theorem dX5_spell_49 : decode cX5_spell 49 = .ok (.iadd, 1) := by decide +kernel
theorem dX5_spell_50 : decode cX5_spell 50 = .ok (.iastore, 1) := by decide +kernel
theorem dX5_spell_51 : decode cX5_spell 51 = .ok (.aload_n 0, 1) := by decide +kernel
theorem dX5_spell_52 : decode cX5_spell 52 = .ok (.getfield 18, 3) := by decide +kernel
theorem dX5_spell_55 : decode cX5_spell 55 = .ok (.iload_n 2, 1) := by decide +kernel
theorem dX5_spell_56 : decode cX5_spell 56 = .ok (.dup2, 1) := by decide +kernel
theorem dX5_spell_57 : decode cX5_spell 57 = .ok (.laload, 1) := by decide +kernel
theorem dX5_spell_58 : decode cX5_spell 58 = .ok (.lconst 1, 1) := by decide +kernel
theorem dX5_spell_59 : decode cX5_spell 59 = .ok (.iconst 5, 1) := by decide +kernel
theorem dX5_spell_60 : decode cX5_spell 60 = .ok (.iload_n 1, 1) := by decide +kernel
theorem dX5_spell_61 : decode cX5_spell 61 = .ok (.imul, 1) := by decide +kernel
theorem dX5_spell_62 : decode cX5_spell 62 = .ok (.lshl, 1) := by decide +kernel
theorem dX5_spell_63 : decode cX5_spell 63 = .ok (.ladd, 1) := by decide +kernel
theorem dX5_spell_64 : decode cX5_spell 64 = .ok (.lastore, 1) := by decide +kernel
theorem dX5_spell_65 : decode cX5_spell 65 = .ok (.iconst 1, 1) := by decide +kernel
theorem dX5_spell_66 : decode cX5_spell 66 = .ok (.ireturn, 1) := by decide +kernel
theorem dX5_close_0 : decode cX5_close 0 = .ok (.aload_n 0, 1) := by decide +kernel
theorem dX5_close_1 : decode cX5_close 1 = .ok (.getfield 25, 3) := by decide +kernel
theorem dX5_close_4 : decode cX5_close 4 = .ok (.iconst 1, 1) := by decide +kernel
theorem dX5_close_5 : decode cX5_close 5 = .ok (.isub, 1) := by decide +kernel
theorem dX5_close_6 : decode cX5_close 6 = .ok (.istore_n 2, 1) := by decide +kernel
theorem dX5_close_7 : decode cX5_close 7 = .ok (.iload_n 2, 1) := by decide +kernel
theorem dX5_close_8 : decode cX5_close 8 = .ok (.ifCond .lt 12, 3) := by decide +kernel
theorem dX5_close_11 : decode cX5_close 11 = .ok (.aload_n 0, 1) := by decide +kernel
theorem dX5_close_12 : decode cX5_close 12 = .ok (.getfield 15, 3) := by decide +kernel
theorem dX5_close_15 : decode cX5_close 15 = .ok (.iload_n 2, 1) := by decide +kernel
theorem dX5_close_16 : decode cX5_close 16 = .ok (.iaload, 1) := by decide +kernel
theorem dX5_close_17 : decode cX5_close 17 = .ok (.ifCond .ne 5, 3) := by decide +kernel
theorem dX5_close_20 : decode cX5_close 20 = .ok (.iconst 0, 1) := by decide +kernel
theorem dX5_close_21 : decode cX5_close 21 = .ok (.ireturn, 1) := by decide +kernel
theorem dX5_close_22 : decode cX5_close 22 = .ok (.aload_n 0, 1) := by decide +kernel
theorem dX5_close_23 : decode cX5_close 23 = .ok (.getfield 9, 3) := by decide +kernel
theorem dX5_close_26 : decode cX5_close 26 = .ok (.iload_n 2, 1) := by decide +kernel
theorem dX5_close_27 : decode cX5_close 27 = .ok (.iload_n 1, 1) := by decide +kernel
theorem dX5_close_28 : decode cX5_close 28 = .ok (.iastore, 1) := by decide +kernel
theorem dX5_close_29 : decode cX5_close 29 = .ok (.iconst 1, 1) := by decide +kernel
theorem dX5_close_30 : decode cX5_close 30 = .ok (.ireturn, 1) := by decide +kernel
theorem dX5_spelt_0 : decode cX5_spelt 0 = .ok (.aload_n 0, 1) := by decide +kernel
theorem dX5_spelt_1 : decode cX5_spelt 1 = .ok (.getfield 22, 3) := by decide +kernel
theorem dX5_spelt_4 : decode cX5_spelt 4 = .ok (.iload_n 1, 1) := by decide +kernel
theorem dX5_spelt_5 : decode cX5_spelt 5 = .ok (.bipush 6, 2) := by decide +kernel
theorem dX5_spelt_7 : decode cX5_spelt 7 = .ok (.imul, 1) := by decide +kernel
theorem dX5_spelt_8 : decode cX5_spelt 8 = .ok (.iload_n 2, 1) := by decide +kernel
theorem dX5_spelt_9 : decode cX5_spelt 9 = .ok (.iadd, 1) := by decide +kernel
theorem dX5_spelt_10 : decode cX5_spelt 10 = .ok (.iaload, 1) := by decide +kernel
theorem dX5_spelt_11 : decode cX5_spelt 11 = .ok (.ireturn, 1) := by decide +kernel
theorem dX5_amount_0 : decode cX5_amount 0 = .ok (.aload_n 0, 1) := by decide +kernel
theorem dX5_amount_1 : decode cX5_amount 1 = .ok (.getfield 18, 3) := by decide +kernel
theorem dX5_amount_4 : decode cX5_amount 4 = .ok (.iload_n 1, 1) := by decide +kernel
theorem dX5_amount_5 : decode cX5_amount 5 = .ok (.laload, 1) := by decide +kernel
theorem dX5_amount_6 : decode cX5_amount 6 = .ok (.iconst 5, 1) := by decide +kernel
theorem dX5_amount_7 : decode cX5_amount 7 = .ok (.iload_n 2, 1) := by decide +kernel
theorem dX5_amount_8 : decode cX5_amount 8 = .ok (.imul, 1) := by decide +kernel
theorem dX5_amount_9 : decode cX5_amount 9 = .ok (.lshr, 1) := by decide +kernel
theorem dX5_amount_10 : decode cX5_amount 10 = .ok (.l2i, 1) := by decide +kernel
theorem dX5_amount_11 : decode cX5_amount 11 = .ok (.bipush 15, 2) := by decide +kernel
theorem dX5_amount_13 : decode cX5_amount 13 = .ok (.iand, 1) := by decide +kernel
theorem dX5_amount_14 : decode cX5_amount 14 = .ok (.ireturn, 1) := by decide +kernel
theorem dX5_wordsWith_0 : decode cX5_wordsWith 0 = .ok (.iconst 0, 1) := by decide +kernel
theorem dX5_wordsWith_1 : decode cX5_wordsWith 1 = .ok (.istore_n 2, 1) := by decide +kernel
theorem dX5_wordsWith_2 : decode cX5_wordsWith 2 = .ok (.iconst 0, 1) := by decide +kernel
theorem dX5_wordsWith_3 : decode cX5_wordsWith 3 = .ok (.istore_n 3, 1) := by decide +kernel
theorem dX5_wordsWith_4 : decode cX5_wordsWith 4 = .ok (.iload_n 3, 1) := by decide +kernel
theorem dX5_wordsWith_5 : decode cX5_wordsWith 5 = .ok (.aload_n 0, 1) := by decide +kernel
theorem dX5_wordsWith_6 : decode cX5_wordsWith 6 = .ok (.getfield 25, 3) := by decide +kernel
theorem dX5_wordsWith_9 : decode cX5_wordsWith 9 = .ok (.if_icmp .ge 21, 3) := by decide +kernel
theorem dX5_wordsWith_12 : decode cX5_wordsWith 12 = .ok (.aload_n 0, 1) := by decide +kernel
theorem dX5_wordsWith_13 : decode cX5_wordsWith 13 = .ok (.iload_n 3, 1) := by decide +kernel
theorem dX5_wordsWith_14 : decode cX5_wordsWith 14 = .ok (.iload_n 1, 1) := by decide +kernel
theorem dX5_wordsWith_15 : decode cX5_wordsWith 15 = .ok (.invokevirtual 35, 3) := by decide +kernel
theorem dX5_wordsWith_18 : decode cX5_wordsWith 18 = .ok (.ifCond .le 6, 3) := by decide +kernel
theorem dX5_wordsWith_21 : decode cX5_wordsWith 21 = .ok (.iinc 2 1, 3) := by decide +kernel
theorem dX5_wordsWith_24 : decode cX5_wordsWith 24 = .ok (.iinc 3 1, 3) := by decide +kernel
theorem dX5_wordsWith_27 : decode cX5_wordsWith 27 = .ok (.goto (-23), 3) := by decide +kernel
theorem dX5_wordsWith_30 : decode cX5_wordsWith 30 = .ok (.iload_n 2, 1) := by decide +kernel
theorem dX5_wordsWith_31 : decode cX5_wordsWith 31 = .ok (.ireturn, 1) := by decide +kernel
theorem dX5_rarest_0 : decode cX5_rarest 0 = .ok (.bipush (-9), 2) := by decide +kernel
theorem dX5_rarest_2 : decode cX5_rarest 2 = .ok (.istore_n 2, 1) := by decide +kernel
theorem dX5_rarest_3 : decode cX5_rarest 3 = .ok (.bipush 11, 2) := by decide +kernel
theorem dX5_rarest_5 : decode cX5_rarest 5 = .ok (.istore_n 3, 1) := by decide +kernel
theorem dX5_rarest_6 : decode cX5_rarest 6 = .ok (.iconst 0, 1) := by decide +kernel
theorem dX5_rarest_7 : decode cX5_rarest 7 = .ok (.istore 4, 2) := by decide +kernel
theorem dX5_rarest_9 : decode cX5_rarest 9 = .ok (.iload 4, 2) := by decide +kernel
theorem dX5_rarest_11 : decode cX5_rarest 11 = .ok (.bipush 8, 2) := by decide +kernel
theorem dX5_rarest_13 : decode cX5_rarest 13 = .ok (.if_icmp .ge 39, 3) := by decide +kernel
theorem dX5_rarest_16 : decode cX5_rarest 16 = .ok (.aload_n 0, 1) := by decide +kernel
theorem dX5_rarest_17 : decode cX5_rarest 17 = .ok (.iload_n 1, 1) := by decide +kernel
theorem dX5_rarest_18 : decode cX5_rarest 18 = .ok (.iload 4, 2) := by decide +kernel
theorem dX5_rarest_20 : decode cX5_rarest 20 = .ok (.invokevirtual 35, 3) := by decide +kernel
theorem dX5_rarest_23 : decode cX5_rarest 23 = .ok (.ifCond .le 23, 3) := by decide +kernel
theorem dX5_rarest_26 : decode cX5_rarest 26 = .ok (.aload_n 0, 1) := by decide +kernel
theorem dX5_rarest_27 : decode cX5_rarest 27 = .ok (.iload 4, 2) := by decide +kernel
theorem dX5_rarest_29 : decode cX5_rarest 29 = .ok (.invokevirtual 39, 3) := by decide +kernel
theorem dX5_rarest_32 : decode cX5_rarest 32 = .ok (.iload_n 3, 1) := by decide +kernel
theorem dX5_rarest_33 : decode cX5_rarest 33 = .ok (.if_icmp .ge 13, 3) := by decide +kernel
theorem dX5_rarest_36 : decode cX5_rarest 36 = .ok (.iload 4, 2) := by decide +kernel
theorem dX5_rarest_38 : decode cX5_rarest 38 = .ok (.istore_n 2, 1) := by decide +kernel
theorem dX5_rarest_39 : decode cX5_rarest 39 = .ok (.aload_n 0, 1) := by decide +kernel
theorem dX5_rarest_40 : decode cX5_rarest 40 = .ok (.iload 4, 2) := by decide +kernel
theorem dX5_rarest_42 : decode cX5_rarest 42 = .ok (.invokevirtual 39, 3) := by decide +kernel
theorem dX5_rarest_45 : decode cX5_rarest 45 = .ok (.istore_n 3, 1) := by decide +kernel
theorem dX5_rarest_46 : decode cX5_rarest 46 = .ok (.iinc 4 1, 3) := by decide +kernel
theorem dX5_rarest_49 : decode cX5_rarest 49 = .ok (.goto (-40), 3) := by decide +kernel
theorem dX5_rarest_52 : decode cX5_rarest 52 = .ok (.iload_n 2, 1) := by decide +kernel
theorem dX5_rarest_53 : decode cX5_rarest 53 = .ok (.ireturn, 1) := by decide +kernel
theorem dX5_twins_0 : decode cX5_twins 0 = .ok (.iconst 0, 1) := by decide +kernel
theorem dX5_twins_1 : decode cX5_twins 1 = .ok (.istore_n 2, 1) := by decide +kernel
theorem dX5_twins_2 : decode cX5_twins 2 = .ok (.iconst 0, 1) := by decide +kernel
theorem dX5_twins_3 : decode cX5_twins 3 = .ok (.istore_n 3, 1) := by decide +kernel
theorem dX5_twins_4 : decode cX5_twins 4 = .ok (.iload_n 3, 1) := by decide +kernel
theorem dX5_twins_5 : decode cX5_twins 5 = .ok (.aload_n 0, 1) := by decide +kernel
theorem dX5_twins_6 : decode cX5_twins 6 = .ok (.getfield 25, 3) := by decide +kernel
theorem dX5_twins_9 : decode cX5_twins 9 = .ok (.if_icmp .ge 28, 3) := by decide +kernel
theorem dX5_twins_12 : decode cX5_twins 12 = .ok (.aload_n 0, 1) := by decide +kernel
theorem dX5_twins_13 : decode cX5_twins 13 = .ok (.getfield 18, 3) := by decide +kernel
theorem dX5_twins_16 : decode cX5_twins 16 = .ok (.iload_n 3, 1) := by decide +kernel
theorem dX5_twins_17 : decode cX5_twins 17 = .ok (.laload, 1) := by decide +kernel
theorem dX5_twins_18 : decode cX5_twins 18 = .ok (.aload_n 0, 1) := by decide +kernel
theorem dX5_twins_19 : decode cX5_twins 19 = .ok (.getfield 18, 3) := by decide +kernel
theorem dX5_twins_22 : decode cX5_twins 22 = .ok (.iload_n 1, 1) := by decide +kernel
theorem dX5_twins_23 : decode cX5_twins 23 = .ok (.laload, 1) := by decide +kernel
theorem dX5_twins_24 : decode cX5_twins 24 = .ok (.lcmp, 1) := by decide +kernel
theorem dX5_twins_25 : decode cX5_twins 25 = .ok (.ifCond .ne 6, 3) := by decide +kernel
theorem dX5_twins_28 : decode cX5_twins 28 = .ok (.iinc 2 1, 3) := by decide +kernel
theorem dX5_twins_31 : decode cX5_twins 31 = .ok (.iinc 3 1, 3) := by decide +kernel
theorem dX5_twins_34 : decode cX5_twins 34 = .ok (.goto (-30), 3) := by decide +kernel
theorem dX5_twins_37 : decode cX5_twins 37 = .ok (.iload_n 2, 1) := by decide +kernel
theorem dX5_twins_38 : decode cX5_twins 38 = .ok (.ireturn, 1) := by decide +kernel
theorem dX5_letterBits_0 : decode cX5_letterBits 0 = .ok (.iconst 0, 1) := by decide +kernel
theorem dX5_letterBits_1 : decode cX5_letterBits 1 = .ok (.istore_n 2, 1) := by decide +kernel
theorem dX5_letterBits_2 : decode cX5_letterBits 2 = .ok (.iconst 0, 1) := by decide +kernel
theorem dX5_letterBits_3 : decode cX5_letterBits 3 = .ok (.istore_n 3, 1) := by decide +kernel
theorem dX5_letterBits_4 : decode cX5_letterBits 4 = .ok (.iload_n 3, 1) := by decide +kernel
theorem dX5_letterBits_5 : decode cX5_letterBits 5 = .ok (.bipush 8, 2) := by decide +kernel
theorem dX5_letterBits_7 : decode cX5_letterBits 7 = .ok (.if_icmp .ge 24, 3) := by decide +kernel
theorem dX5_letterBits_10 : decode cX5_letterBits 10 = .ok (.aload_n 0, 1) := by decide +kernel
theorem dX5_letterBits_11 : decode cX5_letterBits 11 = .ok (.iload_n 1, 1) := by decide +kernel
theorem dX5_letterBits_12 : decode cX5_letterBits 12 = .ok (.iload_n 3, 1) := by decide +kernel
theorem dX5_letterBits_13 : decode cX5_letterBits 13 = .ok (.invokevirtual 35, 3) := by decide +kernel
theorem dX5_letterBits_16 : decode cX5_letterBits 16 = .ok (.ifCond .le 9, 3) := by decide +kernel
theorem dX5_letterBits_19 : decode cX5_letterBits 19 = .ok (.iload_n 2, 1) := by decide +kernel
theorem dX5_letterBits_20 : decode cX5_letterBits 20 = .ok (.iconst 1, 1) := by decide +kernel
theorem dX5_letterBits_21 : decode cX5_letterBits 21 = .ok (.iload_n 3, 1) := by decide +kernel
theorem dX5_letterBits_22 : decode cX5_letterBits 22 = .ok (.ishl, 1) := by decide +kernel
theorem dX5_letterBits_23 : decode cX5_letterBits 23 = .ok (.ior, 1) := by decide +kernel
theorem dX5_letterBits_24 : decode cX5_letterBits 24 = .ok (.istore_n 2, 1) := by decide +kernel
theorem dX5_letterBits_25 : decode cX5_letterBits 25 = .ok (.iinc 3 1, 3) := by decide +kernel
theorem dX5_letterBits_28 : decode cX5_letterBits 28 = .ok (.goto (-24), 3) := by decide +kernel
theorem dX5_letterBits_31 : decode cX5_letterBits 31 = .ok (.iload_n 2, 1) := by decide +kernel
theorem dX5_letterBits_32 : decode cX5_letterBits 32 = .ok (.ireturn, 1) := by decide +kernel
theorem dX6_init_0 : decode cX6_init 0 = .ok (.aload_n 0, 1) := by decide +kernel
theorem dX6_init_1 : decode cX6_init 1 = .ok (.invokespecial 3, 3) := by decide +kernel
theorem dX6_init_4 : decode cX6_init 4 = .ok (.aload_n 0, 1) := by decide +kernel
theorem dX6_init_5 : decode cX6_init 5 = .ok (.new 9, 3) := by decide +kernel
theorem dX6_init_8 : decode cX6_init 8 = .ok (.dup, 1) := by decide +kernel
theorem dX6_init_9 : decode cX6_init 9 = .ok (.invokespecial 11, 3) := by decide +kernel
theorem dX6_init_12 : decode cX6_init 12 = .ok (.putfield 12, 3) := by decide +kernel
theorem dX6_init_15 : decode cX6_init 15 = .ok (.aload_n 0, 1) := by decide +kernel
theorem dX6_init_16 : decode cX6_init 16 = .ok (.sipush 5184, 3) := by decide +kernel
theorem dX6_init_19 : decode cX6_init 19 = .ok (.newarray .long, 2) := by decide +kernel
theorem dX6_init_21 : decode cX6_init 21 = .ok (.putfield 18, 3) := by decide +kernel
theorem dX6_init_24 : decode cX6_init 24 = .ok (.aload_n 0, 1) := by decide +kernel
theorem dX6_init_25 : decode cX6_init 25 = .ok (.bipush 13, 2) := by decide +kernel
theorem dX6_init_27 : decode cX6_init 27 = .ok (.newarray .long, 2) := by decide +kernel
theorem dX6_init_29 : decode cX6_init 29 = .ok (.putfield 22, 3) := by decide +kernel
theorem dX6_init_32 : decode cX6_init 32 = .ok (.aload_n 0, 1) := by decide +kernel
theorem dX6_init_33 : decode cX6_init 33 = .ok (.bipush 12, 2) := by decide +kernel
theorem dX6_init_35 : decode cX6_init 35 = .ok (.newarray .int, 2) := by decide +kernel
theorem dX6_init_37 : decode cX6_init 37 = .ok (.putfield 25, 3) := by decide +kernel
theorem dX6_init_40 : decode cX6_init 40 = .ok (.aload_n 0, 1) := by decide +kernel
theorem dX6_init_41 : decode cX6_init 41 = .ok (.sipush 5184, 3) := by decide +kernel
theorem dX6_init_44 : decode cX6_init 44 = .ok (.newarray .long, 2) := by decide +kernel
theorem dX6_init_46 : decode cX6_init 46 = .ok (.putfield 29, 3) := by decide +kernel
theorem dX6_init_49 : decode cX6_init 49 = .ok (.aload_n 0, 1) := by decide +kernel
theorem dX6_init_50 : decode cX6_init 50 = .ok (.sipush 5184, 3) := by decide +kernel
theorem dX6_init_53 : decode cX6_init 53 = .ok (.newarray .long, 2) := by decide +kernel
theorem dX6_init_55 : decode cX6_init 55 = .ok (.putfield 32, 3) := by decide +kernel
theorem dX6_init_58 : decode cX6_init 58 = .ok (.aload_n 0, 1) := by decide +kernel
theorem dX6_init_59 : decode cX6_init 59 = .ok (.iconst 0, 1) := by decide +kernel
theorem dX6_init_60 : decode cX6_init 60 = .ok (.putfield 35, 3) := by decide +kernel
theorem dX6_init_63 : decode cX6_init 63 = .ok (.aload_n 0, 1) := by decide +kernel
theorem dX6_init_64 : decode cX6_init 64 = .ok (.lconst 0, 1) := by decide +kernel
theorem dX6_init_65 : decode cX6_init 65 = .ok (.putfield 39, 3) := by decide +kernel
theorem dX6_init_68 : decode cX6_init 68 = .ok (.aload_n 0, 1) := by decide +kernel
theorem dX6_init_69 : decode cX6_init 69 = .ok (.iconst 0, 1) := by decide +kernel
theorem dX6_init_70 : decode cX6_init 70 = .ok (.putfield 43, 3) := by decide +kernel
theorem dX6_init_73 : decode cX6_init 73 = .ok (.aload_n 0, 1) := by decide +kernel
theorem dX6_init_74 : decode cX6_init 74 = .ok (.iconst 0, 1) := by decide +kernel
theorem dX6_init_75 : decode cX6_init 75 = .ok (.putfield 47, 3) := by decide +kernel
theorem dX6_init_78 : decode cX6_init 78 = .ok (.aload_n 0, 1) := by decide +kernel
theorem dX6_init_79 : decode cX6_init 79 = .ok (.aload_n 1, 1) := by decide +kernel
theorem dX6_init_80 : decode cX6_init 80 = .ok (.putfield 50, 3) := by decide +kernel
theorem dX6_init_83 : decode cX6_init 83 = .ok (.aload_n 0, 1) := by decide +kernel
theorem dX6_init_84 : decode cX6_init 84 = .ok (.aload_n 2, 1) := by decide +kernel
theorem dX6_init_85 : decode cX6_init 85 = .ok (.putfield 54, 3) := by decide +kernel
theorem dX6_init_88 : decode cX6_init 88 = .ok (.aload_n 0, 1) := by decide +kernel
theorem dX6_init_89 : decode cX6_init 89 = .ok (.new 58, 3) := by decide +kernel
theorem dX6_init_92 : decode cX6_init 92 = .ok (.dup, 1) := by decide +kernel
theorem dX6_init_93 : decode cX6_init 93 = .ok (.aload_n 1, 1) := by decide +kernel
theorem dX6_init_94 : decode cX6_init 94 = .ok (.aload_n 2, 1) := by decide +kernel
theorem dX6_init_95 : decode cX6_init 95 = .ok (.invokespecial 60, 3) := by decide +kernel
theorem dX6_init_98 : decode cX6_init 98 = .ok (.putfield 63, 3) := by decide +kernel
theorem dX6_init_101 : decode cX6_init 101 = .ok (.aload_n 0, 1) := by decide +kernel
theorem dX6_init_102 : decode cX6_init 102 = .ok (.new 67, 3) := by decide +kernel
theorem dX6_init_105 : decode cX6_init 105 = .ok (.dup, 1) := by decide +kernel
theorem dX6_init_106 : decode cX6_init 106 = .ok (.aload_n 2, 1) := by decide +kernel
theorem dX6_init_107 : decode cX6_init 107 = .ok (.getfield 69, 3) := by decide +kernel
theorem dX6_init_110 : decode cX6_init 110 = .ok (.invokespecial 74, 3) := by decide +kernel
theorem dX6_init_113 : decode cX6_init 113 = .ok (.putfield 77, 3) := by decide +kernel
theorem dX6_init_116 : decode cX6_init 116 = .ok (.return_, 1) := by decide +kernel
theorem dX6_refresh_0 : decode cX6_refresh 0 = .ok (.aload_n 0, 1) := by decide +kernel
theorem dX6_refresh_1 : decode cX6_refresh 1 = .ok (.getfield 43, 3) := by decide +kernel
theorem dX6_refresh_4 : decode cX6_refresh 4 = .ok (.ifCond .eq 4, 3) := by decide +kernel
theorem dX6_refresh_7 : decode cX6_refresh 7 = .ok (.return_, 1) := by decide +kernel
theorem dX6_refresh_8 : decode cX6_refresh 8 = .ok (.aload_n 0, 1) := by decide +kernel
theorem dX6_refresh_9 : decode cX6_refresh 9 = .ok (.getfield 63, 3) := by decide +kernel
theorem dX6_refresh_12 : decode cX6_refresh 12 = .ok (.invokevirtual 81, 3) := by decide +kernel
theorem dX6_refresh_15 : decode cX6_refresh 15 = .ok (.aload_n 0, 1) := by decide +kernel
theorem dX6_refresh_16 : decode cX6_refresh 16 = .ok (.getfield 63, 3) := by decide +kernel
theorem dX6_refresh_19 : decode cX6_refresh 19 = .ok (.aload_n 0, 1) := by decide +kernel
theorem dX6_refresh_20 : decode cX6_refresh 20 = .ok (.getfield 12, 3) := by decide +kernel
theorem dX6_refresh_23 : decode cX6_refresh 23 = .ok (.aload_n 0, 1) := by decide +kernel
theorem dX6_refresh_24 : decode cX6_refresh 24 = .ok (.getfield 18, 3) := by decide +kernel
theorem dX6_refresh_27 : decode cX6_refresh 27 = .ok (.invokevirtual 84, 3) := by decide +kernel
theorem dX6_refresh_30 : decode cX6_refresh 30 = .ok (.aload_n 0, 1) := by decide +kernel
theorem dX6_refresh_31 : decode cX6_refresh 31 = .ok (.aload_n 0, 1) := by decide +kernel
theorem dX6_refresh_32 : decode cX6_refresh 32 = .ok (.getfield 63, 3) := by decide +kernel
theorem dX6_refresh_35 : decode cX6_refresh 35 = .ok (.aload_n 0, 1) := by decide +kernel
theorem dX6_refresh_36 : decode cX6_refresh 36 = .ok (.getfield 12, 3) := by decide +kernel
theorem dX6_refresh_39 : decode cX6_refresh 39 = .ok (.sipush 1023, 3) := by decide +kernel
theorem dX6_refresh_42 : decode cX6_refresh 42 = .ok (.aload_n 0, 1) := by decide +kernel
theorem dX6_refresh_43 : decode cX6_refresh 43 = .ok (.getfield 18, 3) := by decide +kernel
theorem dX6_refresh_46 : decode cX6_refresh 46 = .ok (.aload_n 0, 1) := by decide +kernel
theorem dX6_refresh_47 : decode cX6_refresh 47 = .ok (.getfield 18, 3) := by decide +kernel
theorem dX6_refresh_50 : decode cX6_refresh 50 = .ok (.invokevirtual 88, 3) := by decide +kernel
theorem dX6_refresh_53 : decode cX6_refresh 53 = .ok (.putfield 39, 3) := by decide +kernel
theorem dX6_refresh_56 : decode cX6_refresh 56 = .ok (.aload_n 0, 1) := by decide +kernel
theorem dX6_refresh_57 : decode cX6_refresh 57 = .ok (.iconst 0, 1) := by decide +kernel
theorem dX6_refresh_58 : decode cX6_refresh 58 = .ok (.putfield 47, 3) := by decide +kernel
theorem dX6_refresh_61 : decode cX6_refresh 61 = .ok (.aload_n 0, 1) := by decide +kernel
theorem dX6_refresh_62 : decode cX6_refresh 62 = .ok (.iconst 1, 1) := by decide +kernel
theorem dX6_refresh_63 : decode cX6_refresh 63 = .ok (.putfield 43, 3) := by decide +kernel
theorem dX6_refresh_66 : decode cX6_refresh 66 = .ok (.return_, 1) := by decide +kernel
theorem dX6_exist_0 : decode cX6_exist 0 = .ok (.aload_n 0, 1) := by decide +kernel
theorem dX6_exist_1 : decode cX6_exist 1 = .ok (.iconst 0, 1) := by decide +kernel
theorem dX6_exist_2 : decode cX6_exist 2 = .ok (.putfield 43, 3) := by decide +kernel
theorem dX6_exist_5 : decode cX6_exist 5 = .ok (.aload_n 0, 1) := by decide +kernel
theorem dX6_exist_6 : decode cX6_exist 6 = .ok (.getfield 63, 3) := by decide +kernel
theorem dX6_exist_9 : decode cX6_exist 9 = .ok (.invokevirtual 81, 3) := by decide +kernel
theorem dX6_exist_12 : decode cX6_exist 12 = .ok (.aload_n 0, 1) := by decide +kernel
theorem dX6_exist_13 : decode cX6_exist 13 = .ok (.getfield 63, 3) := by decide +kernel
theorem dX6_exist_16 : decode cX6_exist 16 = .ok (.invokevirtual 92, 3) := by decide +kernel
theorem dX6_exist_19 : decode cX6_exist 19 = .ok (.ireturn, 1) := by decide +kernel
theorem dX6_count_0 : decode cX6_count 0 = .ok (.aload_n 0, 1) := by decide +kernel
theorem dX6_count_1 : decode cX6_count 1 = .ok (.invokevirtual 96, 3) := by decide +kernel
theorem dX6_count_4 : decode cX6_count 4 = .ok (.aload_n 0, 1) := by decide +kernel
theorem dX6_count_5 : decode cX6_count 5 = .ok (.getfield 39, 3) := by decide +kernel
theorem dX6_count_8 : decode cX6_count 8 = .ok (.lreturn, 1) := by decide +kernel
theorem dX6_countWithin_0 : decode cX6_countWithin 0 = .ok (.aload_n 0, 1) := by decide +kernel
theorem dX6_countWithin_1 : decode cX6_countWithin 1 = .ok (.invokevirtual 96, 3) := by decide +kernel
theorem dX6_countWithin_4 : decode cX6_countWithin 4 = .ok (.aload_n 0, 1) := by decide +kernel
theorem dX6_countWithin_5 : decode cX6_countWithin 5 = .ok (.aload_n 0, 1) := by decide +kernel
theorem dX6_countWithin_6 : decode cX6_countWithin 6 = .ok (.getfield 12, 3) := by decide +kernel
theorem dX6_countWithin_9 : decode cX6_countWithin 9 = .ok (.iload_n 1, 1) := by decide +kernel
theorem dX6_countWithin_10 : decode cX6_countWithin 10 = .ok (.invokevirtual 99, 3) := by decide +kernel
theorem dX6_countWithin_13 : decode cX6_countWithin 13 = .ok (.lreturn, 1) := by decide +kernel
theorem dX6_foldWithin_0 : decode cX6_foldWithin 0 = .ok (.aload_n 0, 1) := by decide +kernel
theorem dX6_foldWithin_1 : decode cX6_foldWithin 1 = .ok (.getfield 63, 3) := by decide +kernel
theorem dX6_foldWithin_4 : decode cX6_foldWithin 4 = .ok (.aload_n 1, 1) := by decide +kernel
theorem dX6_foldWithin_5 : decode cX6_foldWithin 5 = .ok (.aload_n 0, 1) := by decide +kernel
theorem dX6_foldWithin_6 : decode cX6_foldWithin 6 = .ok (.getfield 29, 3) := by decide +kernel
theorem dX6_foldWithin_9 : decode cX6_foldWithin 9 = .ok (.invokevirtual 84, 3) := by decide +kernel
theorem dX6_foldWithin_12 : decode cX6_foldWithin 12 = .ok (.aload_n 0, 1) := by decide +kernel
theorem dX6_foldWithin_13 : decode cX6_foldWithin 13 = .ok (.getfield 63, 3) := by decide +kernel
theorem dX6_foldWithin_16 : decode cX6_foldWithin 16 = .ok (.aload_n 1, 1) := by decide +kernel
theorem dX6_foldWithin_17 : decode cX6_foldWithin 17 = .ok (.iload_n 2, 1) := by decide +kernel
theorem dX6_foldWithin_18 : decode cX6_foldWithin 18 = .ok (.aload_n 0, 1) := by decide +kernel
theorem dX6_foldWithin_19 : decode cX6_foldWithin 19 = .ok (.getfield 29, 3) := by decide +kernel
theorem dX6_foldWithin_22 : decode cX6_foldWithin 22 = .ok (.aload_n 0, 1) := by decide +kernel
theorem dX6_foldWithin_23 : decode cX6_foldWithin 23 = .ok (.getfield 29, 3) := by decide +kernel
theorem dX6_foldWithin_26 : decode cX6_foldWithin 26 = .ok (.invokevirtual 88, 3) := by decide +kernel
theorem dX6_foldWithin_29 : decode cX6_foldWithin 29 = .ok (.lreturn, 1) := by decide +kernel
theorem dX6_countOf_0 : decode cX6_countOf 0 = .ok (.aload_n 0, 1) := by decide +kernel
theorem dX6_countOf_1 : decode cX6_countOf 1 = .ok (.invokevirtual 103, 3) := by decide +kernel
theorem dX6_countOf_4 : decode cX6_countOf 4 = .ok (.iload_n 1, 1) := by decide +kernel
theorem dX6_countOf_5 : decode cX6_countOf 5 = .ok (.iconst 1, 1) := by decide +kernel
theorem dX6_countOf_6 : decode cX6_countOf 6 = .ok (.if_icmp .lt 18, 3) := by decide +kernel
theorem dX6_countOf_9 : decode cX6_countOf 9 = .ok (.iload_n 1, 1) := by decide +kernel
theorem dX6_countOf_10 : decode cX6_countOf 10 = .ok (.bipush 12, 2) := by decide +kernel
theorem dX6_countOf_12 : decode cX6_countOf 12 = .ok (.if_icmp .gt 12, 3) := by decide +kernel
theorem dX6_countOf_15 : decode cX6_countOf 15 = .ok (.aload_n 0, 1) := by decide +kernel
theorem dX6_countOf_16 : decode cX6_countOf 16 = .ok (.getfield 22, 3) := by decide +kernel
theorem dX6_countOf_19 : decode cX6_countOf 19 = .ok (.iload_n 1, 1) := by decide +kernel
theorem dX6_countOf_20 : decode cX6_countOf 20 = .ok (.laload, 1) := by decide +kernel
theorem dX6_countOf_21 : decode cX6_countOf 21 = .ok (.goto 4, 3) := by decide +kernel
theorem dX6_countOf_24 : decode cX6_countOf 24 = .ok (.lconst 0, 1) := by decide +kernel
theorem dX6_countOf_25 : decode cX6_countOf 25 = .ok (.lreturn, 1) := by decide +kernel
theorem dX6_countLengths_0 : decode cX6_countLengths 0 = .ok (.aload_n 0, 1) := by decide +kernel
theorem dX6_countLengths_1 : decode cX6_countLengths 1 = .ok (.invokevirtual 96, 3) := by decide +kernel
theorem dX6_countLengths_4 : decode cX6_countLengths 4 = .ok (.aload_n 0, 1) := by decide +kernel
theorem dX6_countLengths_5 : decode cX6_countLengths 5 = .ok (.getfield 47, 3) := by decide +kernel
theorem dX6_countLengths_8 : decode cX6_countLengths 8 = .ok (.ifCond .eq 4, 3) := by decide +kernel
theorem dX6_countLengths_11 : decode cX6_countLengths 11 = .ok (.return_, 1) := by decide +kernel
theorem dX6_countLengths_12 : decode cX6_countLengths 12 = .ok (.aload_n 0, 1) := by decide +kernel
theorem dX6_countLengths_13 : decode cX6_countLengths 13 = .ok (.getfield 63, 3) := by decide +kernel
theorem dX6_countLengths_16 : decode cX6_countLengths 16 = .ok (.aload_n 0, 1) := by decide +kernel
theorem dX6_countLengths_17 : decode cX6_countLengths 17 = .ok (.getfield 12, 3) := by decide +kernel
theorem dX6_countLengths_20 : decode cX6_countLengths 20 = .ok (.aload_n 0, 1) := by decide +kernel
theorem dX6_countLengths_21 : decode cX6_countLengths 21 = .ok (.getfield 29, 3) := by decide +kernel
theorem dX6_countLengths_24 : decode cX6_countLengths 24 = .ok (.invokevirtual 106, 3) := by decide +kernel
theorem dX6_countLengths_27 : decode cX6_countLengths 27 = .ok (.aload_n 0, 1) := by decide +kernel
theorem dX6_countLengths_28 : decode cX6_countLengths 28 = .ok (.getfield 63, 3) := by decide +kernel
theorem dX6_countLengths_31 : decode cX6_countLengths 31 = .ok (.aload_n 0, 1) := by decide +kernel
theorem dX6_countLengths_32 : decode cX6_countLengths 32 = .ok (.getfield 12, 3) := by decide +kernel
theorem dX6_countLengths_35 : decode cX6_countLengths 35 = .ok (.aload_n 0, 1) := by decide +kernel
theorem dX6_countLengths_36 : decode cX6_countLengths 36 = .ok (.getfield 29, 3) := by decide +kernel
theorem dX6_countLengths_39 : decode cX6_countLengths 39 = .ok (.invokevirtual 84, 3) := by decide +kernel
theorem dX6_countLengths_42 : decode cX6_countLengths 42 = .ok (.aload_n 0, 1) := by decide +kernel
theorem dX6_countLengths_43 : decode cX6_countLengths 43 = .ok (.getfield 39, 3) := by decide +kernel
theorem dX6_countLengths_46 : decode cX6_countLengths 46 = .ok (.lstore_n 1, 1) := by decide +kernel
theorem dX6_countLengths_47 : decode cX6_countLengths 47 = .ok (.iconst 1, 1) := by decide +kernel
theorem dX6_countLengths_48 : decode cX6_countLengths 48 = .ok (.istore_n 3, 1) := by decide +kernel
theorem dX6_countLengths_49 : decode cX6_countLengths 49 = .ok (.iload_n 3, 1) := by decide +kernel
theorem dX6_countLengths_50 : decode cX6_countLengths 50 = .ok (.bipush 12, 2) := by decide +kernel
theorem dX6_countLengths_52 : decode cX6_countLengths 52 = .ok (.if_icmp .gt 86, 3) := by decide +kernel
theorem dX6_countLengths_55 : decode cX6_countLengths 55 = .ok (.aload_n 0, 1) := by decide +kernel
theorem dX6_countLengths_56 : decode cX6_countLengths 56 = .ok (.getfield 22, 3) := by decide +kernel
theorem dX6_countLengths_59 : decode cX6_countLengths 59 = .ok (.iload_n 3, 1) := by decide +kernel
theorem dX6_countLengths_60 : decode cX6_countLengths 60 = .ok (.lconst 0, 1) := by decide +kernel
theorem dX6_countLengths_61 : decode cX6_countLengths 61 = .ok (.lastore, 1) := by decide +kernel
theorem dX6_countLengths_62 : decode cX6_countLengths 62 = .ok (.lload_n 1, 1) := by decide +kernel
theorem dX6_countLengths_63 : decode cX6_countLengths 63 = .ok (.lconst 0, 1) := by decide +kernel
theorem dX6_countLengths_64 : decode cX6_countLengths 64 = .ok (.lcmp, 1) := by decide +kernel
theorem dX6_countLengths_65 : decode cX6_countLengths 65 = .ok (.ifCond .le 67, 3) := by decide +kernel
theorem dX6_countLengths_68 : decode cX6_countLengths 68 = .ok (.aload_n 0, 1) := by decide +kernel
theorem dX6_countLengths_69 : decode cX6_countLengths 69 = .ok (.getfield 22, 3) := by decide +kernel
theorem dX6_countLengths_72 : decode cX6_countLengths 72 = .ok (.iload_n 3, 1) := by decide +kernel
theorem dX6_countLengths_73 : decode cX6_countLengths 73 = .ok (.aload_n 0, 1) := by decide +kernel
theorem dX6_countLengths_74 : decode cX6_countLengths 74 = .ok (.getfield 63, 3) := by decide +kernel
theorem dX6_countLengths_77 : decode cX6_countLengths 77 = .ok (.aload_n 0, 1) := by decide +kernel
theorem dX6_countLengths_78 : decode cX6_countLengths 78 = .ok (.getfield 12, 3) := by decide +kernel
theorem dX6_countLengths_81 : decode cX6_countLengths 81 = .ok (.sipush 1023, 3) := by decide +kernel
theorem dX6_countLengths_84 : decode cX6_countLengths 84 = .ok (.aload_n 0, 1) := by decide +kernel
theorem dX6_countLengths_85 : decode cX6_countLengths 85 = .ok (.getfield 29, 3) := by decide +kernel
theorem dX6_countLengths_88 : decode cX6_countLengths 88 = .ok (.aload_n 0, 1) := by decide +kernel
theorem dX6_countLengths_89 : decode cX6_countLengths 89 = .ok (.getfield 32, 3) := by decide +kernel
theorem dX6_countLengths_92 : decode cX6_countLengths 92 = .ok (.invokevirtual 88, 3) := by decide +kernel
theorem dX6_countLengths_95 : decode cX6_countLengths 95 = .ok (.lastore, 1) := by decide +kernel
theorem dX6_countLengths_96 : decode cX6_countLengths 96 = .ok (.lload_n 1, 1) := by decide +kernel
theorem dX6_countLengths_97 : decode cX6_countLengths 97 = .ok (.aload_n 0, 1) := by decide +kernel
theorem dX6_countLengths_98 : decode cX6_countLengths 98 = .ok (.getfield 22, 3) := by decide +kernel
theorem dX6_countLengths_101 : decode cX6_countLengths 101 = .ok (.iload_n 3, 1) := by decide +kernel
theorem dX6_countLengths_102 : decode cX6_countLengths 102 = .ok (.laload, 1) := by decide +kernel
theorem dX6_countLengths_103 : decode cX6_countLengths 103 = .ok (.lsub, 1) := by decide +kernel
theorem dX6_countLengths_104 : decode cX6_countLengths 104 = .ok (.lstore_n 1, 1) := by decide +kernel
theorem dX6_countLengths_105 : decode cX6_countLengths 105 = .ok (.aload_n 0, 1) := by decide +kernel
theorem dX6_countLengths_106 : decode cX6_countLengths 106 = .ok (.getfield 32, 3) := by decide +kernel
theorem dX6_countLengths_109 : decode cX6_countLengths 109 = .ok (.invokestatic 109, 3) := by decide +kernel
theorem dX6_countLengths_112 : decode cX6_countLengths 112 = .ok (.aload_n 0, 1) := by decide +kernel
theorem dX6_countLengths_113 : decode cX6_countLengths 113 = .ok (.getfield 29, 3) := by decide +kernel
theorem dX6_countLengths_116 : decode cX6_countLengths 116 = .ok (.astore 4, 2) := by decide +kernel
theorem dX6_countLengths_118 : decode cX6_countLengths 118 = .ok (.aload_n 0, 1) := by decide +kernel
theorem dX6_countLengths_119 : decode cX6_countLengths 119 = .ok (.aload_n 0, 1) := by decide +kernel
theorem dX6_countLengths_120 : decode cX6_countLengths 120 = .ok (.getfield 32, 3) := by decide +kernel
theorem dX6_countLengths_123 : decode cX6_countLengths 123 = .ok (.putfield 29, 3) := by decide +kernel
theorem dX6_countLengths_126 : decode cX6_countLengths 126 = .ok (.aload_n 0, 1) := by decide +kernel
theorem dX6_countLengths_127 : decode cX6_countLengths 127 = .ok (.aload 4, 2) := by decide +kernel
theorem dX6_countLengths_129 : decode cX6_countLengths 129 = .ok (.putfield 32, 3) := by decide +kernel
theorem dX6_countLengths_132 : decode cX6_countLengths 132 = .ok (.iinc 3 1, 3) := by decide +kernel
theorem dX6_countLengths_135 : decode cX6_countLengths 135 = .ok (.goto (-86), 3) := by decide +kernel
theorem dX6_countLengths_138 : decode cX6_countLengths 138 = .ok (.aload_n 0, 1) := by decide +kernel
theorem dX6_countLengths_139 : decode cX6_countLengths 139 = .ok (.iconst 1, 1) := by decide +kernel
theorem dX6_countLengths_140 : decode cX6_countLengths 140 = .ok (.putfield 47, 3) := by decide +kernel
theorem dX6_countLengths_143 : decode cX6_countLengths 143 = .ok (.return_, 1) := by decide +kernel
theorem dX6_endNowhere_0 : decode cX6_endNowhere 0 = .ok (.iconst 0, 1) := by decide +kernel
theorem dX6_endNowhere_1 : decode cX6_endNowhere 1 = .ok (.istore_n 1, 1) := by decide +kernel
theorem dX6_endNowhere_2 : decode cX6_endNowhere 2 = .ok (.iload_n 1, 1) := by decide +kernel
theorem dX6_endNowhere_3 : decode cX6_endNowhere 3 = .ok (.iconst 4, 1) := by decide +kernel
theorem dX6_endNowhere_4 : decode cX6_endNowhere 4 = .ok (.if_icmp .ge 13, 3) := by decide +kernel
theorem dX6_endNowhere_7 : decode cX6_endNowhere 7 = .ok (.aload_n 0, 1) := by decide +kernel
theorem dX6_endNowhere_8 : decode cX6_endNowhere 8 = .ok (.iload_n 1, 1) := by decide +kernel
theorem dX6_endNowhere_9 : decode cX6_endNowhere 9 = .ok (.lconst 0, 1) := by decide +kernel
theorem dX6_endNowhere_10 : decode cX6_endNowhere 10 = .ok (.lastore, 1) := by decide +kernel
theorem dX6_endNowhere_11 : decode cX6_endNowhere 11 = .ok (.iinc 1 1, 3) := by decide +kernel
theorem dX6_endNowhere_14 : decode cX6_endNowhere 14 = .ok (.goto (-12), 3) := by decide +kernel
theorem dX6_endNowhere_17 : decode cX6_endNowhere 17 = .ok (.return_, 1) := by decide +kernel
theorem dX6_fewestWords_0 : decode cX6_fewestWords 0 = .ok (.aload_n 0, 1) := by decide +kernel
theorem dX6_fewestWords_1 : decode cX6_fewestWords 1 = .ok (.invokevirtual 103, 3) := by decide +kernel
theorem dX6_fewestWords_4 : decode cX6_fewestWords 4 = .ok (.iconst 1, 1) := by decide +kernel
theorem dX6_fewestWords_5 : decode cX6_fewestWords 5 = .ok (.istore_n 1, 1) := by decide +kernel
theorem dX6_fewestWords_6 : decode cX6_fewestWords 6 = .ok (.iload_n 1, 1) := by decide +kernel
theorem dX6_fewestWords_7 : decode cX6_fewestWords 7 = .ok (.bipush 12, 2) := by decide +kernel
theorem dX6_fewestWords_9 : decode cX6_fewestWords 9 = .ok (.if_icmp .gt 22, 3) := by decide +kernel
theorem dX6_fewestWords_12 : decode cX6_fewestWords 12 = .ok (.aload_n 0, 1) := by decide +kernel
theorem dX6_fewestWords_13 : decode cX6_fewestWords 13 = .ok (.getfield 22, 3) := by decide +kernel
theorem dX6_fewestWords_16 : decode cX6_fewestWords 16 = .ok (.iload_n 1, 1) := by decide +kernel
theorem dX6_fewestWords_17 : decode cX6_fewestWords 17 = .ok (.laload, 1) := by decide +kernel
theorem dX6_fewestWords_18 : decode cX6_fewestWords 18 = .ok (.lconst 0, 1) := by decide +kernel
theorem dX6_fewestWords_19 : decode cX6_fewestWords 19 = .ok (.lcmp, 1) := by decide +kernel
theorem dX6_fewestWords_20 : decode cX6_fewestWords 20 = .ok (.ifCond .le 5, 3) := by decide +kernel
theorem dX6_fewestWords_23 : decode cX6_fewestWords 23 = .ok (.iload_n 1, 1) := by decide +kernel
theorem dX6_fewestWords_24 : decode cX6_fewestWords 24 = .ok (.ireturn, 1) := by decide +kernel
theorem dX6_fewestWords_25 : decode cX6_fewestWords 25 = .ok (.iinc 1 1, 3) := by decide +kernel
theorem dX6_fewestWords_28 : decode cX6_fewestWords 28 = .ok (.goto (-22), 3) := by decide +kernel
theorem dX6_fewestWords_31 : decode cX6_fewestWords 31 = .ok (.bipush (-9), 2) := by decide +kernel
theorem dX6_fewestWords_33 : decode cX6_fewestWords 33 = .ok (.ireturn, 1) := by decide +kernel
theorem dX6_mostWords_0 : decode cX6_mostWords 0 = .ok (.aload_n 0, 1) := by decide +kernel
theorem dX6_mostWords_1 : decode cX6_mostWords 1 = .ok (.invokevirtual 103, 3) := by decide +kernel
theorem dX6_mostWords_4 : decode cX6_mostWords 4 = .ok (.bipush 12, 2) := by decide +kernel
theorem dX6_mostWords_6 : decode cX6_mostWords 6 = .ok (.istore_n 1, 1) := by decide +kernel
theorem dX6_mostWords_7 : decode cX6_mostWords 7 = .ok (.iload_n 1, 1) := by decide +kernel
theorem dX6_mostWords_8 : decode cX6_mostWords 8 = .ok (.iconst 1, 1) := by decide +kernel
theorem dX6_mostWords_9 : decode cX6_mostWords 9 = .ok (.if_icmp .lt 22, 3) := by decide +kernel
theorem dX6_mostWords_12 : decode cX6_mostWords 12 = .ok (.aload_n 0, 1) := by decide +kernel
theorem dX6_mostWords_13 : decode cX6_mostWords 13 = .ok (.getfield 22, 3) := by decide +kernel
theorem dX6_mostWords_16 : decode cX6_mostWords 16 = .ok (.iload_n 1, 1) := by decide +kernel
theorem dX6_mostWords_17 : decode cX6_mostWords 17 = .ok (.laload, 1) := by decide +kernel
theorem dX6_mostWords_18 : decode cX6_mostWords 18 = .ok (.lconst 0, 1) := by decide +kernel
theorem dX6_mostWords_19 : decode cX6_mostWords 19 = .ok (.lcmp, 1) := by decide +kernel
theorem dX6_mostWords_20 : decode cX6_mostWords 20 = .ok (.ifCond .le 5, 3) := by decide +kernel
theorem dX6_mostWords_23 : decode cX6_mostWords 23 = .ok (.iload_n 1, 1) := by decide +kernel
theorem dX6_mostWords_24 : decode cX6_mostWords 24 = .ok (.ireturn, 1) := by decide +kernel
theorem dX6_mostWords_25 : decode cX6_mostWords 25 = .ok (.iinc 1 (-1), 3) := by decide +kernel
theorem dX6_mostWords_28 : decode cX6_mostWords 28 = .ok (.goto (-21), 3) := by decide +kernel
theorem dX6_mostWords_31 : decode cX6_mostWords 31 = .ok (.bipush (-9), 2) := by decide +kernel
theorem dX6_mostWords_33 : decode cX6_mostWords 33 = .ok (.ireturn, 1) := by decide +kernel
theorem dX6_wordsInPhrases_0 : decode cX6_wordsInPhrases 0 = .ok (.aload_n 0, 1) := by decide +kernel
theorem dX6_wordsInPhrases_1 : decode cX6_wordsInPhrases 1 = .ok (.invokevirtual 96, 3) := by decide +kernel
theorem dX6_wordsInPhrases_4 : decode cX6_wordsInPhrases 4 = .ok (.iconst 0, 1) := by decide +kernel
theorem dX6_wordsInPhrases_5 : decode cX6_wordsInPhrases 5 = .ok (.istore_n 1, 1) := by decide +kernel
theorem dX6_wordsInPhrases_6 : decode cX6_wordsInPhrases 6 = .ok (.iconst 0, 1) := by decide +kernel
theorem dX6_wordsInPhrases_7 : decode cX6_wordsInPhrases 7 = .ok (.istore_n 2, 1) := by decide +kernel
theorem dX6_wordsInPhrases_8 : decode cX6_wordsInPhrases 8 = .ok (.iload_n 2, 1) := by decide +kernel
theorem dX6_wordsInPhrases_9 : decode cX6_wordsInPhrases 9 = .ok (.aload_n 0, 1) := by decide +kernel
theorem dX6_wordsInPhrases_10 : decode cX6_wordsInPhrases 10 = .ok (.getfield 63, 3) := by decide +kernel
theorem dX6_wordsInPhrases_13 : decode cX6_wordsInPhrases 13 = .ok (.getfield 113, 3) := by decide +kernel
theorem dX6_wordsInPhrases_16 : decode cX6_wordsInPhrases 16 = .ok (.if_icmp .ge 81, 3) := by decide +kernel
theorem dX6_wordsInPhrases_19 : decode cX6_wordsInPhrases 19 = .ok (.aload_n 0, 1) := by decide +kernel
theorem dX6_wordsInPhrases_20 : decode cX6_wordsInPhrases 20 = .ok (.getfield 63, 3) := by decide +kernel
theorem dX6_wordsInPhrases_23 : decode cX6_wordsInPhrases 23 = .ok (.getfield 116, 3) := by decide +kernel
theorem dX6_wordsInPhrases_26 : decode cX6_wordsInPhrases 26 = .ok (.iload_n 2, 1) := by decide +kernel
theorem dX6_wordsInPhrases_27 : decode cX6_wordsInPhrases 27 = .ok (.iaload, 1) := by decide +kernel
theorem dX6_wordsInPhrases_28 : decode cX6_wordsInPhrases 28 = .ok (.istore_n 3, 1) := by decide +kernel
theorem dX6_wordsInPhrases_29 : decode cX6_wordsInPhrases 29 = .ok (.iconst 0, 1) := by decide +kernel
theorem dX6_wordsInPhrases_30 : decode cX6_wordsInPhrases 30 = .ok (.istore 4, 2) := by decide +kernel
theorem dX6_wordsInPhrases_32 : decode cX6_wordsInPhrases 32 = .ok (.iload 4, 2) := by decide +kernel
theorem dX6_wordsInPhrases_34 : decode cX6_wordsInPhrases 34 = .ok (.aload_n 0, 1) := by decide +kernel
theorem dX6_wordsInPhrases_35 : decode cX6_wordsInPhrases 35 = .ok (.getfield 50, 3) := by decide +kernel
theorem dX6_wordsInPhrases_38 : decode cX6_wordsInPhrases 38 = .ok (.getfield 119, 3) := by decide +kernel
theorem dX6_wordsInPhrases_41 : decode cX6_wordsInPhrases 41 = .ok (.if_icmp .ge 50, 3) := by decide +kernel
theorem dX6_wordsInPhrases_44 : decode cX6_wordsInPhrases 44 = .ok (.aload_n 0, 1) := by decide +kernel
theorem dX6_wordsInPhrases_45 : decode cX6_wordsInPhrases 45 = .ok (.getfield 63, 3) := by decide +kernel
theorem dX6_wordsInPhrases_48 : decode cX6_wordsInPhrases 48 = .ok (.iload_n 3, 1) := by decide +kernel
theorem dX6_wordsInPhrases_49 : decode cX6_wordsInPhrases 49 = .ok (.bipush 15, 2) := by decide +kernel
theorem dX6_wordsInPhrases_51 : decode cX6_wordsInPhrases 51 = .ok (.iload 4, 2) := by decide +kernel
theorem dX6_wordsInPhrases_53 : decode cX6_wordsInPhrases 53 = .ok (.invokevirtual 124, 3) := by decide +kernel
theorem dX6_wordsInPhrases_56 : decode cX6_wordsInPhrases 56 = .ok (.ifCond .eq 29, 3) := by decide +kernel
theorem dX6_wordsInPhrases_59 : decode cX6_wordsInPhrases 59 = .ok (.aload_n 0, 1) := by decide +kernel
theorem dX6_wordsInPhrases_60 : decode cX6_wordsInPhrases 60 = .ok (.getfield 63, 3) := by decide +kernel
theorem dX6_wordsInPhrases_63 : decode cX6_wordsInPhrases 63 = .ok (.aload_n 0, 1) := by decide +kernel
theorem dX6_wordsInPhrases_64 : decode cX6_wordsInPhrases 64 = .ok (.getfield 18, 3) := by decide +kernel
theorem dX6_wordsInPhrases_67 : decode cX6_wordsInPhrases 67 = .ok (.iload_n 3, 1) := by decide +kernel
theorem dX6_wordsInPhrases_68 : decode cX6_wordsInPhrases 68 = .ok (.iload 4, 2) := by decide +kernel
theorem dX6_wordsInPhrases_70 : decode cX6_wordsInPhrases 70 = .ok (.invokevirtual 128, 3) := by decide +kernel
theorem dX6_wordsInPhrases_73 : decode cX6_wordsInPhrases 73 = .ok (.lconst 0, 1) := by decide +kernel
theorem dX6_wordsInPhrases_74 : decode cX6_wordsInPhrases 74 = .ok (.lcmp, 1) := by decide +kernel
theorem dX6_wordsInPhrases_75 : decode cX6_wordsInPhrases 75 = .ok (.ifCond .le 10, 3) := by decide +kernel
theorem dX6_wordsInPhrases_78 : decode cX6_wordsInPhrases 78 = .ok (.iload_n 1, 1) := by decide +kernel
theorem dX6_wordsInPhrases_79 : decode cX6_wordsInPhrases 79 = .ok (.iconst 1, 1) := by decide +kernel
theorem dX6_wordsInPhrases_80 : decode cX6_wordsInPhrases 80 = .ok (.iload 4, 2) := by decide +kernel
theorem dX6_wordsInPhrases_82 : decode cX6_wordsInPhrases 82 = .ok (.ishl, 1) := by decide +kernel
theorem dX6_wordsInPhrases_83 : decode cX6_wordsInPhrases 83 = .ok (.ior, 1) := by decide +kernel
theorem dX6_wordsInPhrases_84 : decode cX6_wordsInPhrases 84 = .ok (.istore_n 1, 1) := by decide +kernel
theorem dX6_wordsInPhrases_85 : decode cX6_wordsInPhrases 85 = .ok (.iinc 4 1, 3) := by decide +kernel
theorem dX6_wordsInPhrases_88 : decode cX6_wordsInPhrases 88 = .ok (.goto (-56), 3) := by decide +kernel
theorem dX6_wordsInPhrases_91 : decode cX6_wordsInPhrases 91 = .ok (.iinc 2 1, 3) := by decide +kernel
theorem dX6_wordsInPhrases_94 : decode cX6_wordsInPhrases 94 = .ok (.goto (-86), 3) := by decide +kernel
theorem dX6_wordsInPhrases_97 : decode cX6_wordsInPhrases 97 = .ok (.iload_n 1, 1) := by decide +kernel
theorem dX6_wordsInPhrases_98 : decode cX6_wordsInPhrases 98 = .ok (.ireturn, 1) := by decide +kernel
theorem dX6_waysBy_0 : decode cX6_waysBy 0 = .ok (.aload_n 0, 1) := by decide +kernel
theorem dX6_waysBy_1 : decode cX6_waysBy 1 = .ok (.getfield 63, 3) := by decide +kernel
theorem dX6_waysBy_4 : decode cX6_waysBy 4 = .ok (.iload_n 2, 1) := by decide +kernel
theorem dX6_waysBy_5 : decode cX6_waysBy 5 = .ok (.iload_n 3, 1) := by decide +kernel
theorem dX6_waysBy_6 : decode cX6_waysBy 6 = .ok (.iload_n 1, 1) := by decide +kernel
theorem dX6_waysBy_7 : decode cX6_waysBy 7 = .ok (.invokevirtual 124, 3) := by decide +kernel
theorem dX6_waysBy_10 : decode cX6_waysBy 10 = .ok (.ifCond .eq 19, 3) := by decide +kernel
theorem dX6_waysBy_13 : decode cX6_waysBy 13 = .ok (.aload_n 0, 1) := by decide +kernel
theorem dX6_waysBy_14 : decode cX6_waysBy 14 = .ok (.getfield 63, 3) := by decide +kernel
theorem dX6_waysBy_17 : decode cX6_waysBy 17 = .ok (.aload_n 0, 1) := by decide +kernel
theorem dX6_waysBy_18 : decode cX6_waysBy 18 = .ok (.getfield 18, 3) := by decide +kernel
theorem dX6_waysBy_21 : decode cX6_waysBy 21 = .ok (.iload_n 2, 1) := by decide +kernel
theorem dX6_waysBy_22 : decode cX6_waysBy 22 = .ok (.iload_n 1, 1) := by decide +kernel
theorem dX6_waysBy_23 : decode cX6_waysBy 23 = .ok (.invokevirtual 128, 3) := by decide +kernel
theorem dX6_waysBy_26 : decode cX6_waysBy 26 = .ok (.goto 4, 3) := by decide +kernel
theorem dX6_waysBy_29 : decode cX6_waysBy 29 = .ok (.lconst 0, 1) := by decide +kernel
theorem dX6_waysBy_30 : decode cX6_waysBy 30 = .ok (.lreturn, 1) := by decide +kernel
theorem dX6_findNumbered_0 : decode cX6_findNumbered 0 = .ok (.aload_n 0, 1) := by decide +kernel
theorem dX6_findNumbered_1 : decode cX6_findNumbered 1 = .ok (.invokevirtual 96, 3) := by decide +kernel
theorem dX6_findNumbered_4 : decode cX6_findNumbered 4 = .ok (.aload_n 0, 1) := by decide +kernel
theorem dX6_findNumbered_5 : decode cX6_findNumbered 5 = .ok (.iconst 0, 1) := by decide +kernel
theorem dX6_findNumbered_6 : decode cX6_findNumbered 6 = .ok (.putfield 35, 3) := by decide +kernel
theorem dX6_findNumbered_9 : decode cX6_findNumbered 9 = .ok (.aload_n 0, 1) := by decide +kernel
theorem dX6_findNumbered_10 : decode cX6_findNumbered 10 = .ok (.getfield 63, 3) := by decide +kernel
theorem dX6_findNumbered_13 : decode cX6_findNumbered 13 = .ok (.getfield 132, 3) := by decide +kernel
theorem dX6_findNumbered_16 : decode cX6_findNumbered 16 = .ok (.istore_n 3, 1) := by decide +kernel
theorem dX6_findNumbered_17 : decode cX6_findNumbered 17 = .ok (.aload_n 0, 1) := by decide +kernel
theorem dX6_findNumbered_18 : decode cX6_findNumbered 18 = .ok (.getfield 54, 3) := by decide +kernel
theorem dX6_findNumbered_21 : decode cX6_findNumbered 21 = .ok (.getfield 135, 3) := by decide +kernel
theorem dX6_findNumbered_24 : decode cX6_findNumbered 24 = .ok (.istore 4, 2) := by decide +kernel
theorem dX6_findNumbered_26 : decode cX6_findNumbered 26 = .ok (.lload_n 1, 1) := by decide +kernel
theorem dX6_findNumbered_27 : decode cX6_findNumbered 27 = .ok (.lstore 5, 2) := by decide +kernel
theorem dX6_findNumbered_29 : decode cX6_findNumbered 29 = .ok (.iconst 0, 1) := by decide +kernel
theorem dX6_findNumbered_30 : decode cX6_findNumbered 30 = .ok (.istore 7, 2) := by decide +kernel
theorem dX6_findNumbered_32 : decode cX6_findNumbered 32 = .ok (.iload 7, 2) := by decide +kernel
theorem dX6_findNumbered_34 : decode cX6_findNumbered 34 = .ok (.bipush 12, 2) := by decide +kernel
theorem dX6_findNumbered_36 : decode cX6_findNumbered 36 = .ok (.if_icmp .ge 127, 3) := by decide +kernel
theorem dX6_findNumbered_39 : decode cX6_findNumbered 39 = .ok (.iload_n 3, 1) := by decide +kernel
theorem dX6_findNumbered_40 : decode cX6_findNumbered 40 = .ok (.ifCond .le 123, 3) := by decide +kernel
theorem dX6_findNumbered_43 : decode cX6_findNumbered 43 = .ok (.iconst 0, 1) := by decide +kernel
theorem dX6_findNumbered_44 : decode cX6_findNumbered 44 = .ok (.istore 8, 2) := by decide +kernel
theorem dX6_findNumbered_46 : decode cX6_findNumbered 46 = .ok (.aload_n 0, 1) := by decide +kernel
theorem dX6_findNumbered_47 : decode cX6_findNumbered 47 = .ok (.iconst 0, 1) := by decide +kernel
theorem dX6_findNumbered_48 : decode cX6_findNumbered 48 = .ok (.iload_n 3, 1) := by decide +kernel
theorem dX6_findNumbered_49 : decode cX6_findNumbered 49 = .ok (.iload 4, 2) := by decide +kernel
theorem dX6_findNumbered_51 : decode cX6_findNumbered 51 = .ok (.invokevirtual 138, 3) := by decide +kernel
theorem dX6_findNumbered_54 : decode cX6_findNumbered 54 = .ok (.lstore 9, 2) := by decide +kernel
theorem dX6_findNumbered_56 : decode cX6_findNumbered 56 = .ok (.iload 8, 2) := by decide +kernel
theorem dX6_findNumbered_58 : decode cX6_findNumbered 58 = .ok (.aload_n 0, 1) := by decide +kernel
theorem dX6_findNumbered_59 : decode cX6_findNumbered 59 = .ok (.getfield 50, 3) := by decide +kernel
theorem dX6_findNumbered_62 : decode cX6_findNumbered 62 = .ok (.getfield 119, 3) := by decide +kernel
theorem dX6_findNumbered_65 : decode cX6_findNumbered 65 = .ok (.if_icmp .ge 51, 3) := by decide +kernel
theorem dX6_findNumbered_68 : decode cX6_findNumbered 68 = .ok (.lload 5, 2) := by decide +kernel
theorem dX6_findNumbered_70 : decode cX6_findNumbered 70 = .ok (.lload 9, 2) := by decide +kernel
theorem dX6_findNumbered_72 : decode cX6_findNumbered 72 = .ok (.lcmp, 1) := by decide +kernel
theorem dX6_findNumbered_73 : decode cX6_findNumbered 73 = .ok (.ifCond .lt 43, 3) := by decide +kernel
theorem dX6_findNumbered_76 : decode cX6_findNumbered 76 = .ok (.lload 5, 2) := by decide +kernel
theorem dX6_findNumbered_78 : decode cX6_findNumbered 78 = .ok (.lload 9, 2) := by decide +kernel
theorem dX6_findNumbered_80 : decode cX6_findNumbered 80 = .ok (.lsub, 1) := by decide +kernel
theorem dX6_findNumbered_81 : decode cX6_findNumbered 81 = .ok (.lstore 5, 2) := by decide +kernel
theorem dX6_findNumbered_83 : decode cX6_findNumbered 83 = .ok (.iinc 8 1, 3) := by decide +kernel
theorem dX6_findNumbered_86 : decode cX6_findNumbered 86 = .ok (.iload 8, 2) := by decide +kernel
theorem dX6_findNumbered_88 : decode cX6_findNumbered 88 = .ok (.aload_n 0, 1) := by decide +kernel
theorem dX6_findNumbered_89 : decode cX6_findNumbered 89 = .ok (.getfield 50, 3) := by decide +kernel
theorem dX6_findNumbered_92 : decode cX6_findNumbered 92 = .ok (.getfield 119, 3) := by decide +kernel
theorem dX6_findNumbered_95 : decode cX6_findNumbered 95 = .ok (.if_icmp .ge 15, 3) := by decide +kernel
theorem dX6_findNumbered_98 : decode cX6_findNumbered 98 = .ok (.aload_n 0, 1) := by decide +kernel
theorem dX6_findNumbered_99 : decode cX6_findNumbered 99 = .ok (.iload 8, 2) := by decide +kernel
theorem dX6_findNumbered_101 : decode cX6_findNumbered 101 = .ok (.iload_n 3, 1) := by decide +kernel
theorem dX6_findNumbered_102 : decode cX6_findNumbered 102 = .ok (.iload 4, 2) := by decide +kernel
theorem dX6_findNumbered_104 : decode cX6_findNumbered 104 = .ok (.invokevirtual 138, 3) := by decide +kernel
theorem dX6_findNumbered_107 : decode cX6_findNumbered 107 = .ok (.goto 4, 3) := by decide +kernel
theorem dX6_findNumbered_110 : decode cX6_findNumbered 110 = .ok (.lconst 0, 1) := by decide +kernel
theorem dX6_findNumbered_111 : decode cX6_findNumbered 111 = .ok (.lstore 9, 2) := by decide +kernel
theorem dX6_findNumbered_113 : decode cX6_findNumbered 113 = .ok (.goto (-57), 3) := by decide +kernel
theorem dX6_findNumbered_116 : decode cX6_findNumbered 116 = .ok (.iload 8, 2) := by decide +kernel
theorem dX6_findNumbered_118 : decode cX6_findNumbered 118 = .ok (.aload_n 0, 1) := by decide +kernel
theorem dX6_findNumbered_119 : decode cX6_findNumbered 119 = .ok (.getfield 50, 3) := by decide +kernel
theorem dX6_findNumbered_122 : decode cX6_findNumbered 122 = .ok (.getfield 119, 3) := by decide +kernel
theorem dX6_findNumbered_125 : decode cX6_findNumbered 125 = .ok (.if_icmp .lt 4, 3) := by decide +kernel
theorem dX6_findNumbered_128 : decode cX6_findNumbered 128 = .ok (.return_, 1) := by decide +kernel
theorem dX6_findNumbered_129 : decode cX6_findNumbered 129 = .ok (.aload_n 0, 1) := by decide +kernel
theorem dX6_findNumbered_130 : decode cX6_findNumbered 130 = .ok (.iload 8, 2) := by decide +kernel
theorem dX6_findNumbered_132 : decode cX6_findNumbered 132 = .ok (.iload_n 3, 1) := by decide +kernel
theorem dX6_findNumbered_133 : decode cX6_findNumbered 133 = .ok (.invokevirtual 142, 3) := by decide +kernel
theorem dX6_findNumbered_136 : decode cX6_findNumbered 136 = .ok (.istore_n 3, 1) := by decide +kernel
theorem dX6_findNumbered_137 : decode cX6_findNumbered 137 = .ok (.aload_n 0, 1) := by decide +kernel
theorem dX6_findNumbered_138 : decode cX6_findNumbered 138 = .ok (.getfield 54, 3) := by decide +kernel
theorem dX6_findNumbered_141 : decode cX6_findNumbered 141 = .ok (.getfield 146, 3) := by decide +kernel
theorem dX6_findNumbered_144 : decode cX6_findNumbered 144 = .ok (.aload_n 0, 1) := by decide +kernel
theorem dX6_findNumbered_145 : decode cX6_findNumbered 145 = .ok (.getfield 50, 3) := by decide +kernel
theorem dX6_findNumbered_148 : decode cX6_findNumbered 148 = .ok (.getfield 149, 3) := by decide +kernel
theorem dX6_findNumbered_151 : decode cX6_findNumbered 151 = .ok (.iload 8, 2) := by decide +kernel
theorem dX6_findNumbered_153 : decode cX6_findNumbered 153 = .ok (.iaload, 1) := by decide +kernel
theorem dX6_findNumbered_154 : decode cX6_findNumbered 154 = .ok (.iaload, 1) := by decide +kernel
theorem dX6_findNumbered_155 : decode cX6_findNumbered 155 = .ok (.istore 4, 2) := by decide +kernel
theorem dX6_findNumbered_157 : decode cX6_findNumbered 157 = .ok (.iinc 7 1, 3) := by decide +kernel
theorem dX6_findNumbered_160 : decode cX6_findNumbered 160 = .ok (.goto (-128), 3) := by decide +kernel
theorem dX6_findNumbered_163 : decode cX6_findNumbered 163 = .ok (.return_, 1) := by decide +kernel
theorem dX6_findBest_0 : decode cX6_findBest 0 = .ok (.aload_n 0, 1) := by decide +kernel
theorem dX6_findBest_1 : decode cX6_findBest 1 = .ok (.invokevirtual 96, 3) := by decide +kernel
theorem dX6_findBest_4 : decode cX6_findBest 4 = .ok (.aload_n 0, 1) := by decide +kernel
theorem dX6_findBest_5 : decode cX6_findBest 5 = .ok (.iconst 0, 1) := by decide +kernel
theorem dX6_findBest_6 : decode cX6_findBest 6 = .ok (.putfield 35, 3) := by decide +kernel
theorem dX6_findBest_9 : decode cX6_findBest 9 = .ok (.aload_n 0, 1) := by decide +kernel
theorem dX6_findBest_10 : decode cX6_findBest 10 = .ok (.aload_n 0, 1) := by decide +kernel
theorem dX6_findBest_11 : decode cX6_findBest 11 = .ok (.getfield 77, 3) := by decide +kernel
theorem dX6_findBest_14 : decode cX6_findBest 14 = .ok (.sipush 1023, 3) := by decide +kernel
theorem dX6_findBest_17 : decode cX6_findBest 17 = .ok (.invokevirtual 99, 3) := by decide +kernel
theorem dX6_findBest_20 : decode cX6_findBest 20 = .ok (.lstore_n 1, 1) := by decide +kernel
theorem dX6_findBest_21 : decode cX6_findBest 21 = .ok (.lload_n 1, 1) := by decide +kernel
theorem dX6_findBest_22 : decode cX6_findBest 22 = .ok (.lconst 0, 1) := by decide +kernel
theorem dX6_findBest_23 : decode cX6_findBest 23 = .ok (.lcmp, 1) := by decide +kernel
theorem dX6_findBest_24 : decode cX6_findBest 24 = .ok (.ifCond .lt 7, 3) := by decide +kernel
theorem dX6_findBest_27 : decode cX6_findBest 27 = .ok (.iconst 1, 1) := by decide +kernel
theorem dX6_findBest_28 : decode cX6_findBest 28 = .ok (.goto 4, 3) := by decide +kernel
theorem dX6_findBest_31 : decode cX6_findBest 31 = .ok (.iconst 0, 1) := by decide +kernel
theorem dX6_findBest_32 : decode cX6_findBest 32 = .ok (.istore_n 3, 1) := by decide +kernel
theorem dX6_findBest_33 : decode cX6_findBest 33 = .ok (.aload_n 0, 1) := by decide +kernel
theorem dX6_findBest_34 : decode cX6_findBest 34 = .ok (.getfield 63, 3) := by decide +kernel
theorem dX6_findBest_37 : decode cX6_findBest 37 = .ok (.getfield 132, 3) := by decide +kernel
theorem dX6_findBest_40 : decode cX6_findBest 40 = .ok (.istore 4, 2) := by decide +kernel
theorem dX6_findBest_42 : decode cX6_findBest 42 = .ok (.aload_n 0, 1) := by decide +kernel
theorem dX6_findBest_43 : decode cX6_findBest 43 = .ok (.getfield 54, 3) := by decide +kernel
theorem dX6_findBest_46 : decode cX6_findBest 46 = .ok (.getfield 135, 3) := by decide +kernel
theorem dX6_findBest_49 : decode cX6_findBest 49 = .ok (.istore 5, 2) := by decide +kernel
theorem dX6_findBest_51 : decode cX6_findBest 51 = .ok (.iconst 0, 1) := by decide +kernel
theorem dX6_findBest_52 : decode cX6_findBest 52 = .ok (.istore 6, 2) := by decide +kernel
theorem dX6_findBest_54 : decode cX6_findBest 54 = .ok (.iload 6, 2) := by decide +kernel
theorem dX6_findBest_56 : decode cX6_findBest 56 = .ok (.bipush 12, 2) := by decide +kernel
theorem dX6_findBest_58 : decode cX6_findBest 58 = .ok (.if_icmp .ge 87, 3) := by decide +kernel
theorem dX6_findBest_61 : decode cX6_findBest 61 = .ok (.iload_n 3, 1) := by decide +kernel
theorem dX6_findBest_62 : decode cX6_findBest 62 = .ok (.ifCond .eq 83, 3) := by decide +kernel
theorem dX6_findBest_65 : decode cX6_findBest 65 = .ok (.iload 4, 2) := by decide +kernel
theorem dX6_findBest_67 : decode cX6_findBest 67 = .ok (.ifCond .le 78, 3) := by decide +kernel
theorem dX6_findBest_70 : decode cX6_findBest 70 = .ok (.aload_n 0, 1) := by decide +kernel
theorem dX6_findBest_71 : decode cX6_findBest 71 = .ok (.lload_n 1, 1) := by decide +kernel
theorem dX6_findBest_72 : decode cX6_findBest 72 = .ok (.iload 4, 2) := by decide +kernel
theorem dX6_findBest_74 : decode cX6_findBest 74 = .ok (.iload 5, 2) := by decide +kernel
theorem dX6_findBest_76 : decode cX6_findBest 76 = .ok (.invokevirtual 152, 3) := by decide +kernel
theorem dX6_findBest_79 : decode cX6_findBest 79 = .ok (.istore 7, 2) := by decide +kernel
theorem dX6_findBest_81 : decode cX6_findBest 81 = .ok (.iload 7, 2) := by decide +kernel
theorem dX6_findBest_83 : decode cX6_findBest 83 = .ok (.aload_n 0, 1) := by decide +kernel
theorem dX6_findBest_84 : decode cX6_findBest 84 = .ok (.getfield 50, 3) := by decide +kernel
theorem dX6_findBest_87 : decode cX6_findBest 87 = .ok (.getfield 119, 3) := by decide +kernel
theorem dX6_findBest_90 : decode cX6_findBest 90 = .ok (.if_icmp .lt 5, 3) := by decide +kernel
theorem dX6_findBest_93 : decode cX6_findBest 93 = .ok (.iconst 0, 1) := by decide +kernel
theorem dX6_findBest_94 : decode cX6_findBest 94 = .ok (.ireturn, 1) := by decide +kernel
theorem dX6_findBest_95 : decode cX6_findBest 95 = .ok (.lload_n 1, 1) := by decide +kernel
theorem dX6_findBest_96 : decode cX6_findBest 96 = .ok (.aload_n 0, 1) := by decide +kernel
theorem dX6_findBest_97 : decode cX6_findBest 97 = .ok (.getfield 54, 3) := by decide +kernel
theorem dX6_findBest_100 : decode cX6_findBest 100 = .ok (.getfield 69, 3) := by decide +kernel
theorem dX6_findBest_103 : decode cX6_findBest 103 = .ok (.iload 7, 2) := by decide +kernel
theorem dX6_findBest_105 : decode cX6_findBest 105 = .ok (.iaload, 1) := by decide +kernel
theorem dX6_findBest_106 : decode cX6_findBest 106 = .ok (.i2l, 1) := by decide +kernel
theorem dX6_findBest_107 : decode cX6_findBest 107 = .ok (.lsub, 1) := by decide +kernel
theorem dX6_findBest_108 : decode cX6_findBest 108 = .ok (.lstore_n 1, 1) := by decide +kernel
theorem dX6_findBest_109 : decode cX6_findBest 109 = .ok (.aload_n 0, 1) := by decide +kernel
theorem dX6_findBest_110 : decode cX6_findBest 110 = .ok (.iload 7, 2) := by decide +kernel
theorem dX6_findBest_112 : decode cX6_findBest 112 = .ok (.iload 4, 2) := by decide +kernel
theorem dX6_findBest_114 : decode cX6_findBest 114 = .ok (.invokevirtual 142, 3) := by decide +kernel
theorem dX6_findBest_117 : decode cX6_findBest 117 = .ok (.istore 4, 2) := by decide +kernel
theorem dX6_findBest_119 : decode cX6_findBest 119 = .ok (.aload_n 0, 1) := by decide +kernel
theorem dX6_findBest_120 : decode cX6_findBest 120 = .ok (.getfield 54, 3) := by decide +kernel
theorem dX6_findBest_123 : decode cX6_findBest 123 = .ok (.getfield 146, 3) := by decide +kernel
theorem dX6_findBest_126 : decode cX6_findBest 126 = .ok (.aload_n 0, 1) := by decide +kernel
theorem dX6_findBest_127 : decode cX6_findBest 127 = .ok (.getfield 50, 3) := by decide +kernel
theorem dX6_findBest_130 : decode cX6_findBest 130 = .ok (.getfield 149, 3) := by decide +kernel
theorem dX6_findBest_133 : decode cX6_findBest 133 = .ok (.iload 7, 2) := by decide +kernel
theorem dX6_findBest_135 : decode cX6_findBest 135 = .ok (.iaload, 1) := by decide +kernel
theorem dX6_findBest_136 : decode cX6_findBest 136 = .ok (.iaload, 1) := by decide +kernel
theorem dX6_findBest_137 : decode cX6_findBest 137 = .ok (.istore 5, 2) := by decide +kernel
theorem dX6_findBest_139 : decode cX6_findBest 139 = .ok (.iinc 6 1, 3) := by decide +kernel
theorem dX6_findBest_142 : decode cX6_findBest 142 = .ok (.goto (-88), 3) := by decide +kernel
theorem dX6_findBest_145 : decode cX6_findBest 145 = .ok (.iload_n 3, 1) := by decide +kernel
theorem dX6_findBest_146 : decode cX6_findBest 146 = .ok (.ireturn, 1) := by decide +kernel
theorem dX6_firstReaching_0 : decode cX6_firstReaching 0 = .ok (.iconst 0, 1) := by decide +kernel
theorem dX6_firstReaching_1 : decode cX6_firstReaching 1 = .ok (.istore 5, 2) := by decide +kernel
theorem dX6_firstReaching_3 : decode cX6_firstReaching 3 = .ok (.iload 5, 2) := by decide +kernel
theorem dX6_firstReaching_5 : decode cX6_firstReaching 5 = .ok (.aload_n 0, 1) := by decide +kernel
theorem dX6_firstReaching_6 : decode cX6_firstReaching 6 = .ok (.getfield 50, 3) := by decide +kernel
theorem dX6_firstReaching_9 : decode cX6_firstReaching 9 = .ok (.getfield 119, 3) := by decide +kernel
theorem dX6_firstReaching_12 : decode cX6_firstReaching 12 = .ok (.if_icmp .ge 22, 3) := by decide +kernel
theorem dX6_firstReaching_15 : decode cX6_firstReaching 15 = .ok (.aload_n 0, 1) := by decide +kernel
theorem dX6_firstReaching_16 : decode cX6_firstReaching 16 = .ok (.lload_n 1, 1) := by decide +kernel
theorem dX6_firstReaching_17 : decode cX6_firstReaching 17 = .ok (.iload 5, 2) := by decide +kernel
theorem dX6_firstReaching_19 : decode cX6_firstReaching 19 = .ok (.iload_n 3, 1) := by decide +kernel
theorem dX6_firstReaching_20 : decode cX6_firstReaching 20 = .ok (.iload 4, 2) := by decide +kernel
theorem dX6_firstReaching_22 : decode cX6_firstReaching 22 = .ok (.invokevirtual 156, 3) := by decide +kernel
theorem dX6_firstReaching_25 : decode cX6_firstReaching 25 = .ok (.ifCond .ne 9, 3) := by decide +kernel
theorem dX6_firstReaching_28 : decode cX6_firstReaching 28 = .ok (.iinc 5 1, 3) := by decide +kernel
theorem dX6_firstReaching_31 : decode cX6_firstReaching 31 = .ok (.goto (-28), 3) := by decide +kernel
theorem dX6_firstReaching_34 : decode cX6_firstReaching 34 = .ok (.iload 5, 2) := by decide +kernel
theorem dX6_firstReaching_36 : decode cX6_firstReaching 36 = .ok (.ireturn, 1) := by decide +kernel
theorem dX6_reaches_0 : decode cX6_reaches 0 = .ok (.aload_n 0, 1) := by decide +kernel
theorem dX6_reaches_1 : decode cX6_reaches 1 = .ok (.getfield 63, 3) := by decide +kernel
theorem dX6_reaches_4 : decode cX6_reaches 4 = .ok (.iload 4, 2) := by decide +kernel
theorem dX6_reaches_6 : decode cX6_reaches 6 = .ok (.iload 5, 2) := by decide +kernel
theorem dX6_reaches_8 : decode cX6_reaches 8 = .ok (.iload_n 3, 1) := by decide +kernel
theorem dX6_reaches_9 : decode cX6_reaches 9 = .ok (.invokevirtual 124, 3) := by decide +kernel
theorem dX6_reaches_12 : decode cX6_reaches 12 = .ok (.ifCond .ne 5, 3) := by decide +kernel
theorem dX6_reaches_15 : decode cX6_reaches 15 = .ok (.iconst 0, 1) := by decide +kernel
theorem dX6_reaches_16 : decode cX6_reaches 16 = .ok (.ireturn, 1) := by decide +kernel
theorem dX6_reaches_17 : decode cX6_reaches 17 = .ok (.aload_n 0, 1) := by decide +kernel
theorem dX6_reaches_18 : decode cX6_reaches 18 = .ok (.getfield 63, 3) := by decide +kernel
theorem dX6_reaches_21 : decode cX6_reaches 21 = .ok (.aload_n 0, 1) := by decide +kernel
theorem dX6_reaches_22 : decode cX6_reaches 22 = .ok (.getfield 29, 3) := by decide +kernel
theorem dX6_reaches_25 : decode cX6_reaches 25 = .ok (.iload 4, 2) := by decide +kernel
theorem dX6_reaches_27 : decode cX6_reaches 27 = .ok (.iload_n 3, 1) := by decide +kernel
theorem dX6_reaches_28 : decode cX6_reaches 28 = .ok (.invokevirtual 128, 3) := by decide +kernel
theorem dX6_reaches_31 : decode cX6_reaches 31 = .ok (.lstore 6, 2) := by decide +kernel
theorem dX6_reaches_33 : decode cX6_reaches 33 = .ok (.lload 6, 2) := by decide +kernel
theorem dX6_reaches_35 : decode cX6_reaches 35 = .ok (.lconst 0, 1) := by decide +kernel
theorem dX6_reaches_36 : decode cX6_reaches 36 = .ok (.lcmp, 1) := by decide +kernel
theorem dX6_reaches_37 : decode cX6_reaches 37 = .ok (.ifCond .lt 25, 3) := by decide +kernel
theorem dX6_reaches_40 : decode cX6_reaches 40 = .ok (.lload 6, 2) := by decide +kernel
theorem dX6_reaches_42 : decode cX6_reaches 42 = .ok (.aload_n 0, 1) := by decide +kernel
theorem dX6_reaches_43 : decode cX6_reaches 43 = .ok (.getfield 54, 3) := by decide +kernel
theorem dX6_reaches_46 : decode cX6_reaches 46 = .ok (.getfield 69, 3) := by decide +kernel
theorem dX6_reaches_49 : decode cX6_reaches 49 = .ok (.iload_n 3, 1) := by decide +kernel
theorem dX6_reaches_50 : decode cX6_reaches 50 = .ok (.iaload, 1) := by decide +kernel
theorem dX6_reaches_51 : decode cX6_reaches 51 = .ok (.i2l, 1) := by decide +kernel
theorem dX6_reaches_52 : decode cX6_reaches 52 = .ok (.ladd, 1) := by decide +kernel
theorem dX6_reaches_53 : decode cX6_reaches 53 = .ok (.lload_n 1, 1) := by decide +kernel
theorem dX6_reaches_54 : decode cX6_reaches 54 = .ok (.lcmp, 1) := by decide +kernel
theorem dX6_reaches_55 : decode cX6_reaches 55 = .ok (.ifCond .ne 7, 3) := by decide +kernel
theorem dX6_reaches_58 : decode cX6_reaches 58 = .ok (.iconst 1, 1) := by decide +kernel
theorem dX6_reaches_59 : decode cX6_reaches 59 = .ok (.goto 4, 3) := by decide +kernel
theorem dX6_reaches_62 : decode cX6_reaches 62 = .ok (.iconst 0, 1) := by decide +kernel
theorem dX6_reaches_63 : decode cX6_reaches 63 = .ok (.ireturn, 1) := by decide +kernel
theorem dX6_cameToBy_0 : decode cX6_cameToBy 0 = .ok (.aload_n 0, 1) := by decide +kernel
theorem dX6_cameToBy_1 : decode cX6_cameToBy 1 = .ok (.getfield 25, 3) := by decide +kernel
theorem dX6_cameToBy_4 : decode cX6_cameToBy 4 = .ok (.aload_n 0, 1) := by decide +kernel
theorem dX6_cameToBy_5 : decode cX6_cameToBy 5 = .ok (.getfield 35, 3) := by decide +kernel
theorem dX6_cameToBy_8 : decode cX6_cameToBy 8 = .ok (.iload_n 1, 1) := by decide +kernel
theorem dX6_cameToBy_9 : decode cX6_cameToBy 9 = .ok (.iastore, 1) := by decide +kernel
theorem dX6_cameToBy_10 : decode cX6_cameToBy 10 = .ok (.aload_n 0, 1) := by decide +kernel
theorem dX6_cameToBy_11 : decode cX6_cameToBy 11 = .ok (.dup, 1) := by decide +kernel
theorem dX6_cameToBy_12 : decode cX6_cameToBy 12 = .ok (.getfield 35, 3) := by decide +kernel
theorem dX6_cameToBy_15 : decode cX6_cameToBy 15 = .ok (.iconst 1, 1) := by decide +kernel
theorem dX6_cameToBy_16 : decode cX6_cameToBy 16 = .ok (.iadd, 1) := by decide +kernel
theorem dX6_cameToBy_17 : decode cX6_cameToBy 17 = .ok (.putfield 35, 3) := by decide +kernel
theorem dX6_cameToBy_20 : decode cX6_cameToBy 20 = .ok (.iload_n 2, 1) := by decide +kernel
theorem dX6_cameToBy_21 : decode cX6_cameToBy 21 = .ok (.aload_n 0, 1) := by decide +kernel
theorem dX6_cameToBy_22 : decode cX6_cameToBy 22 = .ok (.getfield 63, 3) := by decide +kernel
theorem dX6_cameToBy_25 : decode cX6_cameToBy 25 = .ok (.getfield 160, 3) := by decide +kernel
theorem dX6_cameToBy_28 : decode cX6_cameToBy 28 = .ok (.iload_n 1, 1) := by decide +kernel
theorem dX6_cameToBy_29 : decode cX6_cameToBy 29 = .ok (.iaload, 1) := by decide +kernel
theorem dX6_cameToBy_30 : decode cX6_cameToBy 30 = .ok (.isub, 1) := by decide +kernel
theorem dX6_cameToBy_31 : decode cX6_cameToBy 31 = .ok (.ireturn, 1) := by decide +kernel
theorem dX6_foundWord_0 : decode cX6_foundWord 0 = .ok (.iload_n 1, 1) := by decide +kernel
theorem dX6_foundWord_1 : decode cX6_foundWord 1 = .ok (.ifCond .lt 20, 3) := by decide +kernel
theorem dX6_foundWord_4 : decode cX6_foundWord 4 = .ok (.iload_n 1, 1) := by decide +kernel
theorem dX6_foundWord_5 : decode cX6_foundWord 5 = .ok (.aload_n 0, 1) := by decide +kernel
theorem dX6_foundWord_6 : decode cX6_foundWord 6 = .ok (.getfield 35, 3) := by decide +kernel
theorem dX6_foundWord_9 : decode cX6_foundWord 9 = .ok (.if_icmp .ge 12, 3) := by decide +kernel
theorem dX6_foundWord_12 : decode cX6_foundWord 12 = .ok (.aload_n 0, 1) := by decide +kernel
theorem dX6_foundWord_13 : decode cX6_foundWord 13 = .ok (.getfield 25, 3) := by decide +kernel
theorem dX6_foundWord_16 : decode cX6_foundWord 16 = .ok (.iload_n 1, 1) := by decide +kernel
theorem dX6_foundWord_17 : decode cX6_foundWord 17 = .ok (.iaload, 1) := by decide +kernel
theorem dX6_foundWord_18 : decode cX6_foundWord 18 = .ok (.goto 5, 3) := by decide +kernel
theorem dX6_foundWord_21 : decode cX6_foundWord 21 = .ok (.bipush (-9), 2) := by decide +kernel
theorem dX6_foundWord_23 : decode cX6_foundWord 23 = .ok (.ireturn, 1) := by decide +kernel
theorem dX6_foundHas_0 : decode cX6_foundHas 0 = .ok (.iconst 0, 1) := by decide +kernel
theorem dX6_foundHas_1 : decode cX6_foundHas 1 = .ok (.istore_n 2, 1) := by decide +kernel
theorem dX6_foundHas_2 : decode cX6_foundHas 2 = .ok (.iload_n 2, 1) := by decide +kernel
theorem dX6_foundHas_3 : decode cX6_foundHas 3 = .ok (.aload_n 0, 1) := by decide +kernel
theorem dX6_foundHas_4 : decode cX6_foundHas 4 = .ok (.getfield 35, 3) := by decide +kernel
theorem dX6_foundHas_7 : decode cX6_foundHas 7 = .ok (.if_icmp .ge 21, 3) := by decide +kernel
theorem dX6_foundHas_10 : decode cX6_foundHas 10 = .ok (.aload_n 0, 1) := by decide +kernel
theorem dX6_foundHas_11 : decode cX6_foundHas 11 = .ok (.getfield 25, 3) := by decide +kernel
theorem dX6_foundHas_14 : decode cX6_foundHas 14 = .ok (.iload_n 2, 1) := by decide +kernel
theorem dX6_foundHas_15 : decode cX6_foundHas 15 = .ok (.iaload, 1) := by decide +kernel
theorem dX6_foundHas_16 : decode cX6_foundHas 16 = .ok (.iload_n 1, 1) := by decide +kernel
theorem dX6_foundHas_17 : decode cX6_foundHas 17 = .ok (.if_icmp .ne 5, 3) := by decide +kernel
theorem dX6_foundHas_20 : decode cX6_foundHas 20 = .ok (.iconst 1, 1) := by decide +kernel
theorem dX6_foundHas_21 : decode cX6_foundHas 21 = .ok (.ireturn, 1) := by decide +kernel
theorem dX6_foundHas_22 : decode cX6_foundHas 22 = .ok (.iinc 2 1, 3) := by decide +kernel
theorem dX6_foundHas_25 : decode cX6_foundHas 25 = .ok (.goto (-23), 3) := by decide +kernel
theorem dX6_foundHas_28 : decode cX6_foundHas 28 = .ok (.iconst 0, 1) := by decide +kernel
theorem dX6_foundHas_29 : decode cX6_foundHas 29 = .ok (.ireturn, 1) := by decide +kernel
theorem dX6_foundWorth_0 : decode cX6_foundWorth 0 = .ok (.iconst 0, 1) := by decide +kernel
theorem dX6_foundWorth_1 : decode cX6_foundWorth 1 = .ok (.istore_n 1, 1) := by decide +kernel
theorem dX6_foundWorth_2 : decode cX6_foundWorth 2 = .ok (.iconst 0, 1) := by decide +kernel
theorem dX6_foundWorth_3 : decode cX6_foundWorth 3 = .ok (.istore_n 2, 1) := by decide +kernel
theorem dX6_foundWorth_4 : decode cX6_foundWorth 4 = .ok (.iload_n 2, 1) := by decide +kernel
theorem dX6_foundWorth_5 : decode cX6_foundWorth 5 = .ok (.aload_n 0, 1) := by decide +kernel
theorem dX6_foundWorth_6 : decode cX6_foundWorth 6 = .ok (.getfield 35, 3) := by decide +kernel
theorem dX6_foundWorth_9 : decode cX6_foundWorth 9 = .ok (.if_icmp .ge 26, 3) := by decide +kernel
theorem dX6_foundWorth_12 : decode cX6_foundWorth 12 = .ok (.iload_n 1, 1) := by decide +kernel
theorem dX6_foundWorth_13 : decode cX6_foundWorth 13 = .ok (.aload_n 0, 1) := by decide +kernel
theorem dX6_foundWorth_14 : decode cX6_foundWorth 14 = .ok (.getfield 54, 3) := by decide +kernel
theorem dX6_foundWorth_17 : decode cX6_foundWorth 17 = .ok (.getfield 69, 3) := by decide +kernel
theorem dX6_foundWorth_20 : decode cX6_foundWorth 20 = .ok (.aload_n 0, 1) := by decide +kernel
theorem dX6_foundWorth_21 : decode cX6_foundWorth 21 = .ok (.getfield 25, 3) := by decide +kernel
theorem dX6_foundWorth_24 : decode cX6_foundWorth 24 = .ok (.iload_n 2, 1) := by decide +kernel
theorem dX6_foundWorth_25 : decode cX6_foundWorth 25 = .ok (.iaload, 1) := by decide +kernel
theorem dX6_foundWorth_26 : decode cX6_foundWorth 26 = .ok (.iaload, 1) := by decide +kernel
theorem dX6_foundWorth_27 : decode cX6_foundWorth 27 = .ok (.iadd, 1) := by decide +kernel
theorem dX6_foundWorth_28 : decode cX6_foundWorth 28 = .ok (.istore_n 1, 1) := by decide +kernel
theorem dX6_foundWorth_29 : decode cX6_foundWorth 29 = .ok (.iinc 2 1, 3) := by decide +kernel
theorem dX6_foundWorth_32 : decode cX6_foundWorth 32 = .ok (.goto (-28), 3) := by decide +kernel
theorem dX6_foundWorth_35 : decode cX6_foundWorth 35 = .ok (.iload_n 1, 1) := by decide +kernel
theorem dX6_foundWorth_36 : decode cX6_foundWorth 36 = .ok (.ireturn, 1) := by decide +kernel
theorem dX6_numberOf_0 : decode cX6_numberOf 0 = .ok (.aload_n 0, 1) := by decide +kernel
theorem dX6_numberOf_1 : decode cX6_numberOf 1 = .ok (.invokevirtual 96, 3) := by decide +kernel
theorem dX6_numberOf_4 : decode cX6_numberOf 4 = .ok (.aload_n 0, 1) := by decide +kernel
theorem dX6_numberOf_5 : decode cX6_numberOf 5 = .ok (.getfield 63, 3) := by decide +kernel
theorem dX6_numberOf_8 : decode cX6_numberOf 8 = .ok (.getfield 132, 3) := by decide +kernel
theorem dX6_numberOf_11 : decode cX6_numberOf 11 = .ok (.istore_n 3, 1) := by decide +kernel
theorem dX6_numberOf_12 : decode cX6_numberOf 12 = .ok (.aload_n 0, 1) := by decide +kernel
theorem dX6_numberOf_13 : decode cX6_numberOf 13 = .ok (.getfield 54, 3) := by decide +kernel
theorem dX6_numberOf_16 : decode cX6_numberOf 16 = .ok (.getfield 135, 3) := by decide +kernel
theorem dX6_numberOf_19 : decode cX6_numberOf 19 = .ok (.istore 4, 2) := by decide +kernel
theorem dX6_numberOf_21 : decode cX6_numberOf 21 = .ok (.lconst 0, 1) := by decide +kernel
theorem dX6_numberOf_22 : decode cX6_numberOf 22 = .ok (.lstore 5, 2) := by decide +kernel
theorem dX6_numberOf_24 : decode cX6_numberOf 24 = .ok (.iconst 0, 1) := by decide +kernel
theorem dX6_numberOf_25 : decode cX6_numberOf 25 = .ok (.istore 7, 2) := by decide +kernel
theorem dX6_numberOf_27 : decode cX6_numberOf 27 = .ok (.iload 7, 2) := by decide +kernel
theorem dX6_numberOf_29 : decode cX6_numberOf 29 = .ok (.iload_n 2, 1) := by decide +kernel
theorem dX6_numberOf_30 : decode cX6_numberOf 30 = .ok (.if_icmp .ge 78, 3) := by decide +kernel
theorem dX6_numberOf_33 : decode cX6_numberOf 33 = .ok (.iconst 0, 1) := by decide +kernel
theorem dX6_numberOf_34 : decode cX6_numberOf 34 = .ok (.istore 8, 2) := by decide +kernel
theorem dX6_numberOf_36 : decode cX6_numberOf 36 = .ok (.iload 8, 2) := by decide +kernel
theorem dX6_numberOf_38 : decode cX6_numberOf 38 = .ok (.aload_n 1, 1) := by decide +kernel
theorem dX6_numberOf_39 : decode cX6_numberOf 39 = .ok (.iload 7, 2) := by decide +kernel
theorem dX6_numberOf_41 : decode cX6_numberOf 41 = .ok (.iaload, 1) := by decide +kernel
theorem dX6_numberOf_42 : decode cX6_numberOf 42 = .ok (.if_icmp .ge 23, 3) := by decide +kernel
theorem dX6_numberOf_45 : decode cX6_numberOf 45 = .ok (.lload 5, 2) := by decide +kernel
theorem dX6_numberOf_47 : decode cX6_numberOf 47 = .ok (.aload_n 0, 1) := by decide +kernel
theorem dX6_numberOf_48 : decode cX6_numberOf 48 = .ok (.iload 8, 2) := by decide +kernel
theorem dX6_numberOf_50 : decode cX6_numberOf 50 = .ok (.iload_n 3, 1) := by decide +kernel
theorem dX6_numberOf_51 : decode cX6_numberOf 51 = .ok (.iload 4, 2) := by decide +kernel
theorem dX6_numberOf_53 : decode cX6_numberOf 53 = .ok (.invokevirtual 138, 3) := by decide +kernel
theorem dX6_numberOf_56 : decode cX6_numberOf 56 = .ok (.ladd, 1) := by decide +kernel
theorem dX6_numberOf_57 : decode cX6_numberOf 57 = .ok (.lstore 5, 2) := by decide +kernel
theorem dX6_numberOf_59 : decode cX6_numberOf 59 = .ok (.iinc 8 1, 3) := by decide +kernel
theorem dX6_numberOf_62 : decode cX6_numberOf 62 = .ok (.goto (-26), 3) := by decide +kernel
theorem dX6_numberOf_65 : decode cX6_numberOf 65 = .ok (.iload_n 3, 1) := by decide +kernel
theorem dX6_numberOf_66 : decode cX6_numberOf 66 = .ok (.aload_n 0, 1) := by decide +kernel
theorem dX6_numberOf_67 : decode cX6_numberOf 67 = .ok (.getfield 63, 3) := by decide +kernel
theorem dX6_numberOf_70 : decode cX6_numberOf 70 = .ok (.getfield 160, 3) := by decide +kernel
theorem dX6_numberOf_73 : decode cX6_numberOf 73 = .ok (.aload_n 1, 1) := by decide +kernel
theorem dX6_numberOf_74 : decode cX6_numberOf 74 = .ok (.iload 7, 2) := by decide +kernel
theorem dX6_numberOf_76 : decode cX6_numberOf 76 = .ok (.iaload, 1) := by decide +kernel
theorem dX6_numberOf_77 : decode cX6_numberOf 77 = .ok (.iaload, 1) := by decide +kernel
theorem dX6_numberOf_78 : decode cX6_numberOf 78 = .ok (.isub, 1) := by decide +kernel
theorem dX6_numberOf_79 : decode cX6_numberOf 79 = .ok (.istore_n 3, 1) := by decide +kernel
theorem dX6_numberOf_80 : decode cX6_numberOf 80 = .ok (.aload_n 0, 1) := by decide +kernel
theorem dX6_numberOf_81 : decode cX6_numberOf 81 = .ok (.getfield 54, 3) := by decide +kernel
theorem dX6_numberOf_84 : decode cX6_numberOf 84 = .ok (.getfield 146, 3) := by decide +kernel
theorem dX6_numberOf_87 : decode cX6_numberOf 87 = .ok (.aload_n 0, 1) := by decide +kernel
theorem dX6_numberOf_88 : decode cX6_numberOf 88 = .ok (.getfield 50, 3) := by decide +kernel
theorem dX6_numberOf_91 : decode cX6_numberOf 91 = .ok (.getfield 149, 3) := by decide +kernel
theorem dX6_numberOf_94 : decode cX6_numberOf 94 = .ok (.aload_n 1, 1) := by decide +kernel
theorem dX6_numberOf_95 : decode cX6_numberOf 95 = .ok (.iload 7, 2) := by decide +kernel
theorem dX6_numberOf_97 : decode cX6_numberOf 97 = .ok (.iaload, 1) := by decide +kernel
theorem dX6_numberOf_98 : decode cX6_numberOf 98 = .ok (.iaload, 1) := by decide +kernel
theorem dX6_numberOf_99 : decode cX6_numberOf 99 = .ok (.iaload, 1) := by decide +kernel
theorem dX6_numberOf_100 : decode cX6_numberOf 100 = .ok (.istore 4, 2) := by decide +kernel
theorem dX6_numberOf_102 : decode cX6_numberOf 102 = .ok (.iinc 7 1, 3) := by decide +kernel
theorem dX6_numberOf_105 : decode cX6_numberOf 105 = .ok (.goto (-78), 3) := by decide +kernel
theorem dX6_numberOf_108 : decode cX6_numberOf 108 = .ok (.lload 5, 2) := by decide +kernel
theorem dX6_numberOf_110 : decode cX6_numberOf 110 = .ok (.lreturn, 1) := by decide +kernel
theorem dX7_init_0 : decode cX7_init 0 = .ok (.aload_n 0, 1) := by decide +kernel
theorem dX7_init_1 : decode cX7_init 1 = .ok (.invokespecial 3, 3) := by decide +kernel
theorem dX7_init_4 : decode cX7_init 4 = .ok (.aload_n 0, 1) := by decide +kernel
theorem dX7_init_5 : decode cX7_init 5 = .ok (.sipush 180, 3) := by decide +kernel
theorem dX7_init_8 : decode cX7_init 8 = .ok (.newarray .int, 2) := by decide +kernel
theorem dX7_init_10 : decode cX7_init 10 = .ok (.putfield 9, 3) := by decide +kernel
theorem dX7_init_13 : decode cX7_init 13 = .ok (.aload_n 0, 1) := by decide +kernel
theorem dX7_init_14 : decode cX7_init 14 = .ok (.new 15, 3) := by decide +kernel
theorem dX7_init_17 : decode cX7_init 17 = .ok (.dup, 1) := by decide +kernel
theorem dX7_init_18 : decode cX7_init 18 = .ok (.invokespecial 17, 3) := by decide +kernel
theorem dX7_init_21 : decode cX7_init 21 = .ok (.putfield 18, 3) := by decide +kernel
theorem dX7_init_24 : decode cX7_init 24 = .ok (.aload_n 0, 1) := by decide +kernel
theorem dX7_init_25 : decode cX7_init 25 = .ok (.new 22, 3) := by decide +kernel
theorem dX7_init_28 : decode cX7_init 28 = .ok (.dup, 1) := by decide +kernel
theorem dX7_init_29 : decode cX7_init 29 = .ok (.invokespecial 24, 3) := by decide +kernel
theorem dX7_init_32 : decode cX7_init 32 = .ok (.putfield 25, 3) := by decide +kernel
theorem dX7_init_35 : decode cX7_init 35 = .ok (.aload_n 0, 1) := by decide +kernel
theorem dX7_init_36 : decode cX7_init 36 = .ok (.iconst 0, 1) := by decide +kernel
theorem dX7_init_37 : decode cX7_init 37 = .ok (.putfield 29, 3) := by decide +kernel
theorem dX7_init_40 : decode cX7_init 40 = .ok (.aload_n 0, 1) := by decide +kernel
theorem dX7_init_41 : decode cX7_init 41 = .ok (.iconst 0, 1) := by decide +kernel
theorem dX7_init_42 : decode cX7_init 42 = .ok (.putfield 33, 3) := by decide +kernel
theorem dX7_init_45 : decode cX7_init 45 = .ok (.aload_n 0, 1) := by decide +kernel
theorem dX7_init_46 : decode cX7_init 46 = .ok (.iconst 0, 1) := by decide +kernel
theorem dX7_init_47 : decode cX7_init 47 = .ok (.putfield 36, 3) := by decide +kernel
theorem dX7_init_50 : decode cX7_init 50 = .ok (.return_, 1) := by decide +kernel
theorem dX7_append_0 : decode cX7_append 0 = .ok (.aload_n 0, 1) := by decide +kernel
theorem dX7_append_1 : decode cX7_append 1 = .ok (.getfield 29, 3) := by decide +kernel
theorem dX7_append_4 : decode cX7_append 4 = .ok (.sipush 180, 3) := by decide +kernel
theorem dX7_append_7 : decode cX7_append 7 = .ok (.if_icmp .lt 5, 3) := by decide +kernel
theorem dX7_append_10 : decode cX7_append 10 = .ok (.iconst 0, 1) := by decide +kernel
theorem dX7_append_11 : decode cX7_append 11 = .ok (.ireturn, 1) := by decide +kernel
theorem dX7_append_12 : decode cX7_append 12 = .ok (.aload_n 0, 1) := by decide +kernel
theorem dX7_append_13 : decode cX7_append 13 = .ok (.getfield 9, 3) := by decide +kernel
theorem dX7_append_16 : decode cX7_append 16 = .ok (.aload_n 0, 1) := by decide +kernel
theorem dX7_append_17 : decode cX7_append 17 = .ok (.getfield 29, 3) := by decide +kernel
theorem dX7_append_20 : decode cX7_append 20 = .ok (.iload_n 1, 1) := by decide +kernel
theorem dX7_append_21 : decode cX7_append 21 = .ok (.iastore, 1) := by decide +kernel
theorem dX7_append_22 : decode cX7_append 22 = .ok (.aload_n 0, 1) := by decide +kernel
theorem dX7_append_23 : decode cX7_append 23 = .ok (.dup, 1) := by decide +kernel
theorem dX7_append_24 : decode cX7_append 24 = .ok (.getfield 29, 3) := by decide +kernel
theorem dX7_append_27 : decode cX7_append 27 = .ok (.iconst 1, 1) := by decide +kernel
theorem dX7_append_28 : decode cX7_append 28 = .ok (.iadd, 1) := by decide +kernel
theorem dX7_append_29 : decode cX7_append 29 = .ok (.putfield 29, 3) := by decide +kernel
theorem dX7_append_32 : decode cX7_append 32 = .ok (.iconst 1, 1) := by decide +kernel
theorem dX7_append_33 : decode cX7_append 33 = .ok (.ireturn, 1) := by decide +kernel
theorem dX7_firstFault_0 : decode cX7_firstFault 0 = .ok (.aload_n 0, 1) := by decide +kernel
theorem dX7_firstFault_1 : decode cX7_firstFault 1 = .ok (.getfield 18, 3) := by decide +kernel
theorem dX7_firstFault_4 : decode cX7_firstFault 4 = .ok (.iconst 0, 1) := by decide +kernel
theorem dX7_firstFault_5 : decode cX7_firstFault 5 = .ok (.putfield 39, 3) := by decide +kernel
theorem dX7_firstFault_8 : decode cX7_firstFault 8 = .ok (.aload_n 0, 1) := by decide +kernel
theorem dX7_firstFault_9 : decode cX7_firstFault 9 = .ok (.getfield 25, 3) := by decide +kernel
theorem dX7_firstFault_12 : decode cX7_firstFault 12 = .ok (.invokevirtual 42, 3) := by decide +kernel
theorem dX7_firstFault_15 : decode cX7_firstFault 15 = .ok (.aload_n 0, 1) := by decide +kernel
theorem dX7_firstFault_16 : decode cX7_firstFault 16 = .ok (.iconst 0, 1) := by decide +kernel
theorem dX7_firstFault_17 : decode cX7_firstFault 17 = .ok (.putfield 33, 3) := by decide +kernel
theorem dX7_firstFault_20 : decode cX7_firstFault 20 = .ok (.iconst 0, 1) := by decide +kernel
theorem dX7_firstFault_21 : decode cX7_firstFault 21 = .ok (.istore_n 1, 1) := by decide +kernel
theorem dX7_firstFault_22 : decode cX7_firstFault 22 = .ok (.iload_n 1, 1) := by decide +kernel
theorem dX7_firstFault_23 : decode cX7_firstFault 23 = .ok (.aload_n 0, 1) := by decide +kernel
theorem dX7_firstFault_24 : decode cX7_firstFault 24 = .ok (.getfield 29, 3) := by decide +kernel
theorem dX7_firstFault_27 : decode cX7_firstFault 27 = .ok (.if_icmp .ge 24, 3) := by decide +kernel
theorem dX7_firstFault_30 : decode cX7_firstFault 30 = .ok (.aload_n 0, 1) := by decide +kernel
theorem dX7_firstFault_31 : decode cX7_firstFault 31 = .ok (.aload_n 0, 1) := by decide +kernel
theorem dX7_firstFault_32 : decode cX7_firstFault 32 = .ok (.getfield 9, 3) := by decide +kernel
theorem dX7_firstFault_35 : decode cX7_firstFault 35 = .ok (.iload_n 1, 1) := by decide +kernel
theorem dX7_firstFault_36 : decode cX7_firstFault 36 = .ok (.iaload, 1) := by decide +kernel
theorem dX7_firstFault_37 : decode cX7_firstFault 37 = .ok (.invokevirtual 45, 3) := by decide +kernel
theorem dX7_firstFault_40 : decode cX7_firstFault 40 = .ok (.ifCond .ne 5, 3) := by decide +kernel
theorem dX7_firstFault_43 : decode cX7_firstFault 43 = .ok (.iload_n 1, 1) := by decide +kernel
theorem dX7_firstFault_44 : decode cX7_firstFault 44 = .ok (.ireturn, 1) := by decide +kernel
theorem dX7_firstFault_45 : decode cX7_firstFault 45 = .ok (.iinc 1 1, 3) := by decide +kernel
theorem dX7_firstFault_48 : decode cX7_firstFault 48 = .ok (.goto (-26), 3) := by decide +kernel
theorem dX7_firstFault_51 : decode cX7_firstFault 51 = .ok (.aload_n 0, 1) := by decide +kernel
theorem dX7_firstFault_52 : decode cX7_firstFault 52 = .ok (.getfield 33, 3) := by decide +kernel
theorem dX7_firstFault_55 : decode cX7_firstFault 55 = .ok (.ifCond .ne 8, 3) := by decide +kernel
theorem dX7_firstFault_58 : decode cX7_firstFault 58 = .ok (.bipush (-9), 2) := by decide +kernel
theorem dX7_firstFault_60 : decode cX7_firstFault 60 = .ok (.goto 7, 3) := by decide +kernel
theorem dX7_firstFault_63 : decode cX7_firstFault 63 = .ok (.aload_n 0, 1) := by decide +kernel
theorem dX7_firstFault_64 : decode cX7_firstFault 64 = .ok (.getfield 29, 3) := by decide +kernel
theorem dX7_firstFault_67 : decode cX7_firstFault 67 = .ok (.ireturn, 1) := by decide +kernel
theorem dX7_reads_0 : decode cX7_reads 0 = .ok (.aload_n 0, 1) := by decide +kernel
theorem dX7_reads_1 : decode cX7_reads 1 = .ok (.getfield 33, 3) := by decide +kernel
theorem dX7_reads_4 : decode cX7_reads 4 = .ok (.tableswitch 163 0 6 #[44, 50, 56, 62, 91, 124, 157], 44) := by decide +kernel
theorem dX7_reads_48 : decode cX7_reads 48 = .ok (.aload_n 0, 1) := by decide +kernel
theorem dX7_reads_49 : decode cX7_reads 49 = .ok (.iload_n 1, 1) := by decide +kernel
theorem dX7_reads_50 : decode cX7_reads 50 = .ok (.invokevirtual 49, 3) := by decide +kernel
theorem dX7_reads_53 : decode cX7_reads 53 = .ok (.ireturn, 1) := by decide +kernel
theorem dX7_reads_54 : decode cX7_reads 54 = .ok (.aload_n 0, 1) := by decide +kernel
theorem dX7_reads_55 : decode cX7_reads 55 = .ok (.iload_n 1, 1) := by decide +kernel
theorem dX7_reads_56 : decode cX7_reads 56 = .ok (.invokevirtual 52, 3) := by decide +kernel
theorem dX7_reads_59 : decode cX7_reads 59 = .ok (.ireturn, 1) := by decide +kernel
theorem dX7_reads_60 : decode cX7_reads 60 = .ok (.aload_n 0, 1) := by decide +kernel
theorem dX7_reads_61 : decode cX7_reads 61 = .ok (.iload_n 1, 1) := by decide +kernel
theorem dX7_reads_62 : decode cX7_reads 62 = .ok (.invokevirtual 55, 3) := by decide +kernel
theorem dX7_reads_65 : decode cX7_reads 65 = .ok (.ireturn, 1) := by decide +kernel
theorem dX7_reads_66 : decode cX7_reads 66 = .ok (.iload_n 1, 1) := by decide +kernel
theorem dX7_reads_67 : decode cX7_reads 67 = .ok (.bipush 97, 2) := by decide +kernel
theorem dX7_reads_69 : decode cX7_reads 69 = .ok (.isub, 1) := by decide +kernel
theorem dX7_reads_70 : decode cX7_reads 70 = .ok (.invokestatic 58, 3) := by decide +kernel
theorem dX7_reads_73 : decode cX7_reads 73 = .ok (.ifCond .eq 20, 3) := by decide +kernel
theorem dX7_reads_76 : decode cX7_reads 76 = .ok (.aload_n 0, 1) := by decide +kernel
theorem dX7_reads_77 : decode cX7_reads 77 = .ok (.iconst 0, 1) := by decide +kernel
theorem dX7_reads_78 : decode cX7_reads 78 = .ok (.iload_n 1, 1) := by decide +kernel
theorem dX7_reads_79 : decode cX7_reads 79 = .ok (.bipush 97, 2) := by decide +kernel
theorem dX7_reads_81 : decode cX7_reads 81 = .ok (.isub, 1) := by decide +kernel
theorem dX7_reads_82 : decode cX7_reads 82 = .ok (.iconst 0, 1) := by decide +kernel
theorem dX7_reads_83 : decode cX7_reads 83 = .ok (.invokevirtual 61, 3) := by decide +kernel
theorem dX7_reads_86 : decode cX7_reads 86 = .ok (.ifCond .eq 7, 3) := by decide +kernel
theorem dX7_reads_89 : decode cX7_reads 89 = .ok (.iconst 1, 1) := by decide +kernel
theorem dX7_reads_90 : decode cX7_reads 90 = .ok (.goto 4, 3) := by decide +kernel
theorem dX7_reads_93 : decode cX7_reads 93 = .ok (.iconst 0, 1) := by decide +kernel
theorem dX7_reads_94 : decode cX7_reads 94 = .ok (.ireturn, 1) := by decide +kernel
theorem dX7_reads_95 : decode cX7_reads 95 = .ok (.iload_n 1, 1) := by decide +kernel
theorem dX7_reads_96 : decode cX7_reads 96 = .ok (.aload_n 0, 1) := by decide +kernel
theorem dX7_reads_97 : decode cX7_reads 97 = .ok (.getfield 25, 3) := by decide +kernel
theorem dX7_reads_100 : decode cX7_reads 100 = .ok (.getfield 65, 3) := by decide +kernel
theorem dX7_reads_103 : decode cX7_reads 103 = .ok (.invokestatic 68, 3) := by decide +kernel
theorem dX7_reads_106 : decode cX7_reads 106 = .ok (.ifCond .eq 20, 3) := by decide +kernel
theorem dX7_reads_109 : decode cX7_reads 109 = .ok (.aload_n 0, 1) := by decide +kernel
theorem dX7_reads_110 : decode cX7_reads 110 = .ok (.iconst 4, 1) := by decide +kernel
theorem dX7_reads_111 : decode cX7_reads 111 = .ok (.iload_n 1, 1) := by decide +kernel
theorem dX7_reads_112 : decode cX7_reads 112 = .ok (.bipush 65, 2) := by decide +kernel
theorem dX7_reads_114 : decode cX7_reads 114 = .ok (.isub, 1) := by decide +kernel
theorem dX7_reads_115 : decode cX7_reads 115 = .ok (.iconst 0, 1) := by decide +kernel
theorem dX7_reads_116 : decode cX7_reads 116 = .ok (.invokevirtual 61, 3) := by decide +kernel
theorem dX7_reads_119 : decode cX7_reads 119 = .ok (.ifCond .eq 7, 3) := by decide +kernel
theorem dX7_reads_122 : decode cX7_reads 122 = .ok (.iconst 1, 1) := by decide +kernel
theorem dX7_reads_123 : decode cX7_reads 123 = .ok (.goto 4, 3) := by decide +kernel
