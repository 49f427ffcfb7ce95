theorem dX5_init_0 : decode cX5_init 0 = .ok (.aload_n 0, 1) := by decide +kernel
theorem dX5_init_1 : decode cX5_init 1 = .ok (.invokespecial 1, 3) := by decide +kernel
theorem dX5_init_4 : decode cX5_init 4 = .ok (.aload_n 0, 1) := by decide +kernel
theorem dX5_init_5 : decode cX5_init 5 = .ok (.new 7, 3) := by decide +kernel
theorem dX5_init_8 : decode cX5_init 8 = .ok (.dup, 1) := by decide +kernel
theorem dX5_init_9 : decode cX5_init 9 = .ok (.invokespecial 9, 3) := by decide +kernel
theorem dX5_init_12 : decode cX5_init 12 = .ok (.putfield 10, 3) := by decide +kernel
theorem dX5_init_15 : decode cX5_init 15 = .ok (.aload_n 0, 1) := by decide +kernel
theorem dX5_init_16 : decode cX5_init 16 = .ok (.new 7, 3) := by decide +kernel
theorem dX5_init_19 : decode cX5_init 19 = .ok (.dup, 1) := by decide +kernel
theorem dX5_init_20 : decode cX5_init 20 = .ok (.invokespecial 9, 3) := by decide +kernel
theorem dX5_init_23 : decode cX5_init 23 = .ok (.putfield 16, 3) := by decide +kernel
theorem dX5_init_26 : decode cX5_init 26 = .ok (.aload_n 0, 1) := by decide +kernel
theorem dX5_init_27 : decode cX5_init 27 = .ok (.new 7, 3) := by decide +kernel
theorem dX5_init_30 : decode cX5_init 30 = .ok (.dup, 1) := by decide +kernel
theorem dX5_init_31 : decode cX5_init 31 = .ok (.invokespecial 9, 3) := by decide +kernel
theorem dX5_init_34 : decode cX5_init 34 = .ok (.putfield 19, 3) := by decide +kernel
theorem dX5_init_37 : decode cX5_init 37 = .ok (.aload_n 0, 1) := by decide +kernel
theorem dX5_init_38 : decode cX5_init 38 = .ok (.new 22, 3) := by decide +kernel
theorem dX5_init_41 : decode cX5_init 41 = .ok (.dup, 1) := by decide +kernel
theorem dX5_init_42 : decode cX5_init 42 = .ok (.invokespecial 24, 3) := by decide +kernel
theorem dX5_init_45 : decode cX5_init 45 = .ok (.putfield 25, 3) := by decide +kernel
theorem dX5_init_48 : decode cX5_init 48 = .ok (.aload_n 0, 1) := by decide +kernel
theorem dX5_init_49 : decode cX5_init 49 = .ok (.new 29, 3) := by decide +kernel
theorem dX5_init_52 : decode cX5_init 52 = .ok (.dup, 1) := by decide +kernel
theorem dX5_init_53 : decode cX5_init 53 = .ok (.invokespecial 31, 3) := by decide +kernel
theorem dX5_init_56 : decode cX5_init 56 = .ok (.putfield 32, 3) := by decide +kernel
theorem dX5_init_59 : decode cX5_init 59 = .ok (.aload_n 0, 1) := by decide +kernel
theorem dX5_init_60 : decode cX5_init 60 = .ok (.new 36, 3) := by decide +kernel
theorem dX5_init_63 : decode cX5_init 63 = .ok (.dup, 1) := by decide +kernel
theorem dX5_init_64 : decode cX5_init 64 = .ok (.invokespecial 38, 3) := by decide +kernel
theorem dX5_init_67 : decode cX5_init 67 = .ok (.putfield 39, 3) := by decide +kernel
theorem dX5_init_70 : decode cX5_init 70 = .ok (.aload_n 0, 1) := by decide +kernel
theorem dX5_init_71 : decode cX5_init 71 = .ok (.bipush 7, 2) := by decide +kernel
theorem dX5_init_73 : decode cX5_init 73 = .ok (.newarray .int, 2) := by decide +kernel
theorem dX5_init_75 : decode cX5_init 75 = .ok (.putfield 43, 3) := by decide +kernel
theorem dX5_init_78 : decode cX5_init 78 = .ok (.return_, 1) := by decide +kernel
theorem dX5_feed_0 : decode cX5_feed 0 = .ok (.iload_n 1, 1) := by decide +kernel
theorem dX5_feed_1 : decode cX5_feed 1 = .ok (.iconst 0, 1) := by decide +kernel
theorem dX5_feed_2 : decode cX5_feed 2 = .ok (.sipush 255, 3) := by decide +kernel
theorem dX5_feed_5 : decode cX5_feed 5 = .ok (.invokestatic 47, 3) := by decide +kernel
theorem dX5_feed_8 : decode cX5_feed 8 = .ok (.istore_n 2, 1) := by decide +kernel
theorem dX5_feed_9 : decode cX5_feed 9 = .ok (.iload_n 2, 1) := by decide +kernel
theorem dX5_feed_10 : decode cX5_feed 10 = .ok (.ifCond .eq 9, 3) := by decide +kernel
theorem dX5_feed_13 : decode cX5_feed 13 = .ok (.aload_n 0, 1) := by decide +kernel
theorem dX5_feed_14 : decode cX5_feed 14 = .ok (.iload_n 2, 1) := by decide +kernel
theorem dX5_feed_15 : decode cX5_feed 15 = .ok (.invokevirtual 51, 3) := by decide +kernel
theorem dX5_feed_18 : decode cX5_feed 18 = .ok (.ireturn, 1) := by decide +kernel
theorem dX5_feed_19 : decode cX5_feed 19 = .ok (.aload_n 0, 1) := by decide +kernel
theorem dX5_feed_20 : decode cX5_feed 20 = .ok (.getfield 32, 3) := by decide +kernel
theorem dX5_feed_23 : decode cX5_feed 23 = .ok (.iload_n 1, 1) := by decide +kernel
theorem dX5_feed_24 : decode cX5_feed 24 = .ok (.invokevirtual 55, 3) := by decide +kernel
theorem dX5_feed_27 : decode cX5_feed 27 = .ok (.ifCond .ne 10, 3) := by decide +kernel
theorem dX5_feed_30 : decode cX5_feed 30 = .ok (.aload_n 0, 1) := by decide +kernel
theorem dX5_feed_31 : decode cX5_feed 31 = .ok (.bipush (-6), 2) := by decide +kernel
theorem dX5_feed_33 : decode cX5_feed 33 = .ok (.invokevirtual 51, 3) := by decide +kernel
theorem dX5_feed_36 : decode cX5_feed 36 = .ok (.ireturn, 1) := by decide +kernel
theorem dX5_feed_37 : decode cX5_feed 37 = .ok (.aload_n 0, 1) := by decide +kernel
theorem dX5_feed_38 : decode cX5_feed 38 = .ok (.getfield 32, 3) := by decide +kernel
theorem dX5_feed_41 : decode cX5_feed 41 = .ok (.invokevirtual 59, 3) := by decide +kernel
theorem dX5_feed_44 : decode cX5_feed 44 = .ok (.ireturn, 1) := by decide +kernel
theorem dX5_parish_0 : decode cX5_parish 0 = .ok (.aload_n 0, 1) := by decide +kernel
theorem dX5_parish_1 : decode cX5_parish 1 = .ok (.getfield 32, 3) := by decide +kernel
theorem dX5_parish_4 : decode cX5_parish 4 = .ok (.invokevirtual 63, 3) := by decide +kernel
theorem dX5_parish_7 : decode cX5_parish 7 = .ok (.istore_n 1, 1) := by decide +kernel
theorem dX5_parish_8 : decode cX5_parish 8 = .ok (.iload_n 1, 1) := by decide +kernel
theorem dX5_parish_9 : decode cX5_parish 9 = .ok (.ifCond .ge 10, 3) := by decide +kernel
theorem dX5_parish_12 : decode cX5_parish 12 = .ok (.aload_n 0, 1) := by decide +kernel
theorem dX5_parish_13 : decode cX5_parish 13 = .ok (.invokevirtual 66, 3) := by decide +kernel
theorem dX5_parish_16 : decode cX5_parish 16 = .ok (.goto 8, 3) := by decide +kernel
theorem dX5_parish_19 : decode cX5_parish 19 = .ok (.sipush (-1000), 3) := by decide +kernel
theorem dX5_parish_22 : decode cX5_parish 22 = .ok (.iload_n 1, 1) := by decide +kernel
theorem dX5_parish_23 : decode cX5_parish 23 = .ok (.isub, 1) := by decide +kernel
theorem dX5_parish_24 : decode cX5_parish 24 = .ok (.istore_n 2, 1) := by decide +kernel
theorem dX5_parish_25 : decode cX5_parish 25 = .ok (.aload_n 0, 1) := by decide +kernel
theorem dX5_parish_26 : decode cX5_parish 26 = .ok (.getfield 32, 3) := by decide +kernel
theorem dX5_parish_29 : decode cX5_parish 29 = .ok (.invokevirtual 69, 3) := by decide +kernel
theorem dX5_parish_32 : decode cX5_parish 32 = .ok (.iload_n 2, 1) := by decide +kernel
theorem dX5_parish_33 : decode cX5_parish 33 = .ok (.ireturn, 1) := by decide +kernel
theorem dX5_houseOf_0 : decode cX5_houseOf 0 = .ok (.aload_n 0, 1) := by decide +kernel
theorem dX5_houseOf_1 : decode cX5_houseOf 1 = .ok (.getfield 10, 3) := by decide +kernel
theorem dX5_houseOf_4 : decode cX5_houseOf 4 = .ok (.iload_n 1, 1) := by decide +kernel
theorem dX5_houseOf_5 : decode cX5_houseOf 5 = .ok (.invokevirtual 72, 3) := by decide +kernel
theorem dX5_houseOf_8 : decode cX5_houseOf 8 = .ok (.ifCond .ne 9, 3) := by decide +kernel
theorem dX5_houseOf_11 : decode cX5_houseOf 11 = .ok (.aload_n 0, 1) := by decide +kernel
theorem dX5_houseOf_12 : decode cX5_houseOf 12 = .ok (.iconst (-1), 1) := by decide +kernel
theorem dX5_houseOf_13 : decode cX5_houseOf 13 = .ok (.invokevirtual 51, 3) := by decide +kernel
theorem dX5_houseOf_16 : decode cX5_houseOf 16 = .ok (.ireturn, 1) := by decide +kernel
theorem dX5_houseOf_17 : decode cX5_houseOf 17 = .ok (.iload_n 2, 1) := by decide +kernel
theorem dX5_houseOf_18 : decode cX5_houseOf 18 = .ok (.tableswitch 136 0 6 #[42, 51, 60, 69, 78, 95, 112], 42) := by decide +kernel
theorem dX5_houseOf_60 : decode cX5_houseOf 60 = .ok (.aload_n 0, 1) := by decide +kernel
theorem dX5_houseOf_61 : decode cX5_houseOf 61 = .ok (.getfield 10, 3) := by decide +kernel
theorem dX5_houseOf_64 : decode cX5_houseOf 64 = .ok (.iload_n 1, 1) := by decide +kernel
theorem dX5_houseOf_65 : decode cX5_houseOf 65 = .ok (.invokevirtual 75, 3) := by decide +kernel
theorem dX5_houseOf_68 : decode cX5_houseOf 68 = .ok (.ireturn, 1) := by decide +kernel
theorem dX5_houseOf_69 : decode cX5_houseOf 69 = .ok (.aload_n 0, 1) := by decide +kernel
theorem dX5_houseOf_70 : decode cX5_houseOf 70 = .ok (.getfield 10, 3) := by decide +kernel
theorem dX5_houseOf_73 : decode cX5_houseOf 73 = .ok (.iload_n 1, 1) := by decide +kernel
theorem dX5_houseOf_74 : decode cX5_houseOf 74 = .ok (.invokevirtual 78, 3) := by decide +kernel
theorem dX5_houseOf_77 : decode cX5_houseOf 77 = .ok (.ireturn, 1) := by decide +kernel
theorem dX5_houseOf_78 : decode cX5_houseOf 78 = .ok (.aload_n 0, 1) := by decide +kernel
theorem dX5_houseOf_79 : decode cX5_houseOf 79 = .ok (.getfield 10, 3) := by decide +kernel
theorem dX5_houseOf_82 : decode cX5_houseOf 82 = .ok (.iload_n 1, 1) := by decide +kernel
theorem dX5_houseOf_83 : decode cX5_houseOf 83 = .ok (.invokevirtual 81, 3) := by decide +kernel
theorem dX5_houseOf_86 : decode cX5_houseOf 86 = .ok (.ireturn, 1) := by decide +kernel
theorem dX5_houseOf_87 : decode cX5_houseOf 87 = .ok (.aload_n 0, 1) := by decide +kernel
theorem dX5_houseOf_88 : decode cX5_houseOf 88 = .ok (.getfield 10, 3) := by decide +kernel
theorem dX5_houseOf_91 : decode cX5_houseOf 91 = .ok (.iload_n 1, 1) := by decide +kernel
theorem dX5_houseOf_92 : decode cX5_houseOf 92 = .ok (.invokevirtual 84, 3) := by decide +kernel
theorem dX5_houseOf_95 : decode cX5_houseOf 95 = .ok (.ireturn, 1) := by decide +kernel
theorem dX5_houseOf_96 : decode cX5_houseOf 96 = .ok (.aload_n 0, 1) := by decide +kernel
theorem dX5_houseOf_97 : decode cX5_houseOf 97 = .ok (.getfield 10, 3) := by decide +kernel
theorem dX5_houseOf_100 : decode cX5_houseOf 100 = .ok (.iload_n 1, 1) := by decide +kernel
theorem dX5_houseOf_101 : decode cX5_houseOf 101 = .ok (.invokevirtual 87, 3) := by decide +kernel
theorem dX5_houseOf_104 : decode cX5_houseOf 104 = .ok (.ifCond .eq 7, 3) := by decide +kernel
theorem dX5_houseOf_107 : decode cX5_houseOf 107 = .ok (.iconst 1, 1) := by decide +kernel
theorem dX5_houseOf_108 : decode cX5_houseOf 108 = .ok (.goto 4, 3) := by decide +kernel
theorem dX5_houseOf_111 : decode cX5_houseOf 111 = .ok (.iconst 0, 1) := by decide +kernel
theorem dX5_houseOf_112 : decode cX5_houseOf 112 = .ok (.ireturn, 1) := by decide +kernel
theorem dX5_houseOf_113 : decode cX5_houseOf 113 = .ok (.aload_n 0, 1) := by decide +kernel
theorem dX5_houseOf_114 : decode cX5_houseOf 114 = .ok (.getfield 10, 3) := by decide +kernel
theorem dX5_houseOf_117 : decode cX5_houseOf 117 = .ok (.iload_n 1, 1) := by decide +kernel
theorem dX5_houseOf_118 : decode cX5_houseOf 118 = .ok (.invokevirtual 90, 3) := by decide +kernel
theorem dX5_houseOf_121 : decode cX5_houseOf 121 = .ok (.ifCond .eq 7, 3) := by decide +kernel
theorem dX5_houseOf_124 : decode cX5_houseOf 124 = .ok (.iconst 1, 1) := by decide +kernel
theorem dX5_houseOf_125 : decode cX5_houseOf 125 = .ok (.goto 4, 3) := by decide +kernel
theorem dX5_houseOf_128 : decode cX5_houseOf 128 = .ok (.iconst 0, 1) := by decide +kernel
theorem dX5_houseOf_129 : decode cX5_houseOf 129 = .ok (.ireturn, 1) := by decide +kernel
theorem dX5_houseOf_130 : decode cX5_houseOf 130 = .ok (.aload_n 0, 1) := by decide +kernel
theorem dX5_houseOf_131 : decode cX5_houseOf 131 = .ok (.getfield 10, 3) := by decide +kernel
theorem dX5_houseOf_134 : decode cX5_houseOf 134 = .ok (.iload_n 1, 1) := by decide +kernel
theorem dX5_houseOf_135 : decode cX5_houseOf 135 = .ok (.invokevirtual 87, 3) := by decide +kernel
theorem dX5_houseOf_138 : decode cX5_houseOf 138 = .ok (.ifCond .eq 7, 3) := by decide +kernel
theorem dX5_houseOf_141 : decode cX5_houseOf 141 = .ok (.iconst 0, 1) := by decide +kernel
theorem dX5_houseOf_142 : decode cX5_houseOf 142 = .ok (.goto 11, 3) := by decide +kernel
theorem dX5_houseOf_145 : decode cX5_houseOf 145 = .ok (.aload_n 0, 1) := by decide +kernel
theorem dX5_houseOf_146 : decode cX5_houseOf 146 = .ok (.getfield 10, 3) := by decide +kernel
theorem dX5_houseOf_149 : decode cX5_houseOf 149 = .ok (.iload_n 1, 1) := by decide +kernel
theorem dX5_houseOf_150 : decode cX5_houseOf 150 = .ok (.invokevirtual 93, 3) := by decide +kernel
theorem dX5_houseOf_153 : decode cX5_houseOf 153 = .ok (.ireturn, 1) := by decide +kernel
theorem dX5_houseOf_154 : decode cX5_houseOf 154 = .ok (.aload_n 0, 1) := by decide +kernel
theorem dX5_houseOf_155 : decode cX5_houseOf 155 = .ok (.bipush (-2), 2) := by decide +kernel
theorem dX5_houseOf_157 : decode cX5_houseOf 157 = .ok (.invokevirtual 51, 3) := by decide +kernel
theorem dX5_houseOf_160 : decode cX5_houseOf 160 = .ok (.ireturn, 1) := by decide +kernel
theorem dX5_house_0 : decode cX5_house 0 = .ok (.iload_n 1, 1) := by decide +kernel
theorem dX5_house_1 : decode cX5_house 1 = .ok (.ifCond .lt 8, 3) := by decide +kernel
theorem dX5_house_4 : decode cX5_house 4 = .ok (.iload_n 1, 1) := by decide +kernel
theorem dX5_house_5 : decode cX5_house 5 = .ok (.iconst 5, 1) := by decide +kernel
theorem dX5_house_6 : decode cX5_house 6 = .ok (.if_icmp .le 10, 3) := by decide +kernel
theorem dX5_house_9 : decode cX5_house 9 = .ok (.aload_n 0, 1) := by decide +kernel
theorem dX5_house_10 : decode cX5_house 10 = .ok (.bipush (-2), 2) := by decide +kernel
theorem dX5_house_12 : decode cX5_house 12 = .ok (.invokevirtual 51, 3) := by decide +kernel
theorem dX5_house_15 : decode cX5_house 15 = .ok (.ireturn, 1) := by decide +kernel
theorem dX5_house_16 : decode cX5_house 16 = .ok (.iload_n 2, 1) := by decide +kernel
theorem dX5_house_17 : decode cX5_house 17 = .ok (.iconst 0, 1) := by decide +kernel
theorem dX5_house_18 : decode cX5_house 18 = .ok (.bipush 9, 2) := by decide +kernel
theorem dX5_house_20 : decode cX5_house 20 = .ok (.invokestatic 47, 3) := by decide +kernel
theorem dX5_house_23 : decode cX5_house 23 = .ok (.istore_n 3, 1) := by decide +kernel
theorem dX5_house_24 : decode cX5_house 24 = .ok (.iload_n 3, 1) := by decide +kernel
theorem dX5_house_25 : decode cX5_house 25 = .ok (.ifCond .eq 9, 3) := by decide +kernel
theorem dX5_house_28 : decode cX5_house 28 = .ok (.aload_n 0, 1) := by decide +kernel
theorem dX5_house_29 : decode cX5_house 29 = .ok (.iload_n 3, 1) := by decide +kernel
theorem dX5_house_30 : decode cX5_house 30 = .ok (.invokevirtual 51, 3) := by decide +kernel
theorem dX5_house_33 : decode cX5_house 33 = .ok (.ireturn, 1) := by decide +kernel
theorem dX5_house_34 : decode cX5_house 34 = .ok (.aload_n 0, 1) := by decide +kernel
theorem dX5_house_35 : decode cX5_house 35 = .ok (.getfield 10, 3) := by decide +kernel
theorem dX5_house_38 : decode cX5_house 38 = .ok (.iload_n 1, 1) := by decide +kernel
theorem dX5_house_39 : decode cX5_house 39 = .ok (.iload_n 2, 1) := by decide +kernel
theorem dX5_house_40 : decode cX5_house 40 = .ok (.invokevirtual 96, 3) := by decide +kernel
theorem dX5_house_43 : decode cX5_house 43 = .ok (.ifCond .ne 10, 3) := by decide +kernel
theorem dX5_house_46 : decode cX5_house 46 = .ok (.aload_n 0, 1) := by decide +kernel
theorem dX5_house_47 : decode cX5_house 47 = .ok (.bipush (-6), 2) := by decide +kernel
theorem dX5_house_49 : decode cX5_house 49 = .ok (.invokevirtual 51, 3) := by decide +kernel
theorem dX5_house_52 : decode cX5_house 52 = .ok (.ireturn, 1) := by decide +kernel
theorem dX5_house_53 : decode cX5_house 53 = .ok (.aload_n 0, 1) := by decide +kernel
theorem dX5_house_54 : decode cX5_house 54 = .ok (.getfield 25, 3) := by decide +kernel
theorem dX5_house_57 : decode cX5_house 57 = .ok (.invokevirtual 100, 3) := by decide +kernel
theorem dX5_house_60 : decode cX5_house 60 = .ok (.aload_n 0, 1) := by decide +kernel
theorem dX5_house_61 : decode cX5_house 61 = .ok (.getfield 10, 3) := by decide +kernel
theorem dX5_house_64 : decode cX5_house 64 = .ok (.invokevirtual 103, 3) := by decide +kernel
theorem dX5_house_67 : decode cX5_house 67 = .ok (.iconst 1, 1) := by decide +kernel
theorem dX5_house_68 : decode cX5_house 68 = .ok (.isub, 1) := by decide +kernel
theorem dX5_house_69 : decode cX5_house 69 = .ok (.ireturn, 1) := by decide +kernel
theorem dX5_joins_0 : decode cX5_joins 0 = .ok (.aload_n 0, 1) := by decide +kernel
theorem dX5_joins_1 : decode cX5_joins 1 = .ok (.getfield 10, 3) := by decide +kernel
theorem dX5_joins_4 : decode cX5_joins 4 = .ok (.iload_n 1, 1) := by decide +kernel
theorem dX5_joins_5 : decode cX5_joins 5 = .ok (.invokevirtual 72, 3) := by decide +kernel
theorem dX5_joins_8 : decode cX5_joins 8 = .ok (.ifCond .eq 13, 3) := by decide +kernel
theorem dX5_joins_11 : decode cX5_joins 11 = .ok (.iload_n 2, 1) := by decide +kernel
theorem dX5_joins_12 : decode cX5_joins 12 = .ok (.ifCond .lt 9, 3) := by decide +kernel
theorem dX5_joins_15 : decode cX5_joins 15 = .ok (.iload_n 2, 1) := by decide +kernel
theorem dX5_joins_16 : decode cX5_joins 16 = .ok (.bipush 9, 2) := by decide +kernel
theorem dX5_joins_18 : decode cX5_joins 18 = .ok (.if_icmp .le 9, 3) := by decide +kernel
theorem dX5_joins_21 : decode cX5_joins 21 = .ok (.aload_n 0, 1) := by decide +kernel
theorem dX5_joins_22 : decode cX5_joins 22 = .ok (.iconst (-1), 1) := by decide +kernel
theorem dX5_joins_23 : decode cX5_joins 23 = .ok (.invokevirtual 51, 3) := by decide +kernel
theorem dX5_joins_26 : decode cX5_joins 26 = .ok (.ireturn, 1) := by decide +kernel
theorem dX5_joins_27 : decode cX5_joins 27 = .ok (.iload_n 2, 1) := by decide +kernel
theorem dX5_joins_28 : decode cX5_joins 28 = .ok (.iload_n 1, 1) := by decide +kernel
theorem dX5_joins_29 : decode cX5_joins 29 = .ok (.if_icmp .gt 10, 3) := by decide +kernel
theorem dX5_joins_32 : decode cX5_joins 32 = .ok (.aload_n 0, 1) := by decide +kernel
theorem dX5_joins_33 : decode cX5_joins 33 = .ok (.bipush (-3), 2) := by decide +kernel
theorem dX5_joins_35 : decode cX5_joins 35 = .ok (.invokevirtual 51, 3) := by decide +kernel
theorem dX5_joins_38 : decode cX5_joins 38 = .ok (.ireturn, 1) := by decide +kernel
theorem dX5_joins_39 : decode cX5_joins 39 = .ok (.aload_n 0, 1) := by decide +kernel
theorem dX5_joins_40 : decode cX5_joins 40 = .ok (.getfield 25, 3) := by decide +kernel
theorem dX5_joins_43 : decode cX5_joins 43 = .ok (.aload_n 0, 1) := by decide +kernel
theorem dX5_joins_44 : decode cX5_joins 44 = .ok (.getfield 10, 3) := by decide +kernel
theorem dX5_joins_47 : decode cX5_joins 47 = .ok (.invokevirtual 106, 3) := by decide +kernel
theorem dX5_joins_50 : decode cX5_joins 50 = .ok (.aload_n 0, 1) := by decide +kernel
theorem dX5_joins_51 : decode cX5_joins 51 = .ok (.getfield 10, 3) := by decide +kernel
theorem dX5_joins_54 : decode cX5_joins 54 = .ok (.iload_n 1, 1) := by decide +kernel
theorem dX5_joins_55 : decode cX5_joins 55 = .ok (.invokevirtual 84, 3) := by decide +kernel
theorem dX5_joins_58 : decode cX5_joins 58 = .ok (.istore_n 3, 1) := by decide +kernel
theorem dX5_joins_59 : decode cX5_joins 59 = .ok (.aload_n 0, 1) := by decide +kernel
theorem dX5_joins_60 : decode cX5_joins 60 = .ok (.getfield 10, 3) := by decide +kernel
theorem dX5_joins_63 : decode cX5_joins 63 = .ok (.iload_n 1, 1) := by decide +kernel
theorem dX5_joins_64 : decode cX5_joins 64 = .ok (.iload_n 2, 1) := by decide +kernel
theorem dX5_joins_65 : decode cX5_joins 65 = .ok (.invokevirtual 110, 3) := by decide +kernel
theorem dX5_joins_68 : decode cX5_joins 68 = .ok (.pop, 1) := by decide +kernel
theorem dX5_joins_69 : decode cX5_joins 69 = .ok (.iload_n 3, 1) := by decide +kernel
theorem dX5_joins_70 : decode cX5_joins 70 = .ok (.ireturn, 1) := by decide +kernel
theorem dX5_blocks_0 : decode cX5_blocks 0 = .ok (.aload_n 0, 1) := by decide +kernel
theorem dX5_blocks_1 : decode cX5_blocks 1 = .ok (.getfield 10, 3) := by decide +kernel
theorem dX5_blocks_4 : decode cX5_blocks 4 = .ok (.iload_n 1, 1) := by decide +kernel
theorem dX5_blocks_5 : decode cX5_blocks 5 = .ok (.invokevirtual 72, 3) := by decide +kernel
theorem dX5_blocks_8 : decode cX5_blocks 8 = .ok (.ifCond .ne 9, 3) := by decide +kernel
theorem dX5_blocks_11 : decode cX5_blocks 11 = .ok (.aload_n 0, 1) := by decide +kernel
theorem dX5_blocks_12 : decode cX5_blocks 12 = .ok (.iconst (-1), 1) := by decide +kernel
theorem dX5_blocks_13 : decode cX5_blocks 13 = .ok (.invokevirtual 51, 3) := by decide +kernel
theorem dX5_blocks_16 : decode cX5_blocks 16 = .ok (.ireturn, 1) := by decide +kernel
theorem dX5_blocks_17 : decode cX5_blocks 17 = .ok (.aload_n 0, 1) := by decide +kernel
theorem dX5_blocks_18 : decode cX5_blocks 18 = .ok (.getfield 25, 3) := by decide +kernel
theorem dX5_blocks_21 : decode cX5_blocks 21 = .ok (.aload_n 0, 1) := by decide +kernel
theorem dX5_blocks_22 : decode cX5_blocks 22 = .ok (.getfield 10, 3) := by decide +kernel
theorem dX5_blocks_25 : decode cX5_blocks 25 = .ok (.invokevirtual 106, 3) := by decide +kernel
theorem dX5_blocks_28 : decode cX5_blocks 28 = .ok (.aload_n 0, 1) := by decide +kernel
theorem dX5_blocks_29 : decode cX5_blocks 29 = .ok (.getfield 10, 3) := by decide +kernel
theorem dX5_blocks_32 : decode cX5_blocks 32 = .ok (.iload_n 1, 1) := by decide +kernel
theorem dX5_blocks_33 : decode cX5_blocks 33 = .ok (.invokevirtual 113, 3) := by decide +kernel
theorem dX5_blocks_36 : decode cX5_blocks 36 = .ok (.pop, 1) := by decide +kernel
theorem dX5_blocks_37 : decode cX5_blocks 37 = .ok (.aload_n 0, 1) := by decide +kernel
theorem dX5_blocks_38 : decode cX5_blocks 38 = .ok (.getfield 10, 3) := by decide +kernel
theorem dX5_blocks_41 : decode cX5_blocks 41 = .ok (.iload_n 1, 1) := by decide +kernel
theorem dX5_blocks_42 : decode cX5_blocks 42 = .ok (.invokevirtual 87, 3) := by decide +kernel
theorem dX5_blocks_45 : decode cX5_blocks 45 = .ok (.ifCond .eq 7, 3) := by decide +kernel
theorem dX5_blocks_48 : decode cX5_blocks 48 = .ok (.iconst 1, 1) := by decide +kernel
theorem dX5_blocks_49 : decode cX5_blocks 49 = .ok (.goto 4, 3) := by decide +kernel
theorem dX5_blocks_52 : decode cX5_blocks 52 = .ok (.iconst 0, 1) := by decide +kernel
theorem dX5_blocks_53 : decode cX5_blocks 53 = .ok (.ireturn, 1) := by decide +kernel
theorem dX5_pours_0 : decode cX5_pours 0 = .ok (.aload_n 0, 1) := by decide +kernel
theorem dX5_pours_1 : decode cX5_pours 1 = .ok (.getfield 10, 3) := by decide +kernel
theorem dX5_pours_4 : decode cX5_pours 4 = .ok (.iload_n 1, 1) := by decide +kernel
theorem dX5_pours_5 : decode cX5_pours 5 = .ok (.invokevirtual 72, 3) := by decide +kernel
theorem dX5_pours_8 : decode cX5_pours 8 = .ok (.ifCond .ne 9, 3) := by decide +kernel
theorem dX5_pours_11 : decode cX5_pours 11 = .ok (.aload_n 0, 1) := by decide +kernel
theorem dX5_pours_12 : decode cX5_pours 12 = .ok (.iconst (-1), 1) := by decide +kernel
theorem dX5_pours_13 : decode cX5_pours 13 = .ok (.invokevirtual 51, 3) := by decide +kernel
theorem dX5_pours_16 : decode cX5_pours 16 = .ok (.ireturn, 1) := by decide +kernel
theorem dX5_pours_17 : decode cX5_pours 17 = .ok (.iload_n 2, 1) := by decide +kernel
theorem dX5_pours_18 : decode cX5_pours 18 = .ok (.iconst 0, 1) := by decide +kernel
theorem dX5_pours_19 : decode cX5_pours 19 = .ok (.bipush 99, 2) := by decide +kernel
theorem dX5_pours_21 : decode cX5_pours 21 = .ok (.invokestatic 47, 3) := by decide +kernel
theorem dX5_pours_24 : decode cX5_pours 24 = .ok (.istore_n 3, 1) := by decide +kernel
theorem dX5_pours_25 : decode cX5_pours 25 = .ok (.iload_n 3, 1) := by decide +kernel
theorem dX5_pours_26 : decode cX5_pours 26 = .ok (.ifCond .eq 9, 3) := by decide +kernel
theorem dX5_pours_29 : decode cX5_pours 29 = .ok (.aload_n 0, 1) := by decide +kernel
theorem dX5_pours_30 : decode cX5_pours 30 = .ok (.iload_n 3, 1) := by decide +kernel
theorem dX5_pours_31 : decode cX5_pours 31 = .ok (.invokevirtual 51, 3) := by decide +kernel
theorem dX5_pours_34 : decode cX5_pours 34 = .ok (.ireturn, 1) := by decide +kernel
theorem dX5_pours_35 : decode cX5_pours 35 = .ok (.aload_n 0, 1) := by decide +kernel
theorem dX5_pours_36 : decode cX5_pours 36 = .ok (.getfield 25, 3) := by decide +kernel
theorem dX5_pours_39 : decode cX5_pours 39 = .ok (.aload_n 0, 1) := by decide +kernel
theorem dX5_pours_40 : decode cX5_pours 40 = .ok (.getfield 10, 3) := by decide +kernel
theorem dX5_pours_43 : decode cX5_pours 43 = .ok (.invokevirtual 106, 3) := by decide +kernel
theorem dX5_pours_46 : decode cX5_pours 46 = .ok (.aload_n 0, 1) := by decide +kernel
theorem dX5_pours_47 : decode cX5_pours 47 = .ok (.getfield 10, 3) := by decide +kernel
theorem dX5_pours_50 : decode cX5_pours 50 = .ok (.iload_n 1, 1) := by decide +kernel
theorem dX5_pours_51 : decode cX5_pours 51 = .ok (.iload_n 2, 1) := by decide +kernel
theorem dX5_pours_52 : decode cX5_pours 52 = .ok (.invokevirtual 116, 3) := by decide +kernel
theorem dX5_pours_55 : decode cX5_pours 55 = .ok (.pop, 1) := by decide +kernel
theorem dX5_pours_56 : decode cX5_pours 56 = .ok (.aload_n 0, 1) := by decide +kernel
theorem dX5_pours_57 : decode cX5_pours 57 = .ok (.getfield 10, 3) := by decide +kernel
theorem dX5_pours_60 : decode cX5_pours 60 = .ok (.iload_n 1, 1) := by decide +kernel
theorem dX5_pours_61 : decode cX5_pours 61 = .ok (.invokevirtual 81, 3) := by decide +kernel
theorem dX5_pours_64 : decode cX5_pours 64 = .ok (.ireturn, 1) := by decide +kernel
theorem dX5_empties_0 : decode cX5_empties 0 = .ok (.aload_n 0, 1) := by decide +kernel
theorem dX5_empties_1 : decode cX5_empties 1 = .ok (.getfield 10, 3) := by decide +kernel
theorem dX5_empties_4 : decode cX5_empties 4 = .ok (.invokevirtual 119, 3) := by decide +kernel
theorem dX5_empties_7 : decode cX5_empties 7 = .ok (.istore_n 1, 1) := by decide +kernel
theorem dX5_empties_8 : decode cX5_empties 8 = .ok (.aload_n 0, 1) := by decide +kernel
theorem dX5_empties_9 : decode cX5_empties 9 = .ok (.getfield 10, 3) := by decide +kernel
theorem dX5_empties_12 : decode cX5_empties 12 = .ok (.invokevirtual 122, 3) := by decide +kernel
theorem dX5_empties_15 : decode cX5_empties 15 = .ok (.aload_n 0, 1) := by decide +kernel
theorem dX5_empties_16 : decode cX5_empties 16 = .ok (.getfield 25, 3) := by decide +kernel
theorem dX5_empties_19 : decode cX5_empties 19 = .ok (.invokevirtual 100, 3) := by decide +kernel
theorem dX5_empties_22 : decode cX5_empties 22 = .ok (.iload_n 1, 1) := by decide +kernel
theorem dX5_empties_23 : decode cX5_empties 23 = .ok (.ireturn, 1) := by decide +kernel
theorem dX5_hours_0 : decode cX5_hours 0 = .ok (.iload_n 1, 1) := by decide +kernel
theorem dX5_hours_1 : decode cX5_hours 1 = .ok (.iconst 1, 1) := by decide +kernel
theorem dX5_hours_2 : decode cX5_hours 2 = .ok (.bipush 60, 2) := by decide +kernel
theorem dX5_hours_4 : decode cX5_hours 4 = .ok (.invokestatic 47, 3) := by decide +kernel
theorem dX5_hours_7 : decode cX5_hours 7 = .ok (.istore_n 2, 1) := by decide +kernel
theorem dX5_hours_8 : decode cX5_hours 8 = .ok (.iload_n 2, 1) := by decide +kernel
theorem dX5_hours_9 : decode cX5_hours 9 = .ok (.ifCond .eq 9, 3) := by decide +kernel
theorem dX5_hours_12 : decode cX5_hours 12 = .ok (.aload_n 0, 1) := by decide +kernel
theorem dX5_hours_13 : decode cX5_hours 13 = .ok (.iload_n 2, 1) := by decide +kernel
theorem dX5_hours_14 : decode cX5_hours 14 = .ok (.invokevirtual 51, 3) := by decide +kernel
theorem dX5_hours_17 : decode cX5_hours 17 = .ok (.ireturn, 1) := by decide +kernel
theorem dX5_hours_18 : decode cX5_hours 18 = .ok (.aload_n 0, 1) := by decide +kernel
theorem dX5_hours_19 : decode cX5_hours 19 = .ok (.getfield 10, 3) := by decide +kernel
theorem dX5_hours_22 : decode cX5_hours 22 = .ok (.iload_n 1, 1) := by decide +kernel
theorem dX5_hours_23 : decode cX5_hours 23 = .ok (.invokevirtual 125, 3) := by decide +kernel
theorem dX5_hours_26 : decode cX5_hours 26 = .ok (.ifCond .ne 10, 3) := by decide +kernel
theorem dX5_hours_29 : decode cX5_hours 29 = .ok (.aload_n 0, 1) := by decide +kernel
theorem dX5_hours_30 : decode cX5_hours 30 = .ok (.bipush (-6), 2) := by decide +kernel
theorem dX5_hours_32 : decode cX5_hours 32 = .ok (.invokevirtual 51, 3) := by decide +kernel
theorem dX5_hours_35 : decode cX5_hours 35 = .ok (.ireturn, 1) := by decide +kernel
theorem dX5_hours_36 : decode cX5_hours 36 = .ok (.aload_n 0, 1) := by decide +kernel
theorem dX5_hours_37 : decode cX5_hours 37 = .ok (.getfield 25, 3) := by decide +kernel
theorem dX5_hours_40 : decode cX5_hours 40 = .ok (.aload_n 0, 1) := by decide +kernel
theorem dX5_hours_41 : decode cX5_hours 41 = .ok (.getfield 10, 3) := by decide +kernel
theorem dX5_hours_44 : decode cX5_hours 44 = .ok (.invokevirtual 106, 3) := by decide +kernel
theorem dX5_hours_47 : decode cX5_hours 47 = .ok (.aload_n 0, 1) := by decide +kernel
theorem dX5_hours_48 : decode cX5_hours 48 = .ok (.getfield 10, 3) := by decide +kernel
theorem dX5_hours_51 : decode cX5_hours 51 = .ok (.iload_n 1, 1) := by decide +kernel
theorem dX5_hours_52 : decode cX5_hours 52 = .ok (.invokevirtual 128, 3) := by decide +kernel
theorem dX5_hours_55 : decode cX5_hours 55 = .ok (.aload_n 0, 1) := by decide +kernel
theorem dX5_hours_56 : decode cX5_hours 56 = .ok (.getfield 10, 3) := by decide +kernel
theorem dX5_hours_59 : decode cX5_hours 59 = .ok (.invokevirtual 119, 3) := by decide +kernel
theorem dX5_hours_62 : decode cX5_hours 62 = .ok (.ireturn, 1) := by decide +kernel
theorem dX5_back_0 : decode cX5_back 0 = .ok (.aload_n 0, 1) := by decide +kernel
theorem dX5_back_1 : decode cX5_back 1 = .ok (.getfield 25, 3) := by decide +kernel
theorem dX5_back_4 : decode cX5_back 4 = .ok (.aload_n 0, 1) := by decide +kernel
theorem dX5_back_5 : decode cX5_back 5 = .ok (.getfield 10, 3) := by decide +kernel
theorem dX5_back_8 : decode cX5_back 8 = .ok (.invokevirtual 132, 3) := by decide +kernel
theorem dX5_back_11 : decode cX5_back 11 = .ok (.ifCond .ne 10, 3) := by decide +kernel
theorem dX5_back_14 : decode cX5_back 14 = .ok (.aload_n 0, 1) := by decide +kernel
theorem dX5_back_15 : decode cX5_back 15 = .ok (.bipush (-3), 2) := by decide +kernel
theorem dX5_back_17 : decode cX5_back 17 = .ok (.invokevirtual 51, 3) := by decide +kernel
theorem dX5_back_20 : decode cX5_back 20 = .ok (.ireturn, 1) := by decide +kernel
theorem dX5_back_21 : decode cX5_back 21 = .ok (.aload_n 0, 1) := by decide +kernel
theorem dX5_back_22 : decode cX5_back 22 = .ok (.getfield 25, 3) := by decide +kernel
theorem dX5_back_25 : decode cX5_back 25 = .ok (.invokevirtual 136, 3) := by decide +kernel
theorem dX5_back_28 : decode cX5_back 28 = .ok (.ireturn, 1) := by decide +kernel
theorem dX5_holdsIn_0 : decode cX5_holdsIn 0 = .ok (.aload_n 0, 1) := by decide +kernel
theorem dX5_holdsIn_1 : decode cX5_holdsIn 1 = .ok (.getfield 10, 3) := by decide +kernel
theorem dX5_holdsIn_4 : decode cX5_holdsIn 4 = .ok (.iload_n 1, 1) := by decide +kernel
theorem dX5_holdsIn_5 : decode cX5_holdsIn 5 = .ok (.invokevirtual 72, 3) := by decide +kernel
theorem dX5_holdsIn_8 : decode cX5_holdsIn 8 = .ok (.ifCond .ne 9, 3) := by decide +kernel
theorem dX5_holdsIn_11 : decode cX5_holdsIn 11 = .ok (.aload_n 0, 1) := by decide +kernel
theorem dX5_holdsIn_12 : decode cX5_holdsIn 12 = .ok (.iconst (-1), 1) := by decide +kernel
theorem dX5_holdsIn_13 : decode cX5_holdsIn 13 = .ok (.invokevirtual 51, 3) := by decide +kernel
theorem dX5_holdsIn_16 : decode cX5_holdsIn 16 = .ok (.ireturn, 1) := by decide +kernel
theorem dX5_holdsIn_17 : decode cX5_holdsIn 17 = .ok (.iload_n 2, 1) := by decide +kernel
theorem dX5_holdsIn_18 : decode cX5_holdsIn 18 = .ok (.iconst 0, 1) := by decide +kernel
theorem dX5_holdsIn_19 : decode cX5_holdsIn 19 = .ok (.bipush 60, 2) := by decide +kernel
theorem dX5_holdsIn_21 : decode cX5_holdsIn 21 = .ok (.invokestatic 47, 3) := by decide +kernel
theorem dX5_holdsIn_24 : decode cX5_holdsIn 24 = .ok (.istore_n 3, 1) := by decide +kernel
theorem dX5_holdsIn_25 : decode cX5_holdsIn 25 = .ok (.iload_n 3, 1) := by decide +kernel
theorem dX5_holdsIn_26 : decode cX5_holdsIn 26 = .ok (.ifCond .eq 9, 3) := by decide +kernel
theorem dX5_holdsIn_29 : decode cX5_holdsIn 29 = .ok (.aload_n 0, 1) := by decide +kernel
theorem dX5_holdsIn_30 : decode cX5_holdsIn 30 = .ok (.iload_n 3, 1) := by decide +kernel
theorem dX5_holdsIn_31 : decode cX5_holdsIn 31 = .ok (.invokevirtual 51, 3) := by decide +kernel
theorem dX5_holdsIn_34 : decode cX5_holdsIn 34 = .ok (.ireturn, 1) := by decide +kernel
theorem dX5_holdsIn_35 : decode cX5_holdsIn 35 = .ok (.aload_n 0, 1) := by decide +kernel
theorem dX5_holdsIn_36 : decode cX5_holdsIn 36 = .ok (.invokevirtual 137, 3) := by decide +kernel
theorem dX5_holdsIn_39 : decode cX5_holdsIn 39 = .ok (.aload_n 0, 1) := by decide +kernel
theorem dX5_holdsIn_40 : decode cX5_holdsIn 40 = .ok (.getfield 16, 3) := by decide +kernel
theorem dX5_holdsIn_43 : decode cX5_holdsIn 43 = .ok (.iload_n 2, 1) := by decide +kernel
theorem dX5_holdsIn_44 : decode cX5_holdsIn 44 = .ok (.invokevirtual 128, 3) := by decide +kernel
theorem dX5_holdsIn_47 : decode cX5_holdsIn 47 = .ok (.aload_n 0, 1) := by decide +kernel
theorem dX5_holdsIn_48 : decode cX5_holdsIn 48 = .ok (.getfield 16, 3) := by decide +kernel
theorem dX5_holdsIn_51 : decode cX5_holdsIn 51 = .ok (.iload_n 1, 1) := by decide +kernel
theorem dX5_holdsIn_52 : decode cX5_holdsIn 52 = .ok (.invokevirtual 81, 3) := by decide +kernel
theorem dX5_holdsIn_55 : decode cX5_holdsIn 55 = .ok (.ireturn, 1) := by decide +kernel
theorem dX5_then_0 : decode cX5_then 0 = .ok (.iload_n 1, 1) := by decide +kernel
theorem dX5_then_1 : decode cX5_then 1 = .ok (.iconst 0, 1) := by decide +kernel
theorem dX5_then_2 : decode cX5_then 2 = .ok (.bipush 60, 2) := by decide +kernel
theorem dX5_then_4 : decode cX5_then 4 = .ok (.invokestatic 47, 3) := by decide +kernel
theorem dX5_then_7 : decode cX5_then 7 = .ok (.istore_n 3, 1) := by decide +kernel
theorem dX5_then_8 : decode cX5_then 8 = .ok (.iload_n 3, 1) := by decide +kernel
theorem dX5_then_9 : decode cX5_then 9 = .ok (.ifCond .eq 9, 3) := by decide +kernel
theorem dX5_then_12 : decode cX5_then 12 = .ok (.aload_n 0, 1) := by decide +kernel
theorem dX5_then_13 : decode cX5_then 13 = .ok (.iload_n 3, 1) := by decide +kernel
theorem dX5_then_14 : decode cX5_then 14 = .ok (.invokevirtual 51, 3) := by decide +kernel
theorem dX5_then_17 : decode cX5_then 17 = .ok (.ireturn, 1) := by decide +kernel
theorem dX5_then_18 : decode cX5_then 18 = .ok (.iload_n 2, 1) := by decide +kernel
theorem dX5_then_19 : decode cX5_then 19 = .ok (.ifCond .eq 15, 3) := by decide +kernel
theorem dX5_then_22 : decode cX5_then 22 = .ok (.iload_n 2, 1) := by decide +kernel
theorem dX5_then_23 : decode cX5_then 23 = .ok (.iconst 1, 1) := by decide +kernel
theorem dX5_then_24 : decode cX5_then 24 = .ok (.if_icmp .eq 10, 3) := by decide +kernel
theorem dX5_then_27 : decode cX5_then 27 = .ok (.aload_n 0, 1) := by decide +kernel
theorem dX5_then_28 : decode cX5_then 28 = .ok (.bipush (-2), 2) := by decide +kernel
theorem dX5_then_30 : decode cX5_then 30 = .ok (.invokevirtual 51, 3) := by decide +kernel
theorem dX5_then_33 : decode cX5_then 33 = .ok (.ireturn, 1) := by decide +kernel
theorem dX5_then_34 : decode cX5_then 34 = .ok (.aload_n 0, 1) := by decide +kernel
theorem dX5_then_35 : decode cX5_then 35 = .ok (.invokevirtual 137, 3) := by decide +kernel
theorem dX5_then_38 : decode cX5_then 38 = .ok (.aload_n 0, 1) := by decide +kernel
theorem dX5_then_39 : decode cX5_then 39 = .ok (.getfield 16, 3) := by decide +kernel
theorem dX5_then_42 : decode cX5_then 42 = .ok (.iload_n 1, 1) := by decide +kernel
theorem dX5_then_43 : decode cX5_then 43 = .ok (.invokevirtual 128, 3) := by decide +kernel
theorem dX5_then_46 : decode cX5_then 46 = .ok (.iload_n 2, 1) := by decide +kernel
theorem dX5_then_47 : decode cX5_then 47 = .ok (.ifCond .ne 13, 3) := by decide +kernel
theorem dX5_then_50 : decode cX5_then 50 = .ok (.aload_n 0, 1) := by decide +kernel
theorem dX5_then_51 : decode cX5_then 51 = .ok (.getfield 16, 3) := by decide +kernel
theorem dX5_then_54 : decode cX5_then 54 = .ok (.invokevirtual 119, 3) := by decide +kernel
theorem dX5_then_57 : decode cX5_then 57 = .ok (.goto 10, 3) := by decide +kernel
theorem dX5_then_60 : decode cX5_then 60 = .ok (.aload_n 0, 1) := by decide +kernel
theorem dX5_then_61 : decode cX5_then 61 = .ok (.getfield 16, 3) := by decide +kernel
theorem dX5_then_64 : decode cX5_then 64 = .ok (.invokevirtual 140, 3) := by decide +kernel
theorem dX5_then_67 : decode cX5_then 67 = .ok (.ireturn, 1) := by decide +kernel
theorem dX5_drip_0 : decode cX5_drip 0 = .ok (.iload_n 1, 1) := by decide +kernel
theorem dX5_drip_1 : decode cX5_drip 1 = .ok (.tableswitch 42 0 2 #[27, 32, 37], 27) := by decide +kernel
theorem dX5_drip_28 : decode cX5_drip 28 = .ok (.aload_n 0, 1) := by decide +kernel
theorem dX5_drip_29 : decode cX5_drip 29 = .ok (.invokevirtual 143, 3) := by decide +kernel
theorem dX5_drip_32 : decode cX5_drip 32 = .ok (.ireturn, 1) := by decide +kernel
theorem dX5_drip_33 : decode cX5_drip 33 = .ok (.aload_n 0, 1) := by decide +kernel
theorem dX5_drip_34 : decode cX5_drip 34 = .ok (.invokevirtual 146, 3) := by decide +kernel
theorem dX5_drip_37 : decode cX5_drip 37 = .ok (.ireturn, 1) := by decide +kernel
theorem dX5_drip_38 : decode cX5_drip 38 = .ok (.aload_n 0, 1) := by decide +kernel
theorem dX5_drip_39 : decode cX5_drip 39 = .ok (.invokevirtual 149, 3) := by decide +kernel
theorem dX5_drip_42 : decode cX5_drip 42 = .ok (.ireturn, 1) := by decide +kernel
theorem dX5_drip_43 : decode cX5_drip 43 = .ok (.aload_n 0, 1) := by decide +kernel
theorem dX5_drip_44 : decode cX5_drip 44 = .ok (.bipush (-2), 2) := by decide +kernel
theorem dX5_drip_46 : decode cX5_drip 46 = .ok (.invokevirtual 51, 3) := by decide +kernel
theorem dX5_drip_49 : decode cX5_drip 49 = .ok (.ireturn, 1) := by decide +kernel
theorem dX5_reaches_0 : decode cX5_reaches 0 = .ok (.aload_n 0, 1) := by decide +kernel
theorem dX5_reaches_1 : decode cX5_reaches 1 = .ok (.getfield 10, 3) := by decide +kernel
theorem dX5_reaches_4 : decode cX5_reaches 4 = .ok (.iload_n 1, 1) := by decide +kernel
theorem dX5_reaches_5 : decode cX5_reaches 5 = .ok (.invokevirtual 72, 3) := by decide +kernel
theorem dX5_reaches_8 : decode cX5_reaches 8 = .ok (.ifCond .ne 9, 3) := by decide +kernel
theorem dX5_reaches_11 : decode cX5_reaches 11 = .ok (.aload_n 0, 1) := by decide +kernel
theorem dX5_reaches_12 : decode cX5_reaches 12 = .ok (.iconst (-1), 1) := by decide +kernel
theorem dX5_reaches_13 : decode cX5_reaches 13 = .ok (.invokevirtual 51, 3) := by decide +kernel
theorem dX5_reaches_16 : decode cX5_reaches 16 = .ok (.ireturn, 1) := by decide +kernel
theorem dX5_reaches_17 : decode cX5_reaches 17 = .ok (.iload_n 2, 1) := by decide +kernel
theorem dX5_reaches_18 : decode cX5_reaches 18 = .ok (.iconst 1, 1) := by decide +kernel
theorem dX5_reaches_19 : decode cX5_reaches 19 = .ok (.bipush 99, 2) := by decide +kernel
theorem dX5_reaches_21 : decode cX5_reaches 21 = .ok (.invokestatic 47, 3) := by decide +kernel
theorem dX5_reaches_24 : decode cX5_reaches 24 = .ok (.istore_n 3, 1) := by decide +kernel
theorem dX5_reaches_25 : decode cX5_reaches 25 = .ok (.iload_n 3, 1) := by decide +kernel
theorem dX5_reaches_26 : decode cX5_reaches 26 = .ok (.ifCond .eq 9, 3) := by decide +kernel
theorem dX5_reaches_29 : decode cX5_reaches 29 = .ok (.aload_n 0, 1) := by decide +kernel
theorem dX5_reaches_30 : decode cX5_reaches 30 = .ok (.iload_n 3, 1) := by decide +kernel
theorem dX5_reaches_31 : decode cX5_reaches 31 = .ok (.invokevirtual 51, 3) := by decide +kernel
theorem dX5_reaches_34 : decode cX5_reaches 34 = .ok (.ireturn, 1) := by decide +kernel
theorem dX5_reaches_35 : decode cX5_reaches 35 = .ok (.aload_n 0, 1) := by decide +kernel
theorem dX5_reaches_36 : decode cX5_reaches 36 = .ok (.invokevirtual 137, 3) := by decide +kernel
theorem dX5_reaches_39 : decode cX5_reaches 39 = .ok (.iconst 0, 1) := by decide +kernel
theorem dX5_reaches_40 : decode cX5_reaches 40 = .ok (.istore 4, 2) := by decide +kernel
theorem dX5_reaches_42 : decode cX5_reaches 42 = .ok (.iload 4, 2) := by decide +kernel
theorem dX5_reaches_44 : decode cX5_reaches 44 = .ok (.bipush 60, 2) := by decide +kernel
theorem dX5_reaches_46 : decode cX5_reaches 46 = .ok (.if_icmp .gt 32, 3) := by decide +kernel
theorem dX5_reaches_49 : decode cX5_reaches 49 = .ok (.aload_n 0, 1) := by decide +kernel
theorem dX5_reaches_50 : decode cX5_reaches 50 = .ok (.getfield 16, 3) := by decide +kernel
theorem dX5_reaches_53 : decode cX5_reaches 53 = .ok (.iload_n 1, 1) := by decide +kernel
theorem dX5_reaches_54 : decode cX5_reaches 54 = .ok (.invokevirtual 81, 3) := by decide +kernel
theorem dX5_reaches_57 : decode cX5_reaches 57 = .ok (.iload_n 2, 1) := by decide +kernel
theorem dX5_reaches_58 : decode cX5_reaches 58 = .ok (.if_icmp .lt 6, 3) := by decide +kernel
theorem dX5_reaches_61 : decode cX5_reaches 61 = .ok (.iload 4, 2) := by decide +kernel
theorem dX5_reaches_63 : decode cX5_reaches 63 = .ok (.ireturn, 1) := by decide +kernel
theorem dX5_reaches_64 : decode cX5_reaches 64 = .ok (.aload_n 0, 1) := by decide +kernel
theorem dX5_reaches_65 : decode cX5_reaches 65 = .ok (.getfield 16, 3) := by decide +kernel
theorem dX5_reaches_68 : decode cX5_reaches 68 = .ok (.invokevirtual 152, 3) := by decide +kernel
theorem dX5_reaches_71 : decode cX5_reaches 71 = .ok (.pop, 1) := by decide +kernel
theorem dX5_reaches_72 : decode cX5_reaches 72 = .ok (.iinc 4 1, 3) := by decide +kernel
theorem dX5_reaches_75 : decode cX5_reaches 75 = .ok (.goto (-33), 3) := by decide +kernel
theorem dX5_reaches_78 : decode cX5_reaches 78 = .ok (.bipush (-9), 2) := by decide +kernel
theorem dX5_reaches_80 : decode cX5_reaches 80 = .ok (.ireturn, 1) := by decide +kernel
theorem dX5_pour_0 : decode cX5_pour 0 = .ok (.iload_n 1, 1) := by decide +kernel
theorem dX5_pour_1 : decode cX5_pour 1 = .ok (.iconst 1, 1) := by decide +kernel
theorem dX5_pour_2 : decode cX5_pour 2 = .ok (.if_icmp .lt 7, 3) := by decide +kernel
theorem dX5_pour_5 : decode cX5_pour 5 = .ok (.iload_n 2, 1) := by decide +kernel
theorem dX5_pour_6 : decode cX5_pour 6 = .ok (.ifCond .ge 10, 3) := by decide +kernel
theorem dX5_pour_9 : decode cX5_pour 9 = .ok (.aload_n 0, 1) := by decide +kernel
theorem dX5_pour_10 : decode cX5_pour 10 = .ok (.bipush (-4), 2) := by decide +kernel
theorem dX5_pour_12 : decode cX5_pour 12 = .ok (.invokevirtual 51, 3) := by decide +kernel
theorem dX5_pour_15 : decode cX5_pour 15 = .ok (.ireturn, 1) := by decide +kernel
theorem dX5_pour_16 : decode cX5_pour 16 = .ok (.iload_n 1, 1) := by decide +kernel
theorem dX5_pour_17 : decode cX5_pour 17 = .ok (.bipush 99, 2) := by decide +kernel
theorem dX5_pour_19 : decode cX5_pour 19 = .ok (.if_icmp .gt 9, 3) := by decide +kernel
theorem dX5_pour_22 : decode cX5_pour 22 = .ok (.iload_n 2, 1) := by decide +kernel
theorem dX5_pour_23 : decode cX5_pour 23 = .ok (.bipush 60, 2) := by decide +kernel
theorem dX5_pour_25 : decode cX5_pour 25 = .ok (.if_icmp .le 10, 3) := by decide +kernel
theorem dX5_pour_28 : decode cX5_pour 28 = .ok (.aload_n 0, 1) := by decide +kernel
theorem dX5_pour_29 : decode cX5_pour 29 = .ok (.bipush (-6), 2) := by decide +kernel
theorem dX5_pour_31 : decode cX5_pour 31 = .ok (.invokevirtual 51, 3) := by decide +kernel
theorem dX5_pour_34 : decode cX5_pour 34 = .ok (.ireturn, 1) := by decide +kernel
theorem dX5_pour_35 : decode cX5_pour 35 = .ok (.iload_n 3, 1) := by decide +kernel
theorem dX5_pour_36 : decode cX5_pour 36 = .ok (.ifCond .eq 15, 3) := by decide +kernel
theorem dX5_pour_39 : decode cX5_pour 39 = .ok (.iload_n 3, 1) := by decide +kernel
theorem dX5_pour_40 : decode cX5_pour 40 = .ok (.iconst 1, 1) := by decide +kernel
theorem dX5_pour_41 : decode cX5_pour 41 = .ok (.if_icmp .eq 10, 3) := by decide +kernel
theorem dX5_pour_44 : decode cX5_pour 44 = .ok (.aload_n 0, 1) := by decide +kernel
theorem dX5_pour_45 : decode cX5_pour 45 = .ok (.bipush (-2), 2) := by decide +kernel
theorem dX5_pour_47 : decode cX5_pour 47 = .ok (.invokevirtual 51, 3) := by decide +kernel
theorem dX5_pour_50 : decode cX5_pour 50 = .ok (.ireturn, 1) := by decide +kernel
theorem dX5_pour_51 : decode cX5_pour 51 = .ok (.bipush (-9), 2) := by decide +kernel
theorem dX5_pour_53 : decode cX5_pour 53 = .ok (.istore 4, 2) := by decide +kernel
theorem dX5_pour_55 : decode cX5_pour 55 = .ok (.bipush (-9), 2) := by decide +kernel
theorem dX5_pour_57 : decode cX5_pour 57 = .ok (.istore 5, 2) := by decide +kernel
theorem dX5_pour_59 : decode cX5_pour 59 = .ok (.iconst 0, 1) := by decide +kernel
theorem dX5_pour_60 : decode cX5_pour 60 = .ok (.istore 6, 2) := by decide +kernel
theorem dX5_pour_62 : decode cX5_pour 62 = .ok (.iload 6, 2) := by decide +kernel
theorem dX5_pour_64 : decode cX5_pour 64 = .ok (.aload_n 0, 1) := by decide +kernel
theorem dX5_pour_65 : decode cX5_pour 65 = .ok (.getfield 10, 3) := by decide +kernel
theorem dX5_pour_68 : decode cX5_pour 68 = .ok (.invokevirtual 103, 3) := by decide +kernel
theorem dX5_pour_71 : decode cX5_pour 71 = .ok (.if_icmp .ge 46, 3) := by decide +kernel
theorem dX5_pour_74 : decode cX5_pour 74 = .ok (.aload_n 0, 1) := by decide +kernel
theorem dX5_pour_75 : decode cX5_pour 75 = .ok (.invokevirtual 137, 3) := by decide +kernel
theorem dX5_pour_78 : decode cX5_pour 78 = .ok (.aload_n 0, 1) := by decide +kernel
theorem dX5_pour_79 : decode cX5_pour 79 = .ok (.getfield 16, 3) := by decide +kernel
theorem dX5_pour_82 : decode cX5_pour 82 = .ok (.iload 6, 2) := by decide +kernel
theorem dX5_pour_84 : decode cX5_pour 84 = .ok (.iload_n 1, 1) := by decide +kernel
theorem dX5_pour_85 : decode cX5_pour 85 = .ok (.invokevirtual 116, 3) := by decide +kernel
theorem dX5_pour_88 : decode cX5_pour 88 = .ok (.pop, 1) := by decide +kernel
theorem dX5_pour_89 : decode cX5_pour 89 = .ok (.aload_n 0, 1) := by decide +kernel
theorem dX5_pour_90 : decode cX5_pour 90 = .ok (.iload_n 2, 1) := by decide +kernel
theorem dX5_pour_91 : decode cX5_pour 91 = .ok (.invokevirtual 156, 3) := by decide +kernel
theorem dX5_pour_94 : decode cX5_pour 94 = .ok (.istore 7, 2) := by decide +kernel
theorem dX5_pour_96 : decode cX5_pour 96 = .ok (.iload 7, 2) := by decide +kernel
theorem dX5_pour_98 : decode cX5_pour 98 = .ok (.iload 4, 2) := by decide +kernel
theorem dX5_pour_100 : decode cX5_pour 100 = .ok (.if_icmp .le 11, 3) := by decide +kernel
theorem dX5_pour_103 : decode cX5_pour 103 = .ok (.iload 7, 2) := by decide +kernel
theorem dX5_pour_105 : decode cX5_pour 105 = .ok (.istore 4, 2) := by decide +kernel
theorem dX5_pour_107 : decode cX5_pour 107 = .ok (.iload 6, 2) := by decide +kernel
theorem dX5_pour_109 : decode cX5_pour 109 = .ok (.istore 5, 2) := by decide +kernel
theorem dX5_pour_111 : decode cX5_pour 111 = .ok (.iinc 6 1, 3) := by decide +kernel
theorem dX5_pour_114 : decode cX5_pour 114 = .ok (.goto (-52), 3) := by decide +kernel
theorem dX5_pour_117 : decode cX5_pour 117 = .ok (.iload_n 3, 1) := by decide +kernel
theorem dX5_pour_118 : decode cX5_pour 118 = .ok (.ifCond .ne 8, 3) := by decide +kernel
theorem dX5_pour_121 : decode cX5_pour 121 = .ok (.iload 5, 2) := by decide +kernel
theorem dX5_pour_123 : decode cX5_pour 123 = .ok (.goto 5, 3) := by decide +kernel
theorem dX5_pour_126 : decode cX5_pour 126 = .ok (.iload 4, 2) := by decide +kernel
theorem dX5_pour_128 : decode cX5_pour 128 = .ok (.ireturn, 1) := by decide +kernel
theorem dX5_least_0 : decode cX5_least 0 = .ok (.iload_n 1, 1) := by decide +kernel
theorem dX5_least_1 : decode cX5_least 1 = .ok (.ifCond .lt 7, 3) := by decide +kernel
theorem dX5_least_4 : decode cX5_least 4 = .ok (.iload_n 2, 1) := by decide +kernel
theorem dX5_least_5 : decode cX5_least 5 = .ok (.ifCond .ge 10, 3) := by decide +kernel
theorem dX5_least_8 : decode cX5_least 8 = .ok (.aload_n 0, 1) := by decide +kernel
theorem dX5_least_9 : decode cX5_least 9 = .ok (.bipush (-4), 2) := by decide +kernel
theorem dX5_least_11 : decode cX5_least 11 = .ok (.invokevirtual 51, 3) := by decide +kernel
theorem dX5_least_14 : decode cX5_least 14 = .ok (.ireturn, 1) := by decide +kernel
theorem dX5_least_15 : decode cX5_least 15 = .ok (.iload_n 1, 1) := by decide +kernel
theorem dX5_least_16 : decode cX5_least 16 = .ok (.sipush 999, 3) := by decide +kernel
theorem dX5_least_19 : decode cX5_least 19 = .ok (.if_icmp .gt 9, 3) := by decide +kernel
theorem dX5_least_22 : decode cX5_least 22 = .ok (.iload_n 2, 1) := by decide +kernel
theorem dX5_least_23 : decode cX5_least 23 = .ok (.bipush 60, 2) := by decide +kernel
theorem dX5_least_25 : decode cX5_least 25 = .ok (.if_icmp .le 10, 3) := by decide +kernel
theorem dX5_least_28 : decode cX5_least 28 = .ok (.aload_n 0, 1) := by decide +kernel
theorem dX5_least_29 : decode cX5_least 29 = .ok (.bipush (-6), 2) := by decide +kernel
theorem dX5_least_31 : decode cX5_least 31 = .ok (.invokevirtual 51, 3) := by decide +kernel
theorem dX5_least_34 : decode cX5_least 34 = .ok (.ireturn, 1) := by decide +kernel
theorem dX5_least_35 : decode cX5_least 35 = .ok (.aload_n 0, 1) := by decide +kernel
theorem dX5_least_36 : decode cX5_least 36 = .ok (.getfield 10, 3) := by decide +kernel
theorem dX5_least_39 : decode cX5_least 39 = .ok (.invokevirtual 103, 3) := by decide +kernel
theorem dX5_least_42 : decode cX5_least 42 = .ok (.ifCond .ne 6, 3) := by decide +kernel
theorem dX5_least_45 : decode cX5_least 45 = .ok (.bipush (-9), 2) := by decide +kernel
theorem dX5_least_47 : decode cX5_least 47 = .ok (.ireturn, 1) := by decide +kernel
theorem dX5_least_48 : decode cX5_least 48 = .ok (.iconst 0, 1) := by decide +kernel
theorem dX5_least_49 : decode cX5_least 49 = .ok (.istore_n 3, 1) := by decide +kernel
theorem dX5_least_50 : decode cX5_least 50 = .ok (.iload_n 3, 1) := by decide +kernel
theorem dX5_least_51 : decode cX5_least 51 = .ok (.bipush 99, 2) := by decide +kernel
theorem dX5_least_53 : decode cX5_least 53 = .ok (.if_icmp .gt 34, 3) := by decide +kernel
theorem dX5_least_56 : decode cX5_least 56 = .ok (.aload_n 0, 1) := by decide +kernel
theorem dX5_least_57 : decode cX5_least 57 = .ok (.invokevirtual 137, 3) := by decide +kernel
theorem dX5_least_60 : decode cX5_least 60 = .ok (.aload_n 0, 1) := by decide +kernel
theorem dX5_least_61 : decode cX5_least 61 = .ok (.getfield 16, 3) := by decide +kernel
theorem dX5_least_64 : decode cX5_least 64 = .ok (.iconst 0, 1) := by decide +kernel
theorem dX5_least_65 : decode cX5_least 65 = .ok (.iload_n 3, 1) := by decide +kernel
theorem dX5_least_66 : decode cX5_least 66 = .ok (.invokevirtual 116, 3) := by decide +kernel
theorem dX5_least_69 : decode cX5_least 69 = .ok (.pop, 1) := by decide +kernel
theorem dX5_least_70 : decode cX5_least 70 = .ok (.aload_n 0, 1) := by decide +kernel
theorem dX5_least_71 : decode cX5_least 71 = .ok (.iload_n 2, 1) := by decide +kernel
theorem dX5_least_72 : decode cX5_least 72 = .ok (.invokevirtual 156, 3) := by decide +kernel
theorem dX5_least_75 : decode cX5_least 75 = .ok (.iload_n 1, 1) := by decide +kernel
theorem dX5_least_76 : decode cX5_least 76 = .ok (.if_icmp .lt 5, 3) := by decide +kernel
theorem dX5_least_79 : decode cX5_least 79 = .ok (.iload_n 3, 1) := by decide +kernel
theorem dX5_least_80 : decode cX5_least 80 = .ok (.ireturn, 1) := by decide +kernel
theorem dX5_least_81 : decode cX5_least 81 = .ok (.iinc 3 1, 3) := by decide +kernel
theorem dX5_least_84 : decode cX5_least 84 = .ok (.goto (-34), 3) := by decide +kernel
theorem dX5_least_87 : decode cX5_least 87 = .ok (.bipush (-9), 2) := by decide +kernel
theorem dX5_least_89 : decode cX5_least 89 = .ok (.ireturn, 1) := by decide +kernel
theorem dX5_clearing_0 : decode cX5_clearing 0 = .ok (.iload_n 1, 1) := by decide +kernel
theorem dX5_clearing_1 : decode cX5_clearing 1 = .ok (.iconst 0, 1) := by decide +kernel
theorem dX5_clearing_2 : decode cX5_clearing 2 = .ok (.bipush 60, 2) := by decide +kernel
theorem dX5_clearing_4 : decode cX5_clearing 4 = .ok (.invokestatic 47, 3) := by decide +kernel
theorem dX5_clearing_7 : decode cX5_clearing 7 = .ok (.istore_n 2, 1) := by decide +kernel
theorem dX5_clearing_8 : decode cX5_clearing 8 = .ok (.iload_n 2, 1) := by decide +kernel
theorem dX5_clearing_9 : decode cX5_clearing 9 = .ok (.ifCond .eq 9, 3) := by decide +kernel
theorem dX5_clearing_12 : decode cX5_clearing 12 = .ok (.aload_n 0, 1) := by decide +kernel
theorem dX5_clearing_13 : decode cX5_clearing 13 = .ok (.iload_n 2, 1) := by decide +kernel
theorem dX5_clearing_14 : decode cX5_clearing 14 = .ok (.invokevirtual 51, 3) := by decide +kernel
theorem dX5_clearing_17 : decode cX5_clearing 17 = .ok (.ireturn, 1) := by decide +kernel
theorem dX5_clearing_18 : decode cX5_clearing 18 = .ok (.aload_n 0, 1) := by decide +kernel
theorem dX5_clearing_19 : decode cX5_clearing 19 = .ok (.getfield 10, 3) := by decide +kernel
theorem dX5_clearing_22 : decode cX5_clearing 22 = .ok (.invokevirtual 159, 3) := by decide +kernel
theorem dX5_clearing_25 : decode cX5_clearing 25 = .ok (.istore_n 3, 1) := by decide +kernel
theorem dX5_clearing_26 : decode cX5_clearing 26 = .ok (.bipush (-9), 2) := by decide +kernel
theorem dX5_clearing_28 : decode cX5_clearing 28 = .ok (.istore 4, 2) := by decide +kernel
theorem dX5_clearing_30 : decode cX5_clearing 30 = .ok (.iconst 0, 1) := by decide +kernel
theorem dX5_clearing_31 : decode cX5_clearing 31 = .ok (.istore 5, 2) := by decide +kernel
theorem dX5_clearing_33 : decode cX5_clearing 33 = .ok (.iconst 0, 1) := by decide +kernel
theorem dX5_clearing_34 : decode cX5_clearing 34 = .ok (.istore 6, 2) := by decide +kernel
theorem dX5_clearing_36 : decode cX5_clearing 36 = .ok (.iload 6, 2) := by decide +kernel
theorem dX5_clearing_38 : decode cX5_clearing 38 = .ok (.iload_n 3, 1) := by decide +kernel
theorem dX5_clearing_39 : decode cX5_clearing 39 = .ok (.if_icmp .gt 88, 3) := by decide +kernel
theorem dX5_clearing_42 : decode cX5_clearing 42 = .ok (.iload 6, 2) := by decide +kernel
theorem dX5_clearing_44 : decode cX5_clearing 44 = .ok (.iload_n 3, 1) := by decide +kernel
theorem dX5_clearing_45 : decode cX5_clearing 45 = .ok (.iand, 1) := by decide +kernel
theorem dX5_clearing_46 : decode cX5_clearing 46 = .ok (.iload 6, 2) := by decide +kernel
theorem dX5_clearing_48 : decode cX5_clearing 48 = .ok (.if_icmp .eq 6, 3) := by decide +kernel
theorem dX5_clearing_51 : decode cX5_clearing 51 = .ok (.goto 70, 3) := by decide +kernel
theorem dX5_clearing_54 : decode cX5_clearing 54 = .ok (.aload_n 0, 1) := by decide +kernel
theorem dX5_clearing_55 : decode cX5_clearing 55 = .ok (.invokevirtual 137, 3) := by decide +kernel
theorem dX5_clearing_58 : decode cX5_clearing 58 = .ok (.aload_n 0, 1) := by decide +kernel
theorem dX5_clearing_59 : decode cX5_clearing 59 = .ok (.getfield 16, 3) := by decide +kernel
theorem dX5_clearing_62 : decode cX5_clearing 62 = .ok (.iload 6, 2) := by decide +kernel
theorem dX5_clearing_64 : decode cX5_clearing 64 = .ok (.invokevirtual 162, 3) := by decide +kernel
theorem dX5_clearing_67 : decode cX5_clearing 67 = .ok (.aload_n 0, 1) := by decide +kernel
theorem dX5_clearing_68 : decode cX5_clearing 68 = .ok (.iload_n 1, 1) := by decide +kernel
theorem dX5_clearing_69 : decode cX5_clearing 69 = .ok (.invokevirtual 156, 3) := by decide +kernel
theorem dX5_clearing_72 : decode cX5_clearing 72 = .ok (.istore 7, 2) := by decide +kernel
theorem dX5_clearing_74 : decode cX5_clearing 74 = .ok (.iload 6, 2) := by decide +kernel
theorem dX5_clearing_76 : decode cX5_clearing 76 = .ok (.invokestatic 165, 3) := by decide +kernel
theorem dX5_clearing_79 : decode cX5_clearing 79 = .ok (.iload 5, 2) := by decide +kernel
theorem dX5_clearing_81 : decode cX5_clearing 81 = .ok (.invokestatic 165, 3) := by decide +kernel
theorem dX5_clearing_84 : decode cX5_clearing 84 = .ok (.if_icmp .ge 7, 3) := by decide +kernel
theorem dX5_clearing_87 : decode cX5_clearing 87 = .ok (.iconst 1, 1) := by decide +kernel
theorem dX5_clearing_88 : decode cX5_clearing 88 = .ok (.goto 4, 3) := by decide +kernel
theorem dX5_clearing_91 : decode cX5_clearing 91 = .ok (.iconst 0, 1) := by decide +kernel
theorem dX5_clearing_92 : decode cX5_clearing 92 = .ok (.istore 8, 2) := by decide +kernel
theorem dX5_clearing_94 : decode cX5_clearing 94 = .ok (.iload 7, 2) := by decide +kernel
theorem dX5_clearing_96 : decode cX5_clearing 96 = .ok (.iload 4, 2) := by decide +kernel
theorem dX5_clearing_98 : decode cX5_clearing 98 = .ok (.if_icmp .gt 15, 3) := by decide +kernel
theorem dX5_clearing_101 : decode cX5_clearing 101 = .ok (.iload 7, 2) := by decide +kernel
theorem dX5_clearing_103 : decode cX5_clearing 103 = .ok (.iload 4, 2) := by decide +kernel
theorem dX5_clearing_105 : decode cX5_clearing 105 = .ok (.if_icmp .ne 16, 3) := by decide +kernel
theorem dX5_clearing_108 : decode cX5_clearing 108 = .ok (.iload 8, 2) := by decide +kernel
theorem dX5_clearing_110 : decode cX5_clearing 110 = .ok (.ifCond .eq 11, 3) := by decide +kernel
theorem dX5_clearing_113 : decode cX5_clearing 113 = .ok (.iload 7, 2) := by decide +kernel
theorem dX5_clearing_115 : decode cX5_clearing 115 = .ok (.istore 4, 2) := by decide +kernel
theorem dX5_clearing_117 : decode cX5_clearing 117 = .ok (.iload 6, 2) := by decide +kernel
theorem dX5_clearing_119 : decode cX5_clearing 119 = .ok (.istore 5, 2) := by decide +kernel
theorem dX5_clearing_121 : decode cX5_clearing 121 = .ok (.iinc 6 1, 3) := by decide +kernel
theorem dX5_clearing_124 : decode cX5_clearing 124 = .ok (.goto (-88), 3) := by decide +kernel
theorem dX5_clearing_127 : decode cX5_clearing 127 = .ok (.iload 5, 2) := by decide +kernel
theorem dX5_clearing_129 : decode cX5_clearing 129 = .ok (.ireturn, 1) := by decide +kernel
theorem dX5_stop_0 : decode cX5_stop 0 = .ok (.iload_n 1, 1) := by decide +kernel
theorem dX5_stop_1 : decode cX5_stop 1 = .ok (.iconst 0, 1) := by decide +kernel
theorem dX5_stop_2 : decode cX5_stop 2 = .ok (.bipush 60, 2) := by decide +kernel
theorem dX5_stop_4 : decode cX5_stop 4 = .ok (.invokestatic 47, 3) := by decide +kernel
theorem dX5_stop_7 : decode cX5_stop 7 = .ok (.istore_n 2, 1) := by decide +kernel
theorem dX5_stop_8 : decode cX5_stop 8 = .ok (.iload_n 2, 1) := by decide +kernel
theorem dX5_stop_9 : decode cX5_stop 9 = .ok (.ifCond .eq 9, 3) := by decide +kernel
theorem dX5_stop_12 : decode cX5_stop 12 = .ok (.aload_n 0, 1) := by decide +kernel
theorem dX5_stop_13 : decode cX5_stop 13 = .ok (.iload_n 2, 1) := by decide +kernel
theorem dX5_stop_14 : decode cX5_stop 14 = .ok (.invokevirtual 51, 3) := by decide +kernel
theorem dX5_stop_17 : decode cX5_stop 17 = .ok (.ireturn, 1) := by decide +kernel
theorem dX5_stop_18 : decode cX5_stop 18 = .ok (.aload_n 0, 1) := by decide +kernel
theorem dX5_stop_19 : decode cX5_stop 19 = .ok (.invokevirtual 137, 3) := by decide +kernel
theorem dX5_stop_22 : decode cX5_stop 22 = .ok (.aload_n 0, 1) := by decide +kernel
theorem dX5_stop_23 : decode cX5_stop 23 = .ok (.iload_n 1, 1) := by decide +kernel
theorem dX5_stop_24 : decode cX5_stop 24 = .ok (.invokevirtual 156, 3) := by decide +kernel
theorem dX5_stop_27 : decode cX5_stop 27 = .ok (.istore_n 3, 1) := by decide +kernel
theorem dX5_stop_28 : decode cX5_stop 28 = .ok (.bipush (-9), 2) := by decide +kernel
theorem dX5_stop_30 : decode cX5_stop 30 = .ok (.istore 4, 2) := by decide +kernel
theorem dX5_stop_32 : decode cX5_stop 32 = .ok (.iconst 0, 1) := by decide +kernel
theorem dX5_stop_33 : decode cX5_stop 33 = .ok (.istore 5, 2) := by decide +kernel
theorem dX5_stop_35 : decode cX5_stop 35 = .ok (.iload 5, 2) := by decide +kernel
theorem dX5_stop_37 : decode cX5_stop 37 = .ok (.aload_n 0, 1) := by decide +kernel
theorem dX5_stop_38 : decode cX5_stop 38 = .ok (.getfield 10, 3) := by decide +kernel
theorem dX5_stop_41 : decode cX5_stop 41 = .ok (.invokevirtual 103, 3) := by decide +kernel
theorem dX5_stop_44 : decode cX5_stop 44 = .ok (.if_icmp .ge 57, 3) := by decide +kernel
theorem dX5_stop_47 : decode cX5_stop 47 = .ok (.aload_n 0, 1) := by decide +kernel
theorem dX5_stop_48 : decode cX5_stop 48 = .ok (.getfield 10, 3) := by decide +kernel
theorem dX5_stop_51 : decode cX5_stop 51 = .ok (.iload 5, 2) := by decide +kernel
theorem dX5_stop_53 : decode cX5_stop 53 = .ok (.invokevirtual 87, 3) := by decide +kernel
theorem dX5_stop_56 : decode cX5_stop 56 = .ok (.ifCond .eq 6, 3) := by decide +kernel
theorem dX5_stop_59 : decode cX5_stop 59 = .ok (.goto 36, 3) := by decide +kernel
theorem dX5_stop_62 : decode cX5_stop 62 = .ok (.aload_n 0, 1) := by decide +kernel
theorem dX5_stop_63 : decode cX5_stop 63 = .ok (.invokevirtual 137, 3) := by decide +kernel
theorem dX5_stop_66 : decode cX5_stop 66 = .ok (.aload_n 0, 1) := by decide +kernel
theorem dX5_stop_67 : decode cX5_stop 67 = .ok (.getfield 16, 3) := by decide +kernel
theorem dX5_stop_70 : decode cX5_stop 70 = .ok (.iload 5, 2) := by decide +kernel
theorem dX5_stop_72 : decode cX5_stop 72 = .ok (.invokevirtual 170, 3) := by decide +kernel
theorem dX5_stop_75 : decode cX5_stop 75 = .ok (.aload_n 0, 1) := by decide +kernel
theorem dX5_stop_76 : decode cX5_stop 76 = .ok (.iload_n 1, 1) := by decide +kernel
theorem dX5_stop_77 : decode cX5_stop 77 = .ok (.invokevirtual 156, 3) := by decide +kernel
theorem dX5_stop_80 : decode cX5_stop 80 = .ok (.istore 6, 2) := by decide +kernel
theorem dX5_stop_82 : decode cX5_stop 82 = .ok (.iload 6, 2) := by decide +kernel
theorem dX5_stop_84 : decode cX5_stop 84 = .ok (.iload_n 3, 1) := by decide +kernel
theorem dX5_stop_85 : decode cX5_stop 85 = .ok (.if_icmp .ge 10, 3) := by decide +kernel
theorem dX5_stop_88 : decode cX5_stop 88 = .ok (.iload 6, 2) := by decide +kernel
theorem dX5_stop_90 : decode cX5_stop 90 = .ok (.istore_n 3, 1) := by decide +kernel
theorem dX5_stop_91 : decode cX5_stop 91 = .ok (.iload 5, 2) := by decide +kernel
theorem dX5_stop_93 : decode cX5_stop 93 = .ok (.istore 4, 2) := by decide +kernel
theorem dX5_stop_95 : decode cX5_stop 95 = .ok (.iinc 5 1, 3) := by decide +kernel
theorem dX5_stop_98 : decode cX5_stop 98 = .ok (.goto (-63), 3) := by decide +kernel
theorem dX5_stop_101 : decode cX5_stop 101 = .ok (.iload 4, 2) := by decide +kernel
theorem dX5_stop_103 : decode cX5_stop 103 = .ok (.ireturn, 1) := by decide +kernel
theorem dX5_join_0 : decode cX5_join 0 = .ok (.iload_n 1, 1) := by decide +kernel
theorem dX5_join_1 : decode cX5_join 1 = .ok (.iconst 0, 1) := by decide +kernel
theorem dX5_join_2 : decode cX5_join 2 = .ok (.bipush 60, 2) := by decide +kernel
theorem dX5_join_4 : decode cX5_join 4 = .ok (.invokestatic 47, 3) := by decide +kernel
theorem dX5_join_7 : decode cX5_join 7 = .ok (.istore_n 2, 1) := by decide +kernel
theorem dX5_join_8 : decode cX5_join 8 = .ok (.iload_n 2, 1) := by decide +kernel
theorem dX5_join_9 : decode cX5_join 9 = .ok (.ifCond .eq 9, 3) := by decide +kernel
theorem dX5_join_12 : decode cX5_join 12 = .ok (.aload_n 0, 1) := by decide +kernel
theorem dX5_join_13 : decode cX5_join 13 = .ok (.iload_n 2, 1) := by decide +kernel
theorem dX5_join_14 : decode cX5_join 14 = .ok (.invokevirtual 51, 3) := by decide +kernel
theorem dX5_join_17 : decode cX5_join 17 = .ok (.ireturn, 1) := by decide +kernel
theorem dX5_join_18 : decode cX5_join 18 = .ok (.aload_n 0, 1) := by decide +kernel
theorem dX5_join_19 : decode cX5_join 19 = .ok (.invokevirtual 137, 3) := by decide +kernel
theorem dX5_join_22 : decode cX5_join 22 = .ok (.aload_n 0, 1) := by decide +kernel
theorem dX5_join_23 : decode cX5_join 23 = .ok (.iload_n 1, 1) := by decide +kernel
theorem dX5_join_24 : decode cX5_join 24 = .ok (.invokevirtual 156, 3) := by decide +kernel
theorem dX5_join_27 : decode cX5_join 27 = .ok (.istore_n 3, 1) := by decide +kernel
theorem dX5_join_28 : decode cX5_join 28 = .ok (.bipush (-9), 2) := by decide +kernel
theorem dX5_join_30 : decode cX5_join 30 = .ok (.istore 4, 2) := by decide +kernel
theorem dX5_join_32 : decode cX5_join 32 = .ok (.iconst 0, 1) := by decide +kernel
theorem dX5_join_33 : decode cX5_join 33 = .ok (.istore 5, 2) := by decide +kernel
theorem dX5_join_35 : decode cX5_join 35 = .ok (.iload 5, 2) := by decide +kernel
theorem dX5_join_37 : decode cX5_join 37 = .ok (.aload_n 0, 1) := by decide +kernel
theorem dX5_join_38 : decode cX5_join 38 = .ok (.getfield 10, 3) := by decide +kernel
theorem dX5_join_41 : decode cX5_join 41 = .ok (.invokevirtual 103, 3) := by decide +kernel
theorem dX5_join_44 : decode cX5_join 44 = .ok (.if_icmp .ge 106, 3) := by decide +kernel
theorem dX5_join_47 : decode cX5_join 47 = .ok (.iload 5, 2) := by decide +kernel
theorem dX5_join_49 : decode cX5_join 49 = .ok (.iconst 1, 1) := by decide +kernel
theorem dX5_join_50 : decode cX5_join 50 = .ok (.iadd, 1) := by decide +kernel
theorem dX5_join_51 : decode cX5_join 51 = .ok (.istore 6, 2) := by decide +kernel
theorem dX5_join_53 : decode cX5_join 53 = .ok (.iload 6, 2) := by decide +kernel
theorem dX5_join_55 : decode cX5_join 55 = .ok (.bipush 9, 2) := by decide +kernel
theorem dX5_join_57 : decode cX5_join 57 = .ok (.if_icmp .gt 87, 3) := by decide +kernel
theorem dX5_join_60 : decode cX5_join 60 = .ok (.iload 6, 2) := by decide +kernel
theorem dX5_join_62 : decode cX5_join 62 = .ok (.aload_n 0, 1) := by decide +kernel
theorem dX5_join_63 : decode cX5_join 63 = .ok (.getfield 10, 3) := by decide +kernel
theorem dX5_join_66 : decode cX5_join 66 = .ok (.iload 5, 2) := by decide +kernel
theorem dX5_join_68 : decode cX5_join 68 = .ok (.invokevirtual 84, 3) := by decide +kernel
theorem dX5_join_71 : decode cX5_join 71 = .ok (.if_icmp .eq 67, 3) := by decide +kernel
theorem dX5_join_74 : decode cX5_join 74 = .ok (.iload 6, 2) := by decide +kernel
theorem dX5_join_76 : decode cX5_join 76 = .ok (.bipush 9, 2) := by decide +kernel
theorem dX5_join_78 : decode cX5_join 78 = .ok (.if_icmp .eq 18, 3) := by decide +kernel
theorem dX5_join_81 : decode cX5_join 81 = .ok (.aload_n 0, 1) := by decide +kernel
theorem dX5_join_82 : decode cX5_join 82 = .ok (.getfield 10, 3) := by decide +kernel
theorem dX5_join_85 : decode cX5_join 85 = .ok (.iload 6, 2) := by decide +kernel
theorem dX5_join_87 : decode cX5_join 87 = .ok (.invokevirtual 72, 3) := by decide +kernel
theorem dX5_join_90 : decode cX5_join 90 = .ok (.ifCond .ne 6, 3) := by decide +kernel
theorem dX5_join_93 : decode cX5_join 93 = .ok (.goto 45, 3) := by decide +kernel
theorem dX5_join_96 : decode cX5_join 96 = .ok (.aload_n 0, 1) := by decide +kernel
theorem dX5_join_97 : decode cX5_join 97 = .ok (.invokevirtual 137, 3) := by decide +kernel
theorem dX5_join_100 : decode cX5_join 100 = .ok (.aload_n 0, 1) := by decide +kernel
theorem dX5_join_101 : decode cX5_join 101 = .ok (.getfield 16, 3) := by decide +kernel
theorem dX5_join_104 : decode cX5_join 104 = .ok (.iload 5, 2) := by decide +kernel
theorem dX5_join_106 : decode cX5_join 106 = .ok (.iload 6, 2) := by decide +kernel
theorem dX5_join_108 : decode cX5_join 108 = .ok (.invokevirtual 110, 3) := by decide +kernel
theorem dX5_join_111 : decode cX5_join 111 = .ok (.pop, 1) := by decide +kernel
theorem dX5_join_112 : decode cX5_join 112 = .ok (.aload_n 0, 1) := by decide +kernel
theorem dX5_join_113 : decode cX5_join 113 = .ok (.iload_n 1, 1) := by decide +kernel
theorem dX5_join_114 : decode cX5_join 114 = .ok (.invokevirtual 156, 3) := by decide +kernel
theorem dX5_join_117 : decode cX5_join 117 = .ok (.istore 7, 2) := by decide +kernel
theorem dX5_join_119 : decode cX5_join 119 = .ok (.iload 7, 2) := by decide +kernel
theorem dX5_join_121 : decode cX5_join 121 = .ok (.iload_n 3, 1) := by decide +kernel
theorem dX5_join_122 : decode cX5_join 122 = .ok (.if_icmp .le 16, 3) := by decide +kernel
theorem dX5_join_125 : decode cX5_join 125 = .ok (.iload 7, 2) := by decide +kernel
theorem dX5_join_127 : decode cX5_join 127 = .ok (.istore_n 3, 1) := by decide +kernel
theorem dX5_join_128 : decode cX5_join 128 = .ok (.bipush 10, 2) := by decide +kernel
theorem dX5_join_130 : decode cX5_join 130 = .ok (.iload 5, 2) := by decide +kernel
theorem dX5_join_132 : decode cX5_join 132 = .ok (.imul, 1) := by decide +kernel
theorem dX5_join_133 : decode cX5_join 133 = .ok (.iload 6, 2) := by decide +kernel
theorem dX5_join_135 : decode cX5_join 135 = .ok (.iadd, 1) := by decide +kernel
theorem dX5_join_136 : decode cX5_join 136 = .ok (.istore 4, 2) := by decide +kernel
theorem dX5_join_138 : decode cX5_join 138 = .ok (.iinc 6 1, 3) := by decide +kernel
theorem dX5_join_141 : decode cX5_join 141 = .ok (.goto (-88), 3) := by decide +kernel
theorem dX5_join_144 : decode cX5_join 144 = .ok (.iinc 5 1, 3) := by decide +kernel
theorem dX5_join_147 : decode cX5_join 147 = .ok (.goto (-112), 3) := by decide +kernel
theorem dX5_join_150 : decode cX5_join 150 = .ok (.iload 4, 2) := by decide +kernel
theorem dX5_join_152 : decode cX5_join 152 = .ok (.ireturn, 1) := by decide +kernel
theorem dX5_way_0 : decode cX5_way 0 = .ok (.aload_n 0, 1) := by decide +kernel
theorem dX5_way_1 : decode cX5_way 1 = .ok (.getfield 10, 3) := by decide +kernel
theorem dX5_way_4 : decode cX5_way 4 = .ok (.iload_n 1, 1) := by decide +kernel
theorem dX5_way_5 : decode cX5_way 5 = .ok (.invokevirtual 72, 3) := by decide +kernel
theorem dX5_way_8 : decode cX5_way 8 = .ok (.ifCond .ne 9, 3) := by decide +kernel
theorem dX5_way_11 : decode cX5_way 11 = .ok (.aload_n 0, 1) := by decide +kernel
theorem dX5_way_12 : decode cX5_way 12 = .ok (.iconst (-1), 1) := by decide +kernel
theorem dX5_way_13 : decode cX5_way 13 = .ok (.invokevirtual 51, 3) := by decide +kernel
theorem dX5_way_16 : decode cX5_way 16 = .ok (.ireturn, 1) := by decide +kernel
theorem dX5_way_17 : decode cX5_way 17 = .ok (.aload_n 0, 1) := by decide +kernel
theorem dX5_way_18 : decode cX5_way 18 = .ok (.getfield 10, 3) := by decide +kernel
theorem dX5_way_21 : decode cX5_way 21 = .ok (.iload_n 1, 1) := by decide +kernel
theorem dX5_way_22 : decode cX5_way 22 = .ok (.invokevirtual 173, 3) := by decide +kernel
theorem dX5_way_25 : decode cX5_way 25 = .ok (.istore_n 3, 1) := by decide +kernel
theorem dX5_way_26 : decode cX5_way 26 = .ok (.iload_n 2, 1) := by decide +kernel
theorem dX5_way_27 : decode cX5_way 27 = .ok (.tableswitch 45 0 2 #[25, 30, 43], 25) := by decide +kernel
theorem dX5_way_52 : decode cX5_way 52 = .ok (.iload_n 3, 1) := by decide +kernel
theorem dX5_way_53 : decode cX5_way 53 = .ok (.invokestatic 165, 3) := by decide +kernel
theorem dX5_way_56 : decode cX5_way 56 = .ok (.ireturn, 1) := by decide +kernel
theorem dX5_way_57 : decode cX5_way 57 = .ok (.iload_n 3, 1) := by decide +kernel
theorem dX5_way_58 : decode cX5_way 58 = .ok (.aload_n 0, 1) := by decide +kernel
theorem dX5_way_59 : decode cX5_way 59 = .ok (.getfield 10, 3) := by decide +kernel
theorem dX5_way_62 : decode cX5_way 62 = .ok (.invokevirtual 159, 3) := by decide +kernel
theorem dX5_way_65 : decode cX5_way 65 = .ok (.iand, 1) := by decide +kernel
theorem dX5_way_66 : decode cX5_way 66 = .ok (.invokestatic 165, 3) := by decide +kernel
theorem dX5_way_69 : decode cX5_way 69 = .ok (.ireturn, 1) := by decide +kernel
theorem dX5_way_70 : decode cX5_way 70 = .ok (.iload_n 3, 1) := by decide +kernel
theorem dX5_way_71 : decode cX5_way 71 = .ok (.ireturn, 1) := by decide +kernel
theorem dX5_way_72 : decode cX5_way 72 = .ok (.aload_n 0, 1) := by decide +kernel
theorem dX5_way_73 : decode cX5_way 73 = .ok (.bipush (-2), 2) := by decide +kernel
theorem dX5_way_75 : decode cX5_way 75 = .ok (.invokevirtual 51, 3) := by decide +kernel
theorem dX5_way_78 : decode cX5_way 78 = .ok (.ireturn, 1) := by decide +kernel
theorem dX5_whichBlocked_0 : decode cX5_whichBlocked 0 = .ok (.iconst 0, 1) := by decide +kernel
theorem dX5_whichBlocked_1 : decode cX5_whichBlocked 1 = .ok (.istore_n 1, 1) := by decide +kernel
theorem dX5_whichBlocked_2 : decode cX5_whichBlocked 2 = .ok (.iconst 0, 1) := by decide +kernel
theorem dX5_whichBlocked_3 : decode cX5_whichBlocked 3 = .ok (.istore_n 2, 1) := by decide +kernel
theorem dX5_whichBlocked_4 : decode cX5_whichBlocked 4 = .ok (.iload_n 2, 1) := by decide +kernel
theorem dX5_whichBlocked_5 : decode cX5_whichBlocked 5 = .ok (.aload_n 0, 1) := by decide +kernel
theorem dX5_whichBlocked_6 : decode cX5_whichBlocked 6 = .ok (.getfield 10, 3) := by decide +kernel
theorem dX5_whichBlocked_9 : decode cX5_whichBlocked 9 = .ok (.invokevirtual 103, 3) := by decide +kernel
theorem dX5_whichBlocked_12 : decode cX5_whichBlocked 12 = .ok (.if_icmp .ge 48, 3) := by decide +kernel
theorem dX5_whichBlocked_15 : decode cX5_whichBlocked 15 = .ok (.aload_n 0, 1) := by decide +kernel
theorem dX5_whichBlocked_16 : decode cX5_whichBlocked 16 = .ok (.getfield 10, 3) := by decide +kernel
theorem dX5_whichBlocked_19 : decode cX5_whichBlocked 19 = .ok (.iload_n 2, 1) := by decide +kernel
theorem dX5_whichBlocked_20 : decode cX5_whichBlocked 20 = .ok (.invokevirtual 87, 3) := by decide +kernel
theorem dX5_whichBlocked_23 : decode cX5_whichBlocked 23 = .ok (.ifCond .eq 6, 3) := by decide +kernel
theorem dX5_whichBlocked_26 : decode cX5_whichBlocked 26 = .ok (.goto 28, 3) := by decide +kernel
theorem dX5_whichBlocked_29 : decode cX5_whichBlocked 29 = .ok (.aload_n 0, 1) := by decide +kernel
theorem dX5_whichBlocked_30 : decode cX5_whichBlocked 30 = .ok (.invokevirtual 137, 3) := by decide +kernel
theorem dX5_whichBlocked_33 : decode cX5_whichBlocked 33 = .ok (.aload_n 0, 1) := by decide +kernel
theorem dX5_whichBlocked_34 : decode cX5_whichBlocked 34 = .ok (.getfield 16, 3) := by decide +kernel
theorem dX5_whichBlocked_37 : decode cX5_whichBlocked 37 = .ok (.iload_n 2, 1) := by decide +kernel
theorem dX5_whichBlocked_38 : decode cX5_whichBlocked 38 = .ok (.invokevirtual 170, 3) := by decide +kernel
theorem dX5_whichBlocked_41 : decode cX5_whichBlocked 41 = .ok (.aload_n 0, 1) := by decide +kernel
theorem dX5_whichBlocked_42 : decode cX5_whichBlocked 42 = .ok (.invokevirtual 176, 3) := by decide +kernel
theorem dX5_whichBlocked_45 : decode cX5_whichBlocked 45 = .ok (.ifCond .eq 9, 3) := by decide +kernel
theorem dX5_whichBlocked_48 : decode cX5_whichBlocked 48 = .ok (.iload_n 1, 1) := by decide +kernel
theorem dX5_whichBlocked_49 : decode cX5_whichBlocked 49 = .ok (.iconst 1, 1) := by decide +kernel
theorem dX5_whichBlocked_50 : decode cX5_whichBlocked 50 = .ok (.iload_n 2, 1) := by decide +kernel
theorem dX5_whichBlocked_51 : decode cX5_whichBlocked 51 = .ok (.ishl, 1) := by decide +kernel
theorem dX5_whichBlocked_52 : decode cX5_whichBlocked 52 = .ok (.ior, 1) := by decide +kernel
theorem dX5_whichBlocked_53 : decode cX5_whichBlocked 53 = .ok (.istore_n 1, 1) := by decide +kernel
theorem dX5_whichBlocked_54 : decode cX5_whichBlocked 54 = .ok (.iinc 2 1, 3) := by decide +kernel
theorem dX5_whichBlocked_57 : decode cX5_whichBlocked 57 = .ok (.goto (-53), 3) := by decide +kernel
theorem dX5_whichBlocked_60 : decode cX5_whichBlocked 60 = .ok (.iload_n 1, 1) := by decide +kernel
theorem dX5_whichBlocked_61 : decode cX5_whichBlocked 61 = .ok (.ireturn, 1) := by decide +kernel
theorem dX5_wasPoured_0 : decode cX5_wasPoured 0 = .ok (.aload_n 0, 1) := by decide +kernel
theorem dX5_wasPoured_1 : decode cX5_wasPoured 1 = .ok (.getfield 10, 3) := by decide +kernel
theorem dX5_wasPoured_4 : decode cX5_wasPoured 4 = .ok (.iload_n 1, 1) := by decide +kernel
theorem dX5_wasPoured_5 : decode cX5_wasPoured 5 = .ok (.invokevirtual 72, 3) := by decide +kernel
theorem dX5_wasPoured_8 : decode cX5_wasPoured 8 = .ok (.ifCond .ne 9, 3) := by decide +kernel
theorem dX5_wasPoured_11 : decode cX5_wasPoured 11 = .ok (.aload_n 0, 1) := by decide +kernel
theorem dX5_wasPoured_12 : decode cX5_wasPoured 12 = .ok (.iconst (-1), 1) := by decide +kernel
theorem dX5_wasPoured_13 : decode cX5_wasPoured 13 = .ok (.invokevirtual 51, 3) := by decide +kernel
theorem dX5_wasPoured_16 : decode cX5_wasPoured 16 = .ok (.ireturn, 1) := by decide +kernel
theorem dX5_wasPoured_17 : decode cX5_wasPoured 17 = .ok (.iload_n 2, 1) := by decide +kernel
theorem dX5_wasPoured_18 : decode cX5_wasPoured 18 = .ok (.ifCond .lt 8, 3) := by decide +kernel
theorem dX5_wasPoured_21 : decode cX5_wasPoured 21 = .ok (.iload_n 2, 1) := by decide +kernel
theorem dX5_wasPoured_22 : decode cX5_wasPoured 22 = .ok (.iconst 2, 1) := by decide +kernel
theorem dX5_wasPoured_23 : decode cX5_wasPoured 23 = .ok (.if_icmp .le 10, 3) := by decide +kernel
theorem dX5_wasPoured_26 : decode cX5_wasPoured 26 = .ok (.aload_n 0, 1) := by decide +kernel
theorem dX5_wasPoured_27 : decode cX5_wasPoured 27 = .ok (.bipush (-2), 2) := by decide +kernel
theorem dX5_wasPoured_29 : decode cX5_wasPoured 29 = .ok (.invokevirtual 51, 3) := by decide +kernel
theorem dX5_wasPoured_32 : decode cX5_wasPoured 32 = .ok (.ireturn, 1) := by decide +kernel
theorem dX5_wasPoured_33 : decode cX5_wasPoured 33 = .ok (.iconst 0, 1) := by decide +kernel
theorem dX5_wasPoured_34 : decode cX5_wasPoured 34 = .ok (.istore_n 3, 1) := by decide +kernel
theorem dX5_wasPoured_35 : decode cX5_wasPoured 35 = .ok (.bipush (-9), 2) := by decide +kernel
theorem dX5_wasPoured_37 : decode cX5_wasPoured 37 = .ok (.istore 4, 2) := by decide +kernel
theorem dX5_wasPoured_39 : decode cX5_wasPoured 39 = .ok (.bipush (-9), 2) := by decide +kernel
theorem dX5_wasPoured_41 : decode cX5_wasPoured 41 = .ok (.istore 5, 2) := by decide +kernel
theorem dX5_wasPoured_43 : decode cX5_wasPoured 43 = .ok (.iconst 0, 1) := by decide +kernel
theorem dX5_wasPoured_44 : decode cX5_wasPoured 44 = .ok (.istore 6, 2) := by decide +kernel
theorem dX5_wasPoured_46 : decode cX5_wasPoured 46 = .ok (.iload 6, 2) := by decide +kernel
theorem dX5_wasPoured_48 : decode cX5_wasPoured 48 = .ok (.bipush 99, 2) := by decide +kernel
theorem dX5_wasPoured_50 : decode cX5_wasPoured 50 = .ok (.if_icmp .gt 54, 3) := by decide +kernel
theorem dX5_wasPoured_53 : decode cX5_wasPoured 53 = .ok (.aload_n 0, 1) := by decide +kernel
theorem dX5_wasPoured_54 : decode cX5_wasPoured 54 = .ok (.invokevirtual 137, 3) := by decide +kernel
theorem dX5_wasPoured_57 : decode cX5_wasPoured 57 = .ok (.aload_n 0, 1) := by decide +kernel
theorem dX5_wasPoured_58 : decode cX5_wasPoured 58 = .ok (.getfield 16, 3) := by decide +kernel
theorem dX5_wasPoured_61 : decode cX5_wasPoured 61 = .ok (.iload_n 1, 1) := by decide +kernel
theorem dX5_wasPoured_62 : decode cX5_wasPoured 62 = .ok (.iload 6, 2) := by decide +kernel
theorem dX5_wasPoured_64 : decode cX5_wasPoured 64 = .ok (.invokevirtual 116, 3) := by decide +kernel
theorem dX5_wasPoured_67 : decode cX5_wasPoured 67 = .ok (.pop, 1) := by decide +kernel
theorem dX5_wasPoured_68 : decode cX5_wasPoured 68 = .ok (.aload_n 0, 1) := by decide +kernel
theorem dX5_wasPoured_69 : decode cX5_wasPoured 69 = .ok (.invokevirtual 176, 3) := by decide +kernel
theorem dX5_wasPoured_72 : decode cX5_wasPoured 72 = .ok (.ifCond .eq 26, 3) := by decide +kernel
theorem dX5_wasPoured_75 : decode cX5_wasPoured 75 = .ok (.iinc 3 1, 3) := by decide +kernel
theorem dX5_wasPoured_78 : decode cX5_wasPoured 78 = .ok (.iload 4, 2) := by decide +kernel
theorem dX5_wasPoured_80 : decode cX5_wasPoured 80 = .ok (.bipush (-9), 2) := by decide +kernel
theorem dX5_wasPoured_82 : decode cX5_wasPoured 82 = .ok (.if_icmp .ne 8, 3) := by decide +kernel
theorem dX5_wasPoured_85 : decode cX5_wasPoured 85 = .ok (.iload 6, 2) := by decide +kernel
theorem dX5_wasPoured_87 : decode cX5_wasPoured 87 = .ok (.goto 5, 3) := by decide +kernel
theorem dX5_wasPoured_90 : decode cX5_wasPoured 90 = .ok (.iload 4, 2) := by decide +kernel
theorem dX5_wasPoured_92 : decode cX5_wasPoured 92 = .ok (.istore 4, 2) := by decide +kernel
theorem dX5_wasPoured_94 : decode cX5_wasPoured 94 = .ok (.iload 6, 2) := by decide +kernel
theorem dX5_wasPoured_96 : decode cX5_wasPoured 96 = .ok (.istore 5, 2) := by decide +kernel
theorem dX5_wasPoured_98 : decode cX5_wasPoured 98 = .ok (.iinc 6 1, 3) := by decide +kernel
theorem dX5_wasPoured_101 : decode cX5_wasPoured 101 = .ok (.goto (-55), 3) := by decide +kernel
theorem dX5_wasPoured_104 : decode cX5_wasPoured 104 = .ok (.iload_n 2, 1) := by decide +kernel
theorem dX5_wasPoured_105 : decode cX5_wasPoured 105 = .ok (.ifCond .ne 5, 3) := by decide +kernel
theorem dX5_wasPoured_108 : decode cX5_wasPoured 108 = .ok (.iload_n 3, 1) := by decide +kernel
theorem dX5_wasPoured_109 : decode cX5_wasPoured 109 = .ok (.ireturn, 1) := by decide +kernel
theorem dX5_wasPoured_110 : decode cX5_wasPoured 110 = .ok (.iload_n 2, 1) := by decide +kernel
theorem dX5_wasPoured_111 : decode cX5_wasPoured 111 = .ok (.iconst 1, 1) := by decide +kernel
theorem dX5_wasPoured_112 : decode cX5_wasPoured 112 = .ok (.if_icmp .ne 8, 3) := by decide +kernel
theorem dX5_wasPoured_115 : decode cX5_wasPoured 115 = .ok (.iload 4, 2) := by decide +kernel
theorem dX5_wasPoured_117 : decode cX5_wasPoured 117 = .ok (.goto 5, 3) := by decide +kernel
theorem dX5_wasPoured_120 : decode cX5_wasPoured 120 = .ok (.iload 5, 2) := by decide +kernel
theorem dX5_wasPoured_122 : decode cX5_wasPoured 122 = .ok (.ireturn, 1) := by decide +kernel
theorem dX5_whatKind_0 : decode cX5_whatKind 0 = .ok (.aload_n 0, 1) := by decide +kernel
theorem dX5_whatKind_1 : decode cX5_whatKind 1 = .ok (.getfield 10, 3) := by decide +kernel
theorem dX5_whatKind_4 : decode cX5_whatKind 4 = .ok (.iload_n 1, 1) := by decide +kernel
theorem dX5_whatKind_5 : decode cX5_whatKind 5 = .ok (.invokevirtual 72, 3) := by decide +kernel
theorem dX5_whatKind_8 : decode cX5_whatKind 8 = .ok (.ifCond .ne 9, 3) := by decide +kernel
theorem dX5_whatKind_11 : decode cX5_whatKind 11 = .ok (.aload_n 0, 1) := by decide +kernel
theorem dX5_whatKind_12 : decode cX5_whatKind 12 = .ok (.iconst (-1), 1) := by decide +kernel
theorem dX5_whatKind_13 : decode cX5_whatKind 13 = .ok (.invokevirtual 51, 3) := by decide +kernel
theorem dX5_whatKind_16 : decode cX5_whatKind 16 = .ok (.ireturn, 1) := by decide +kernel
theorem dX5_whatKind_17 : decode cX5_whatKind 17 = .ok (.iload_n 2, 1) := by decide +kernel
theorem dX5_whatKind_18 : decode cX5_whatKind 18 = .ok (.lookupswitch 38 #[(0, 26), (1, 32)], 26) := by decide +kernel
theorem dX5_whatKind_44 : decode cX5_whatKind 44 = .ok (.aload_n 0, 1) := by decide +kernel
theorem dX5_whatKind_45 : decode cX5_whatKind 45 = .ok (.iload_n 1, 1) := by decide +kernel
theorem dX5_whatKind_46 : decode cX5_whatKind 46 = .ok (.invokevirtual 179, 3) := by decide +kernel
theorem dX5_whatKind_49 : decode cX5_whatKind 49 = .ok (.ireturn, 1) := by decide +kernel
theorem dX5_whatKind_50 : decode cX5_whatKind 50 = .ok (.aload_n 0, 1) := by decide +kernel
theorem dX5_whatKind_51 : decode cX5_whatKind 51 = .ok (.iload_n 1, 1) := by decide +kernel
theorem dX5_whatKind_52 : decode cX5_whatKind 52 = .ok (.invokevirtual 182, 3) := by decide +kernel
theorem dX5_whatKind_55 : decode cX5_whatKind 55 = .ok (.ireturn, 1) := by decide +kernel
theorem dX5_whatKind_56 : decode cX5_whatKind 56 = .ok (.aload_n 0, 1) := by decide +kernel
theorem dX5_whatKind_57 : decode cX5_whatKind 57 = .ok (.bipush (-2), 2) := by decide +kernel
theorem dX5_whatKind_59 : decode cX5_whatKind 59 = .ok (.invokevirtual 51, 3) := by decide +kernel
theorem dX5_whatKind_62 : decode cX5_whatKind 62 = .ok (.ireturn, 1) := by decide +kernel
theorem dX5_two_0 : decode cX5_two 0 = .ok (.aload_n 0, 1) := by decide +kernel
theorem dX5_two_1 : decode cX5_two 1 = .ok (.getfield 10, 3) := by decide +kernel
theorem dX5_two_4 : decode cX5_two 4 = .ok (.iload_n 1, 1) := by decide +kernel
theorem dX5_two_5 : decode cX5_two 5 = .ok (.invokevirtual 72, 3) := by decide +kernel
theorem dX5_two_8 : decode cX5_two 8 = .ok (.ifCond .eq 19, 3) := by decide +kernel
theorem dX5_two_11 : decode cX5_two 11 = .ok (.aload_n 0, 1) := by decide +kernel
theorem dX5_two_12 : decode cX5_two 12 = .ok (.getfield 10, 3) := by decide +kernel
theorem dX5_two_15 : decode cX5_two 15 = .ok (.iload_n 2, 1) := by decide +kernel
theorem dX5_two_16 : decode cX5_two 16 = .ok (.invokevirtual 72, 3) := by decide +kernel
theorem dX5_two_19 : decode cX5_two 19 = .ok (.ifCond .eq 8, 3) := by decide +kernel
theorem dX5_two_22 : decode cX5_two 22 = .ok (.iload_n 1, 1) := by decide +kernel
theorem dX5_two_23 : decode cX5_two 23 = .ok (.iload_n 2, 1) := by decide +kernel
theorem dX5_two_24 : decode cX5_two 24 = .ok (.if_icmp .ne 9, 3) := by decide +kernel
theorem dX5_two_27 : decode cX5_two 27 = .ok (.aload_n 0, 1) := by decide +kernel
theorem dX5_two_28 : decode cX5_two 28 = .ok (.iconst (-1), 1) := by decide +kernel
theorem dX5_two_29 : decode cX5_two 29 = .ok (.invokevirtual 51, 3) := by decide +kernel
theorem dX5_two_32 : decode cX5_two 32 = .ok (.ireturn, 1) := by decide +kernel
theorem dX5_two_33 : decode cX5_two 33 = .ok (.iload_n 3, 1) := by decide +kernel
theorem dX5_two_34 : decode cX5_two 34 = .ok (.iconst 0, 1) := by decide +kernel
theorem dX5_two_35 : decode cX5_two 35 = .ok (.bipush 30, 2) := by decide +kernel
theorem dX5_two_37 : decode cX5_two 37 = .ok (.invokestatic 47, 3) := by decide +kernel
theorem dX5_two_40 : decode cX5_two 40 = .ok (.istore 4, 2) := by decide +kernel
theorem dX5_two_42 : decode cX5_two 42 = .ok (.iload 4, 2) := by decide +kernel
theorem dX5_two_44 : decode cX5_two 44 = .ok (.ifCond .eq 10, 3) := by decide +kernel
theorem dX5_two_47 : decode cX5_two 47 = .ok (.aload_n 0, 1) := by decide +kernel
theorem dX5_two_48 : decode cX5_two 48 = .ok (.iload 4, 2) := by decide +kernel
theorem dX5_two_50 : decode cX5_two 50 = .ok (.invokevirtual 51, 3) := by decide +kernel
theorem dX5_two_53 : decode cX5_two 53 = .ok (.ireturn, 1) := by decide +kernel
theorem dX5_two_54 : decode cX5_two 54 = .ok (.iconst 0, 1) := by decide +kernel
theorem dX5_two_55 : decode cX5_two 55 = .ok (.istore 5, 2) := by decide +kernel
theorem dX5_two_57 : decode cX5_two 57 = .ok (.iload 5, 2) := by decide +kernel
theorem dX5_two_59 : decode cX5_two 59 = .ok (.iconst 1, 1) := by decide +kernel
theorem dX5_two_60 : decode cX5_two 60 = .ok (.if_icmp .gt 61, 3) := by decide +kernel
theorem dX5_two_63 : decode cX5_two 63 = .ok (.iconst 0, 1) := by decide +kernel
theorem dX5_two_64 : decode cX5_two 64 = .ok (.istore 6, 2) := by decide +kernel
theorem dX5_two_66 : decode cX5_two 66 = .ok (.iload 6, 2) := by decide +kernel
theorem dX5_two_68 : decode cX5_two 68 = .ok (.iconst 1, 1) := by decide +kernel
theorem dX5_two_69 : decode cX5_two 69 = .ok (.if_icmp .gt 46, 3) := by decide +kernel
theorem dX5_two_72 : decode cX5_two 72 = .ok (.aload_n 0, 1) := by decide +kernel
theorem dX5_two_73 : decode cX5_two 73 = .ok (.iload_n 1, 1) := by decide +kernel
theorem dX5_two_74 : decode cX5_two 74 = .ok (.iload 5, 2) := by decide +kernel
theorem dX5_two_76 : decode cX5_two 76 = .ok (.iload_n 2, 1) := by decide +kernel
theorem dX5_two_77 : decode cX5_two 77 = .ok (.iload 6, 2) := by decide +kernel
theorem dX5_two_79 : decode cX5_two 79 = .ok (.iload_n 3, 1) := by decide +kernel
theorem dX5_two_80 : decode cX5_two 80 = .ok (.invokevirtual 185, 3) := by decide +kernel
theorem dX5_two_83 : decode cX5_two 83 = .ok (.ifCond .eq 26, 3) := by decide +kernel
theorem dX5_two_86 : decode cX5_two 86 = .ok (.aload_n 0, 1) := by decide +kernel
theorem dX5_two_87 : decode cX5_two 87 = .ok (.iload_n 2, 1) := by decide +kernel
theorem dX5_two_88 : decode cX5_two 88 = .ok (.iload 6, 2) := by decide +kernel
theorem dX5_two_90 : decode cX5_two 90 = .ok (.iload_n 1, 1) := by decide +kernel
theorem dX5_two_91 : decode cX5_two 91 = .ok (.iload 5, 2) := by decide +kernel
theorem dX5_two_93 : decode cX5_two 93 = .ok (.iload_n 3, 1) := by decide +kernel
theorem dX5_two_94 : decode cX5_two 94 = .ok (.invokevirtual 185, 3) := by decide +kernel
theorem dX5_two_97 : decode cX5_two 97 = .ok (.ifCond .eq 12, 3) := by decide +kernel
theorem dX5_two_100 : decode cX5_two 100 = .ok (.bipush 10, 2) := by decide +kernel
theorem dX5_two_102 : decode cX5_two 102 = .ok (.iload 5, 2) := by decide +kernel
theorem dX5_two_104 : decode cX5_two 104 = .ok (.imul, 1) := by decide +kernel
theorem dX5_two_105 : decode cX5_two 105 = .ok (.iload 6, 2) := by decide +kernel
theorem dX5_two_107 : decode cX5_two 107 = .ok (.iadd, 1) := by decide +kernel
theorem dX5_two_108 : decode cX5_two 108 = .ok (.ireturn, 1) := by decide +kernel
theorem dX5_two_109 : decode cX5_two 109 = .ok (.iinc 6 1, 3) := by decide +kernel
theorem dX5_two_112 : decode cX5_two 112 = .ok (.goto (-46), 3) := by decide +kernel
theorem dX5_two_115 : decode cX5_two 115 = .ok (.iinc 5 1, 3) := by decide +kernel
theorem dX5_two_118 : decode cX5_two 118 = .ok (.goto (-61), 3) := by decide +kernel
theorem dX5_two_121 : decode cX5_two 121 = .ok (.bipush (-9), 2) := by decide +kernel
theorem dX5_two_123 : decode cX5_two 123 = .ok (.ireturn, 1) := by decide +kernel
theorem dX5_blocked_0 : decode cX5_blocked 0 = .ok (.iload_n 1, 1) := by decide +kernel
theorem dX5_blocked_1 : decode cX5_blocked 1 = .ok (.ifCond .lt 12, 3) := by decide +kernel
theorem dX5_blocked_4 : decode cX5_blocked 4 = .ok (.iload_n 2, 1) := by decide +kernel
theorem dX5_blocked_5 : decode cX5_blocked 5 = .ok (.iconst 2, 1) := by decide +kernel
theorem dX5_blocked_6 : decode cX5_blocked 6 = .ok (.if_icmp .lt 7, 3) := by decide +kernel
theorem dX5_blocked_9 : decode cX5_blocked 9 = .ok (.iload_n 3, 1) := by decide +kernel
theorem dX5_blocked_10 : decode cX5_blocked 10 = .ok (.ifCond .ge 10, 3) := by decide +kernel
theorem dX5_blocked_13 : decode cX5_blocked 13 = .ok (.aload_n 0, 1) := by decide +kernel
theorem dX5_blocked_14 : decode cX5_blocked 14 = .ok (.bipush (-4), 2) := by decide +kernel
theorem dX5_blocked_16 : decode cX5_blocked 16 = .ok (.invokevirtual 189, 3) := by decide +kernel
theorem dX5_blocked_19 : decode cX5_blocked 19 = .ok (.lreturn, 1) := by decide +kernel
theorem dX5_blocked_20 : decode cX5_blocked 20 = .ok (.iload_n 1, 1) := by decide +kernel
theorem dX5_blocked_21 : decode cX5_blocked 21 = .ok (.bipush 7, 2) := by decide +kernel
theorem dX5_blocked_23 : decode cX5_blocked 23 = .ok (.if_icmp .gt 16, 3) := by decide +kernel
theorem dX5_blocked_26 : decode cX5_blocked 26 = .ok (.iload_n 2, 1) := by decide +kernel
theorem dX5_blocked_27 : decode cX5_blocked 27 = .ok (.bipush 20, 2) := by decide +kernel
theorem dX5_blocked_29 : decode cX5_blocked 29 = .ok (.if_icmp .gt 10, 3) := by decide +kernel
theorem dX5_blocked_32 : decode cX5_blocked 32 = .ok (.iload_n 3, 1) := by decide +kernel
theorem dX5_blocked_33 : decode cX5_blocked 33 = .ok (.sipush 999, 3) := by decide +kernel
theorem dX5_blocked_36 : decode cX5_blocked 36 = .ok (.if_icmp .le 10, 3) := by decide +kernel
theorem dX5_blocked_39 : decode cX5_blocked 39 = .ok (.aload_n 0, 1) := by decide +kernel
theorem dX5_blocked_40 : decode cX5_blocked 40 = .ok (.bipush (-6), 2) := by decide +kernel
theorem dX5_blocked_42 : decode cX5_blocked 42 = .ok (.invokevirtual 189, 3) := by decide +kernel
theorem dX5_blocked_45 : decode cX5_blocked 45 = .ok (.lreturn, 1) := by decide +kernel
theorem dX5_blocked_46 : decode cX5_blocked 46 = .ok (.iload 4, 2) := by decide +kernel
theorem dX5_blocked_48 : decode cX5_blocked 48 = .ok (.ifCond .eq 16, 3) := by decide +kernel
theorem dX5_blocked_51 : decode cX5_blocked 51 = .ok (.iload 4, 2) := by decide +kernel
theorem dX5_blocked_53 : decode cX5_blocked 53 = .ok (.iconst 1, 1) := by decide +kernel
theorem dX5_blocked_54 : decode cX5_blocked 54 = .ok (.if_icmp .eq 10, 3) := by decide +kernel
theorem dX5_blocked_57 : decode cX5_blocked 57 = .ok (.aload_n 0, 1) := by decide +kernel
theorem dX5_blocked_58 : decode cX5_blocked 58 = .ok (.bipush (-2), 2) := by decide +kernel
theorem dX5_blocked_60 : decode cX5_blocked 60 = .ok (.invokevirtual 189, 3) := by decide +kernel
theorem dX5_blocked_63 : decode cX5_blocked 63 = .ok (.lreturn, 1) := by decide +kernel
theorem dX5_blocked_64 : decode cX5_blocked 64 = .ok (.lconst 0, 1) := by decide +kernel
theorem dX5_blocked_65 : decode cX5_blocked 65 = .ok (.lstore 5, 2) := by decide +kernel
theorem dX5_blocked_67 : decode cX5_blocked 67 = .ok (.lconst 1, 1) := by decide +kernel
theorem dX5_blocked_68 : decode cX5_blocked 68 = .ok (.lstore 7, 2) := by decide +kernel
theorem dX5_blocked_70 : decode cX5_blocked 70 = .ok (.lconst 1, 1) := by decide +kernel
theorem dX5_blocked_71 : decode cX5_blocked 71 = .ok (.lstore 9, 2) := by decide +kernel
theorem dX5_blocked_73 : decode cX5_blocked 73 = .ok (.lconst 1, 1) := by decide +kernel
theorem dX5_blocked_74 : decode cX5_blocked 74 = .ok (.lstore 11, 2) := by decide +kernel
theorem dX5_blocked_76 : decode cX5_blocked 76 = .ok (.aload_n 0, 1) := by decide +kernel
theorem dX5_blocked_77 : decode cX5_blocked 77 = .ok (.invokevirtual 137, 3) := by decide +kernel
theorem dX5_blocked_80 : decode cX5_blocked 80 = .ok (.iconst 0, 1) := by decide +kernel
theorem dX5_blocked_81 : decode cX5_blocked 81 = .ok (.istore 13, 2) := by decide +kernel
theorem dX5_blocked_83 : decode cX5_blocked 83 = .ok (.iload 13, 2) := by decide +kernel
theorem dX5_blocked_85 : decode cX5_blocked 85 = .ok (.iload_n 1, 1) := by decide +kernel
theorem dX5_blocked_86 : decode cX5_blocked 86 = .ok (.if_icmp .gt 80, 3) := by decide +kernel
theorem dX5_blocked_89 : decode cX5_blocked 89 = .ok (.aload_n 0, 1) := by decide +kernel
theorem dX5_blocked_90 : decode cX5_blocked 90 = .ok (.getfield 16, 3) := by decide +kernel
theorem dX5_blocked_93 : decode cX5_blocked 93 = .ok (.invokevirtual 119, 3) := by decide +kernel
theorem dX5_blocked_96 : decode cX5_blocked 96 = .ok (.iload_n 3, 1) := by decide +kernel
theorem dX5_blocked_97 : decode cX5_blocked 97 = .ok (.if_icmp .lt 13, 3) := by decide +kernel
theorem dX5_blocked_100 : decode cX5_blocked 100 = .ok (.lload 5, 2) := by decide +kernel
theorem dX5_blocked_102 : decode cX5_blocked 102 = .ok (.lload 9, 2) := by decide +kernel
theorem dX5_blocked_104 : decode cX5_blocked 104 = .ok (.lload 11, 2) := by decide +kernel
theorem dX5_blocked_106 : decode cX5_blocked 106 = .ok (.lmul, 1) := by decide +kernel
theorem dX5_blocked_107 : decode cX5_blocked 107 = .ok (.ladd, 1) := by decide +kernel
theorem dX5_blocked_108 : decode cX5_blocked 108 = .ok (.lstore 5, 2) := by decide +kernel
theorem dX5_blocked_110 : decode cX5_blocked 110 = .ok (.lload 9, 2) := by decide +kernel
theorem dX5_blocked_112 : decode cX5_blocked 112 = .ok (.iload_n 1, 1) := by decide +kernel
theorem dX5_blocked_113 : decode cX5_blocked 113 = .ok (.iload 13, 2) := by decide +kernel
theorem dX5_blocked_115 : decode cX5_blocked 115 = .ok (.isub, 1) := by decide +kernel
theorem dX5_blocked_116 : decode cX5_blocked 116 = .ok (.i2l, 1) := by decide +kernel
theorem dX5_blocked_117 : decode cX5_blocked 117 = .ok (.lmul, 1) := by decide +kernel
theorem dX5_blocked_118 : decode cX5_blocked 118 = .ok (.iload 13, 2) := by decide +kernel
theorem dX5_blocked_120 : decode cX5_blocked 120 = .ok (.iconst 1, 1) := by decide +kernel
theorem dX5_blocked_121 : decode cX5_blocked 121 = .ok (.iadd, 1) := by decide +kernel
theorem dX5_blocked_122 : decode cX5_blocked 122 = .ok (.i2l, 1) := by decide +kernel
theorem dX5_blocked_123 : decode cX5_blocked 123 = .ok (.ldiv, 1) := by decide +kernel
theorem dX5_blocked_124 : decode cX5_blocked 124 = .ok (.lstore 9, 2) := by decide +kernel
theorem dX5_blocked_126 : decode cX5_blocked 126 = .ok (.lload 11, 2) := by decide +kernel
theorem dX5_blocked_128 : decode cX5_blocked 128 = .ok (.iload_n 2, 1) := by decide +kernel
theorem dX5_blocked_129 : decode cX5_blocked 129 = .ok (.iconst 1, 1) := by decide +kernel
theorem dX5_blocked_130 : decode cX5_blocked 130 = .ok (.isub, 1) := by decide +kernel
theorem dX5_blocked_131 : decode cX5_blocked 131 = .ok (.i2l, 1) := by decide +kernel
theorem dX5_blocked_132 : decode cX5_blocked 132 = .ok (.lmul, 1) := by decide +kernel
theorem dX5_blocked_133 : decode cX5_blocked 133 = .ok (.lstore 11, 2) := by decide +kernel
theorem dX5_blocked_135 : decode cX5_blocked 135 = .ok (.lload 7, 2) := by decide +kernel
theorem dX5_blocked_137 : decode cX5_blocked 137 = .ok (.iload 13, 2) := by decide +kernel
theorem dX5_blocked_139 : decode cX5_blocked 139 = .ok (.iload_n 1, 1) := by decide +kernel
theorem dX5_blocked_140 : decode cX5_blocked 140 = .ok (.if_icmp .ge 8, 3) := by decide +kernel
theorem dX5_blocked_143 : decode cX5_blocked 143 = .ok (.iload_n 2, 1) := by decide +kernel
theorem dX5_blocked_144 : decode cX5_blocked 144 = .ok (.i2l, 1) := by decide +kernel
theorem dX5_blocked_145 : decode cX5_blocked 145 = .ok (.goto 4, 3) := by decide +kernel
theorem dX5_blocked_148 : decode cX5_blocked 148 = .ok (.lconst 1, 1) := by decide +kernel
theorem dX5_blocked_149 : decode cX5_blocked 149 = .ok (.lmul, 1) := by decide +kernel
theorem dX5_blocked_150 : decode cX5_blocked 150 = .ok (.lstore 7, 2) := by decide +kernel
theorem dX5_blocked_152 : decode cX5_blocked 152 = .ok (.aload_n 0, 1) := by decide +kernel
theorem dX5_blocked_153 : decode cX5_blocked 153 = .ok (.getfield 16, 3) := by decide +kernel
theorem dX5_blocked_156 : decode cX5_blocked 156 = .ok (.invokevirtual 152, 3) := by decide +kernel
theorem dX5_blocked_159 : decode cX5_blocked 159 = .ok (.pop, 1) := by decide +kernel
theorem dX5_blocked_160 : decode cX5_blocked 160 = .ok (.iinc 13 1, 3) := by decide +kernel
theorem dX5_blocked_163 : decode cX5_blocked 163 = .ok (.goto (-80), 3) := by decide +kernel
theorem dX5_blocked_166 : decode cX5_blocked 166 = .ok (.lload 5, 2) := by decide +kernel
theorem dX5_blocked_168 : decode cX5_blocked 168 = .ok (.lload 7, 2) := by decide +kernel
theorem dX5_blocked_170 : decode cX5_blocked 170 = .ok (.iload 4, 2) := by decide +kernel
theorem dX5_blocked_172 : decode cX5_blocked 172 = .ok (.invokestatic 193, 3) := by decide +kernel
theorem dX5_blocked_175 : decode cX5_blocked 175 = .ok (.lreturn, 1) := by decide +kernel
theorem dX5_shares_0 : decode cX5_shares 0 = .ok (.iload_n 1, 1) := by decide +kernel
theorem dX5_shares_1 : decode cX5_shares 1 = .ok (.iconst 1, 1) := by decide +kernel
theorem dX5_shares_2 : decode cX5_shares 2 = .ok (.bipush 9, 2) := by decide +kernel
theorem dX5_shares_4 : decode cX5_shares 4 = .ok (.invokestatic 47, 3) := by decide +kernel
theorem dX5_shares_7 : decode cX5_shares 7 = .ok (.istore_n 3, 1) := by decide +kernel
theorem dX5_shares_8 : decode cX5_shares 8 = .ok (.iload_n 3, 1) := by decide +kernel
theorem dX5_shares_9 : decode cX5_shares 9 = .ok (.ifCond .eq 9, 3) := by decide +kernel
theorem dX5_shares_12 : decode cX5_shares 12 = .ok (.aload_n 0, 1) := by decide +kernel
theorem dX5_shares_13 : decode cX5_shares 13 = .ok (.iload_n 3, 1) := by decide +kernel
theorem dX5_shares_14 : decode cX5_shares 14 = .ok (.invokevirtual 51, 3) := by decide +kernel
theorem dX5_shares_17 : decode cX5_shares 17 = .ok (.ireturn, 1) := by decide +kernel
theorem dX5_shares_18 : decode cX5_shares 18 = .ok (.iload_n 2, 1) := by decide +kernel
theorem dX5_shares_19 : decode cX5_shares 19 = .ok (.ifCond .eq 15, 3) := by decide +kernel
theorem dX5_shares_22 : decode cX5_shares 22 = .ok (.iload_n 2, 1) := by decide +kernel
theorem dX5_shares_23 : decode cX5_shares 23 = .ok (.iconst 1, 1) := by decide +kernel
theorem dX5_shares_24 : decode cX5_shares 24 = .ok (.if_icmp .eq 10, 3) := by decide +kernel
theorem dX5_shares_27 : decode cX5_shares 27 = .ok (.aload_n 0, 1) := by decide +kernel
theorem dX5_shares_28 : decode cX5_shares 28 = .ok (.bipush (-2), 2) := by decide +kernel
theorem dX5_shares_30 : decode cX5_shares 30 = .ok (.invokevirtual 51, 3) := by decide +kernel
theorem dX5_shares_33 : decode cX5_shares 33 = .ok (.ireturn, 1) := by decide +kernel
theorem dX5_shares_34 : decode cX5_shares 34 = .ok (.iload_n 2, 1) := by decide +kernel
theorem dX5_shares_35 : decode cX5_shares 35 = .ok (.ifCond .ne 15, 3) := by decide +kernel
theorem dX5_shares_38 : decode cX5_shares 38 = .ok (.aload_n 0, 1) := by decide +kernel
theorem dX5_shares_39 : decode cX5_shares 39 = .ok (.getfield 10, 3) := by decide +kernel
theorem dX5_shares_42 : decode cX5_shares 42 = .ok (.invokevirtual 119, 3) := by decide +kernel
theorem dX5_shares_45 : decode cX5_shares 45 = .ok (.iload_n 1, 1) := by decide +kernel
theorem dX5_shares_46 : decode cX5_shares 46 = .ok (.idiv, 1) := by decide +kernel
theorem dX5_shares_47 : decode cX5_shares 47 = .ok (.goto 12, 3) := by decide +kernel
theorem dX5_shares_50 : decode cX5_shares 50 = .ok (.aload_n 0, 1) := by decide +kernel
theorem dX5_shares_51 : decode cX5_shares 51 = .ok (.getfield 10, 3) := by decide +kernel
theorem dX5_shares_54 : decode cX5_shares 54 = .ok (.invokevirtual 119, 3) := by decide +kernel
theorem dX5_shares_57 : decode cX5_shares 57 = .ok (.iload_n 1, 1) := by decide +kernel
theorem dX5_shares_58 : decode cX5_shares 58 = .ok (.irem, 1) := by decide +kernel
theorem dX5_shares_59 : decode cX5_shares 59 = .ok (.ireturn, 1) := by decide +kernel
theorem dX5_fullest_0 : decode cX5_fullest 0 = .ok (.iload_n 1, 1) := by decide +kernel
theorem dX5_fullest_1 : decode cX5_fullest 1 = .ok (.tableswitch 82 0 5 #[39, 44, 49, 67, 72, 77], 39) := by decide +kernel
theorem dX5_fullest_40 : decode cX5_fullest 40 = .ok (.aload_n 0, 1) := by decide +kernel
theorem dX5_fullest_41 : decode cX5_fullest 41 = .ok (.invokevirtual 197, 3) := by decide +kernel
theorem dX5_fullest_44 : decode cX5_fullest 44 = .ok (.ireturn, 1) := by decide +kernel
theorem dX5_fullest_45 : decode cX5_fullest 45 = .ok (.aload_n 0, 1) := by decide +kernel
theorem dX5_fullest_46 : decode cX5_fullest 46 = .ok (.invokevirtual 200, 3) := by decide +kernel
theorem dX5_fullest_49 : decode cX5_fullest 49 = .ok (.ireturn, 1) := by decide +kernel
theorem dX5_fullest_50 : decode cX5_fullest 50 = .ok (.aload_n 0, 1) := by decide +kernel
theorem dX5_fullest_51 : decode cX5_fullest 51 = .ok (.getfield 10, 3) := by decide +kernel
theorem dX5_fullest_54 : decode cX5_fullest 54 = .ok (.invokevirtual 203, 3) := by decide +kernel
theorem dX5_fullest_57 : decode cX5_fullest 57 = .ok (.aload_n 0, 1) := by decide +kernel
theorem dX5_fullest_58 : decode cX5_fullest 58 = .ok (.getfield 10, 3) := by decide +kernel
theorem dX5_fullest_61 : decode cX5_fullest 61 = .ok (.invokevirtual 206, 3) := by decide +kernel
theorem dX5_fullest_64 : decode cX5_fullest 64 = .ok (.iconst (-1), 1) := by decide +kernel
theorem dX5_fullest_65 : decode cX5_fullest 65 = .ok (.ixor, 1) := by decide +kernel
theorem dX5_fullest_66 : decode cX5_fullest 66 = .ok (.iand, 1) := by decide +kernel
theorem dX5_fullest_67 : decode cX5_fullest 67 = .ok (.ireturn, 1) := by decide +kernel
theorem dX5_fullest_68 : decode cX5_fullest 68 = .ok (.aload_n 0, 1) := by decide +kernel
theorem dX5_fullest_69 : decode cX5_fullest 69 = .ok (.invokevirtual 209, 3) := by decide +kernel
theorem dX5_fullest_72 : decode cX5_fullest 72 = .ok (.ireturn, 1) := by decide +kernel
theorem dX5_fullest_73 : decode cX5_fullest 73 = .ok (.aload_n 0, 1) := by decide +kernel
theorem dX5_fullest_74 : decode cX5_fullest 74 = .ok (.invokevirtual 212, 3) := by decide +kernel
theorem dX5_fullest_77 : decode cX5_fullest 77 = .ok (.ireturn, 1) := by decide +kernel
theorem dX5_fullest_78 : decode cX5_fullest 78 = .ok (.aload_n 0, 1) := by decide +kernel
theorem dX5_fullest_79 : decode cX5_fullest 79 = .ok (.invokevirtual 215, 3) := by decide +kernel
theorem dX5_fullest_82 : decode cX5_fullest 82 = .ok (.ireturn, 1) := by decide +kernel
theorem dX5_fullest_83 : decode cX5_fullest 83 = .ok (.aload_n 0, 1) := by decide +kernel
theorem dX5_fullest_84 : decode cX5_fullest 84 = .ok (.bipush (-2), 2) := by decide +kernel
theorem dX5_fullest_86 : decode cX5_fullest 86 = .ok (.invokevirtual 51, 3) := by decide +kernel
theorem dX5_fullest_89 : decode cX5_fullest 89 = .ok (.ireturn, 1) := by decide +kernel
theorem dX5_into_0 : decode cX5_into 0 = .ok (.aload_n 0, 1) := by decide +kernel
theorem dX5_into_1 : decode cX5_into 1 = .ok (.getfield 10, 3) := by decide +kernel
theorem dX5_into_4 : decode cX5_into 4 = .ok (.iload_n 1, 1) := by decide +kernel
theorem dX5_into_5 : decode cX5_into 5 = .ok (.invokevirtual 72, 3) := by decide +kernel
theorem dX5_into_8 : decode cX5_into 8 = .ok (.ifCond .ne 9, 3) := by decide +kernel
theorem dX5_into_11 : decode cX5_into 11 = .ok (.aload_n 0, 1) := by decide +kernel
theorem dX5_into_12 : decode cX5_into 12 = .ok (.iconst (-1), 1) := by decide +kernel
theorem dX5_into_13 : decode cX5_into 13 = .ok (.invokevirtual 51, 3) := by decide +kernel
theorem dX5_into_16 : decode cX5_into 16 = .ok (.ireturn, 1) := by decide +kernel
theorem dX5_into_17 : decode cX5_into 17 = .ok (.iconst 0, 1) := by decide +kernel
theorem dX5_into_18 : decode cX5_into 18 = .ok (.istore_n 2, 1) := by decide +kernel
theorem dX5_into_19 : decode cX5_into 19 = .ok (.iconst 0, 1) := by decide +kernel
theorem dX5_into_20 : decode cX5_into 20 = .ok (.istore_n 3, 1) := by decide +kernel
theorem dX5_into_21 : decode cX5_into 21 = .ok (.iload_n 3, 1) := by decide +kernel
theorem dX5_into_22 : decode cX5_into 22 = .ok (.aload_n 0, 1) := by decide +kernel
theorem dX5_into_23 : decode cX5_into 23 = .ok (.getfield 10, 3) := by decide +kernel
theorem dX5_into_26 : decode cX5_into 26 = .ok (.invokevirtual 103, 3) := by decide +kernel
theorem dX5_into_29 : decode cX5_into 29 = .ok (.if_icmp .ge 24, 3) := by decide +kernel
theorem dX5_into_32 : decode cX5_into 32 = .ok (.aload_n 0, 1) := by decide +kernel
theorem dX5_into_33 : decode cX5_into 33 = .ok (.getfield 10, 3) := by decide +kernel
theorem dX5_into_36 : decode cX5_into 36 = .ok (.iload_n 3, 1) := by decide +kernel
theorem dX5_into_37 : decode cX5_into 37 = .ok (.invokevirtual 84, 3) := by decide +kernel
theorem dX5_into_40 : decode cX5_into 40 = .ok (.iload_n 1, 1) := by decide +kernel
theorem dX5_into_41 : decode cX5_into 41 = .ok (.if_icmp .ne 6, 3) := by decide +kernel
theorem dX5_into_44 : decode cX5_into 44 = .ok (.iinc 2 1, 3) := by decide +kernel
theorem dX5_into_47 : decode cX5_into 47 = .ok (.iinc 3 1, 3) := by decide +kernel
theorem dX5_into_50 : decode cX5_into 50 = .ok (.goto (-29), 3) := by decide +kernel
theorem dX5_into_53 : decode cX5_into 53 = .ok (.iload_n 2, 1) := by decide +kernel
theorem dX5_into_54 : decode cX5_into 54 = .ok (.ireturn, 1) := by decide +kernel
theorem dX5_mean_0 : decode cX5_mean 0 = .ok (.iload_n 1, 1) := by decide +kernel
theorem dX5_mean_1 : decode cX5_mean 1 = .ok (.ifCond .eq 15, 3) := by decide +kernel
theorem dX5_mean_4 : decode cX5_mean 4 = .ok (.iload_n 1, 1) := by decide +kernel
theorem dX5_mean_5 : decode cX5_mean 5 = .ok (.iconst 1, 1) := by decide +kernel
theorem dX5_mean_6 : decode cX5_mean 6 = .ok (.if_icmp .eq 10, 3) := by decide +kernel
theorem dX5_mean_9 : decode cX5_mean 9 = .ok (.aload_n 0, 1) := by decide +kernel
theorem dX5_mean_10 : decode cX5_mean 10 = .ok (.bipush (-2), 2) := by decide +kernel
theorem dX5_mean_12 : decode cX5_mean 12 = .ok (.invokevirtual 189, 3) := by decide +kernel
theorem dX5_mean_15 : decode cX5_mean 15 = .ok (.lreturn, 1) := by decide +kernel
theorem dX5_mean_16 : decode cX5_mean 16 = .ok (.aload_n 0, 1) := by decide +kernel
theorem dX5_mean_17 : decode cX5_mean 17 = .ok (.getfield 10, 3) := by decide +kernel
theorem dX5_mean_20 : decode cX5_mean 20 = .ok (.invokevirtual 140, 3) := by decide +kernel
theorem dX5_mean_23 : decode cX5_mean 23 = .ok (.i2l, 1) := by decide +kernel
theorem dX5_mean_24 : decode cX5_mean 24 = .ok (.aload_n 0, 1) := by decide +kernel
theorem dX5_mean_25 : decode cX5_mean 25 = .ok (.getfield 10, 3) := by decide +kernel
theorem dX5_mean_28 : decode cX5_mean 28 = .ok (.invokevirtual 103, 3) := by decide +kernel
theorem dX5_mean_31 : decode cX5_mean 31 = .ok (.i2l, 1) := by decide +kernel
theorem dX5_mean_32 : decode cX5_mean 32 = .ok (.iload_n 1, 1) := by decide +kernel
theorem dX5_mean_33 : decode cX5_mean 33 = .ok (.invokestatic 193, 3) := by decide +kernel
theorem dX5_mean_36 : decode cX5_mean 36 = .ok (.lreturn, 1) := by decide +kernel
theorem dX5_strong_0 : decode cX5_strong 0 = .ok (.iload_n 1, 1) := by decide +kernel
theorem dX5_strong_1 : decode cX5_strong 1 = .ok (.iconst 0, 1) := by decide +kernel
theorem dX5_strong_2 : decode cX5_strong 2 = .ok (.bipush 60, 2) := by decide +kernel
theorem dX5_strong_4 : decode cX5_strong 4 = .ok (.invokestatic 47, 3) := by decide +kernel
theorem dX5_strong_7 : decode cX5_strong 7 = .ok (.istore_n 2, 1) := by decide +kernel
theorem dX5_strong_8 : decode cX5_strong 8 = .ok (.iload_n 2, 1) := by decide +kernel
theorem dX5_strong_9 : decode cX5_strong 9 = .ok (.ifCond .eq 12, 3) := by decide +kernel
theorem dX5_strong_12 : decode cX5_strong 12 = .ok (.ldc 218, 2) := by decide +kernel
theorem dX5_strong_14 : decode cX5_strong 14 = .ok (.aload_n 0, 1) := by decide +kernel
theorem dX5_strong_15 : decode cX5_strong 15 = .ok (.iload_n 2, 1) := by decide +kernel
theorem dX5_strong_16 : decode cX5_strong 16 = .ok (.invokevirtual 51, 3) := by decide +kernel
theorem dX5_strong_19 : decode cX5_strong 19 = .ok (.isub, 1) := by decide +kernel
theorem dX5_strong_20 : decode cX5_strong 20 = .ok (.ireturn, 1) := by decide +kernel
theorem dX5_strong_21 : decode cX5_strong 21 = .ok (.aload_n 0, 1) := by decide +kernel
theorem dX5_strong_22 : decode cX5_strong 22 = .ok (.invokevirtual 137, 3) := by decide +kernel
theorem dX5_strong_25 : decode cX5_strong 25 = .ok (.aload_n 0, 1) := by decide +kernel
theorem dX5_strong_26 : decode cX5_strong 26 = .ok (.iload_n 1, 1) := by decide +kernel
theorem dX5_strong_27 : decode cX5_strong 27 = .ok (.invokevirtual 156, 3) := by decide +kernel
theorem dX5_strong_30 : decode cX5_strong 30 = .ok (.istore_n 3, 1) := by decide +kernel
theorem dX5_strong_31 : decode cX5_strong 31 = .ok (.aload_n 0, 1) := by decide +kernel
theorem dX5_strong_32 : decode cX5_strong 32 = .ok (.invokevirtual 137, 3) := by decide +kernel
theorem dX5_strong_35 : decode cX5_strong 35 = .ok (.aload_n 0, 1) := by decide +kernel
theorem dX5_strong_36 : decode cX5_strong 36 = .ok (.getfield 16, 3) := by decide +kernel
theorem dX5_strong_39 : decode cX5_strong 39 = .ok (.aload_n 0, 1) := by decide +kernel
theorem dX5_strong_40 : decode cX5_strong 40 = .ok (.getfield 10, 3) := by decide +kernel
theorem dX5_strong_43 : decode cX5_strong 43 = .ok (.invokevirtual 159, 3) := by decide +kernel
theorem dX5_strong_46 : decode cX5_strong 46 = .ok (.invokevirtual 162, 3) := by decide +kernel
theorem dX5_strong_49 : decode cX5_strong 49 = .ok (.aload_n 0, 1) := by decide +kernel
theorem dX5_strong_50 : decode cX5_strong 50 = .ok (.iload_n 1, 1) := by decide +kernel
theorem dX5_strong_51 : decode cX5_strong 51 = .ok (.invokevirtual 156, 3) := by decide +kernel
theorem dX5_strong_54 : decode cX5_strong 54 = .ok (.iload_n 3, 1) := by decide +kernel
theorem dX5_strong_55 : decode cX5_strong 55 = .ok (.isub, 1) := by decide +kernel
theorem dX5_strong_56 : decode cX5_strong 56 = .ok (.ireturn, 1) := by decide +kernel
theorem dX5_kinds_0 : decode cX5_kinds 0 = .ok (.iload_n 1, 1) := by decide +kernel
theorem dX5_kinds_1 : decode cX5_kinds 1 = .ok (.ifCond .lt 8, 3) := by decide +kernel
theorem dX5_kinds_4 : decode cX5_kinds 4 = .ok (.iload_n 1, 1) := by decide +kernel
theorem dX5_kinds_5 : decode cX5_kinds 5 = .ok (.iconst 5, 1) := by decide +kernel
theorem dX5_kinds_6 : decode cX5_kinds 6 = .ok (.if_icmp .le 10, 3) := by decide +kernel
theorem dX5_kinds_9 : decode cX5_kinds 9 = .ok (.aload_n 0, 1) := by decide +kernel
theorem dX5_kinds_10 : decode cX5_kinds 10 = .ok (.bipush (-2), 2) := by decide +kernel
theorem dX5_kinds_12 : decode cX5_kinds 12 = .ok (.invokevirtual 51, 3) := by decide +kernel
theorem dX5_kinds_15 : decode cX5_kinds 15 = .ok (.ireturn, 1) := by decide +kernel
theorem dX5_kinds_16 : decode cX5_kinds 16 = .ok (.iconst 0, 1) := by decide +kernel
theorem dX5_kinds_17 : decode cX5_kinds 17 = .ok (.istore_n 2, 1) := by decide +kernel
theorem dX5_kinds_18 : decode cX5_kinds 18 = .ok (.iconst 0, 1) := by decide +kernel
theorem dX5_kinds_19 : decode cX5_kinds 19 = .ok (.istore_n 3, 1) := by decide +kernel
theorem dX5_kinds_20 : decode cX5_kinds 20 = .ok (.iload_n 3, 1) := by decide +kernel
theorem dX5_kinds_21 : decode cX5_kinds 21 = .ok (.aload_n 0, 1) := by decide +kernel
theorem dX5_kinds_22 : decode cX5_kinds 22 = .ok (.getfield 10, 3) := by decide +kernel
theorem dX5_kinds_25 : decode cX5_kinds 25 = .ok (.invokevirtual 103, 3) := by decide +kernel
theorem dX5_kinds_28 : decode cX5_kinds 28 = .ok (.if_icmp .ge 24, 3) := by decide +kernel
theorem dX5_kinds_31 : decode cX5_kinds 31 = .ok (.aload_n 0, 1) := by decide +kernel
theorem dX5_kinds_32 : decode cX5_kinds 32 = .ok (.getfield 10, 3) := by decide +kernel
theorem dX5_kinds_35 : decode cX5_kinds 35 = .ok (.iload_n 3, 1) := by decide +kernel
theorem dX5_kinds_36 : decode cX5_kinds 36 = .ok (.invokevirtual 75, 3) := by decide +kernel
theorem dX5_kinds_39 : decode cX5_kinds 39 = .ok (.iload_n 1, 1) := by decide +kernel
theorem dX5_kinds_40 : decode cX5_kinds 40 = .ok (.if_icmp .ne 6, 3) := by decide +kernel
theorem dX5_kinds_43 : decode cX5_kinds 43 = .ok (.iinc 2 1, 3) := by decide +kernel
theorem dX5_kinds_46 : decode cX5_kinds 46 = .ok (.iinc 3 1, 3) := by decide +kernel
theorem dX5_kinds_49 : decode cX5_kinds 49 = .ok (.goto (-29), 3) := by decide +kernel
theorem dX5_kinds_52 : decode cX5_kinds 52 = .ok (.iload_n 2, 1) := by decide +kernel
theorem dX5_kinds_53 : decode cX5_kinds 53 = .ok (.ireturn, 1) := by decide +kernel
theorem dX5_turn_0 : decode cX5_turn 0 = .ok (.aload_n 0, 1) := by decide +kernel
theorem dX5_turn_1 : decode cX5_turn 1 = .ok (.getfield 10, 3) := by decide +kernel
theorem dX5_turn_4 : decode cX5_turn 4 = .ok (.iload_n 1, 1) := by decide +kernel
theorem dX5_turn_5 : decode cX5_turn 5 = .ok (.invokevirtual 72, 3) := by decide +kernel
theorem dX5_turn_8 : decode cX5_turn 8 = .ok (.ifCond .ne 9, 3) := by decide +kernel
theorem dX5_turn_11 : decode cX5_turn 11 = .ok (.aload_n 0, 1) := by decide +kernel
theorem dX5_turn_12 : decode cX5_turn 12 = .ok (.iconst (-1), 1) := by decide +kernel
theorem dX5_turn_13 : decode cX5_turn 13 = .ok (.invokevirtual 51, 3) := by decide +kernel
theorem dX5_turn_16 : decode cX5_turn 16 = .ok (.ireturn, 1) := by decide +kernel
theorem dX5_turn_17 : decode cX5_turn 17 = .ok (.iload_n 2, 1) := by decide +kernel
theorem dX5_turn_18 : decode cX5_turn 18 = .ok (.iconst 0, 1) := by decide +kernel
theorem dX5_turn_19 : decode cX5_turn 19 = .ok (.bipush 60, 2) := by decide +kernel
theorem dX5_turn_21 : decode cX5_turn 21 = .ok (.invokestatic 47, 3) := by decide +kernel
theorem dX5_turn_24 : decode cX5_turn 24 = .ok (.istore_n 3, 1) := by decide +kernel
theorem dX5_turn_25 : decode cX5_turn 25 = .ok (.iload_n 3, 1) := by decide +kernel
theorem dX5_turn_26 : decode cX5_turn 26 = .ok (.ifCond .eq 9, 3) := by decide +kernel
theorem dX5_turn_29 : decode cX5_turn 29 = .ok (.aload_n 0, 1) := by decide +kernel
theorem dX5_turn_30 : decode cX5_turn 30 = .ok (.iload_n 3, 1) := by decide +kernel
theorem dX5_turn_31 : decode cX5_turn 31 = .ok (.invokevirtual 51, 3) := by decide +kernel
theorem dX5_turn_34 : decode cX5_turn 34 = .ok (.ireturn, 1) := by decide +kernel
theorem dX5_turn_35 : decode cX5_turn 35 = .ok (.bipush (-9), 2) := by decide +kernel
theorem dX5_turn_37 : decode cX5_turn 37 = .ok (.istore 4, 2) := by decide +kernel
theorem dX5_turn_39 : decode cX5_turn 39 = .ok (.bipush (-9), 2) := by decide +kernel
theorem dX5_turn_41 : decode cX5_turn 41 = .ok (.istore 5, 2) := by decide +kernel
theorem dX5_turn_43 : decode cX5_turn 43 = .ok (.iconst 0, 1) := by decide +kernel
theorem dX5_turn_44 : decode cX5_turn 44 = .ok (.istore 6, 2) := by decide +kernel
theorem dX5_turn_46 : decode cX5_turn 46 = .ok (.iload 6, 2) := by decide +kernel
theorem dX5_turn_48 : decode cX5_turn 48 = .ok (.iconst 5, 1) := by decide +kernel
theorem dX5_turn_49 : decode cX5_turn 49 = .ok (.if_icmp .gt 53, 3) := by decide +kernel
theorem dX5_turn_52 : decode cX5_turn 52 = .ok (.aload_n 0, 1) := by decide +kernel
theorem dX5_turn_53 : decode cX5_turn 53 = .ok (.invokevirtual 137, 3) := by decide +kernel
theorem dX5_turn_56 : decode cX5_turn 56 = .ok (.aload_n 0, 1) := by decide +kernel
theorem dX5_turn_57 : decode cX5_turn 57 = .ok (.getfield 16, 3) := by decide +kernel
theorem dX5_turn_60 : decode cX5_turn 60 = .ok (.iload_n 1, 1) := by decide +kernel
theorem dX5_turn_61 : decode cX5_turn 61 = .ok (.iload 6, 2) := by decide +kernel
theorem dX5_turn_63 : decode cX5_turn 63 = .ok (.aload_n 0, 1) := by decide +kernel
theorem dX5_turn_64 : decode cX5_turn 64 = .ok (.getfield 10, 3) := by decide +kernel
theorem dX5_turn_67 : decode cX5_turn 67 = .ok (.iload_n 1, 1) := by decide +kernel
theorem dX5_turn_68 : decode cX5_turn 68 = .ok (.invokevirtual 78, 3) := by decide +kernel
theorem dX5_turn_71 : decode cX5_turn 71 = .ok (.invokevirtual 219, 3) := by decide +kernel
theorem dX5_turn_74 : decode cX5_turn 74 = .ok (.aload_n 0, 1) := by decide +kernel
theorem dX5_turn_75 : decode cX5_turn 75 = .ok (.iload_n 2, 1) := by decide +kernel
theorem dX5_turn_76 : decode cX5_turn 76 = .ok (.invokevirtual 156, 3) := by decide +kernel
theorem dX5_turn_79 : decode cX5_turn 79 = .ok (.istore 7, 2) := by decide +kernel
theorem dX5_turn_81 : decode cX5_turn 81 = .ok (.iload 7, 2) := by decide +kernel
theorem dX5_turn_83 : decode cX5_turn 83 = .ok (.iload 4, 2) := by decide +kernel
theorem dX5_turn_85 : decode cX5_turn 85 = .ok (.if_icmp .le 11, 3) := by decide +kernel
theorem dX5_turn_88 : decode cX5_turn 88 = .ok (.iload 7, 2) := by decide +kernel
theorem dX5_turn_90 : decode cX5_turn 90 = .ok (.istore 4, 2) := by decide +kernel
theorem dX5_turn_92 : decode cX5_turn 92 = .ok (.iload 6, 2) := by decide +kernel
theorem dX5_turn_94 : decode cX5_turn 94 = .ok (.istore 5, 2) := by decide +kernel
theorem dX5_turn_96 : decode cX5_turn 96 = .ok (.iinc 6 1, 3) := by decide +kernel
theorem dX5_turn_99 : decode cX5_turn 99 = .ok (.goto (-53), 3) := by decide +kernel
theorem dX5_turn_102 : decode cX5_turn 102 = .ok (.iload 5, 2) := by decide +kernel
theorem dX5_turn_104 : decode cX5_turn 104 = .ok (.ireturn, 1) := by decide +kernel
theorem dX5_row_0 : decode cX5_row 0 = .ok (.iload_n 1, 1) := by decide +kernel
theorem dX5_row_1 : decode cX5_row 1 = .ok (.iconst 0, 1) := by decide +kernel
theorem dX5_row_2 : decode cX5_row 2 = .ok (.bipush 99, 2) := by decide +kernel
theorem dX5_row_4 : decode cX5_row 4 = .ok (.invokestatic 47, 3) := by decide +kernel
theorem dX5_row_7 : decode cX5_row 7 = .ok (.istore_n 2, 1) := by decide +kernel
theorem dX5_row_8 : decode cX5_row 8 = .ok (.iload_n 2, 1) := by decide +kernel
theorem dX5_row_9 : decode cX5_row 9 = .ok (.ifCond .eq 9, 3) := by decide +kernel
theorem dX5_row_12 : decode cX5_row 12 = .ok (.aload_n 0, 1) := by decide +kernel
theorem dX5_row_13 : decode cX5_row 13 = .ok (.iload_n 2, 1) := by decide +kernel
theorem dX5_row_14 : decode cX5_row 14 = .ok (.invokevirtual 51, 3) := by decide +kernel
theorem dX5_row_17 : decode cX5_row 17 = .ok (.ireturn, 1) := by decide +kernel
theorem dX5_row_18 : decode cX5_row 18 = .ok (.aload_n 0, 1) := by decide +kernel
theorem dX5_row_19 : decode cX5_row 19 = .ok (.getfield 39, 3) := by decide +kernel
theorem dX5_row_22 : decode cX5_row 22 = .ok (.iload_n 1, 1) := by decide +kernel
theorem dX5_row_23 : decode cX5_row 23 = .ok (.invokevirtual 223, 3) := by decide +kernel
theorem dX5_row_26 : decode cX5_row 26 = .ok (.ifCond .ne 10, 3) := by decide +kernel
theorem dX5_row_29 : decode cX5_row 29 = .ok (.aload_n 0, 1) := by decide +kernel
theorem dX5_row_30 : decode cX5_row 30 = .ok (.bipush (-6), 2) := by decide +kernel
theorem dX5_row_32 : decode cX5_row 32 = .ok (.invokevirtual 51, 3) := by decide +kernel
theorem dX5_row_35 : decode cX5_row 35 = .ok (.ireturn, 1) := by decide +kernel
theorem dX5_row_36 : decode cX5_row 36 = .ok (.aload_n 0, 1) := by decide +kernel
theorem dX5_row_37 : decode cX5_row 37 = .ok (.getfield 39, 3) := by decide +kernel
theorem dX5_row_40 : decode cX5_row 40 = .ok (.invokevirtual 224, 3) := by decide +kernel
theorem dX5_row_43 : decode cX5_row 43 = .ok (.ireturn, 1) := by decide +kernel
theorem dX5_judge_0 : decode cX5_judge 0 = .ok (.bipush (-9), 2) := by decide +kernel
theorem dX5_judge_2 : decode cX5_judge 2 = .ok (.istore_n 1, 1) := by decide +kernel
theorem dX5_judge_3 : decode cX5_judge 3 = .ok (.iconst 0, 1) := by decide +kernel
theorem dX5_judge_4 : decode cX5_judge 4 = .ok (.istore_n 2, 1) := by decide +kernel
theorem dX5_judge_5 : decode cX5_judge 5 = .ok (.iload_n 2, 1) := by decide +kernel
theorem dX5_judge_6 : decode cX5_judge 6 = .ok (.aload_n 0, 1) := by decide +kernel
theorem dX5_judge_7 : decode cX5_judge 7 = .ok (.getfield 39, 3) := by decide +kernel
theorem dX5_judge_10 : decode cX5_judge 10 = .ok (.invokevirtual 224, 3) := by decide +kernel
theorem dX5_judge_13 : decode cX5_judge 13 = .ok (.if_icmp .ge 47, 3) := by decide +kernel
theorem dX5_judge_16 : decode cX5_judge 16 = .ok (.iload_n 1, 1) := by decide +kernel
theorem dX5_judge_17 : decode cX5_judge 17 = .ok (.bipush (-9), 2) := by decide +kernel
theorem dX5_judge_19 : decode cX5_judge 19 = .ok (.if_icmp .ne 41, 3) := by decide +kernel
theorem dX5_judge_22 : decode cX5_judge 22 = .ok (.aload_n 0, 1) := by decide +kernel
theorem dX5_judge_23 : decode cX5_judge 23 = .ok (.getfield 10, 3) := by decide +kernel
theorem dX5_judge_26 : decode cX5_judge 26 = .ok (.iload_n 2, 1) := by decide +kernel
theorem dX5_judge_27 : decode cX5_judge 27 = .ok (.invokevirtual 72, 3) := by decide +kernel
theorem dX5_judge_30 : decode cX5_judge 30 = .ok (.ifCond .eq 22, 3) := by decide +kernel
theorem dX5_judge_33 : decode cX5_judge 33 = .ok (.aload_n 0, 1) := by decide +kernel
theorem dX5_judge_34 : decode cX5_judge 34 = .ok (.getfield 10, 3) := by decide +kernel
theorem dX5_judge_37 : decode cX5_judge 37 = .ok (.iload_n 2, 1) := by decide +kernel
theorem dX5_judge_38 : decode cX5_judge 38 = .ok (.invokevirtual 81, 3) := by decide +kernel
theorem dX5_judge_41 : decode cX5_judge 41 = .ok (.aload_n 0, 1) := by decide +kernel
theorem dX5_judge_42 : decode cX5_judge 42 = .ok (.getfield 39, 3) := by decide +kernel
theorem dX5_judge_45 : decode cX5_judge 45 = .ok (.iload_n 2, 1) := by decide +kernel
theorem dX5_judge_46 : decode cX5_judge 46 = .ok (.invokevirtual 225, 3) := by decide +kernel
theorem dX5_judge_49 : decode cX5_judge 49 = .ok (.if_icmp .eq 5, 3) := by decide +kernel
theorem dX5_judge_52 : decode cX5_judge 52 = .ok (.iload_n 2, 1) := by decide +kernel
theorem dX5_judge_53 : decode cX5_judge 53 = .ok (.istore_n 1, 1) := by decide +kernel
theorem dX5_judge_54 : decode cX5_judge 54 = .ok (.iinc 2 1, 3) := by decide +kernel
theorem dX5_judge_57 : decode cX5_judge 57 = .ok (.goto (-52), 3) := by decide +kernel
theorem dX5_judge_60 : decode cX5_judge 60 = .ok (.aload_n 0, 1) := by decide +kernel
theorem dX5_judge_61 : decode cX5_judge 61 = .ok (.getfield 39, 3) := by decide +kernel
theorem dX5_judge_64 : decode cX5_judge 64 = .ok (.invokevirtual 228, 3) := by decide +kernel
theorem dX5_judge_67 : decode cX5_judge 67 = .ok (.iload_n 1, 1) := by decide +kernel
theorem dX5_judge_68 : decode cX5_judge 68 = .ok (.ireturn, 1) := by decide +kernel
theorem dX5_clear_0 : decode cX5_clear 0 = .ok (.aload_n 0, 1) := by decide +kernel
theorem dX5_clear_1 : decode cX5_clear 1 = .ok (.getfield 39, 3) := by decide +kernel
theorem dX5_clear_4 : decode cX5_clear 4 = .ok (.invokevirtual 224, 3) := by decide +kernel
theorem dX5_clear_7 : decode cX5_clear 7 = .ok (.istore_n 1, 1) := by decide +kernel
theorem dX5_clear_8 : decode cX5_clear 8 = .ok (.aload_n 0, 1) := by decide +kernel
theorem dX5_clear_9 : decode cX5_clear 9 = .ok (.getfield 39, 3) := by decide +kernel
theorem dX5_clear_12 : decode cX5_clear 12 = .ok (.invokevirtual 228, 3) := by decide +kernel
theorem dX5_clear_15 : decode cX5_clear 15 = .ok (.iload_n 1, 1) := by decide +kernel
theorem dX5_clear_16 : decode cX5_clear 16 = .ok (.ireturn, 1) := by decide +kernel
theorem dX5_lots_0 : decode cX5_lots 0 = .ok (.iload_n 1, 1) := by decide +kernel
theorem dX5_lots_1 : decode cX5_lots 1 = .ok (.iconst 1, 1) := by decide +kernel
theorem dX5_lots_2 : decode cX5_lots 2 = .ok (.bipush 20, 2) := by decide +kernel
theorem dX5_lots_4 : decode cX5_lots 4 = .ok (.invokestatic 47, 3) := by decide +kernel
theorem dX5_lots_7 : decode cX5_lots 7 = .ok (.istore 4, 2) := by decide +kernel
theorem dX5_lots_9 : decode cX5_lots 9 = .ok (.iload 4, 2) := by decide +kernel
theorem dX5_lots_11 : decode cX5_lots 11 = .ok (.ifCond .eq 10, 3) := by decide +kernel
theorem dX5_lots_14 : decode cX5_lots 14 = .ok (.aload_n 0, 1) := by decide +kernel
theorem dX5_lots_15 : decode cX5_lots 15 = .ok (.iload 4, 2) := by decide +kernel
theorem dX5_lots_17 : decode cX5_lots 17 = .ok (.invokevirtual 51, 3) := by decide +kernel
theorem dX5_lots_20 : decode cX5_lots 20 = .ok (.ireturn, 1) := by decide +kernel
theorem dX5_lots_21 : decode cX5_lots 21 = .ok (.iload_n 3, 1) := by decide +kernel
theorem dX5_lots_22 : decode cX5_lots 22 = .ok (.ifCond .eq 15, 3) := by decide +kernel
theorem dX5_lots_25 : decode cX5_lots 25 = .ok (.iload_n 3, 1) := by decide +kernel
theorem dX5_lots_26 : decode cX5_lots 26 = .ok (.iconst 1, 1) := by decide +kernel
theorem dX5_lots_27 : decode cX5_lots 27 = .ok (.if_icmp .eq 10, 3) := by decide +kernel
theorem dX5_lots_30 : decode cX5_lots 30 = .ok (.aload_n 0, 1) := by decide +kernel
theorem dX5_lots_31 : decode cX5_lots 31 = .ok (.bipush (-2), 2) := by decide +kernel
theorem dX5_lots_33 : decode cX5_lots 33 = .ok (.invokevirtual 51, 3) := by decide +kernel
theorem dX5_lots_36 : decode cX5_lots 36 = .ok (.ireturn, 1) := by decide +kernel
theorem dX5_lots_37 : decode cX5_lots 37 = .ok (.iload_n 2, 1) := by decide +kernel
theorem dX5_lots_38 : decode cX5_lots 38 = .ok (.istore 5, 2) := by decide +kernel
theorem dX5_lots_40 : decode cX5_lots 40 = .ok (.iconst 0, 1) := by decide +kernel
theorem dX5_lots_41 : decode cX5_lots 41 = .ok (.istore 6, 2) := by decide +kernel
theorem dX5_lots_43 : decode cX5_lots 43 = .ok (.iconst 0, 1) := by decide +kernel
theorem dX5_lots_44 : decode cX5_lots 44 = .ok (.istore 7, 2) := by decide +kernel
theorem dX5_lots_46 : decode cX5_lots 46 = .ok (.iload 7, 2) := by decide +kernel
theorem dX5_lots_48 : decode cX5_lots 48 = .ok (.iload_n 1, 1) := by decide +kernel
theorem dX5_lots_49 : decode cX5_lots 49 = .ok (.if_icmp .ge 51, 3) := by decide +kernel
theorem dX5_lots_52 : decode cX5_lots 52 = .ok (.aload_n 0, 1) := by decide +kernel
theorem dX5_lots_53 : decode cX5_lots 53 = .ok (.iload 5, 2) := by decide +kernel
theorem dX5_lots_55 : decode cX5_lots 55 = .ok (.invokevirtual 229, 3) := by decide +kernel
theorem dX5_lots_58 : decode cX5_lots 58 = .ok (.istore 5, 2) := by decide +kernel
theorem dX5_lots_60 : decode cX5_lots 60 = .ok (.iload 6, 2) := by decide +kernel
theorem dX5_lots_62 : decode cX5_lots 62 = .ok (.iload_n 3, 1) := by decide +kernel
theorem dX5_lots_63 : decode cX5_lots 63 = .ok (.ifCond .ne 21, 3) := by decide +kernel
theorem dX5_lots_66 : decode cX5_lots 66 = .ok (.aload_n 0, 1) := by decide +kernel
theorem dX5_lots_67 : decode cX5_lots 67 = .ok (.getfield 16, 3) := by decide +kernel
theorem dX5_lots_70 : decode cX5_lots 70 = .ok (.invokevirtual 119, 3) := by decide +kernel
theorem dX5_lots_73 : decode cX5_lots 73 = .ok (.aload_n 0, 1) := by decide +kernel
theorem dX5_lots_74 : decode cX5_lots 74 = .ok (.getfield 10, 3) := by decide +kernel
theorem dX5_lots_77 : decode cX5_lots 77 = .ok (.invokevirtual 119, 3) := by decide +kernel
theorem dX5_lots_80 : decode cX5_lots 80 = .ok (.isub, 1) := by decide +kernel
theorem dX5_lots_81 : decode cX5_lots 81 = .ok (.goto 10, 3) := by decide +kernel
theorem dX5_lots_84 : decode cX5_lots 84 = .ok (.aload_n 0, 1) := by decide +kernel
theorem dX5_lots_85 : decode cX5_lots 85 = .ok (.getfield 16, 3) := by decide +kernel
theorem dX5_lots_88 : decode cX5_lots 88 = .ok (.invokevirtual 140, 3) := by decide +kernel
theorem dX5_lots_91 : decode cX5_lots 91 = .ok (.iadd, 1) := by decide +kernel
theorem dX5_lots_92 : decode cX5_lots 92 = .ok (.istore 6, 2) := by decide +kernel
theorem dX5_lots_94 : decode cX5_lots 94 = .ok (.iinc 7 1, 3) := by decide +kernel
theorem dX5_lots_97 : decode cX5_lots 97 = .ok (.goto (-51), 3) := by decide +kernel
theorem dX5_lots_100 : decode cX5_lots 100 = .ok (.iload 6, 2) := by decide +kernel
theorem dX5_lots_102 : decode cX5_lots 102 = .ok (.ireturn, 1) := by decide +kernel
theorem dX5_image_0 : decode cX5_image 0 = .ok (.aload_n 0, 1) := by decide +kernel
theorem dX5_image_1 : decode cX5_image 1 = .ok (.getfield 19, 3) := by decide +kernel
theorem dX5_image_4 : decode cX5_image 4 = .ok (.aload_n 0, 1) := by decide +kernel
theorem dX5_image_5 : decode cX5_image 5 = .ok (.getfield 10, 3) := by decide +kernel
theorem dX5_image_8 : decode cX5_image 8 = .ok (.invokevirtual 232, 3) := by decide +kernel
theorem dX5_image_11 : decode cX5_image 11 = .ok (.aload_n 0, 1) := by decide +kernel
theorem dX5_image_12 : decode cX5_image 12 = .ok (.iconst 1, 1) := by decide +kernel
theorem dX5_image_13 : decode cX5_image 13 = .ok (.putfield 235, 3) := by decide +kernel
theorem dX5_image_16 : decode cX5_image 16 = .ok (.aload_n 0, 1) := by decide +kernel
theorem dX5_image_17 : decode cX5_image 17 = .ok (.getfield 10, 3) := by decide +kernel
theorem dX5_image_20 : decode cX5_image 20 = .ok (.invokevirtual 239, 3) := by decide +kernel
theorem dX5_image_23 : decode cX5_image 23 = .ok (.ireturn, 1) := by decide +kernel
theorem dX5_restore_0 : decode cX5_restore 0 = .ok (.aload_n 0, 1) := by decide +kernel
theorem dX5_restore_1 : decode cX5_restore 1 = .ok (.getfield 235, 3) := by decide +kernel
theorem dX5_restore_4 : decode cX5_restore 4 = .ok (.ifCond .ne 10, 3) := by decide +kernel
theorem dX5_restore_7 : decode cX5_restore 7 = .ok (.aload_n 0, 1) := by decide +kernel
theorem dX5_restore_8 : decode cX5_restore 8 = .ok (.bipush (-3), 2) := by decide +kernel
theorem dX5_restore_10 : decode cX5_restore 10 = .ok (.invokevirtual 51, 3) := by decide +kernel
theorem dX5_restore_13 : decode cX5_restore 13 = .ok (.ireturn, 1) := by decide +kernel
theorem dX5_restore_14 : decode cX5_restore 14 = .ok (.aload_n 0, 1) := by decide +kernel
theorem dX5_restore_15 : decode cX5_restore 15 = .ok (.getfield 10, 3) := by decide +kernel
theorem dX5_restore_18 : decode cX5_restore 18 = .ok (.aload_n 0, 1) := by decide +kernel
theorem dX5_restore_19 : decode cX5_restore 19 = .ok (.getfield 19, 3) := by decide +kernel
theorem dX5_restore_22 : decode cX5_restore 22 = .ok (.invokevirtual 232, 3) := by decide +kernel
theorem dX5_restore_25 : decode cX5_restore 25 = .ok (.aload_n 0, 1) := by decide +kernel
theorem dX5_restore_26 : decode cX5_restore 26 = .ok (.getfield 25, 3) := by decide +kernel
theorem dX5_restore_29 : decode cX5_restore 29 = .ok (.invokevirtual 100, 3) := by decide +kernel
theorem dX5_restore_32 : decode cX5_restore 32 = .ok (.aload_n 0, 1) := by decide +kernel
theorem dX5_restore_33 : decode cX5_restore 33 = .ok (.getfield 10, 3) := by decide +kernel
theorem dX5_restore_36 : decode cX5_restore 36 = .ok (.invokevirtual 239, 3) := by decide +kernel
theorem dX5_restore_39 : decode cX5_restore 39 = .ok (.ireturn, 1) := by decide +kernel
theorem dX5_count_0 : decode cX5_count 0 = .ok (.iload_n 1, 1) := by decide +kernel
theorem dX5_count_1 : decode cX5_count 1 = .ok (.tableswitch 123 0 8 #[51, 59, 67, 75, 83, 91, 99, 107, 115], 51) := by decide +kernel
theorem dX5_count_52 : decode cX5_count 52 = .ok (.aload_n 0, 1) := by decide +kernel
theorem dX5_count_53 : decode cX5_count 53 = .ok (.getfield 10, 3) := by decide +kernel
theorem dX5_count_56 : decode cX5_count 56 = .ok (.invokevirtual 103, 3) := by decide +kernel
theorem dX5_count_59 : decode cX5_count 59 = .ok (.ireturn, 1) := by decide +kernel
theorem dX5_count_60 : decode cX5_count 60 = .ok (.aload_n 0, 1) := by decide +kernel
theorem dX5_count_61 : decode cX5_count 61 = .ok (.getfield 10, 3) := by decide +kernel
theorem dX5_count_64 : decode cX5_count 64 = .ok (.invokevirtual 239, 3) := by decide +kernel
theorem dX5_count_67 : decode cX5_count 67 = .ok (.ireturn, 1) := by decide +kernel
theorem dX5_count_68 : decode cX5_count 68 = .ok (.aload_n 0, 1) := by decide +kernel
theorem dX5_count_69 : decode cX5_count 69 = .ok (.getfield 10, 3) := by decide +kernel
theorem dX5_count_72 : decode cX5_count 72 = .ok (.invokevirtual 119, 3) := by decide +kernel
theorem dX5_count_75 : decode cX5_count 75 = .ok (.ireturn, 1) := by decide +kernel
theorem dX5_count_76 : decode cX5_count 76 = .ok (.aload_n 0, 1) := by decide +kernel
theorem dX5_count_77 : decode cX5_count 77 = .ok (.getfield 10, 3) := by decide +kernel
theorem dX5_count_80 : decode cX5_count 80 = .ok (.invokevirtual 159, 3) := by decide +kernel
theorem dX5_count_83 : decode cX5_count 83 = .ok (.ireturn, 1) := by decide +kernel
theorem dX5_count_84 : decode cX5_count 84 = .ok (.aload_n 0, 1) := by decide +kernel
theorem dX5_count_85 : decode cX5_count 85 = .ok (.getfield 10, 3) := by decide +kernel
theorem dX5_count_88 : decode cX5_count 88 = .ok (.invokevirtual 206, 3) := by decide +kernel
theorem dX5_count_91 : decode cX5_count 91 = .ok (.ireturn, 1) := by decide +kernel
theorem dX5_count_92 : decode cX5_count 92 = .ok (.aload_n 0, 1) := by decide +kernel
theorem dX5_count_93 : decode cX5_count 93 = .ok (.getfield 10, 3) := by decide +kernel
theorem dX5_count_96 : decode cX5_count 96 = .ok (.invokevirtual 140, 3) := by decide +kernel
theorem dX5_count_99 : decode cX5_count 99 = .ok (.ireturn, 1) := by decide +kernel
theorem dX5_count_100 : decode cX5_count 100 = .ok (.aload_n 0, 1) := by decide +kernel
theorem dX5_count_101 : decode cX5_count 101 = .ok (.getfield 32, 3) := by decide +kernel
theorem dX5_count_104 : decode cX5_count 104 = .ok (.invokevirtual 59, 3) := by decide +kernel
theorem dX5_count_107 : decode cX5_count 107 = .ok (.ireturn, 1) := by decide +kernel
theorem dX5_count_108 : decode cX5_count 108 = .ok (.aload_n 0, 1) := by decide +kernel
theorem dX5_count_109 : decode cX5_count 109 = .ok (.getfield 39, 3) := by decide +kernel
theorem dX5_count_112 : decode cX5_count 112 = .ok (.invokevirtual 224, 3) := by decide +kernel
theorem dX5_count_115 : decode cX5_count 115 = .ok (.ireturn, 1) := by decide +kernel
theorem dX5_count_116 : decode cX5_count 116 = .ok (.aload_n 0, 1) := by decide +kernel
theorem dX5_count_117 : decode cX5_count 117 = .ok (.getfield 25, 3) := by decide +kernel
theorem dX5_count_120 : decode cX5_count 120 = .ok (.invokevirtual 136, 3) := by decide +kernel
theorem dX5_count_123 : decode cX5_count 123 = .ok (.ireturn, 1) := by decide +kernel
theorem dX5_count_124 : decode cX5_count 124 = .ok (.aload_n 0, 1) := by decide +kernel
theorem dX5_count_125 : decode cX5_count 125 = .ok (.iload_n 1, 1) := by decide +kernel
theorem dX5_count_126 : decode cX5_count 126 = .ok (.invokevirtual 242, 3) := by decide +kernel
theorem dX5_count_129 : decode cX5_count 129 = .ok (.ireturn, 1) := by decide +kernel
theorem dX5_refusalsCounted_0 : decode cX5_refusalsCounted 0 = .ok (.iload_n 1, 1) := by decide +kernel
theorem dX5_refusalsCounted_1 : decode cX5_refusalsCounted 1 = .ok (.bipush 11, 2) := by decide +kernel
theorem dX5_refusalsCounted_3 : decode cX5_refusalsCounted 3 = .ok (.if_icmp .lt 9, 3) := by decide +kernel
theorem dX5_refusalsCounted_6 : decode cX5_refusalsCounted 6 = .ok (.iload_n 1, 1) := by decide +kernel
theorem dX5_refusalsCounted_7 : decode cX5_refusalsCounted 7 = .ok (.bipush 16, 2) := by decide +kernel
theorem dX5_refusalsCounted_9 : decode cX5_refusalsCounted 9 = .ok (.if_icmp .le 6, 3) := by decide +kernel
theorem dX5_refusalsCounted_12 : decode cX5_refusalsCounted 12 = .ok (.bipush (-9), 2) := by decide +kernel
theorem dX5_refusalsCounted_14 : decode cX5_refusalsCounted 14 = .ok (.ireturn, 1) := by decide +kernel
theorem dX5_refusalsCounted_15 : decode cX5_refusalsCounted 15 = .ok (.aload_n 0, 1) := by decide +kernel
theorem dX5_refusalsCounted_16 : decode cX5_refusalsCounted 16 = .ok (.getfield 43, 3) := by decide +kernel
theorem dX5_refusalsCounted_19 : decode cX5_refusalsCounted 19 = .ok (.iload_n 1, 1) := by decide +kernel
theorem dX5_refusalsCounted_20 : decode cX5_refusalsCounted 20 = .ok (.bipush 10, 2) := by decide +kernel
theorem dX5_refusalsCounted_22 : decode cX5_refusalsCounted 22 = .ok (.isub, 1) := by decide +kernel
theorem dX5_refusalsCounted_23 : decode cX5_refusalsCounted 23 = .ok (.iaload, 1) := by decide +kernel
theorem dX5_refusalsCounted_24 : decode cX5_refusalsCounted 24 = .ok (.ireturn, 1) := by decide +kernel
theorem dX5_refuse_0 : decode cX5_refuse 0 = .ok (.iload_n 1, 1) := by decide +kernel
theorem dX5_refuse_1 : decode cX5_refuse 1 = .ok (.ifCond .ge 20, 3) := by decide +kernel
theorem dX5_refuse_4 : decode cX5_refuse 4 = .ok (.iload_n 1, 1) := by decide +kernel
theorem dX5_refuse_5 : decode cX5_refuse 5 = .ok (.bipush (-6), 2) := by decide +kernel
theorem dX5_refuse_7 : decode cX5_refuse 7 = .ok (.if_icmp .lt 14, 3) := by decide +kernel
theorem dX5_refuse_10 : decode cX5_refuse 10 = .ok (.aload_n 0, 1) := by decide +kernel
theorem dX5_refuse_11 : decode cX5_refuse 11 = .ok (.getfield 43, 3) := by decide +kernel
theorem dX5_refuse_14 : decode cX5_refuse 14 = .ok (.iload_n 1, 1) := by decide +kernel
theorem dX5_refuse_15 : decode cX5_refuse 15 = .ok (.ineg, 1) := by decide +kernel
theorem dX5_refuse_16 : decode cX5_refuse 16 = .ok (.dup2, 1) := by decide +kernel
theorem dX5_refuse_17 : decode cX5_refuse 17 = .ok (.iaload, 1) := by decide +kernel
theorem dX5_refuse_18 : decode cX5_refuse 18 = .ok (.iconst 1, 1) := by decide +kernel
theorem dX5_refuse_19 : decode cX5_refuse 19 = .ok (.iadd, 1) := by decide +kernel
theorem dX5_refuse_20 : decode cX5_refuse 20 = .ok (.iastore, 1) := by decide +kernel
theorem dX5_refuse_21 : decode cX5_refuse 21 = .ok (.iload_n 1, 1) := by decide +kernel
theorem dX5_refuse_22 : decode cX5_refuse 22 = .ok (.ireturn, 1) := by decide +kernel
theorem dX5_refuseLong_0 : decode cX5_refuseLong 0 = .ok (.ldc2_w 245, 3) := by decide +kernel
theorem dX5_refuseLong_3 : decode cX5_refuseLong 3 = .ok (.aload_n 0, 1) := by decide +kernel
theorem dX5_refuseLong_4 : decode cX5_refuseLong 4 = .ok (.iload_n 1, 1) := by decide +kernel
theorem dX5_refuseLong_5 : decode cX5_refuseLong 5 = .ok (.invokevirtual 51, 3) := by decide +kernel
theorem dX5_refuseLong_8 : decode cX5_refuseLong 8 = .ok (.i2l, 1) := by decide +kernel
theorem dX5_refuseLong_9 : decode cX5_refuseLong 9 = .ok (.lsub, 1) := by decide +kernel
theorem dX5_refuseLong_10 : decode cX5_refuseLong 10 = .ok (.lreturn, 1) := by decide +kernel
theorem dX5_outside_0 : decode cX5_outside 0 = .ok (.iload_n 0, 1) := by decide +kernel
theorem dX5_outside_1 : decode cX5_outside 1 = .ok (.iload_n 1, 1) := by decide +kernel
theorem dX5_outside_2 : decode cX5_outside 2 = .ok (.if_icmp .ge 6, 3) := by decide +kernel
theorem dX5_outside_5 : decode cX5_outside 5 = .ok (.bipush (-4), 2) := by decide +kernel
theorem dX5_outside_7 : decode cX5_outside 7 = .ok (.ireturn, 1) := by decide +kernel
theorem dX5_outside_8 : decode cX5_outside 8 = .ok (.iload_n 0, 1) := by decide +kernel
theorem dX5_outside_9 : decode cX5_outside 9 = .ok (.iload_n 2, 1) := by decide +kernel
theorem dX5_outside_10 : decode cX5_outside 10 = .ok (.if_icmp .le 8, 3) := by decide +kernel
theorem dX5_outside_13 : decode cX5_outside 13 = .ok (.bipush (-6), 2) := by decide +kernel
theorem dX5_outside_15 : decode cX5_outside 15 = .ok (.goto 4, 3) := by decide +kernel
theorem dX5_outside_18 : decode cX5_outside 18 = .ok (.iconst 0, 1) := by decide +kernel
theorem dX5_outside_19 : decode cX5_outside 19 = .ok (.ireturn, 1) := by decide +kernel
theorem dX5_think_0 : decode cX5_think 0 = .ok (.aload_n 0, 1) := by decide +kernel
theorem dX5_think_1 : decode cX5_think 1 = .ok (.getfield 16, 3) := by decide +kernel
theorem dX5_think_4 : decode cX5_think 4 = .ok (.aload_n 0, 1) := by decide +kernel
theorem dX5_think_5 : decode cX5_think 5 = .ok (.getfield 10, 3) := by decide +kernel
theorem dX5_think_8 : decode cX5_think 8 = .ok (.invokevirtual 232, 3) := by decide +kernel
theorem dX5_think_11 : decode cX5_think 11 = .ok (.return_, 1) := by decide +kernel
theorem dX5_cupBehind_0 : decode cX5_cupBehind 0 = .ok (.aload_n 0, 1) := by decide +kernel
theorem dX5_cupBehind_1 : decode cX5_cupBehind 1 = .ok (.getfield 16, 3) := by decide +kernel
theorem dX5_cupBehind_4 : decode cX5_cupBehind 4 = .ok (.iload_n 1, 1) := by decide +kernel
theorem dX5_cupBehind_5 : decode cX5_cupBehind 5 = .ok (.invokevirtual 128, 3) := by decide +kernel
theorem dX5_cupBehind_8 : decode cX5_cupBehind 8 = .ok (.aload_n 0, 1) := by decide +kernel
theorem dX5_cupBehind_9 : decode cX5_cupBehind 9 = .ok (.getfield 16, 3) := by decide +kernel
theorem dX5_cupBehind_12 : decode cX5_cupBehind 12 = .ok (.invokevirtual 119, 3) := by decide +kernel
theorem dX5_cupBehind_15 : decode cX5_cupBehind 15 = .ok (.ireturn, 1) := by decide +kernel
theorem dX5_tellAll_0 : decode cX5_tellAll 0 = .ok (.aload_n 0, 1) := by decide +kernel
theorem dX5_tellAll_1 : decode cX5_tellAll 1 = .ok (.invokevirtual 137, 3) := by decide +kernel
theorem dX5_tellAll_4 : decode cX5_tellAll 4 = .ok (.iconst 0, 1) := by decide +kernel
theorem dX5_tellAll_5 : decode cX5_tellAll 5 = .ok (.istore_n 1, 1) := by decide +kernel
theorem dX5_tellAll_6 : decode cX5_tellAll 6 = .ok (.iconst 0, 1) := by decide +kernel
theorem dX5_tellAll_7 : decode cX5_tellAll 7 = .ok (.istore_n 2, 1) := by decide +kernel
theorem dX5_tellAll_8 : decode cX5_tellAll 8 = .ok (.iload_n 2, 1) := by decide +kernel
theorem dX5_tellAll_9 : decode cX5_tellAll 9 = .ok (.aload_n 0, 1) := by decide +kernel
theorem dX5_tellAll_10 : decode cX5_tellAll 10 = .ok (.getfield 32, 3) := by decide +kernel
theorem dX5_tellAll_13 : decode cX5_tellAll 13 = .ok (.invokevirtual 59, 3) := by decide +kernel
theorem dX5_tellAll_16 : decode cX5_tellAll 16 = .ok (.if_icmp .ge 37, 3) := by decide +kernel
theorem dX5_tellAll_19 : decode cX5_tellAll 19 = .ok (.aload_n 0, 1) := by decide +kernel
theorem dX5_tellAll_20 : decode cX5_tellAll 20 = .ok (.getfield 32, 3) := by decide +kernel
theorem dX5_tellAll_23 : decode cX5_tellAll 23 = .ok (.iload_n 2, 1) := by decide +kernel
theorem dX5_tellAll_24 : decode cX5_tellAll 24 = .ok (.invokevirtual 247, 3) := by decide +kernel
theorem dX5_tellAll_27 : decode cX5_tellAll 27 = .ok (.ifCond .eq 20, 3) := by decide +kernel
theorem dX5_tellAll_30 : decode cX5_tellAll 30 = .ok (.aload_n 0, 1) := by decide +kernel
theorem dX5_tellAll_31 : decode cX5_tellAll 31 = .ok (.iload_n 2, 1) := by decide +kernel
theorem dX5_tellAll_32 : decode cX5_tellAll 32 = .ok (.invokevirtual 250, 3) := by decide +kernel
theorem dX5_tellAll_35 : decode cX5_tellAll 35 = .ok (.ifCond .ne 9, 3) := by decide +kernel
theorem dX5_tellAll_38 : decode cX5_tellAll 38 = .ok (.sipush (-2000), 3) := by decide +kernel
theorem dX5_tellAll_41 : decode cX5_tellAll 41 = .ok (.iload_n 2, 1) := by decide +kernel
theorem dX5_tellAll_42 : decode cX5_tellAll 42 = .ok (.isub, 1) := by decide +kernel
theorem dX5_tellAll_43 : decode cX5_tellAll 43 = .ok (.ireturn, 1) := by decide +kernel
theorem dX5_tellAll_44 : decode cX5_tellAll 44 = .ok (.iinc 1 1, 3) := by decide +kernel
theorem dX5_tellAll_47 : decode cX5_tellAll 47 = .ok (.iinc 2 1, 3) := by decide +kernel
theorem dX5_tellAll_50 : decode cX5_tellAll 50 = .ok (.goto (-42), 3) := by decide +kernel
theorem dX5_tellAll_53 : decode cX5_tellAll 53 = .ok (.aload_n 0, 1) := by decide +kernel
theorem dX5_tellAll_54 : decode cX5_tellAll 54 = .ok (.getfield 10, 3) := by decide +kernel
theorem dX5_tellAll_57 : decode cX5_tellAll 57 = .ok (.aload_n 0, 1) := by decide +kernel
theorem dX5_tellAll_58 : decode cX5_tellAll 58 = .ok (.getfield 16, 3) := by decide +kernel
theorem dX5_tellAll_61 : decode cX5_tellAll 61 = .ok (.invokevirtual 232, 3) := by decide +kernel
theorem dX5_tellAll_64 : decode cX5_tellAll 64 = .ok (.aload_n 0, 1) := by decide +kernel
theorem dX5_tellAll_65 : decode cX5_tellAll 65 = .ok (.getfield 25, 3) := by decide +kernel
theorem dX5_tellAll_68 : decode cX5_tellAll 68 = .ok (.invokevirtual 100, 3) := by decide +kernel
theorem dX5_tellAll_71 : decode cX5_tellAll 71 = .ok (.iload_n 1, 1) := by decide +kernel
theorem dX5_tellAll_72 : decode cX5_tellAll 72 = .ok (.ireturn, 1) := by decide +kernel
theorem dX5_tell_0 : decode cX5_tell 0 = .ok (.aload_n 0, 1) := by decide +kernel
theorem dX5_tell_1 : decode cX5_tell 1 = .ok (.getfield 32, 3) := by decide +kernel
theorem dX5_tell_4 : decode cX5_tell 4 = .ok (.iload_n 1, 1) := by decide +kernel
theorem dX5_tell_5 : decode cX5_tell 5 = .ok (.iconst 1, 1) := by decide +kernel
theorem dX5_tell_6 : decode cX5_tell 6 = .ok (.iadd, 1) := by decide +kernel
theorem dX5_tell_7 : decode cX5_tell 7 = .ok (.invokevirtual 253, 3) := by decide +kernel
theorem dX5_tell_10 : decode cX5_tell 10 = .ok (.istore_n 2, 1) := by decide +kernel
theorem dX5_tell_11 : decode cX5_tell 11 = .ok (.aload_n 0, 1) := by decide +kernel
theorem dX5_tell_12 : decode cX5_tell 12 = .ok (.getfield 32, 3) := by decide +kernel
theorem dX5_tell_15 : decode cX5_tell 15 = .ok (.iload_n 1, 1) := by decide +kernel
theorem dX5_tell_16 : decode cX5_tell 16 = .ok (.iconst 2, 1) := by decide +kernel
theorem dX5_tell_17 : decode cX5_tell 17 = .ok (.iadd, 1) := by decide +kernel
theorem dX5_tell_18 : decode cX5_tell 18 = .ok (.invokevirtual 253, 3) := by decide +kernel
theorem dX5_tell_21 : decode cX5_tell 21 = .ok (.istore_n 3, 1) := by decide +kernel
theorem dX5_tell_22 : decode cX5_tell 22 = .ok (.aload_n 0, 1) := by decide +kernel
theorem dX5_tell_23 : decode cX5_tell 23 = .ok (.getfield 32, 3) := by decide +kernel
theorem dX5_tell_26 : decode cX5_tell 26 = .ok (.iload_n 1, 1) := by decide +kernel
theorem dX5_tell_27 : decode cX5_tell 27 = .ok (.invokevirtual 256, 3) := by decide +kernel
theorem dX5_tell_30 : decode cX5_tell 30 = .ok (.lookupswitch 153 #[(98, 78), (99, 111), (100, 120), (110, 58), (118, 87), (120, 68)], 58) := by decide +kernel
theorem dX5_tell_88 : decode cX5_tell 88 = .ok (.aload_n 0, 1) := by decide +kernel
theorem dX5_tell_89 : decode cX5_tell 89 = .ok (.getfield 16, 3) := by decide +kernel
theorem dX5_tell_92 : decode cX5_tell 92 = .ok (.iload_n 2, 1) := by decide +kernel
theorem dX5_tell_93 : decode cX5_tell 93 = .ok (.iload_n 3, 1) := by decide +kernel
theorem dX5_tell_94 : decode cX5_tell 94 = .ok (.invokevirtual 96, 3) := by decide +kernel
theorem dX5_tell_97 : decode cX5_tell 97 = .ok (.ireturn, 1) := by decide +kernel
theorem dX5_tell_98 : decode cX5_tell 98 = .ok (.aload_n 0, 1) := by decide +kernel
theorem dX5_tell_99 : decode cX5_tell 99 = .ok (.getfield 16, 3) := by decide +kernel
theorem dX5_tell_102 : decode cX5_tell 102 = .ok (.iload_n 2, 1) := by decide +kernel
theorem dX5_tell_103 : decode cX5_tell 103 = .ok (.iload_n 3, 1) := by decide +kernel
theorem dX5_tell_104 : decode cX5_tell 104 = .ok (.invokevirtual 110, 3) := by decide +kernel
theorem dX5_tell_107 : decode cX5_tell 107 = .ok (.ireturn, 1) := by decide +kernel
theorem dX5_tell_108 : decode cX5_tell 108 = .ok (.aload_n 0, 1) := by decide +kernel
theorem dX5_tell_109 : decode cX5_tell 109 = .ok (.getfield 16, 3) := by decide +kernel
theorem dX5_tell_112 : decode cX5_tell 112 = .ok (.iload_n 2, 1) := by decide +kernel
theorem dX5_tell_113 : decode cX5_tell 113 = .ok (.invokevirtual 113, 3) := by decide +kernel
theorem dX5_tell_116 : decode cX5_tell 116 = .ok (.ireturn, 1) := by decide +kernel
theorem dX5_tell_117 : decode cX5_tell 117 = .ok (.aload_n 0, 1) := by decide +kernel
theorem dX5_tell_118 : decode cX5_tell 118 = .ok (.getfield 16, 3) := by decide +kernel
theorem dX5_tell_121 : decode cX5_tell 121 = .ok (.iload_n 2, 1) := by decide +kernel
theorem dX5_tell_122 : decode cX5_tell 122 = .ok (.bipush 10, 2) := by decide +kernel
theorem dX5_tell_124 : decode cX5_tell 124 = .ok (.iload_n 3, 1) := by decide +kernel
theorem dX5_tell_125 : decode cX5_tell 125 = .ok (.imul, 1) := by decide +kernel
theorem dX5_tell_126 : decode cX5_tell 126 = .ok (.aload_n 0, 1) := by decide +kernel
theorem dX5_tell_127 : decode cX5_tell 127 = .ok (.getfield 32, 3) := by decide +kernel
theorem dX5_tell_130 : decode cX5_tell 130 = .ok (.iload_n 1, 1) := by decide +kernel
theorem dX5_tell_131 : decode cX5_tell 131 = .ok (.iconst 3, 1) := by decide +kernel
theorem dX5_tell_132 : decode cX5_tell 132 = .ok (.iadd, 1) := by decide +kernel
theorem dX5_tell_133 : decode cX5_tell 133 = .ok (.invokevirtual 253, 3) := by decide +kernel
theorem dX5_tell_136 : decode cX5_tell 136 = .ok (.iadd, 1) := by decide +kernel
theorem dX5_tell_137 : decode cX5_tell 137 = .ok (.invokevirtual 116, 3) := by decide +kernel
theorem dX5_tell_140 : decode cX5_tell 140 = .ok (.ireturn, 1) := by decide +kernel
theorem dX5_tell_141 : decode cX5_tell 141 = .ok (.aload_n 0, 1) := by decide +kernel
theorem dX5_tell_142 : decode cX5_tell 142 = .ok (.getfield 16, 3) := by decide +kernel
theorem dX5_tell_145 : decode cX5_tell 145 = .ok (.invokevirtual 122, 3) := by decide +kernel
theorem dX5_tell_148 : decode cX5_tell 148 = .ok (.iconst 1, 1) := by decide +kernel
theorem dX5_tell_149 : decode cX5_tell 149 = .ok (.ireturn, 1) := by decide +kernel
theorem dX5_tell_150 : decode cX5_tell 150 = .ok (.aload_n 0, 1) := by decide +kernel
theorem dX5_tell_151 : decode cX5_tell 151 = .ok (.getfield 16, 3) := by decide +kernel
theorem dX5_tell_154 : decode cX5_tell 154 = .ok (.bipush 10, 2) := by decide +kernel
theorem dX5_tell_156 : decode cX5_tell 156 = .ok (.iload_n 2, 1) := by decide +kernel
theorem dX5_tell_157 : decode cX5_tell 157 = .ok (.imul, 1) := by decide +kernel
theorem dX5_tell_158 : decode cX5_tell 158 = .ok (.iload_n 3, 1) := by decide +kernel
theorem dX5_tell_159 : decode cX5_tell 159 = .ok (.iadd, 1) := by decide +kernel
theorem dX5_tell_160 : decode cX5_tell 160 = .ok (.invokevirtual 125, 3) := by decide +kernel
theorem dX5_tell_163 : decode cX5_tell 163 = .ok (.ifCond .ne 5, 3) := by decide +kernel
theorem dX5_tell_166 : decode cX5_tell 166 = .ok (.iconst 0, 1) := by decide +kernel
theorem dX5_tell_167 : decode cX5_tell 167 = .ok (.ireturn, 1) := by decide +kernel
theorem dX5_tell_168 : decode cX5_tell 168 = .ok (.aload_n 0, 1) := by decide +kernel
theorem dX5_tell_169 : decode cX5_tell 169 = .ok (.getfield 16, 3) := by decide +kernel
theorem dX5_tell_172 : decode cX5_tell 172 = .ok (.bipush 10, 2) := by decide +kernel
theorem dX5_tell_174 : decode cX5_tell 174 = .ok (.iload_n 2, 1) := by decide +kernel
theorem dX5_tell_175 : decode cX5_tell 175 = .ok (.imul, 1) := by decide +kernel
theorem dX5_tell_176 : decode cX5_tell 176 = .ok (.iload_n 3, 1) := by decide +kernel
theorem dX5_tell_177 : decode cX5_tell 177 = .ok (.iadd, 1) := by decide +kernel
theorem dX5_tell_178 : decode cX5_tell 178 = .ok (.invokevirtual 128, 3) := by decide +kernel
theorem dX5_tell_181 : decode cX5_tell 181 = .ok (.iconst 1, 1) := by decide +kernel
theorem dX5_tell_182 : decode cX5_tell 182 = .ok (.ireturn, 1) := by decide +kernel
theorem dX5_tell_183 : decode cX5_tell 183 = .ok (.iconst 0, 1) := by decide +kernel
theorem dX5_tell_184 : decode cX5_tell 184 = .ok (.ireturn, 1) := by decide +kernel
theorem dX5_firstDrip_0 : decode cX5_firstDrip 0 = .ok (.aload_n 0, 1) := by decide +kernel
theorem dX5_firstDrip_1 : decode cX5_firstDrip 1 = .ok (.invokevirtual 137, 3) := by decide +kernel
theorem dX5_firstDrip_4 : decode cX5_firstDrip 4 = .ok (.iconst 0, 1) := by decide +kernel
theorem dX5_firstDrip_5 : decode cX5_firstDrip 5 = .ok (.istore_n 1, 1) := by decide +kernel
theorem dX5_firstDrip_6 : decode cX5_firstDrip 6 = .ok (.iload_n 1, 1) := by decide +kernel
theorem dX5_firstDrip_7 : decode cX5_firstDrip 7 = .ok (.bipush 60, 2) := by decide +kernel
theorem dX5_firstDrip_9 : decode cX5_firstDrip 9 = .ok (.if_icmp .gt 36, 3) := by decide +kernel
theorem dX5_firstDrip_12 : decode cX5_firstDrip 12 = .ok (.aload_n 0, 1) := by decide +kernel
theorem dX5_firstDrip_13 : decode cX5_firstDrip 13 = .ok (.getfield 16, 3) := by decide +kernel
theorem dX5_firstDrip_16 : decode cX5_firstDrip 16 = .ok (.invokevirtual 119, 3) := by decide +kernel
theorem dX5_firstDrip_19 : decode cX5_firstDrip 19 = .ok (.aload_n 0, 1) := by decide +kernel
theorem dX5_firstDrip_20 : decode cX5_firstDrip 20 = .ok (.getfield 10, 3) := by decide +kernel
theorem dX5_firstDrip_23 : decode cX5_firstDrip 23 = .ok (.invokevirtual 119, 3) := by decide +kernel
theorem dX5_firstDrip_26 : decode cX5_firstDrip 26 = .ok (.if_icmp .le 5, 3) := by decide +kernel
theorem dX5_firstDrip_29 : decode cX5_firstDrip 29 = .ok (.iload_n 1, 1) := by decide +kernel
theorem dX5_firstDrip_30 : decode cX5_firstDrip 30 = .ok (.ireturn, 1) := by decide +kernel
theorem dX5_firstDrip_31 : decode cX5_firstDrip 31 = .ok (.aload_n 0, 1) := by decide +kernel
theorem dX5_firstDrip_32 : decode cX5_firstDrip 32 = .ok (.getfield 16, 3) := by decide +kernel
theorem dX5_firstDrip_35 : decode cX5_firstDrip 35 = .ok (.invokevirtual 152, 3) := by decide +kernel
theorem dX5_firstDrip_38 : decode cX5_firstDrip 38 = .ok (.pop, 1) := by decide +kernel
theorem dX5_firstDrip_39 : decode cX5_firstDrip 39 = .ok (.iinc 1 1, 3) := by decide +kernel
theorem dX5_firstDrip_42 : decode cX5_firstDrip 42 = .ok (.goto (-36), 3) := by decide +kernel
theorem dX5_firstDrip_45 : decode cX5_firstDrip 45 = .ok (.bipush (-9), 2) := by decide +kernel
theorem dX5_firstDrip_47 : decode cX5_firstDrip 47 = .ok (.ireturn, 1) := by decide +kernel
theorem dX5_driedAfter_0 : decode cX5_driedAfter 0 = .ok (.aload_n 0, 1) := by decide +kernel
theorem dX5_driedAfter_1 : decode cX5_driedAfter 1 = .ok (.invokevirtual 137, 3) := by decide +kernel
theorem dX5_driedAfter_4 : decode cX5_driedAfter 4 = .ok (.iconst 0, 1) := by decide +kernel
theorem dX5_driedAfter_5 : decode cX5_driedAfter 5 = .ok (.istore_n 1, 1) := by decide +kernel
theorem dX5_driedAfter_6 : decode cX5_driedAfter 6 = .ok (.iload_n 1, 1) := by decide +kernel
theorem dX5_driedAfter_7 : decode cX5_driedAfter 7 = .ok (.bipush 60, 2) := by decide +kernel
theorem dX5_driedAfter_9 : decode cX5_driedAfter 9 = .ok (.if_icmp .gt 29, 3) := by decide +kernel
theorem dX5_driedAfter_12 : decode cX5_driedAfter 12 = .ok (.aload_n 0, 1) := by decide +kernel
theorem dX5_driedAfter_13 : decode cX5_driedAfter 13 = .ok (.getfield 16, 3) := by decide +kernel
theorem dX5_driedAfter_16 : decode cX5_driedAfter 16 = .ok (.invokevirtual 140, 3) := by decide +kernel
theorem dX5_driedAfter_19 : decode cX5_driedAfter 19 = .ok (.ifCond .ne 5, 3) := by decide +kernel
theorem dX5_driedAfter_22 : decode cX5_driedAfter 22 = .ok (.iload_n 1, 1) := by decide +kernel
theorem dX5_driedAfter_23 : decode cX5_driedAfter 23 = .ok (.ireturn, 1) := by decide +kernel
theorem dX5_driedAfter_24 : decode cX5_driedAfter 24 = .ok (.aload_n 0, 1) := by decide +kernel
theorem dX5_driedAfter_25 : decode cX5_driedAfter 25 = .ok (.getfield 16, 3) := by decide +kernel
theorem dX5_driedAfter_28 : decode cX5_driedAfter 28 = .ok (.invokevirtual 152, 3) := by decide +kernel
theorem dX5_driedAfter_31 : decode cX5_driedAfter 31 = .ok (.pop, 1) := by decide +kernel
theorem dX5_driedAfter_32 : decode cX5_driedAfter 32 = .ok (.iinc 1 1, 3) := by decide +kernel
theorem dX5_driedAfter_35 : decode cX5_driedAfter 35 = .ok (.goto (-29), 3) := by decide +kernel
theorem dX5_driedAfter_38 : decode cX5_driedAfter 38 = .ok (.bipush (-9), 2) := by decide +kernel
theorem dX5_driedAfter_40 : decode cX5_driedAfter 40 = .ok (.ireturn, 1) := by decide +kernel
theorem dX5_settledAfter_0 : decode cX5_settledAfter 0 = .ok (.aload_n 0, 1) := by decide +kernel
theorem dX5_settledAfter_1 : decode cX5_settledAfter 1 = .ok (.invokevirtual 137, 3) := by decide +kernel
theorem dX5_settledAfter_4 : decode cX5_settledAfter 4 = .ok (.iconst 0, 1) := by decide +kernel
theorem dX5_settledAfter_5 : decode cX5_settledAfter 5 = .ok (.istore_n 1, 1) := by decide +kernel
theorem dX5_settledAfter_6 : decode cX5_settledAfter 6 = .ok (.iload_n 1, 1) := by decide +kernel
theorem dX5_settledAfter_7 : decode cX5_settledAfter 7 = .ok (.bipush 50, 2) := by decide +kernel
theorem dX5_settledAfter_9 : decode cX5_settledAfter 9 = .ok (.if_icmp .gt 21, 3) := by decide +kernel
theorem dX5_settledAfter_12 : decode cX5_settledAfter 12 = .ok (.aload_n 0, 1) := by decide +kernel
theorem dX5_settledAfter_13 : decode cX5_settledAfter 13 = .ok (.getfield 16, 3) := by decide +kernel
theorem dX5_settledAfter_16 : decode cX5_settledAfter 16 = .ok (.invokevirtual 152, 3) := by decide +kernel
theorem dX5_settledAfter_19 : decode cX5_settledAfter 19 = .ok (.ifCond .ne 5, 3) := by decide +kernel
theorem dX5_settledAfter_22 : decode cX5_settledAfter 22 = .ok (.iload_n 1, 1) := by decide +kernel
theorem dX5_settledAfter_23 : decode cX5_settledAfter 23 = .ok (.ireturn, 1) := by decide +kernel
theorem dX5_settledAfter_24 : decode cX5_settledAfter 24 = .ok (.iinc 1 1, 3) := by decide +kernel
theorem dX5_settledAfter_27 : decode cX5_settledAfter 27 = .ok (.goto (-21), 3) := by decide +kernel
theorem dX5_settledAfter_30 : decode cX5_settledAfter 30 = .ok (.bipush (-9), 2) := by decide +kernel
theorem dX5_settledAfter_32 : decode cX5_settledAfter 32 = .ok (.ireturn, 1) := by decide +kernel
theorem dX5_rowTellsCup_0 : decode cX5_rowTellsCup 0 = .ok (.iconst 0, 1) := by decide +kernel
theorem dX5_rowTellsCup_1 : decode cX5_rowTellsCup 1 = .ok (.istore_n 1, 1) := by decide +kernel
theorem dX5_rowTellsCup_2 : decode cX5_rowTellsCup 2 = .ok (.iload_n 1, 1) := by decide +kernel
theorem dX5_rowTellsCup_3 : decode cX5_rowTellsCup 3 = .ok (.aload_n 0, 1) := by decide +kernel
theorem dX5_rowTellsCup_4 : decode cX5_rowTellsCup 4 = .ok (.getfield 39, 3) := by decide +kernel
theorem dX5_rowTellsCup_7 : decode cX5_rowTellsCup 7 = .ok (.invokevirtual 224, 3) := by decide +kernel
theorem dX5_rowTellsCup_10 : decode cX5_rowTellsCup 10 = .ok (.if_icmp .ge 37, 3) := by decide +kernel
theorem dX5_rowTellsCup_13 : decode cX5_rowTellsCup 13 = .ok (.aload_n 0, 1) := by decide +kernel
theorem dX5_rowTellsCup_14 : decode cX5_rowTellsCup 14 = .ok (.getfield 39, 3) := by decide +kernel
theorem dX5_rowTellsCup_17 : decode cX5_rowTellsCup 17 = .ok (.iload_n 1, 1) := by decide +kernel
theorem dX5_rowTellsCup_18 : decode cX5_rowTellsCup 18 = .ok (.invokevirtual 225, 3) := by decide +kernel
theorem dX5_rowTellsCup_21 : decode cX5_rowTellsCup 21 = .ok (.aload_n 0, 1) := by decide +kernel
theorem dX5_rowTellsCup_22 : decode cX5_rowTellsCup 22 = .ok (.getfield 16, 3) := by decide +kernel
theorem dX5_rowTellsCup_25 : decode cX5_rowTellsCup 25 = .ok (.invokevirtual 119, 3) := by decide +kernel
theorem dX5_rowTellsCup_28 : decode cX5_rowTellsCup 28 = .ok (.if_icmp .eq 5, 3) := by decide +kernel
theorem dX5_rowTellsCup_31 : decode cX5_rowTellsCup 31 = .ok (.iconst 0, 1) := by decide +kernel
theorem dX5_rowTellsCup_32 : decode cX5_rowTellsCup 32 = .ok (.ireturn, 1) := by decide +kernel
theorem dX5_rowTellsCup_33 : decode cX5_rowTellsCup 33 = .ok (.aload_n 0, 1) := by decide +kernel
theorem dX5_rowTellsCup_34 : decode cX5_rowTellsCup 34 = .ok (.getfield 16, 3) := by decide +kernel
theorem dX5_rowTellsCup_37 : decode cX5_rowTellsCup 37 = .ok (.invokevirtual 152, 3) := by decide +kernel
theorem dX5_rowTellsCup_40 : decode cX5_rowTellsCup 40 = .ok (.pop, 1) := by decide +kernel
theorem dX5_rowTellsCup_41 : decode cX5_rowTellsCup 41 = .ok (.iinc 1 1, 3) := by decide +kernel
theorem dX5_rowTellsCup_44 : decode cX5_rowTellsCup 44 = .ok (.goto (-42), 3) := by decide +kernel
theorem dX5_rowTellsCup_47 : decode cX5_rowTellsCup 47 = .ok (.iconst 1, 1) := by decide +kernel
theorem dX5_rowTellsCup_48 : decode cX5_rowTellsCup 48 = .ok (.ireturn, 1) := by decide +kernel
theorem dX5_kindsTold_0 : decode cX5_kindsTold 0 = .ok (.iconst 0, 1) := by decide +kernel
theorem dX5_kindsTold_1 : decode cX5_kindsTold 1 = .ok (.istore_n 2, 1) := by decide +kernel
theorem dX5_kindsTold_2 : decode cX5_kindsTold 2 = .ok (.iconst 0, 1) := by decide +kernel
theorem dX5_kindsTold_3 : decode cX5_kindsTold 3 = .ok (.istore_n 3, 1) := by decide +kernel
theorem dX5_kindsTold_4 : decode cX5_kindsTold 4 = .ok (.iload_n 3, 1) := by decide +kernel
theorem dX5_kindsTold_5 : decode cX5_kindsTold 5 = .ok (.iconst 5, 1) := by decide +kernel
theorem dX5_kindsTold_6 : decode cX5_kindsTold 6 = .ok (.if_icmp .gt 43, 3) := by decide +kernel
theorem dX5_kindsTold_9 : decode cX5_kindsTold 9 = .ok (.aload_n 0, 1) := by decide +kernel
theorem dX5_kindsTold_10 : decode cX5_kindsTold 10 = .ok (.invokevirtual 137, 3) := by decide +kernel
theorem dX5_kindsTold_13 : decode cX5_kindsTold 13 = .ok (.aload_n 0, 1) := by decide +kernel
theorem dX5_kindsTold_14 : decode cX5_kindsTold 14 = .ok (.getfield 16, 3) := by decide +kernel
theorem dX5_kindsTold_17 : decode cX5_kindsTold 17 = .ok (.iload_n 1, 1) := by decide +kernel
theorem dX5_kindsTold_18 : decode cX5_kindsTold 18 = .ok (.iload_n 3, 1) := by decide +kernel
theorem dX5_kindsTold_19 : decode cX5_kindsTold 19 = .ok (.aload_n 0, 1) := by decide +kernel
theorem dX5_kindsTold_20 : decode cX5_kindsTold 20 = .ok (.getfield 10, 3) := by decide +kernel
theorem dX5_kindsTold_23 : decode cX5_kindsTold 23 = .ok (.iload_n 1, 1) := by decide +kernel
theorem dX5_kindsTold_24 : decode cX5_kindsTold 24 = .ok (.invokevirtual 78, 3) := by decide +kernel
theorem dX5_kindsTold_27 : decode cX5_kindsTold 27 = .ok (.invokevirtual 219, 3) := by decide +kernel
theorem dX5_kindsTold_30 : decode cX5_kindsTold 30 = .ok (.aload_n 0, 1) := by decide +kernel
theorem dX5_kindsTold_31 : decode cX5_kindsTold 31 = .ok (.invokevirtual 176, 3) := by decide +kernel
theorem dX5_kindsTold_34 : decode cX5_kindsTold 34 = .ok (.ifCond .eq 9, 3) := by decide +kernel
theorem dX5_kindsTold_37 : decode cX5_kindsTold 37 = .ok (.iload_n 2, 1) := by decide +kernel
theorem dX5_kindsTold_38 : decode cX5_kindsTold 38 = .ok (.iconst 1, 1) := by decide +kernel
theorem dX5_kindsTold_39 : decode cX5_kindsTold 39 = .ok (.iload_n 3, 1) := by decide +kernel
theorem dX5_kindsTold_40 : decode cX5_kindsTold 40 = .ok (.ishl, 1) := by decide +kernel
theorem dX5_kindsTold_41 : decode cX5_kindsTold 41 = .ok (.ior, 1) := by decide +kernel
theorem dX5_kindsTold_42 : decode cX5_kindsTold 42 = .ok (.istore_n 2, 1) := by decide +kernel
theorem dX5_kindsTold_43 : decode cX5_kindsTold 43 = .ok (.iinc 3 1, 3) := by decide +kernel
theorem dX5_kindsTold_46 : decode cX5_kindsTold 46 = .ok (.goto (-42), 3) := by decide +kernel
theorem dX5_kindsTold_49 : decode cX5_kindsTold 49 = .ok (.iload_n 2, 1) := by decide +kernel
theorem dX5_kindsTold_50 : decode cX5_kindsTold 50 = .ok (.ireturn, 1) := by decide +kernel
theorem dX5_figuresTold_0 : decode cX5_figuresTold 0 = .ok (.iconst 0, 1) := by decide +kernel
theorem dX5_figuresTold_1 : decode cX5_figuresTold 1 = .ok (.istore_n 2, 1) := by decide +kernel
theorem dX5_figuresTold_2 : decode cX5_figuresTold 2 = .ok (.iconst 0, 1) := by decide +kernel
theorem dX5_figuresTold_3 : decode cX5_figuresTold 3 = .ok (.istore_n 3, 1) := by decide +kernel
theorem dX5_figuresTold_4 : decode cX5_figuresTold 4 = .ok (.iload_n 3, 1) := by decide +kernel
theorem dX5_figuresTold_5 : decode cX5_figuresTold 5 = .ok (.bipush 9, 2) := by decide +kernel
theorem dX5_figuresTold_7 : decode cX5_figuresTold 7 = .ok (.if_icmp .gt 43, 3) := by decide +kernel
theorem dX5_figuresTold_10 : decode cX5_figuresTold 10 = .ok (.aload_n 0, 1) := by decide +kernel
theorem dX5_figuresTold_11 : decode cX5_figuresTold 11 = .ok (.invokevirtual 137, 3) := by decide +kernel
theorem dX5_figuresTold_14 : decode cX5_figuresTold 14 = .ok (.aload_n 0, 1) := by decide +kernel
theorem dX5_figuresTold_15 : decode cX5_figuresTold 15 = .ok (.getfield 16, 3) := by decide +kernel
theorem dX5_figuresTold_18 : decode cX5_figuresTold 18 = .ok (.iload_n 1, 1) := by decide +kernel
theorem dX5_figuresTold_19 : decode cX5_figuresTold 19 = .ok (.aload_n 0, 1) := by decide +kernel
theorem dX5_figuresTold_20 : decode cX5_figuresTold 20 = .ok (.getfield 10, 3) := by decide +kernel
theorem dX5_figuresTold_23 : decode cX5_figuresTold 23 = .ok (.iload_n 1, 1) := by decide +kernel
theorem dX5_figuresTold_24 : decode cX5_figuresTold 24 = .ok (.invokevirtual 75, 3) := by decide +kernel
theorem dX5_figuresTold_27 : decode cX5_figuresTold 27 = .ok (.iload_n 3, 1) := by decide +kernel
theorem dX5_figuresTold_28 : decode cX5_figuresTold 28 = .ok (.invokevirtual 219, 3) := by decide +kernel
theorem dX5_figuresTold_31 : decode cX5_figuresTold 31 = .ok (.aload_n 0, 1) := by decide +kernel
theorem dX5_figuresTold_32 : decode cX5_figuresTold 32 = .ok (.invokevirtual 176, 3) := by decide +kernel
theorem dX5_figuresTold_35 : decode cX5_figuresTold 35 = .ok (.ifCond .eq 9, 3) := by decide +kernel
theorem dX5_figuresTold_38 : decode cX5_figuresTold 38 = .ok (.iload_n 2, 1) := by decide +kernel
theorem dX5_figuresTold_39 : decode cX5_figuresTold 39 = .ok (.iconst 1, 1) := by decide +kernel
theorem dX5_figuresTold_40 : decode cX5_figuresTold 40 = .ok (.iload_n 3, 1) := by decide +kernel
theorem dX5_figuresTold_41 : decode cX5_figuresTold 41 = .ok (.ishl, 1) := by decide +kernel
theorem dX5_figuresTold_42 : decode cX5_figuresTold 42 = .ok (.ior, 1) := by decide +kernel
theorem dX5_figuresTold_43 : decode cX5_figuresTold 43 = .ok (.istore_n 2, 1) := by decide +kernel
theorem dX5_figuresTold_44 : decode cX5_figuresTold 44 = .ok (.iinc 3 1, 3) := by decide +kernel
theorem dX5_figuresTold_47 : decode cX5_figuresTold 47 = .ok (.goto (-43), 3) := by decide +kernel
theorem dX5_figuresTold_50 : decode cX5_figuresTold 50 = .ok (.iload_n 2, 1) := by decide +kernel
theorem dX5_figuresTold_51 : decode cX5_figuresTold 51 = .ok (.ireturn, 1) := by decide +kernel
theorem dX5_isContent_0 : decode cX5_isContent 0 = .ok (.aload_n 0, 1) := by decide +kernel
theorem dX5_isContent_1 : decode cX5_isContent 1 = .ok (.iload_n 1, 1) := by decide +kernel
theorem dX5_isContent_2 : decode cX5_isContent 2 = .ok (.iload_n 2, 1) := by decide +kernel
theorem dX5_isContent_3 : decode cX5_isContent 3 = .ok (.iload_n 3, 1) := by decide +kernel
theorem dX5_isContent_4 : decode cX5_isContent 4 = .ok (.iload 4, 2) := by decide +kernel
theorem dX5_isContent_6 : decode cX5_isContent 6 = .ok (.iload 5, 2) := by decide +kernel
theorem dX5_isContent_8 : decode cX5_isContent 8 = .ok (.invokevirtual 257, 3) := by decide +kernel
theorem dX5_isContent_11 : decode cX5_isContent 11 = .ok (.istore 6, 2) := by decide +kernel
theorem dX5_isContent_13 : decode cX5_isContent 13 = .ok (.iload 6, 2) := by decide +kernel
theorem dX5_isContent_15 : decode cX5_isContent 15 = .ok (.aload_n 0, 1) := by decide +kernel
theorem dX5_isContent_16 : decode cX5_isContent 16 = .ok (.iload_n 1, 1) := by decide +kernel
theorem dX5_isContent_17 : decode cX5_isContent 17 = .ok (.iconst 1, 1) := by decide +kernel
theorem dX5_isContent_18 : decode cX5_isContent 18 = .ok (.iload_n 2, 1) := by decide +kernel
theorem dX5_isContent_19 : decode cX5_isContent 19 = .ok (.isub, 1) := by decide +kernel
theorem dX5_isContent_20 : decode cX5_isContent 20 = .ok (.iload_n 3, 1) := by decide +kernel
theorem dX5_isContent_21 : decode cX5_isContent 21 = .ok (.iload 4, 2) := by decide +kernel
theorem dX5_isContent_23 : decode cX5_isContent 23 = .ok (.iload 5, 2) := by decide +kernel
theorem dX5_isContent_25 : decode cX5_isContent 25 = .ok (.invokevirtual 257, 3) := by decide +kernel
theorem dX5_isContent_28 : decode cX5_isContent 28 = .ok (.if_icmp .lt 7, 3) := by decide +kernel
theorem dX5_isContent_31 : decode cX5_isContent 31 = .ok (.iconst 1, 1) := by decide +kernel
theorem dX5_isContent_32 : decode cX5_isContent 32 = .ok (.goto 4, 3) := by decide +kernel
theorem dX5_isContent_35 : decode cX5_isContent 35 = .ok (.iconst 0, 1) := by decide +kernel
theorem dX5_isContent_36 : decode cX5_isContent 36 = .ok (.ireturn, 1) := by decide +kernel
theorem dX5_gain_0 : decode cX5_gain 0 = .ok (.aload_n 0, 1) := by decide +kernel
theorem dX5_gain_1 : decode cX5_gain 1 = .ok (.invokevirtual 137, 3) := by decide +kernel
theorem dX5_gain_4 : decode cX5_gain 4 = .ok (.iload_n 2, 1) := by decide +kernel
theorem dX5_gain_5 : decode cX5_gain 5 = .ok (.iconst 1, 1) := by decide +kernel
theorem dX5_gain_6 : decode cX5_gain 6 = .ok (.if_icmp .ne 11, 3) := by decide +kernel
theorem dX5_gain_9 : decode cX5_gain 9 = .ok (.aload_n 0, 1) := by decide +kernel
theorem dX5_gain_10 : decode cX5_gain 10 = .ok (.getfield 16, 3) := by decide +kernel
theorem dX5_gain_13 : decode cX5_gain 13 = .ok (.iload_n 1, 1) := by decide +kernel
theorem dX5_gain_14 : decode cX5_gain 14 = .ok (.invokevirtual 170, 3) := by decide +kernel
theorem dX5_gain_17 : decode cX5_gain 17 = .ok (.iload 4, 2) := by decide +kernel
theorem dX5_gain_19 : decode cX5_gain 19 = .ok (.iconst 1, 1) := by decide +kernel
theorem dX5_gain_20 : decode cX5_gain 20 = .ok (.if_icmp .ne 11, 3) := by decide +kernel
theorem dX5_gain_23 : decode cX5_gain 23 = .ok (.aload_n 0, 1) := by decide +kernel
theorem dX5_gain_24 : decode cX5_gain 24 = .ok (.getfield 16, 3) := by decide +kernel
theorem dX5_gain_27 : decode cX5_gain 27 = .ok (.iload_n 3, 1) := by decide +kernel
theorem dX5_gain_28 : decode cX5_gain 28 = .ok (.invokevirtual 170, 3) := by decide +kernel
theorem dX5_gain_31 : decode cX5_gain 31 = .ok (.aload_n 0, 1) := by decide +kernel
theorem dX5_gain_32 : decode cX5_gain 32 = .ok (.getfield 16, 3) := by decide +kernel
theorem dX5_gain_35 : decode cX5_gain 35 = .ok (.iload 5, 2) := by decide +kernel
theorem dX5_gain_37 : decode cX5_gain 37 = .ok (.invokevirtual 128, 3) := by decide +kernel
theorem dX5_gain_40 : decode cX5_gain 40 = .ok (.aload_n 0, 1) := by decide +kernel
theorem dX5_gain_41 : decode cX5_gain 41 = .ok (.getfield 16, 3) := by decide +kernel
theorem dX5_gain_44 : decode cX5_gain 44 = .ok (.iload_n 1, 1) := by decide +kernel
theorem dX5_gain_45 : decode cX5_gain 45 = .ok (.invokevirtual 81, 3) := by decide +kernel
theorem dX5_gain_48 : decode cX5_gain 48 = .ok (.iconst 3, 1) := by decide +kernel
theorem dX5_gain_49 : decode cX5_gain 49 = .ok (.iload_n 2, 1) := by decide +kernel
theorem dX5_gain_50 : decode cX5_gain 50 = .ok (.imul, 1) := by decide +kernel
theorem dX5_gain_51 : decode cX5_gain 51 = .ok (.isub, 1) := by decide +kernel
theorem dX5_gain_52 : decode cX5_gain 52 = .ok (.ireturn, 1) := by decide +kernel
theorem dX5_houseHoldingMost_0 : decode cX5_houseHoldingMost 0 = .ok (.bipush (-9), 2) := by decide +kernel
theorem dX5_houseHoldingMost_2 : decode cX5_houseHoldingMost 2 = .ok (.istore_n 1, 1) := by decide +kernel
theorem dX5_houseHoldingMost_3 : decode cX5_houseHoldingMost 3 = .ok (.iconst (-1), 1) := by decide +kernel
theorem dX5_houseHoldingMost_4 : decode cX5_houseHoldingMost 4 = .ok (.istore_n 2, 1) := by decide +kernel
theorem dX5_houseHoldingMost_5 : decode cX5_houseHoldingMost 5 = .ok (.iconst 0, 1) := by decide +kernel
theorem dX5_houseHoldingMost_6 : decode cX5_houseHoldingMost 6 = .ok (.istore_n 3, 1) := by decide +kernel
theorem dX5_houseHoldingMost_7 : decode cX5_houseHoldingMost 7 = .ok (.iload_n 3, 1) := by decide +kernel
theorem dX5_houseHoldingMost_8 : decode cX5_houseHoldingMost 8 = .ok (.aload_n 0, 1) := by decide +kernel
theorem dX5_houseHoldingMost_9 : decode cX5_houseHoldingMost 9 = .ok (.getfield 10, 3) := by decide +kernel
theorem dX5_houseHoldingMost_12 : decode cX5_houseHoldingMost 12 = .ok (.invokevirtual 103, 3) := by decide +kernel
theorem dX5_houseHoldingMost_15 : decode cX5_houseHoldingMost 15 = .ok (.if_icmp .ge 32, 3) := by decide +kernel
theorem dX5_houseHoldingMost_18 : decode cX5_houseHoldingMost 18 = .ok (.aload_n 0, 1) := by decide +kernel
theorem dX5_houseHoldingMost_19 : decode cX5_houseHoldingMost 19 = .ok (.getfield 10, 3) := by decide +kernel
theorem dX5_houseHoldingMost_22 : decode cX5_houseHoldingMost 22 = .ok (.iload_n 3, 1) := by decide +kernel
theorem dX5_houseHoldingMost_23 : decode cX5_houseHoldingMost 23 = .ok (.invokevirtual 81, 3) := by decide +kernel
theorem dX5_houseHoldingMost_26 : decode cX5_houseHoldingMost 26 = .ok (.iload_n 2, 1) := by decide +kernel
theorem dX5_houseHoldingMost_27 : decode cX5_houseHoldingMost 27 = .ok (.if_icmp .le 14, 3) := by decide +kernel
theorem dX5_houseHoldingMost_30 : decode cX5_houseHoldingMost 30 = .ok (.aload_n 0, 1) := by decide +kernel
theorem dX5_houseHoldingMost_31 : decode cX5_houseHoldingMost 31 = .ok (.getfield 10, 3) := by decide +kernel
theorem dX5_houseHoldingMost_34 : decode cX5_houseHoldingMost 34 = .ok (.iload_n 3, 1) := by decide +kernel
theorem dX5_houseHoldingMost_35 : decode cX5_houseHoldingMost 35 = .ok (.invokevirtual 81, 3) := by decide +kernel
theorem dX5_houseHoldingMost_38 : decode cX5_houseHoldingMost 38 = .ok (.istore_n 2, 1) := by decide +kernel
theorem dX5_houseHoldingMost_39 : decode cX5_houseHoldingMost 39 = .ok (.iload_n 3, 1) := by decide +kernel
theorem dX5_houseHoldingMost_40 : decode cX5_houseHoldingMost 40 = .ok (.istore_n 1, 1) := by decide +kernel
theorem dX5_houseHoldingMost_41 : decode cX5_houseHoldingMost 41 = .ok (.iinc 3 1, 3) := by decide +kernel
theorem dX5_houseHoldingMost_44 : decode cX5_houseHoldingMost 44 = .ok (.goto (-37), 3) := by decide +kernel
theorem dX5_houseHoldingMost_47 : decode cX5_houseHoldingMost 47 = .ok (.iload_n 1, 1) := by decide +kernel
theorem dX5_houseHoldingMost_48 : decode cX5_houseHoldingMost 48 = .ok (.ireturn, 1) := by decide +kernel
theorem dX5_housesAtCup_0 : decode cX5_housesAtCup 0 = .ok (.iconst 0, 1) := by decide +kernel
theorem dX5_housesAtCup_1 : decode cX5_housesAtCup 1 = .ok (.istore_n 1, 1) := by decide +kernel
theorem dX5_housesAtCup_2 : decode cX5_housesAtCup 2 = .ok (.iconst 0, 1) := by decide +kernel
theorem dX5_housesAtCup_3 : decode cX5_housesAtCup 3 = .ok (.istore_n 2, 1) := by decide +kernel
theorem dX5_housesAtCup_4 : decode cX5_housesAtCup 4 = .ok (.iload_n 2, 1) := by decide +kernel
theorem dX5_housesAtCup_5 : decode cX5_housesAtCup 5 = .ok (.aload_n 0, 1) := by decide +kernel
theorem dX5_housesAtCup_6 : decode cX5_housesAtCup 6 = .ok (.getfield 10, 3) := by decide +kernel
theorem dX5_housesAtCup_9 : decode cX5_housesAtCup 9 = .ok (.invokevirtual 103, 3) := by decide +kernel
theorem dX5_housesAtCup_12 : decode cX5_housesAtCup 12 = .ok (.if_icmp .ge 33, 3) := by decide +kernel
theorem dX5_housesAtCup_15 : decode cX5_housesAtCup 15 = .ok (.aload_n 0, 1) := by decide +kernel
theorem dX5_housesAtCup_16 : decode cX5_housesAtCup 16 = .ok (.getfield 10, 3) := by decide +kernel
theorem dX5_housesAtCup_19 : decode cX5_housesAtCup 19 = .ok (.aload_n 0, 1) := by decide +kernel
theorem dX5_housesAtCup_20 : decode cX5_housesAtCup 20 = .ok (.getfield 10, 3) := by decide +kernel
theorem dX5_housesAtCup_23 : decode cX5_housesAtCup 23 = .ok (.iload_n 2, 1) := by decide +kernel
theorem dX5_housesAtCup_24 : decode cX5_housesAtCup 24 = .ok (.invokevirtual 84, 3) := by decide +kernel
theorem dX5_housesAtCup_27 : decode cX5_housesAtCup 27 = .ok (.invokevirtual 72, 3) := by decide +kernel
theorem dX5_housesAtCup_30 : decode cX5_housesAtCup 30 = .ok (.ifCond .ne 9, 3) := by decide +kernel
theorem dX5_housesAtCup_33 : decode cX5_housesAtCup 33 = .ok (.iload_n 1, 1) := by decide +kernel
theorem dX5_housesAtCup_34 : decode cX5_housesAtCup 34 = .ok (.iconst 1, 1) := by decide +kernel
theorem dX5_housesAtCup_35 : decode cX5_housesAtCup 35 = .ok (.iload_n 2, 1) := by decide +kernel
theorem dX5_housesAtCup_36 : decode cX5_housesAtCup 36 = .ok (.ishl, 1) := by decide +kernel
theorem dX5_housesAtCup_37 : decode cX5_housesAtCup 37 = .ok (.ior, 1) := by decide +kernel
theorem dX5_housesAtCup_38 : decode cX5_housesAtCup 38 = .ok (.istore_n 1, 1) := by decide +kernel
theorem dX5_housesAtCup_39 : decode cX5_housesAtCup 39 = .ok (.iinc 2 1, 3) := by decide +kernel
theorem dX5_housesAtCup_42 : decode cX5_housesAtCup 42 = .ok (.goto (-38), 3) := by decide +kernel
theorem dX5_housesAtCup_45 : decode cX5_housesAtCup 45 = .ok (.iload_n 1, 1) := by decide +kernel
theorem dX5_housesAtCup_46 : decode cX5_housesAtCup 46 = .ok (.ireturn, 1) := by decide +kernel
theorem dX5_longestWay_0 : decode cX5_longestWay 0 = .ok (.iconst 0, 1) := by decide +kernel
theorem dX5_longestWay_1 : decode cX5_longestWay 1 = .ok (.istore_n 1, 1) := by decide +kernel
theorem dX5_longestWay_2 : decode cX5_longestWay 2 = .ok (.iconst 0, 1) := by decide +kernel
theorem dX5_longestWay_3 : decode cX5_longestWay 3 = .ok (.istore_n 2, 1) := by decide +kernel
theorem dX5_longestWay_4 : decode cX5_longestWay 4 = .ok (.iload_n 2, 1) := by decide +kernel
theorem dX5_longestWay_5 : decode cX5_longestWay 5 = .ok (.aload_n 0, 1) := by decide +kernel
theorem dX5_longestWay_6 : decode cX5_longestWay 6 = .ok (.getfield 10, 3) := by decide +kernel
theorem dX5_longestWay_9 : decode cX5_longestWay 9 = .ok (.invokevirtual 103, 3) := by decide +kernel
theorem dX5_longestWay_12 : decode cX5_longestWay 12 = .ok (.if_icmp .ge 25, 3) := by decide +kernel
theorem dX5_longestWay_15 : decode cX5_longestWay 15 = .ok (.iload_n 1, 1) := by decide +kernel
theorem dX5_longestWay_16 : decode cX5_longestWay 16 = .ok (.aload_n 0, 1) := by decide +kernel
theorem dX5_longestWay_17 : decode cX5_longestWay 17 = .ok (.getfield 10, 3) := by decide +kernel
theorem dX5_longestWay_20 : decode cX5_longestWay 20 = .ok (.iload_n 2, 1) := by decide +kernel
theorem dX5_longestWay_21 : decode cX5_longestWay 21 = .ok (.invokevirtual 173, 3) := by decide +kernel
theorem dX5_longestWay_24 : decode cX5_longestWay 24 = .ok (.invokestatic 165, 3) := by decide +kernel
theorem dX5_longestWay_27 : decode cX5_longestWay 27 = .ok (.invokestatic 261, 3) := by decide +kernel
theorem dX5_longestWay_30 : decode cX5_longestWay 30 = .ok (.istore_n 1, 1) := by decide +kernel
theorem dX5_longestWay_31 : decode cX5_longestWay 31 = .ok (.iinc 2 1, 3) := by decide +kernel
theorem dX5_longestWay_34 : decode cX5_longestWay 34 = .ok (.goto (-30), 3) := by decide +kernel
theorem dX5_longestWay_37 : decode cX5_longestWay 37 = .ok (.iload_n 1, 1) := by decide +kernel
theorem dX5_longestWay_38 : decode cX5_longestWay 38 = .ok (.ireturn, 1) := by decide +kernel
theorem dX5_longestStill_0 : decode cX5_longestStill 0 = .ok (.aload_n 0, 1) := by decide +kernel
theorem dX5_longestStill_1 : decode cX5_longestStill 1 = .ok (.invokevirtual 137, 3) := by decide +kernel
theorem dX5_longestStill_4 : decode cX5_longestStill 4 = .ok (.iconst 0, 1) := by decide +kernel
theorem dX5_longestStill_5 : decode cX5_longestStill 5 = .ok (.istore_n 1, 1) := by decide +kernel
theorem dX5_longestStill_6 : decode cX5_longestStill 6 = .ok (.iconst 0, 1) := by decide +kernel
theorem dX5_longestStill_7 : decode cX5_longestStill 7 = .ok (.istore_n 2, 1) := by decide +kernel
theorem dX5_longestStill_8 : decode cX5_longestStill 8 = .ok (.iconst 0, 1) := by decide +kernel
theorem dX5_longestStill_9 : decode cX5_longestStill 9 = .ok (.istore_n 3, 1) := by decide +kernel
theorem dX5_longestStill_10 : decode cX5_longestStill 10 = .ok (.iload_n 3, 1) := by decide +kernel
theorem dX5_longestStill_11 : decode cX5_longestStill 11 = .ok (.bipush 60, 2) := by decide +kernel
theorem dX5_longestStill_13 : decode cX5_longestStill 13 = .ok (.if_icmp .ge 41, 3) := by decide +kernel
theorem dX5_longestStill_16 : decode cX5_longestStill 16 = .ok (.aload_n 0, 1) := by decide +kernel
theorem dX5_longestStill_17 : decode cX5_longestStill 17 = .ok (.getfield 16, 3) := by decide +kernel
theorem dX5_longestStill_20 : decode cX5_longestStill 20 = .ok (.invokevirtual 152, 3) := by decide +kernel
theorem dX5_longestStill_23 : decode cX5_longestStill 23 = .ok (.pop, 1) := by decide +kernel
theorem dX5_longestStill_24 : decode cX5_longestStill 24 = .ok (.aload_n 0, 1) := by decide +kernel
theorem dX5_longestStill_25 : decode cX5_longestStill 25 = .ok (.getfield 16, 3) := by decide +kernel
theorem dX5_longestStill_28 : decode cX5_longestStill 28 = .ok (.invokevirtual 267, 3) := by decide +kernel
theorem dX5_longestStill_31 : decode cX5_longestStill 31 = .ok (.ifCond .eq 7, 3) := by decide +kernel
theorem dX5_longestStill_34 : decode cX5_longestStill 34 = .ok (.iconst 0, 1) := by decide +kernel
theorem dX5_longestStill_35 : decode cX5_longestStill 35 = .ok (.goto 6, 3) := by decide +kernel
theorem dX5_longestStill_38 : decode cX5_longestStill 38 = .ok (.iload_n 2, 1) := by decide +kernel
theorem dX5_longestStill_39 : decode cX5_longestStill 39 = .ok (.iconst 1, 1) := by decide +kernel
theorem dX5_longestStill_40 : decode cX5_longestStill 40 = .ok (.iadd, 1) := by decide +kernel
theorem dX5_longestStill_41 : decode cX5_longestStill 41 = .ok (.istore_n 2, 1) := by decide +kernel
theorem dX5_longestStill_42 : decode cX5_longestStill 42 = .ok (.iload_n 1, 1) := by decide +kernel
theorem dX5_longestStill_43 : decode cX5_longestStill 43 = .ok (.iload_n 2, 1) := by decide +kernel
theorem dX5_longestStill_44 : decode cX5_longestStill 44 = .ok (.invokestatic 261, 3) := by decide +kernel
theorem dX5_longestStill_47 : decode cX5_longestStill 47 = .ok (.istore_n 1, 1) := by decide +kernel
theorem dX5_longestStill_48 : decode cX5_longestStill 48 = .ok (.iinc 3 1, 3) := by decide +kernel
theorem dX5_longestStill_51 : decode cX5_longestStill 51 = .ok (.goto (-41), 3) := by decide +kernel
theorem dX5_longestStill_54 : decode cX5_longestStill 54 = .ok (.iload_n 1, 1) := by decide +kernel
theorem dX5_longestStill_55 : decode cX5_longestStill 55 = .ok (.ireturn, 1) := by decide +kernel
theorem dX5_twins_0 : decode cX5_twins 0 = .ok (.iconst 0, 1) := by decide +kernel
theorem dX5_twins_1 : decode cX5_twins 1 = .ok (.istore_n 1, 1) := by decide +kernel
theorem dX5_twins_2 : decode cX5_twins 2 = .ok (.iconst 0, 1) := by decide +kernel
theorem dX5_twins_3 : decode cX5_twins 3 = .ok (.istore_n 2, 1) := by decide +kernel
theorem dX5_twins_4 : decode cX5_twins 4 = .ok (.iload_n 2, 1) := by decide +kernel
theorem dX5_twins_5 : decode cX5_twins 5 = .ok (.aload_n 0, 1) := by decide +kernel
theorem dX5_twins_6 : decode cX5_twins 6 = .ok (.getfield 10, 3) := by decide +kernel
theorem dX5_twins_9 : decode cX5_twins 9 = .ok (.invokevirtual 103, 3) := by decide +kernel
theorem dX5_twins_12 : decode cX5_twins 12 = .ok (.if_icmp .ge 52, 3) := by decide +kernel
theorem dX5_twins_15 : decode cX5_twins 15 = .ok (.iload_n 2, 1) := by decide +kernel
theorem dX5_twins_16 : decode cX5_twins 16 = .ok (.iconst 1, 1) := by decide +kernel
theorem dX5_twins_17 : decode cX5_twins 17 = .ok (.iadd, 1) := by decide +kernel
theorem dX5_twins_18 : decode cX5_twins 18 = .ok (.istore_n 3, 1) := by decide +kernel
theorem dX5_twins_19 : decode cX5_twins 19 = .ok (.iload_n 3, 1) := by decide +kernel
theorem dX5_twins_20 : decode cX5_twins 20 = .ok (.aload_n 0, 1) := by decide +kernel
theorem dX5_twins_21 : decode cX5_twins 21 = .ok (.getfield 10, 3) := by decide +kernel
theorem dX5_twins_24 : decode cX5_twins 24 = .ok (.invokevirtual 103, 3) := by decide +kernel
theorem dX5_twins_27 : decode cX5_twins 27 = .ok (.if_icmp .ge 31, 3) := by decide +kernel
theorem dX5_twins_30 : decode cX5_twins 30 = .ok (.aload_n 0, 1) := by decide +kernel
theorem dX5_twins_31 : decode cX5_twins 31 = .ok (.getfield 10, 3) := by decide +kernel
theorem dX5_twins_34 : decode cX5_twins 34 = .ok (.iload_n 2, 1) := by decide +kernel
theorem dX5_twins_35 : decode cX5_twins 35 = .ok (.invokevirtual 81, 3) := by decide +kernel
theorem dX5_twins_38 : decode cX5_twins 38 = .ok (.aload_n 0, 1) := by decide +kernel
theorem dX5_twins_39 : decode cX5_twins 39 = .ok (.getfield 10, 3) := by decide +kernel
theorem dX5_twins_42 : decode cX5_twins 42 = .ok (.iload_n 3, 1) := by decide +kernel
theorem dX5_twins_43 : decode cX5_twins 43 = .ok (.invokevirtual 81, 3) := by decide +kernel
theorem dX5_twins_46 : decode cX5_twins 46 = .ok (.if_icmp .ne 6, 3) := by decide +kernel
theorem dX5_twins_49 : decode cX5_twins 49 = .ok (.iinc 1 1, 3) := by decide +kernel
theorem dX5_twins_52 : decode cX5_twins 52 = .ok (.iinc 3 1, 3) := by decide +kernel
theorem dX5_twins_55 : decode cX5_twins 55 = .ok (.goto (-36), 3) := by decide +kernel
theorem dX5_twins_58 : decode cX5_twins 58 = .ok (.iinc 2 1, 3) := by decide +kernel
theorem dX5_twins_61 : decode cX5_twins 61 = .ok (.goto (-57), 3) := by decide +kernel
theorem dX5_twins_64 : decode cX5_twins 64 = .ok (.iload_n 1, 1) := by decide +kernel
theorem dX5_twins_65 : decode cX5_twins 65 = .ok (.ireturn, 1) := by decide +kernel
theorem dX5_liveWeek_0 : decode cX5_liveWeek 0 = .ok (.aload_n 0, 1) := by decide +kernel
theorem dX5_liveWeek_1 : decode cX5_liveWeek 1 = .ok (.invokevirtual 137, 3) := by decide +kernel
theorem dX5_liveWeek_4 : decode cX5_liveWeek 4 = .ok (.iload_n 1, 1) := by decide +kernel
theorem dX5_liveWeek_5 : decode cX5_liveWeek 5 = .ok (.istore_n 2, 1) := by decide +kernel
theorem dX5_liveWeek_6 : decode cX5_liveWeek 6 = .ok (.iconst 0, 1) := by decide +kernel
theorem dX5_liveWeek_7 : decode cX5_liveWeek 7 = .ok (.istore_n 3, 1) := by decide +kernel
theorem dX5_liveWeek_8 : decode cX5_liveWeek 8 = .ok (.iload_n 3, 1) := by decide +kernel
theorem dX5_liveWeek_9 : decode cX5_liveWeek 9 = .ok (.iconst 3, 1) := by decide +kernel
theorem dX5_liveWeek_10 : decode cX5_liveWeek 10 = .ok (.if_icmp .ge 58, 3) := by decide +kernel
theorem dX5_liveWeek_13 : decode cX5_liveWeek 13 = .ok (.aload_n 0, 1) := by decide +kernel
theorem dX5_liveWeek_14 : decode cX5_liveWeek 14 = .ok (.getfield 10, 3) := by decide +kernel
theorem dX5_liveWeek_17 : decode cX5_liveWeek 17 = .ok (.invokevirtual 103, 3) := by decide +kernel
theorem dX5_liveWeek_20 : decode cX5_liveWeek 20 = .ok (.ifCond .le 48, 3) := by decide +kernel
theorem dX5_liveWeek_23 : decode cX5_liveWeek 23 = .ok (.iload_n 2, 1) := by decide +kernel
theorem dX5_liveWeek_24 : decode cX5_liveWeek 24 = .ok (.invokestatic 270, 3) := by decide +kernel
theorem dX5_liveWeek_27 : decode cX5_liveWeek 27 = .ok (.istore_n 2, 1) := by decide +kernel
theorem dX5_liveWeek_28 : decode cX5_liveWeek 28 = .ok (.iload_n 2, 1) := by decide +kernel
theorem dX5_liveWeek_29 : decode cX5_liveWeek 29 = .ok (.aload_n 0, 1) := by decide +kernel
theorem dX5_liveWeek_30 : decode cX5_liveWeek 30 = .ok (.getfield 10, 3) := by decide +kernel
theorem dX5_liveWeek_33 : decode cX5_liveWeek 33 = .ok (.invokevirtual 103, 3) := by decide +kernel
theorem dX5_liveWeek_36 : decode cX5_liveWeek 36 = .ok (.invokestatic 273, 3) := by decide +kernel
theorem dX5_liveWeek_39 : decode cX5_liveWeek 39 = .ok (.istore 4, 2) := by decide +kernel
theorem dX5_liveWeek_41 : decode cX5_liveWeek 41 = .ok (.iload_n 2, 1) := by decide +kernel
theorem dX5_liveWeek_42 : decode cX5_liveWeek 42 = .ok (.invokestatic 270, 3) := by decide +kernel
theorem dX5_liveWeek_45 : decode cX5_liveWeek 45 = .ok (.istore_n 2, 1) := by decide +kernel
theorem dX5_liveWeek_46 : decode cX5_liveWeek 46 = .ok (.aload_n 0, 1) := by decide +kernel
theorem dX5_liveWeek_47 : decode cX5_liveWeek 47 = .ok (.getfield 16, 3) := by decide +kernel
theorem dX5_liveWeek_50 : decode cX5_liveWeek 50 = .ok (.iload 4, 2) := by decide +kernel
theorem dX5_liveWeek_52 : decode cX5_liveWeek 52 = .ok (.iload_n 2, 1) := by decide +kernel
theorem dX5_liveWeek_53 : decode cX5_liveWeek 53 = .ok (.bipush 40, 2) := by decide +kernel
theorem dX5_liveWeek_55 : decode cX5_liveWeek 55 = .ok (.invokestatic 273, 3) := by decide +kernel
theorem dX5_liveWeek_58 : decode cX5_liveWeek 58 = .ok (.invokevirtual 116, 3) := by decide +kernel
theorem dX5_liveWeek_61 : decode cX5_liveWeek 61 = .ok (.pop, 1) := by decide +kernel
theorem dX5_liveWeek_62 : decode cX5_liveWeek 62 = .ok (.iinc 3 1, 3) := by decide +kernel
theorem dX5_liveWeek_65 : decode cX5_liveWeek 65 = .ok (.goto (-57), 3) := by decide +kernel
theorem dX5_liveWeek_68 : decode cX5_liveWeek 68 = .ok (.aload_n 0, 1) := by decide +kernel
theorem dX5_liveWeek_69 : decode cX5_liveWeek 69 = .ok (.getfield 16, 3) := by decide +kernel
theorem dX5_liveWeek_72 : decode cX5_liveWeek 72 = .ok (.bipush 12, 2) := by decide +kernel
theorem dX5_liveWeek_74 : decode cX5_liveWeek 74 = .ok (.invokevirtual 128, 3) := by decide +kernel
theorem dX5_liveWeek_77 : decode cX5_liveWeek 77 = .ok (.iload_n 2, 1) := by decide +kernel
theorem dX5_liveWeek_78 : decode cX5_liveWeek 78 = .ok (.ireturn, 1) := by decide +kernel
theorem dX5_nextSeed_0 : decode cX5_nextSeed 0 = .ok (.iload_n 0, 1) := by decide +kernel
theorem dX5_nextSeed_1 : decode cX5_nextSeed 1 = .ok (.ldc_w 276, 3) := by decide +kernel
theorem dX5_nextSeed_4 : decode cX5_nextSeed 4 = .ok (.imul, 1) := by decide +kernel
theorem dX5_nextSeed_5 : decode cX5_nextSeed 5 = .ok (.sipush 12345, 3) := by decide +kernel
theorem dX5_nextSeed_8 : decode cX5_nextSeed 8 = .ok (.iadd, 1) := by decide +kernel
theorem dX5_nextSeed_9 : decode cX5_nextSeed 9 = .ok (.ireturn, 1) := by decide +kernel
theorem dX5_drawn_0 : decode cX5_drawn 0 = .ok (.iload_n 1, 1) := by decide +kernel
theorem dX5_drawn_1 : decode cX5_drawn 1 = .ok (.iconst 1, 1) := by decide +kernel
theorem dX5_drawn_2 : decode cX5_drawn 2 = .ok (.if_icmp .ge 5, 3) := by decide +kernel
theorem dX5_drawn_5 : decode cX5_drawn 5 = .ok (.iconst 0, 1) := by decide +kernel
theorem dX5_drawn_6 : decode cX5_drawn 6 = .ok (.ireturn, 1) := by decide +kernel
theorem dX5_drawn_7 : decode cX5_drawn 7 = .ok (.iload_n 0, 1) := by decide +kernel
theorem dX5_drawn_8 : decode cX5_drawn 8 = .ok (.ldc_w 277, 3) := by decide +kernel
theorem dX5_drawn_11 : decode cX5_drawn 11 = .ok (.iand, 1) := by decide +kernel
theorem dX5_drawn_12 : decode cX5_drawn 12 = .ok (.ldc_w 278, 3) := by decide +kernel
theorem dX5_drawn_15 : decode cX5_drawn 15 = .ok (.idiv, 1) := by decide +kernel
theorem dX5_drawn_16 : decode cX5_drawn 16 = .ok (.iload_n 1, 1) := by decide +kernel
theorem dX5_drawn_17 : decode cX5_drawn 17 = .ok (.irem, 1) := by decide +kernel
theorem dX5_drawn_18 : decode cX5_drawn 18 = .ok (.ireturn, 1) := by decide +kernel
theorem dX5_partOf_0 : decode cX5_partOf 0 = .ok (.lload_n 0, 1) := by decide +kernel
theorem dX5_partOf_1 : decode cX5_partOf 1 = .ok (.lconst 0, 1) := by decide +kernel
theorem dX5_partOf_2 : decode cX5_partOf 2 = .ok (.lcmp, 1) := by decide +kernel
theorem dX5_partOf_3 : decode cX5_partOf 3 = .ok (.ifCond .le 9, 3) := by decide +kernel
theorem dX5_partOf_6 : decode cX5_partOf 6 = .ok (.lload_n 2, 1) := by decide +kernel
theorem dX5_partOf_7 : decode cX5_partOf 7 = .ok (.lconst 0, 1) := by decide +kernel
theorem dX5_partOf_8 : decode cX5_partOf 8 = .ok (.lcmp, 1) := by decide +kernel
theorem dX5_partOf_9 : decode cX5_partOf 9 = .ok (.ifCond .gt 14, 3) := by decide +kernel
theorem dX5_partOf_12 : decode cX5_partOf 12 = .ok (.iload 4, 2) := by decide +kernel
theorem dX5_partOf_14 : decode cX5_partOf 14 = .ok (.ifCond .ne 7, 3) := by decide +kernel
theorem dX5_partOf_17 : decode cX5_partOf 17 = .ok (.lconst 0, 1) := by decide +kernel
theorem dX5_partOf_18 : decode cX5_partOf 18 = .ok (.goto 4, 3) := by decide +kernel
theorem dX5_partOf_21 : decode cX5_partOf 21 = .ok (.lconst 1, 1) := by decide +kernel
theorem dX5_partOf_22 : decode cX5_partOf 22 = .ok (.lreturn, 1) := by decide +kernel
theorem dX5_partOf_23 : decode cX5_partOf 23 = .ok (.iload 4, 2) := by decide +kernel
theorem dX5_partOf_25 : decode cX5_partOf 25 = .ok (.ifCond .ne 7, 3) := by decide +kernel
theorem dX5_partOf_28 : decode cX5_partOf 28 = .ok (.lload_n 0, 1) := by decide +kernel
theorem dX5_partOf_29 : decode cX5_partOf 29 = .ok (.goto 4, 3) := by decide +kernel
theorem dX5_partOf_32 : decode cX5_partOf 32 = .ok (.lload_n 2, 1) := by decide +kernel
theorem dX5_partOf_33 : decode cX5_partOf 33 = .ok (.lstore 5, 2) := by decide +kernel
theorem dX5_partOf_35 : decode cX5_partOf 35 = .ok (.lload_n 0, 1) := by decide +kernel
theorem dX5_partOf_36 : decode cX5_partOf 36 = .ok (.lload_n 2, 1) := by decide +kernel
theorem dX5_partOf_37 : decode cX5_partOf 37 = .ok (.invokestatic 279, 3) := by decide +kernel
theorem dX5_partOf_40 : decode cX5_partOf 40 = .ok (.lstore 7, 2) := by decide +kernel
theorem dX5_partOf_42 : decode cX5_partOf 42 = .ok (.lload 7, 2) := by decide +kernel
theorem dX5_partOf_44 : decode cX5_partOf 44 = .ok (.lconst 1, 1) := by decide +kernel
theorem dX5_partOf_45 : decode cX5_partOf 45 = .ok (.lcmp, 1) := by decide +kernel
theorem dX5_partOf_46 : decode cX5_partOf 46 = .ok (.ifCond .le 11, 3) := by decide +kernel
theorem dX5_partOf_49 : decode cX5_partOf 49 = .ok (.lload 5, 2) := by decide +kernel
theorem dX5_partOf_51 : decode cX5_partOf 51 = .ok (.lload 7, 2) := by decide +kernel
theorem dX5_partOf_53 : decode cX5_partOf 53 = .ok (.ldiv, 1) := by decide +kernel
theorem dX5_partOf_54 : decode cX5_partOf 54 = .ok (.goto 5, 3) := by decide +kernel
theorem dX5_partOf_57 : decode cX5_partOf 57 = .ok (.lload 5, 2) := by decide +kernel
theorem dX5_partOf_59 : decode cX5_partOf 59 = .ok (.lreturn, 1) := by decide +kernel
theorem dX5_commonDivisor_0 : decode cX5_commonDivisor 0 = .ok (.lload_n 0, 1) := by decide +kernel
theorem dX5_commonDivisor_1 : decode cX5_commonDivisor 1 = .ok (.lstore 4, 2) := by decide +kernel
theorem dX5_commonDivisor_3 : decode cX5_commonDivisor 3 = .ok (.lload_n 2, 1) := by decide +kernel
theorem dX5_commonDivisor_4 : decode cX5_commonDivisor 4 = .ok (.lstore 6, 2) := by decide +kernel
theorem dX5_commonDivisor_6 : decode cX5_commonDivisor 6 = .ok (.iconst 0, 1) := by decide +kernel
theorem dX5_commonDivisor_7 : decode cX5_commonDivisor 7 = .ok (.istore 8, 2) := by decide +kernel
theorem dX5_commonDivisor_9 : decode cX5_commonDivisor 9 = .ok (.iload 8, 2) := by decide +kernel
theorem dX5_commonDivisor_11 : decode cX5_commonDivisor 11 = .ok (.sipush 128, 3) := by decide +kernel
theorem dX5_commonDivisor_14 : decode cX5_commonDivisor 14 = .ok (.if_icmp .ge 31, 3) := by decide +kernel
theorem dX5_commonDivisor_17 : decode cX5_commonDivisor 17 = .ok (.lload 6, 2) := by decide +kernel
theorem dX5_commonDivisor_19 : decode cX5_commonDivisor 19 = .ok (.lconst 0, 1) := by decide +kernel
theorem dX5_commonDivisor_20 : decode cX5_commonDivisor 20 = .ok (.lcmp, 1) := by decide +kernel
theorem dX5_commonDivisor_21 : decode cX5_commonDivisor 21 = .ok (.ifCond .eq 24, 3) := by decide +kernel
theorem dX5_commonDivisor_24 : decode cX5_commonDivisor 24 = .ok (.lload 4, 2) := by decide +kernel
theorem dX5_commonDivisor_26 : decode cX5_commonDivisor 26 = .ok (.lload 6, 2) := by decide +kernel
theorem dX5_commonDivisor_28 : decode cX5_commonDivisor 28 = .ok (.lrem, 1) := by decide +kernel
theorem dX5_commonDivisor_29 : decode cX5_commonDivisor 29 = .ok (.lstore 9, 2) := by decide +kernel
theorem dX5_commonDivisor_31 : decode cX5_commonDivisor 31 = .ok (.lload 6, 2) := by decide +kernel
theorem dX5_commonDivisor_33 : decode cX5_commonDivisor 33 = .ok (.lstore 4, 2) := by decide +kernel
theorem dX5_commonDivisor_35 : decode cX5_commonDivisor 35 = .ok (.lload 9, 2) := by decide +kernel
theorem dX5_commonDivisor_37 : decode cX5_commonDivisor 37 = .ok (.lstore 6, 2) := by decide +kernel
theorem dX5_commonDivisor_39 : decode cX5_commonDivisor 39 = .ok (.iinc 8 1, 3) := by decide +kernel
theorem dX5_commonDivisor_42 : decode cX5_commonDivisor 42 = .ok (.goto (-33), 3) := by decide +kernel
theorem dX5_commonDivisor_45 : decode cX5_commonDivisor 45 = .ok (.lload 4, 2) := by decide +kernel
theorem dX5_commonDivisor_47 : decode cX5_commonDivisor 47 = .ok (.lreturn, 1) := by decide +kernel
