theorem dX6_init_0 : decode cX6_init 0 = .ok (.aload_n 0, 1) := by decide +kernel
theorem dX6_init_1 : decode cX6_init 1 = .ok (.invokespecial 1, 3) := by decide +kernel
theorem dX6_init_4 : decode cX6_init 4 = .ok (.aload_n 0, 1) := by decide +kernel
theorem dX6_init_5 : decode cX6_init 5 = .ok (.bipush 9, 2) := by decide +kernel
theorem dX6_init_7 : decode cX6_init 7 = .ok (.newarray .int, 2) := by decide +kernel
theorem dX6_init_9 : decode cX6_init 9 = .ok (.putfield 7, 3) := by decide +kernel
theorem dX6_init_12 : decode cX6_init 12 = .ok (.aload_n 0, 1) := by decide +kernel
theorem dX6_init_13 : decode cX6_init 13 = .ok (.bipush 9, 2) := by decide +kernel
theorem dX6_init_15 : decode cX6_init 15 = .ok (.newarray .int, 2) := by decide +kernel
theorem dX6_init_17 : decode cX6_init 17 = .ok (.putfield 13, 3) := by decide +kernel
theorem dX6_init_20 : decode cX6_init 20 = .ok (.aload_n 0, 1) := by decide +kernel
theorem dX6_init_21 : decode cX6_init 21 = .ok (.bipush 9, 2) := by decide +kernel
theorem dX6_init_23 : decode cX6_init 23 = .ok (.newarray .int, 2) := by decide +kernel
theorem dX6_init_25 : decode cX6_init 25 = .ok (.putfield 16, 3) := by decide +kernel
theorem dX6_init_28 : decode cX6_init 28 = .ok (.aload_n 0, 1) := by decide +kernel
theorem dX6_init_29 : decode cX6_init 29 = .ok (.bipush 9, 2) := by decide +kernel
theorem dX6_init_31 : decode cX6_init 31 = .ok (.newarray .int, 2) := by decide +kernel
theorem dX6_init_33 : decode cX6_init 33 = .ok (.putfield 19, 3) := by decide +kernel
theorem dX6_init_36 : decode cX6_init 36 = .ok (.aload_n 0, 1) := by decide +kernel
theorem dX6_init_37 : decode cX6_init 37 = .ok (.bipush 7, 2) := by decide +kernel
theorem dX6_init_39 : decode cX6_init 39 = .ok (.newarray .int, 2) := by decide +kernel
theorem dX6_init_41 : decode cX6_init 41 = .ok (.putfield 22, 3) := by decide +kernel
theorem dX6_init_44 : decode cX6_init 44 = .ok (.aload_n 0, 1) := by decide +kernel
theorem dX6_init_45 : decode cX6_init 45 = .ok (.bipush 96, 2) := by decide +kernel
theorem dX6_init_47 : decode cX6_init 47 = .ok (.newarray .int, 2) := by decide +kernel
theorem dX6_init_49 : decode cX6_init 49 = .ok (.putfield 25, 3) := by decide +kernel
theorem dX6_init_52 : decode cX6_init 52 = .ok (.aload_n 0, 1) := by decide +kernel
theorem dX6_init_53 : decode cX6_init 53 = .ok (.bipush 49, 2) := by decide +kernel
theorem dX6_init_55 : decode cX6_init 55 = .ok (.newarray .int, 2) := by decide +kernel
theorem dX6_init_57 : decode cX6_init 57 = .ok (.putfield 28, 3) := by decide +kernel
theorem dX6_init_60 : decode cX6_init 60 = .ok (.aload_n 0, 1) := by decide +kernel
theorem dX6_init_61 : decode cX6_init 61 = .ok (.bipush 49, 2) := by decide +kernel
theorem dX6_init_63 : decode cX6_init 63 = .ok (.newarray .int, 2) := by decide +kernel
theorem dX6_init_65 : decode cX6_init 65 = .ok (.putfield 31, 3) := by decide +kernel
theorem dX6_init_68 : decode cX6_init 68 = .ok (.aload_n 0, 1) := by decide +kernel
theorem dX6_init_69 : decode cX6_init 69 = .ok (.bipush 98, 2) := by decide +kernel
theorem dX6_init_71 : decode cX6_init 71 = .ok (.newarray .int, 2) := by decide +kernel
theorem dX6_init_73 : decode cX6_init 73 = .ok (.putfield 34, 3) := by decide +kernel
theorem dX6_init_76 : decode cX6_init 76 = .ok (.aload_n 0, 1) := by decide +kernel
theorem dX6_init_77 : decode cX6_init 77 = .ok (.bipush 41, 2) := by decide +kernel
theorem dX6_init_79 : decode cX6_init 79 = .ok (.newarray .int, 2) := by decide +kernel
theorem dX6_init_81 : decode cX6_init 81 = .ok (.putfield 37, 3) := by decide +kernel
theorem dX6_init_84 : decode cX6_init 84 = .ok (.aload_n 0, 1) := by decide +kernel
theorem dX6_init_85 : decode cX6_init 85 = .ok (.bipush 41, 2) := by decide +kernel
theorem dX6_init_87 : decode cX6_init 87 = .ok (.newarray .int, 2) := by decide +kernel
theorem dX6_init_89 : decode cX6_init 89 = .ok (.putfield 40, 3) := by decide +kernel
theorem dX6_init_92 : decode cX6_init 92 = .ok (.aload_n 0, 1) := by decide +kernel
theorem dX6_init_93 : decode cX6_init 93 = .ok (.sipush 328, 3) := by decide +kernel
theorem dX6_init_96 : decode cX6_init 96 = .ok (.newarray .int, 2) := by decide +kernel
theorem dX6_init_98 : decode cX6_init 98 = .ok (.putfield 43, 3) := by decide +kernel
theorem dX6_init_101 : decode cX6_init 101 = .ok (.aload_n 0, 1) := by decide +kernel
theorem dX6_init_102 : decode cX6_init 102 = .ok (.bipush 41, 2) := by decide +kernel
theorem dX6_init_104 : decode cX6_init 104 = .ok (.newarray .int, 2) := by decide +kernel
theorem dX6_init_106 : decode cX6_init 106 = .ok (.putfield 46, 3) := by decide +kernel
theorem dX6_init_109 : decode cX6_init 109 = .ok (.aload_n 0, 1) := by decide +kernel
theorem dX6_init_110 : decode cX6_init 110 = .ok (.bipush 9, 2) := by decide +kernel
theorem dX6_init_112 : decode cX6_init 112 = .ok (.newarray .int, 2) := by decide +kernel
theorem dX6_init_114 : decode cX6_init 114 = .ok (.putfield 49, 3) := by decide +kernel
theorem dX6_init_117 : decode cX6_init 117 = .ok (.aload_n 0, 1) := by decide +kernel
theorem dX6_init_118 : decode cX6_init 118 = .ok (.bipush 12, 2) := by decide +kernel
theorem dX6_init_120 : decode cX6_init 120 = .ok (.newarray .int, 2) := by decide +kernel
theorem dX6_init_122 : decode cX6_init 122 = .ok (.putfield 52, 3) := by decide +kernel
theorem dX6_init_125 : decode cX6_init 125 = .ok (.aload_n 0, 1) := by decide +kernel
theorem dX6_init_126 : decode cX6_init 126 = .ok (.bipush 8, 2) := by decide +kernel
theorem dX6_init_128 : decode cX6_init 128 = .ok (.newarray .int, 2) := by decide +kernel
theorem dX6_init_130 : decode cX6_init 130 = .ok (.putfield 55, 3) := by decide +kernel
theorem dX6_init_133 : decode cX6_init 133 = .ok (.aload_n 0, 1) := by decide +kernel
theorem dX6_init_134 : decode cX6_init 134 = .ok (.iconst 0, 1) := by decide +kernel
theorem dX6_init_135 : decode cX6_init 135 = .ok (.putfield 58, 3) := by decide +kernel
theorem dX6_init_138 : decode cX6_init 138 = .ok (.return_, 1) := by decide +kernel
theorem dX6_in_0 : decode cX6_in 0 = .ok (.lload_n 0, 1) := by decide +kernel
theorem dX6_in_1 : decode cX6_in 1 = .ok (.lload_n 2, 1) := by decide +kernel
theorem dX6_in_2 : decode cX6_in 2 = .ok (.lcmp, 1) := by decide +kernel
theorem dX6_in_3 : decode cX6_in 3 = .ok (.ifCond .lt 14, 3) := by decide +kernel
theorem dX6_in_6 : decode cX6_in 6 = .ok (.lload_n 0, 1) := by decide +kernel
theorem dX6_in_7 : decode cX6_in 7 = .ok (.lload 4, 2) := by decide +kernel
theorem dX6_in_9 : decode cX6_in 9 = .ok (.lcmp, 1) := by decide +kernel
theorem dX6_in_10 : decode cX6_in 10 = .ok (.ifCond .gt 7, 3) := by decide +kernel
theorem dX6_in_13 : decode cX6_in 13 = .ok (.iconst 1, 1) := by decide +kernel
theorem dX6_in_14 : decode cX6_in 14 = .ok (.goto 4, 3) := by decide +kernel
theorem dX6_in_17 : decode cX6_in 17 = .ok (.iconst 0, 1) := by decide +kernel
theorem dX6_in_18 : decode cX6_in 18 = .ok (.ireturn, 1) := by decide +kernel
theorem dX6_refuse_0 : decode cX6_refuse 0 = .ok (.aload_n 0, 1) := by decide +kernel
theorem dX6_refuse_1 : decode cX6_refuse 1 = .ok (.getfield 22, 3) := by decide +kernel
theorem dX6_refuse_4 : decode cX6_refuse 4 = .ok (.iload_n 1, 1) := by decide +kernel
theorem dX6_refuse_5 : decode cX6_refuse 5 = .ok (.ineg, 1) := by decide +kernel
theorem dX6_refuse_6 : decode cX6_refuse 6 = .ok (.dup2, 1) := by decide +kernel
theorem dX6_refuse_7 : decode cX6_refuse 7 = .ok (.iaload, 1) := by decide +kernel
theorem dX6_refuse_8 : decode cX6_refuse 8 = .ok (.iconst 1, 1) := by decide +kernel
theorem dX6_refuse_9 : decode cX6_refuse 9 = .ok (.iadd, 1) := by decide +kernel
theorem dX6_refuse_10 : decode cX6_refuse 10 = .ok (.iastore, 1) := by decide +kernel
theorem dX6_refuse_11 : decode cX6_refuse 11 = .ok (.iload_n 1, 1) := by decide +kernel
theorem dX6_refuse_12 : decode cX6_refuse 12 = .ok (.ireturn, 1) := by decide +kernel
theorem dX6_isHouse_0 : decode cX6_isHouse 0 = .ok (.iload_n 1, 1) := by decide +kernel
theorem dX6_isHouse_1 : decode cX6_isHouse 1 = .ok (.i2l, 1) := by decide +kernel
theorem dX6_isHouse_2 : decode cX6_isHouse 2 = .ok (.lconst 0, 1) := by decide +kernel
theorem dX6_isHouse_3 : decode cX6_isHouse 3 = .ok (.aload_n 0, 1) := by decide +kernel
theorem dX6_isHouse_4 : decode cX6_isHouse 4 = .ok (.getfield 62, 3) := by decide +kernel
theorem dX6_isHouse_7 : decode cX6_isHouse 7 = .ok (.iconst 1, 1) := by decide +kernel
theorem dX6_isHouse_8 : decode cX6_isHouse 8 = .ok (.isub, 1) := by decide +kernel
theorem dX6_isHouse_9 : decode cX6_isHouse 9 = .ok (.i2l, 1) := by decide +kernel
theorem dX6_isHouse_10 : decode cX6_isHouse 10 = .ok (.invokestatic 65, 3) := by decide +kernel
theorem dX6_isHouse_13 : decode cX6_isHouse 13 = .ok (.ireturn, 1) := by decide +kernel
theorem dX6_wrongNumber_0 : decode cX6_wrongNumber 0 = .ok (.iload_n 0, 1) := by decide +kernel
theorem dX6_wrongNumber_1 : decode cX6_wrongNumber 1 = .ok (.iload_n 1, 1) := by decide +kernel
theorem dX6_wrongNumber_2 : decode cX6_wrongNumber 2 = .ok (.if_icmp .ge 8, 3) := by decide +kernel
theorem dX6_wrongNumber_5 : decode cX6_wrongNumber 5 = .ok (.bipush (-4), 2) := by decide +kernel
theorem dX6_wrongNumber_7 : decode cX6_wrongNumber 7 = .ok (.goto 14, 3) := by decide +kernel
theorem dX6_wrongNumber_10 : decode cX6_wrongNumber 10 = .ok (.iload_n 0, 1) := by decide +kernel
theorem dX6_wrongNumber_11 : decode cX6_wrongNumber 11 = .ok (.iload_n 2, 1) := by decide +kernel
theorem dX6_wrongNumber_12 : decode cX6_wrongNumber 12 = .ok (.if_icmp .le 8, 3) := by decide +kernel
theorem dX6_wrongNumber_15 : decode cX6_wrongNumber 15 = .ok (.bipush (-6), 2) := by decide +kernel
theorem dX6_wrongNumber_17 : decode cX6_wrongNumber 17 = .ok (.goto 4, 3) := by decide +kernel
theorem dX6_wrongNumber_20 : decode cX6_wrongNumber 20 = .ok (.iconst 0, 1) := by decide +kernel
theorem dX6_wrongNumber_21 : decode cX6_wrongNumber 21 = .ok (.ireturn, 1) := by decide +kernel
theorem dX6_wrongBit_0 : decode cX6_wrongBit 0 = .ok (.iload_n 0, 1) := by decide +kernel
theorem dX6_wrongBit_1 : decode cX6_wrongBit 1 = .ok (.ifCond .ne 19, 3) := by decide +kernel
theorem dX6_wrongBit_4 : decode cX6_wrongBit 4 = .ok (.iload_n 1, 1) := by decide +kernel
theorem dX6_wrongBit_5 : decode cX6_wrongBit 5 = .ok (.i2l, 1) := by decide +kernel
theorem dX6_wrongBit_6 : decode cX6_wrongBit 6 = .ok (.lconst 0, 1) := by decide +kernel
theorem dX6_wrongBit_7 : decode cX6_wrongBit 7 = .ok (.iload_n 2, 1) := by decide +kernel
theorem dX6_wrongBit_8 : decode cX6_wrongBit 8 = .ok (.i2l, 1) := by decide +kernel
theorem dX6_wrongBit_9 : decode cX6_wrongBit 9 = .ok (.invokestatic 65, 3) := by decide +kernel
theorem dX6_wrongBit_12 : decode cX6_wrongBit 12 = .ok (.ifCond .ne 8, 3) := by decide +kernel
theorem dX6_wrongBit_15 : decode cX6_wrongBit 15 = .ok (.bipush (-2), 2) := by decide +kernel
theorem dX6_wrongBit_17 : decode cX6_wrongBit 17 = .ok (.goto 4, 3) := by decide +kernel
theorem dX6_wrongBit_20 : decode cX6_wrongBit 20 = .ok (.iload_n 0, 1) := by decide +kernel
theorem dX6_wrongBit_21 : decode cX6_wrongBit 21 = .ok (.ireturn, 1) := by decide +kernel
theorem dX6_hasBit_0 : decode cX6_hasBit 0 = .ok (.iload_n 0, 1) := by decide +kernel
theorem dX6_hasBit_1 : decode cX6_hasBit 1 = .ok (.iload_n 1, 1) := by decide +kernel
theorem dX6_hasBit_2 : decode cX6_hasBit 2 = .ok (.ishr, 1) := by decide +kernel
theorem dX6_hasBit_3 : decode cX6_hasBit 3 = .ok (.iconst 1, 1) := by decide +kernel
theorem dX6_hasBit_4 : decode cX6_hasBit 4 = .ok (.iand, 1) := by decide +kernel
theorem dX6_hasBit_5 : decode cX6_hasBit 5 = .ok (.iconst 1, 1) := by decide +kernel
theorem dX6_hasBit_6 : decode cX6_hasBit 6 = .ok (.if_icmp .ne 7, 3) := by decide +kernel
theorem dX6_hasBit_9 : decode cX6_hasBit 9 = .ok (.iconst 1, 1) := by decide +kernel
theorem dX6_hasBit_10 : decode cX6_hasBit 10 = .ok (.goto 4, 3) := by decide +kernel
theorem dX6_hasBit_13 : decode cX6_hasBit 13 = .ok (.iconst 0, 1) := by decide +kernel
theorem dX6_hasBit_14 : decode cX6_hasBit 14 = .ok (.ireturn, 1) := by decide +kernel
theorem dX6_onesOf_0 : decode cX6_onesOf 0 = .ok (.iconst 0, 1) := by decide +kernel
theorem dX6_onesOf_1 : decode cX6_onesOf 1 = .ok (.istore_n 1, 1) := by decide +kernel
theorem dX6_onesOf_2 : decode cX6_onesOf 2 = .ok (.iload_n 0, 1) := by decide +kernel
theorem dX6_onesOf_3 : decode cX6_onesOf 3 = .ok (.istore_n 2, 1) := by decide +kernel
theorem dX6_onesOf_4 : decode cX6_onesOf 4 = .ok (.iload_n 2, 1) := by decide +kernel
theorem dX6_onesOf_5 : decode cX6_onesOf 5 = .ok (.ifCond .eq 15, 3) := by decide +kernel
theorem dX6_onesOf_8 : decode cX6_onesOf 8 = .ok (.iinc 1 1, 3) := by decide +kernel
theorem dX6_onesOf_11 : decode cX6_onesOf 11 = .ok (.iload_n 2, 1) := by decide +kernel
theorem dX6_onesOf_12 : decode cX6_onesOf 12 = .ok (.iload_n 2, 1) := by decide +kernel
theorem dX6_onesOf_13 : decode cX6_onesOf 13 = .ok (.iconst 1, 1) := by decide +kernel
theorem dX6_onesOf_14 : decode cX6_onesOf 14 = .ok (.isub, 1) := by decide +kernel
theorem dX6_onesOf_15 : decode cX6_onesOf 15 = .ok (.iand, 1) := by decide +kernel
theorem dX6_onesOf_16 : decode cX6_onesOf 16 = .ok (.istore_n 2, 1) := by decide +kernel
theorem dX6_onesOf_17 : decode cX6_onesOf 17 = .ok (.goto (-13), 3) := by decide +kernel
theorem dX6_onesOf_20 : decode cX6_onesOf 20 = .ok (.iload_n 1, 1) := by decide +kernel
theorem dX6_onesOf_21 : decode cX6_onesOf 21 = .ok (.ireturn, 1) := by decide +kernel
theorem dX6_held_0 : decode cX6_held 0 = .ok (.iload_n 0, 1) := by decide +kernel
theorem dX6_held_1 : decode cX6_held 1 = .ok (.ifCond .ge 7, 3) := by decide +kernel
theorem dX6_held_4 : decode cX6_held 4 = .ok (.iconst 0, 1) := by decide +kernel
theorem dX6_held_5 : decode cX6_held 5 = .ok (.goto 13, 3) := by decide +kernel
theorem dX6_held_8 : decode cX6_held 8 = .ok (.iload_n 0, 1) := by decide +kernel
theorem dX6_held_9 : decode cX6_held 9 = .ok (.iload_n 1, 1) := by decide +kernel
theorem dX6_held_10 : decode cX6_held 10 = .ok (.if_icmp .le 7, 3) := by decide +kernel
theorem dX6_held_13 : decode cX6_held 13 = .ok (.iload_n 1, 1) := by decide +kernel
theorem dX6_held_14 : decode cX6_held 14 = .ok (.goto 4, 3) := by decide +kernel
theorem dX6_held_17 : decode cX6_held 17 = .ok (.iload_n 0, 1) := by decide +kernel
theorem dX6_held_18 : decode cX6_held 18 = .ok (.ireturn, 1) := by decide +kernel
theorem dX6_letsOf_0 : decode cX6_letsOf 0 = .ok (.aload_n 0, 1) := by decide +kernel
theorem dX6_letsOf_1 : decode cX6_letsOf 1 = .ok (.getfield 16, 3) := by decide +kernel
theorem dX6_letsOf_4 : decode cX6_letsOf 4 = .ok (.iload_n 1, 1) := by decide +kernel
theorem dX6_letsOf_5 : decode cX6_letsOf 5 = .ok (.iaload, 1) := by decide +kernel
theorem dX6_letsOf_6 : decode cX6_letsOf 6 = .ok (.istore_n 2, 1) := by decide +kernel
theorem dX6_letsOf_7 : decode cX6_letsOf 7 = .ok (.aload_n 0, 1) := by decide +kernel
theorem dX6_letsOf_8 : decode cX6_letsOf 8 = .ok (.getfield 7, 3) := by decide +kernel
theorem dX6_letsOf_11 : decode cX6_letsOf 11 = .ok (.iload_n 1, 1) := by decide +kernel
theorem dX6_letsOf_12 : decode cX6_letsOf 12 = .ok (.iaload, 1) := by decide +kernel
theorem dX6_letsOf_13 : decode cX6_letsOf 13 = .ok (.tableswitch 92 1 5 #[35, 37, 52, 63, 77], 35) := by decide +kernel
theorem dX6_letsOf_48 : decode cX6_letsOf 48 = .ok (.iload_n 2, 1) := by decide +kernel
theorem dX6_letsOf_49 : decode cX6_letsOf 49 = .ok (.ireturn, 1) := by decide +kernel
theorem dX6_letsOf_50 : decode cX6_letsOf 50 = .ok (.iload_n 2, 1) := by decide +kernel
theorem dX6_letsOf_51 : decode cX6_letsOf 51 = .ok (.iconst 2, 1) := by decide +kernel
theorem dX6_letsOf_52 : decode cX6_letsOf 52 = .ok (.idiv, 1) := by decide +kernel
theorem dX6_letsOf_53 : decode cX6_letsOf 53 = .ok (.iload_n 2, 1) := by decide +kernel
theorem dX6_letsOf_54 : decode cX6_letsOf 54 = .ok (.iconst 1, 1) := by decide +kernel
theorem dX6_letsOf_55 : decode cX6_letsOf 55 = .ok (.isub, 1) := by decide +kernel
theorem dX6_letsOf_56 : decode cX6_letsOf 56 = .ok (.bipush 99, 2) := by decide +kernel
theorem dX6_letsOf_58 : decode cX6_letsOf 58 = .ok (.invokestatic 69, 3) := by decide +kernel
theorem dX6_letsOf_61 : decode cX6_letsOf 61 = .ok (.invokestatic 69, 3) := by decide +kernel
theorem dX6_letsOf_64 : decode cX6_letsOf 64 = .ok (.ireturn, 1) := by decide +kernel
theorem dX6_letsOf_65 : decode cX6_letsOf 65 = .ok (.aload_n 0, 1) := by decide +kernel
theorem dX6_letsOf_66 : decode cX6_letsOf 66 = .ok (.getfield 13, 3) := by decide +kernel
theorem dX6_letsOf_69 : decode cX6_letsOf 69 = .ok (.iload_n 1, 1) := by decide +kernel
theorem dX6_letsOf_70 : decode cX6_letsOf 70 = .ok (.iaload, 1) := by decide +kernel
theorem dX6_letsOf_71 : decode cX6_letsOf 71 = .ok (.iload_n 2, 1) := by decide +kernel
theorem dX6_letsOf_72 : decode cX6_letsOf 72 = .ok (.invokestatic 69, 3) := by decide +kernel
theorem dX6_letsOf_75 : decode cX6_letsOf 75 = .ok (.ireturn, 1) := by decide +kernel
theorem dX6_letsOf_76 : decode cX6_letsOf 76 = .ok (.iload_n 2, 1) := by decide +kernel
theorem dX6_letsOf_77 : decode cX6_letsOf 77 = .ok (.aload_n 0, 1) := by decide +kernel
theorem dX6_letsOf_78 : decode cX6_letsOf 78 = .ok (.getfield 13, 3) := by decide +kernel
theorem dX6_letsOf_81 : decode cX6_letsOf 81 = .ok (.iload_n 1, 1) := by decide +kernel
theorem dX6_letsOf_82 : decode cX6_letsOf 82 = .ok (.iaload, 1) := by decide +kernel
theorem dX6_letsOf_83 : decode cX6_letsOf 83 = .ok (.isub, 1) := by decide +kernel
theorem dX6_letsOf_84 : decode cX6_letsOf 84 = .ok (.bipush 99, 2) := by decide +kernel
theorem dX6_letsOf_86 : decode cX6_letsOf 86 = .ok (.invokestatic 69, 3) := by decide +kernel
theorem dX6_letsOf_89 : decode cX6_letsOf 89 = .ok (.ireturn, 1) := by decide +kernel
theorem dX6_letsOf_90 : decode cX6_letsOf 90 = .ok (.iload_n 2, 1) := by decide +kernel
theorem dX6_letsOf_91 : decode cX6_letsOf 91 = .ok (.iconst 4, 1) := by decide +kernel
theorem dX6_letsOf_92 : decode cX6_letsOf 92 = .ok (.idiv, 1) := by decide +kernel
theorem dX6_letsOf_93 : decode cX6_letsOf 93 = .ok (.iload_n 2, 1) := by decide +kernel
theorem dX6_letsOf_94 : decode cX6_letsOf 94 = .ok (.iconst 3, 1) := by decide +kernel
theorem dX6_letsOf_95 : decode cX6_letsOf 95 = .ok (.isub, 1) := by decide +kernel
theorem dX6_letsOf_96 : decode cX6_letsOf 96 = .ok (.bipush 99, 2) := by decide +kernel
theorem dX6_letsOf_98 : decode cX6_letsOf 98 = .ok (.invokestatic 69, 3) := by decide +kernel
theorem dX6_letsOf_101 : decode cX6_letsOf 101 = .ok (.invokestatic 69, 3) := by decide +kernel
theorem dX6_letsOf_104 : decode cX6_letsOf 104 = .ok (.ireturn, 1) := by decide +kernel
theorem dX6_letsOf_105 : decode cX6_letsOf 105 = .ok (.iload_n 2, 1) := by decide +kernel
theorem dX6_letsOf_106 : decode cX6_letsOf 106 = .ok (.iconst 1, 1) := by decide +kernel
theorem dX6_letsOf_107 : decode cX6_letsOf 107 = .ok (.iadd, 1) := by decide +kernel
theorem dX6_letsOf_108 : decode cX6_letsOf 108 = .ok (.iconst 2, 1) := by decide +kernel
theorem dX6_letsOf_109 : decode cX6_letsOf 109 = .ok (.idiv, 1) := by decide +kernel
theorem dX6_letsOf_110 : decode cX6_letsOf 110 = .ok (.ireturn, 1) := by decide +kernel
theorem dX6_addsOf_0 : decode cX6_addsOf 0 = .ok (.aload_n 0, 1) := by decide +kernel
theorem dX6_addsOf_1 : decode cX6_addsOf 1 = .ok (.getfield 7, 3) := by decide +kernel
theorem dX6_addsOf_4 : decode cX6_addsOf 4 = .ok (.iload_n 1, 1) := by decide +kernel
theorem dX6_addsOf_5 : decode cX6_addsOf 5 = .ok (.iaload, 1) := by decide +kernel
theorem dX6_addsOf_6 : decode cX6_addsOf 6 = .ok (.tableswitch 63 1 5 #[34, 41, 43, 45, 54], 34) := by decide +kernel
theorem dX6_addsOf_40 : decode cX6_addsOf 40 = .ok (.aload_n 0, 1) := by decide +kernel
theorem dX6_addsOf_41 : decode cX6_addsOf 41 = .ok (.getfield 13, 3) := by decide +kernel
theorem dX6_addsOf_44 : decode cX6_addsOf 44 = .ok (.iload_n 1, 1) := by decide +kernel
theorem dX6_addsOf_45 : decode cX6_addsOf 45 = .ok (.iaload, 1) := by decide +kernel
theorem dX6_addsOf_46 : decode cX6_addsOf 46 = .ok (.ireturn, 1) := by decide +kernel
theorem dX6_addsOf_47 : decode cX6_addsOf 47 = .ok (.iconst 3, 1) := by decide +kernel
theorem dX6_addsOf_48 : decode cX6_addsOf 48 = .ok (.ireturn, 1) := by decide +kernel
theorem dX6_addsOf_49 : decode cX6_addsOf 49 = .ok (.iconst 0, 1) := by decide +kernel
theorem dX6_addsOf_50 : decode cX6_addsOf 50 = .ok (.ireturn, 1) := by decide +kernel
theorem dX6_addsOf_51 : decode cX6_addsOf 51 = .ok (.aload_n 0, 1) := by decide +kernel
theorem dX6_addsOf_52 : decode cX6_addsOf 52 = .ok (.getfield 13, 3) := by decide +kernel
theorem dX6_addsOf_55 : decode cX6_addsOf 55 = .ok (.iload_n 1, 1) := by decide +kernel
theorem dX6_addsOf_56 : decode cX6_addsOf 56 = .ok (.iaload, 1) := by decide +kernel
theorem dX6_addsOf_57 : decode cX6_addsOf 57 = .ok (.iconst 2, 1) := by decide +kernel
theorem dX6_addsOf_58 : decode cX6_addsOf 58 = .ok (.idiv, 1) := by decide +kernel
theorem dX6_addsOf_59 : decode cX6_addsOf 59 = .ok (.ireturn, 1) := by decide +kernel
theorem dX6_addsOf_60 : decode cX6_addsOf 60 = .ok (.aload_n 0, 1) := by decide +kernel
theorem dX6_addsOf_61 : decode cX6_addsOf 61 = .ok (.getfield 13, 3) := by decide +kernel
theorem dX6_addsOf_64 : decode cX6_addsOf 64 = .ok (.iload_n 1, 1) := by decide +kernel
theorem dX6_addsOf_65 : decode cX6_addsOf 65 = .ok (.iaload, 1) := by decide +kernel
theorem dX6_addsOf_66 : decode cX6_addsOf 66 = .ok (.iconst 3, 1) := by decide +kernel
theorem dX6_addsOf_67 : decode cX6_addsOf 67 = .ok (.iadd, 1) := by decide +kernel
theorem dX6_addsOf_68 : decode cX6_addsOf 68 = .ok (.ireturn, 1) := by decide +kernel
theorem dX6_addsOf_69 : decode cX6_addsOf 69 = .ok (.iconst 1, 1) := by decide +kernel
theorem dX6_addsOf_70 : decode cX6_addsOf 70 = .ok (.ireturn, 1) := by decide +kernel
theorem dX6_pourIn_0 : decode cX6_pourIn 0 = .ok (.aload_n 0, 1) := by decide +kernel
theorem dX6_pourIn_1 : decode cX6_pourIn 1 = .ok (.getfield 16, 3) := by decide +kernel
theorem dX6_pourIn_4 : decode cX6_pourIn 4 = .ok (.iload_n 1, 1) := by decide +kernel
theorem dX6_pourIn_5 : decode cX6_pourIn 5 = .ok (.aload_n 0, 1) := by decide +kernel
theorem dX6_pourIn_6 : decode cX6_pourIn 6 = .ok (.getfield 16, 3) := by decide +kernel
theorem dX6_pourIn_9 : decode cX6_pourIn 9 = .ok (.iload_n 1, 1) := by decide +kernel
theorem dX6_pourIn_10 : decode cX6_pourIn 10 = .ok (.iaload, 1) := by decide +kernel
theorem dX6_pourIn_11 : decode cX6_pourIn 11 = .ok (.iload_n 2, 1) := by decide +kernel
theorem dX6_pourIn_12 : decode cX6_pourIn 12 = .ok (.iadd, 1) := by decide +kernel
theorem dX6_pourIn_13 : decode cX6_pourIn 13 = .ok (.bipush 99, 2) := by decide +kernel
theorem dX6_pourIn_15 : decode cX6_pourIn 15 = .ok (.invokestatic 69, 3) := by decide +kernel
theorem dX6_pourIn_18 : decode cX6_pourIn 18 = .ok (.iastore, 1) := by decide +kernel
theorem dX6_pourIn_19 : decode cX6_pourIn 19 = .ok (.aload_n 0, 1) := by decide +kernel
theorem dX6_pourIn_20 : decode cX6_pourIn 20 = .ok (.dup, 1) := by decide +kernel
theorem dX6_pourIn_21 : decode cX6_pourIn 21 = .ok (.getfield 73, 3) := by decide +kernel
theorem dX6_pourIn_24 : decode cX6_pourIn 24 = .ok (.iload_n 2, 1) := by decide +kernel
theorem dX6_pourIn_25 : decode cX6_pourIn 25 = .ok (.ifCond .le 9, 3) := by decide +kernel
theorem dX6_pourIn_28 : decode cX6_pourIn 28 = .ok (.iconst 1, 1) := by decide +kernel
theorem dX6_pourIn_29 : decode cX6_pourIn 29 = .ok (.iload_n 1, 1) := by decide +kernel
theorem dX6_pourIn_30 : decode cX6_pourIn 30 = .ok (.ishl, 1) := by decide +kernel
theorem dX6_pourIn_31 : decode cX6_pourIn 31 = .ok (.goto 4, 3) := by decide +kernel
theorem dX6_pourIn_34 : decode cX6_pourIn 34 = .ok (.iconst 0, 1) := by decide +kernel
theorem dX6_pourIn_35 : decode cX6_pourIn 35 = .ok (.ior, 1) := by decide +kernel
theorem dX6_pourIn_36 : decode cX6_pourIn 36 = .ok (.putfield 73, 3) := by decide +kernel
theorem dX6_pourIn_39 : decode cX6_pourIn 39 = .ok (.return_, 1) := by decide +kernel
theorem dX6_hourBy_0 : decode cX6_hourBy 0 = .ok (.aload_n 0, 1) := by decide +kernel
theorem dX6_hourBy_1 : decode cX6_hourBy 1 = .ok (.dup, 1) := by decide +kernel
theorem dX6_hourBy_2 : decode cX6_hourBy 2 = .ok (.getfield 76, 3) := by decide +kernel
theorem dX6_hourBy_5 : decode cX6_hourBy 5 = .ok (.iconst 1, 1) := by decide +kernel
theorem dX6_hourBy_6 : decode cX6_hourBy 6 = .ok (.iadd, 1) := by decide +kernel
theorem dX6_hourBy_7 : decode cX6_hourBy 7 = .ok (.putfield 76, 3) := by decide +kernel
theorem dX6_hourBy_10 : decode cX6_hourBy 10 = .ok (.aload_n 0, 1) := by decide +kernel
theorem dX6_hourBy_11 : decode cX6_hourBy 11 = .ok (.iconst 0, 1) := by decide +kernel
theorem dX6_hourBy_12 : decode cX6_hourBy 12 = .ok (.putfield 79, 3) := by decide +kernel
theorem dX6_hourBy_15 : decode cX6_hourBy 15 = .ok (.iconst 0, 1) := by decide +kernel
theorem dX6_hourBy_16 : decode cX6_hourBy 16 = .ok (.istore_n 2, 1) := by decide +kernel
theorem dX6_hourBy_17 : decode cX6_hourBy 17 = .ok (.iload_n 2, 1) := by decide +kernel
theorem dX6_hourBy_18 : decode cX6_hourBy 18 = .ok (.aload_n 0, 1) := by decide +kernel
theorem dX6_hourBy_19 : decode cX6_hourBy 19 = .ok (.getfield 62, 3) := by decide +kernel
theorem dX6_hourBy_22 : decode cX6_hourBy 22 = .ok (.if_icmp .ge 127, 3) := by decide +kernel
theorem dX6_hourBy_25 : decode cX6_hourBy 25 = .ok (.iload_n 1, 1) := by decide +kernel
theorem dX6_hourBy_26 : decode cX6_hourBy 26 = .ok (.ifCond .ne 14, 3) := by decide +kernel
theorem dX6_hourBy_29 : decode cX6_hourBy 29 = .ok (.aload_n 0, 1) := by decide +kernel
theorem dX6_hourBy_30 : decode cX6_hourBy 30 = .ok (.getfield 83, 3) := by decide +kernel
theorem dX6_hourBy_33 : decode cX6_hourBy 33 = .ok (.iload_n 2, 1) := by decide +kernel
theorem dX6_hourBy_34 : decode cX6_hourBy 34 = .ok (.invokestatic 86, 3) := by decide +kernel
theorem dX6_hourBy_37 : decode cX6_hourBy 37 = .ok (.ifCond .eq 7, 3) := by decide +kernel
theorem dX6_hourBy_40 : decode cX6_hourBy 40 = .ok (.iconst 0, 1) := by decide +kernel
theorem dX6_hourBy_41 : decode cX6_hourBy 41 = .ok (.goto 8, 3) := by decide +kernel
theorem dX6_hourBy_44 : decode cX6_hourBy 44 = .ok (.aload_n 0, 1) := by decide +kernel
theorem dX6_hourBy_45 : decode cX6_hourBy 45 = .ok (.iload_n 2, 1) := by decide +kernel
theorem dX6_hourBy_46 : decode cX6_hourBy 46 = .ok (.invokevirtual 90, 3) := by decide +kernel
theorem dX6_hourBy_49 : decode cX6_hourBy 49 = .ok (.istore_n 3, 1) := by decide +kernel
theorem dX6_hourBy_50 : decode cX6_hourBy 50 = .ok (.aload_n 0, 1) := by decide +kernel
theorem dX6_hourBy_51 : decode cX6_hourBy 51 = .ok (.getfield 16, 3) := by decide +kernel
theorem dX6_hourBy_54 : decode cX6_hourBy 54 = .ok (.iload_n 2, 1) := by decide +kernel
theorem dX6_hourBy_55 : decode cX6_hourBy 55 = .ok (.dup2, 1) := by decide +kernel
theorem dX6_hourBy_56 : decode cX6_hourBy 56 = .ok (.iaload, 1) := by decide +kernel
theorem dX6_hourBy_57 : decode cX6_hourBy 57 = .ok (.iload_n 3, 1) := by decide +kernel
theorem dX6_hourBy_58 : decode cX6_hourBy 58 = .ok (.isub, 1) := by decide +kernel
theorem dX6_hourBy_59 : decode cX6_hourBy 59 = .ok (.iastore, 1) := by decide +kernel
theorem dX6_hourBy_60 : decode cX6_hourBy 60 = .ok (.iload_n 3, 1) := by decide +kernel
theorem dX6_hourBy_61 : decode cX6_hourBy 61 = .ok (.ifCond .ne 7, 3) := by decide +kernel
theorem dX6_hourBy_64 : decode cX6_hourBy 64 = .ok (.iconst 0, 1) := by decide +kernel
theorem dX6_hourBy_65 : decode cX6_hourBy 65 = .ok (.goto 10, 3) := by decide +kernel
theorem dX6_hourBy_68 : decode cX6_hourBy 68 = .ok (.iload_n 3, 1) := by decide +kernel
theorem dX6_hourBy_69 : decode cX6_hourBy 69 = .ok (.aload_n 0, 1) := by decide +kernel
theorem dX6_hourBy_70 : decode cX6_hourBy 70 = .ok (.iload_n 2, 1) := by decide +kernel
theorem dX6_hourBy_71 : decode cX6_hourBy 71 = .ok (.invokevirtual 94, 3) := by decide +kernel
theorem dX6_hourBy_74 : decode cX6_hourBy 74 = .ok (.iadd, 1) := by decide +kernel
theorem dX6_hourBy_75 : decode cX6_hourBy 75 = .ok (.istore 4, 2) := by decide +kernel
theorem dX6_hourBy_77 : decode cX6_hourBy 77 = .ok (.aload_n 0, 1) := by decide +kernel
theorem dX6_hourBy_78 : decode cX6_hourBy 78 = .ok (.getfield 19, 3) := by decide +kernel
theorem dX6_hourBy_81 : decode cX6_hourBy 81 = .ok (.iload_n 2, 1) := by decide +kernel
theorem dX6_hourBy_82 : decode cX6_hourBy 82 = .ok (.iaload, 1) := by decide +kernel
theorem dX6_hourBy_83 : decode cX6_hourBy 83 = .ok (.aload_n 0, 1) := by decide +kernel
theorem dX6_hourBy_84 : decode cX6_hourBy 84 = .ok (.getfield 62, 3) := by decide +kernel
theorem dX6_hourBy_87 : decode cX6_hourBy 87 = .ok (.if_icmp .ge 18, 3) := by decide +kernel
theorem dX6_hourBy_90 : decode cX6_hourBy 90 = .ok (.aload_n 0, 1) := by decide +kernel
theorem dX6_hourBy_91 : decode cX6_hourBy 91 = .ok (.aload_n 0, 1) := by decide +kernel
theorem dX6_hourBy_92 : decode cX6_hourBy 92 = .ok (.getfield 19, 3) := by decide +kernel
theorem dX6_hourBy_95 : decode cX6_hourBy 95 = .ok (.iload_n 2, 1) := by decide +kernel
theorem dX6_hourBy_96 : decode cX6_hourBy 96 = .ok (.iaload, 1) := by decide +kernel
theorem dX6_hourBy_97 : decode cX6_hourBy 97 = .ok (.iload 4, 2) := by decide +kernel
theorem dX6_hourBy_99 : decode cX6_hourBy 99 = .ok (.invokevirtual 97, 3) := by decide +kernel
theorem dX6_hourBy_102 : decode cX6_hourBy 102 = .ok (.goto 41, 3) := by decide +kernel
theorem dX6_hourBy_105 : decode cX6_hourBy 105 = .ok (.aload_n 0, 1) := by decide +kernel
theorem dX6_hourBy_106 : decode cX6_hourBy 106 = .ok (.aload_n 0, 1) := by decide +kernel
theorem dX6_hourBy_107 : decode cX6_hourBy 107 = .ok (.getfield 101, 3) := by decide +kernel
theorem dX6_hourBy_110 : decode cX6_hourBy 110 = .ok (.iload 4, 2) := by decide +kernel
theorem dX6_hourBy_112 : decode cX6_hourBy 112 = .ok (.iadd, 1) := by decide +kernel
theorem dX6_hourBy_113 : decode cX6_hourBy 113 = .ok (.sipush 9999, 3) := by decide +kernel
theorem dX6_hourBy_116 : decode cX6_hourBy 116 = .ok (.invokestatic 69, 3) := by decide +kernel
theorem dX6_hourBy_119 : decode cX6_hourBy 119 = .ok (.putfield 101, 3) := by decide +kernel
theorem dX6_hourBy_122 : decode cX6_hourBy 122 = .ok (.aload_n 0, 1) := by decide +kernel
theorem dX6_hourBy_123 : decode cX6_hourBy 123 = .ok (.aload_n 0, 1) := by decide +kernel
theorem dX6_hourBy_124 : decode cX6_hourBy 124 = .ok (.getfield 79, 3) := by decide +kernel
theorem dX6_hourBy_127 : decode cX6_hourBy 127 = .ok (.ifCond .ne 8, 3) := by decide +kernel
theorem dX6_hourBy_130 : decode cX6_hourBy 130 = .ok (.iload 4, 2) := by decide +kernel
theorem dX6_hourBy_132 : decode cX6_hourBy 132 = .ok (.ifCond .le 7, 3) := by decide +kernel
theorem dX6_hourBy_135 : decode cX6_hourBy 135 = .ok (.iconst 1, 1) := by decide +kernel
theorem dX6_hourBy_136 : decode cX6_hourBy 136 = .ok (.goto 4, 3) := by decide +kernel
theorem dX6_hourBy_139 : decode cX6_hourBy 139 = .ok (.iconst 0, 1) := by decide +kernel
theorem dX6_hourBy_140 : decode cX6_hourBy 140 = .ok (.putfield 79, 3) := by decide +kernel
theorem dX6_hourBy_143 : decode cX6_hourBy 143 = .ok (.iinc 2 1, 3) := by decide +kernel
theorem dX6_hourBy_146 : decode cX6_hourBy 146 = .ok (.goto (-129), 3) := by decide +kernel
theorem dX6_hourBy_149 : decode cX6_hourBy 149 = .ok (.return_, 1) := by decide +kernel
theorem dX6_goHours_0 : decode cX6_goHours 0 = .ok (.iconst 0, 1) := by decide +kernel
theorem dX6_goHours_1 : decode cX6_goHours 1 = .ok (.istore_n 2, 1) := by decide +kernel
theorem dX6_goHours_2 : decode cX6_goHours 2 = .ok (.iload_n 2, 1) := by decide +kernel
theorem dX6_goHours_3 : decode cX6_goHours 3 = .ok (.iload_n 1, 1) := by decide +kernel
theorem dX6_goHours_4 : decode cX6_goHours 4 = .ok (.if_icmp .ge 14, 3) := by decide +kernel
theorem dX6_goHours_7 : decode cX6_goHours 7 = .ok (.aload_n 0, 1) := by decide +kernel
theorem dX6_goHours_8 : decode cX6_goHours 8 = .ok (.iconst 0, 1) := by decide +kernel
theorem dX6_goHours_9 : decode cX6_goHours 9 = .ok (.invokevirtual 104, 3) := by decide +kernel
theorem dX6_goHours_12 : decode cX6_goHours 12 = .ok (.iinc 2 1, 3) := by decide +kernel
theorem dX6_goHours_15 : decode cX6_goHours 15 = .ok (.goto (-13), 3) := by decide +kernel
theorem dX6_goHours_18 : decode cX6_goHours 18 = .ok (.return_, 1) := by decide +kernel
theorem dX6_allHold_0 : decode cX6_allHold 0 = .ok (.iconst 0, 1) := by decide +kernel
theorem dX6_allHold_1 : decode cX6_allHold 1 = .ok (.istore_n 1, 1) := by decide +kernel
theorem dX6_allHold_2 : decode cX6_allHold 2 = .ok (.iconst 0, 1) := by decide +kernel
theorem dX6_allHold_3 : decode cX6_allHold 3 = .ok (.istore_n 2, 1) := by decide +kernel
theorem dX6_allHold_4 : decode cX6_allHold 4 = .ok (.iload_n 2, 1) := by decide +kernel
theorem dX6_allHold_5 : decode cX6_allHold 5 = .ok (.aload_n 0, 1) := by decide +kernel
theorem dX6_allHold_6 : decode cX6_allHold 6 = .ok (.getfield 62, 3) := by decide +kernel
theorem dX6_allHold_9 : decode cX6_allHold 9 = .ok (.if_icmp .ge 18, 3) := by decide +kernel
theorem dX6_allHold_12 : decode cX6_allHold 12 = .ok (.iload_n 1, 1) := by decide +kernel
theorem dX6_allHold_13 : decode cX6_allHold 13 = .ok (.aload_n 0, 1) := by decide +kernel
theorem dX6_allHold_14 : decode cX6_allHold 14 = .ok (.getfield 16, 3) := by decide +kernel
theorem dX6_allHold_17 : decode cX6_allHold 17 = .ok (.iload_n 2, 1) := by decide +kernel
theorem dX6_allHold_18 : decode cX6_allHold 18 = .ok (.iaload, 1) := by decide +kernel
theorem dX6_allHold_19 : decode cX6_allHold 19 = .ok (.iadd, 1) := by decide +kernel
theorem dX6_allHold_20 : decode cX6_allHold 20 = .ok (.istore_n 1, 1) := by decide +kernel
theorem dX6_allHold_21 : decode cX6_allHold 21 = .ok (.iinc 2 1, 3) := by decide +kernel
theorem dX6_allHold_24 : decode cX6_allHold 24 = .ok (.goto (-20), 3) := by decide +kernel
theorem dX6_allHold_27 : decode cX6_allHold 27 = .ok (.iload_n 1, 1) := by decide +kernel
theorem dX6_allHold_28 : decode cX6_allHold 28 = .ok (.ireturn, 1) := by decide +kernel
theorem dX6_houseComes_0 : decode cX6_houseComes 0 = .ok (.iload_n 1, 1) := by decide +kernel
theorem dX6_houseComes_1 : decode cX6_houseComes 1 = .ok (.bipush 6, 2) := by decide +kernel
theorem dX6_houseComes_3 : decode cX6_houseComes 3 = .ok (.if_icmp .ge 16, 3) := by decide +kernel
theorem dX6_houseComes_6 : decode cX6_houseComes 6 = .ok (.aload_n 0, 1) := by decide +kernel
theorem dX6_houseComes_7 : decode cX6_houseComes 7 = .ok (.getfield 62, 3) := by decide +kernel
theorem dX6_houseComes_10 : decode cX6_houseComes 10 = .ok (.bipush 9, 2) := by decide +kernel
theorem dX6_houseComes_12 : decode cX6_houseComes 12 = .ok (.if_icmp .ge 7, 3) := by decide +kernel
theorem dX6_houseComes_15 : decode cX6_houseComes 15 = .ok (.iconst 1, 1) := by decide +kernel
theorem dX6_houseComes_16 : decode cX6_houseComes 16 = .ok (.goto 4, 3) := by decide +kernel
theorem dX6_houseComes_19 : decode cX6_houseComes 19 = .ok (.iconst 0, 1) := by decide +kernel
theorem dX6_houseComes_20 : decode cX6_houseComes 20 = .ok (.istore_n 3, 1) := by decide +kernel
theorem dX6_houseComes_21 : decode cX6_houseComes 21 = .ok (.iload_n 3, 1) := by decide +kernel
theorem dX6_houseComes_22 : decode cX6_houseComes 22 = .ok (.ifCond .eq 88, 3) := by decide +kernel
theorem dX6_houseComes_25 : decode cX6_houseComes 25 = .ok (.aload_n 0, 1) := by decide +kernel
theorem dX6_houseComes_26 : decode cX6_houseComes 26 = .ok (.getfield 7, 3) := by decide +kernel
theorem dX6_houseComes_29 : decode cX6_houseComes 29 = .ok (.aload_n 0, 1) := by decide +kernel
theorem dX6_houseComes_30 : decode cX6_houseComes 30 = .ok (.getfield 62, 3) := by decide +kernel
theorem dX6_houseComes_33 : decode cX6_houseComes 33 = .ok (.iload_n 1, 1) := by decide +kernel
theorem dX6_houseComes_34 : decode cX6_houseComes 34 = .ok (.iastore, 1) := by decide +kernel
theorem dX6_houseComes_35 : decode cX6_houseComes 35 = .ok (.aload_n 0, 1) := by decide +kernel
theorem dX6_houseComes_36 : decode cX6_houseComes 36 = .ok (.getfield 13, 3) := by decide +kernel
theorem dX6_houseComes_39 : decode cX6_houseComes 39 = .ok (.aload_n 0, 1) := by decide +kernel
theorem dX6_houseComes_40 : decode cX6_houseComes 40 = .ok (.getfield 62, 3) := by decide +kernel
theorem dX6_houseComes_43 : decode cX6_houseComes 43 = .ok (.iload_n 2, 1) := by decide +kernel
theorem dX6_houseComes_44 : decode cX6_houseComes 44 = .ok (.iastore, 1) := by decide +kernel
theorem dX6_houseComes_45 : decode cX6_houseComes 45 = .ok (.aload_n 0, 1) := by decide +kernel
theorem dX6_houseComes_46 : decode cX6_houseComes 46 = .ok (.getfield 16, 3) := by decide +kernel
theorem dX6_houseComes_49 : decode cX6_houseComes 49 = .ok (.aload_n 0, 1) := by decide +kernel
theorem dX6_houseComes_50 : decode cX6_houseComes 50 = .ok (.getfield 62, 3) := by decide +kernel
theorem dX6_houseComes_53 : decode cX6_houseComes 53 = .ok (.iconst 0, 1) := by decide +kernel
theorem dX6_houseComes_54 : decode cX6_houseComes 54 = .ok (.iastore, 1) := by decide +kernel
theorem dX6_houseComes_55 : decode cX6_houseComes 55 = .ok (.aload_n 0, 1) := by decide +kernel
theorem dX6_houseComes_56 : decode cX6_houseComes 56 = .ok (.getfield 19, 3) := by decide +kernel
theorem dX6_houseComes_59 : decode cX6_houseComes 59 = .ok (.aload_n 0, 1) := by decide +kernel
theorem dX6_houseComes_60 : decode cX6_houseComes 60 = .ok (.getfield 62, 3) := by decide +kernel
theorem dX6_houseComes_63 : decode cX6_houseComes 63 = .ok (.bipush 9, 2) := by decide +kernel
theorem dX6_houseComes_65 : decode cX6_houseComes 65 = .ok (.iastore, 1) := by decide +kernel
theorem dX6_houseComes_66 : decode cX6_houseComes 66 = .ok (.aload_n 0, 1) := by decide +kernel
theorem dX6_houseComes_67 : decode cX6_houseComes 67 = .ok (.dup, 1) := by decide +kernel
theorem dX6_houseComes_68 : decode cX6_houseComes 68 = .ok (.getfield 83, 3) := by decide +kernel
theorem dX6_houseComes_71 : decode cX6_houseComes 71 = .ok (.iconst 1, 1) := by decide +kernel
theorem dX6_houseComes_72 : decode cX6_houseComes 72 = .ok (.aload_n 0, 1) := by decide +kernel
theorem dX6_houseComes_73 : decode cX6_houseComes 73 = .ok (.getfield 62, 3) := by decide +kernel
theorem dX6_houseComes_76 : decode cX6_houseComes 76 = .ok (.ishl, 1) := by decide +kernel
theorem dX6_houseComes_77 : decode cX6_houseComes 77 = .ok (.iconst (-1), 1) := by decide +kernel
theorem dX6_houseComes_78 : decode cX6_houseComes 78 = .ok (.ixor, 1) := by decide +kernel
theorem dX6_houseComes_79 : decode cX6_houseComes 79 = .ok (.iand, 1) := by decide +kernel
theorem dX6_houseComes_80 : decode cX6_houseComes 80 = .ok (.putfield 83, 3) := by decide +kernel
theorem dX6_houseComes_83 : decode cX6_houseComes 83 = .ok (.aload_n 0, 1) := by decide +kernel
theorem dX6_houseComes_84 : decode cX6_houseComes 84 = .ok (.dup, 1) := by decide +kernel
theorem dX6_houseComes_85 : decode cX6_houseComes 85 = .ok (.getfield 73, 3) := by decide +kernel
theorem dX6_houseComes_88 : decode cX6_houseComes 88 = .ok (.iconst 1, 1) := by decide +kernel
theorem dX6_houseComes_89 : decode cX6_houseComes 89 = .ok (.aload_n 0, 1) := by decide +kernel
theorem dX6_houseComes_90 : decode cX6_houseComes 90 = .ok (.getfield 62, 3) := by decide +kernel
theorem dX6_houseComes_93 : decode cX6_houseComes 93 = .ok (.ishl, 1) := by decide +kernel
theorem dX6_houseComes_94 : decode cX6_houseComes 94 = .ok (.iconst (-1), 1) := by decide +kernel
theorem dX6_houseComes_95 : decode cX6_houseComes 95 = .ok (.ixor, 1) := by decide +kernel
theorem dX6_houseComes_96 : decode cX6_houseComes 96 = .ok (.iand, 1) := by decide +kernel
theorem dX6_houseComes_97 : decode cX6_houseComes 97 = .ok (.putfield 73, 3) := by decide +kernel
theorem dX6_houseComes_100 : decode cX6_houseComes 100 = .ok (.aload_n 0, 1) := by decide +kernel
theorem dX6_houseComes_101 : decode cX6_houseComes 101 = .ok (.dup, 1) := by decide +kernel
theorem dX6_houseComes_102 : decode cX6_houseComes 102 = .ok (.getfield 62, 3) := by decide +kernel
theorem dX6_houseComes_105 : decode cX6_houseComes 105 = .ok (.iconst 1, 1) := by decide +kernel
theorem dX6_houseComes_106 : decode cX6_houseComes 106 = .ok (.iadd, 1) := by decide +kernel
theorem dX6_houseComes_107 : decode cX6_houseComes 107 = .ok (.putfield 62, 3) := by decide +kernel
theorem dX6_houseComes_110 : decode cX6_houseComes 110 = .ok (.iload_n 3, 1) := by decide +kernel
theorem dX6_houseComes_111 : decode cX6_houseComes 111 = .ok (.ireturn, 1) := by decide +kernel
theorem dX6_feed_0 : decode cX6_feed 0 = .ok (.aload_n 0, 1) := by decide +kernel
theorem dX6_feed_1 : decode cX6_feed 1 = .ok (.iconst 0, 1) := by decide +kernel
theorem dX6_feed_2 : decode cX6_feed 2 = .ok (.putfield 58, 3) := by decide +kernel
theorem dX6_feed_5 : decode cX6_feed 5 = .ok (.iload_n 1, 1) := by decide +kernel
theorem dX6_feed_6 : decode cX6_feed 6 = .ok (.ifCond .ge 10, 3) := by decide +kernel
theorem dX6_feed_9 : decode cX6_feed 9 = .ok (.aload_n 0, 1) := by decide +kernel
theorem dX6_feed_10 : decode cX6_feed 10 = .ok (.bipush (-4), 2) := by decide +kernel
theorem dX6_feed_12 : decode cX6_feed 12 = .ok (.invokevirtual 108, 3) := by decide +kernel
theorem dX6_feed_15 : decode cX6_feed 15 = .ok (.ireturn, 1) := by decide +kernel
theorem dX6_feed_16 : decode cX6_feed 16 = .ok (.iload_n 1, 1) := by decide +kernel
theorem dX6_feed_17 : decode cX6_feed 17 = .ok (.sipush 255, 3) := by decide +kernel
theorem dX6_feed_20 : decode cX6_feed 20 = .ok (.if_icmp .gt 12, 3) := by decide +kernel
theorem dX6_feed_23 : decode cX6_feed 23 = .ok (.aload_n 0, 1) := by decide +kernel
theorem dX6_feed_24 : decode cX6_feed 24 = .ok (.getfield 111, 3) := by decide +kernel
theorem dX6_feed_27 : decode cX6_feed 27 = .ok (.bipush 96, 2) := by decide +kernel
theorem dX6_feed_29 : decode cX6_feed 29 = .ok (.if_icmp .ne 10, 3) := by decide +kernel
theorem dX6_feed_32 : decode cX6_feed 32 = .ok (.aload_n 0, 1) := by decide +kernel
theorem dX6_feed_33 : decode cX6_feed 33 = .ok (.bipush (-6), 2) := by decide +kernel
theorem dX6_feed_35 : decode cX6_feed 35 = .ok (.invokevirtual 108, 3) := by decide +kernel
theorem dX6_feed_38 : decode cX6_feed 38 = .ok (.ireturn, 1) := by decide +kernel
theorem dX6_feed_39 : decode cX6_feed 39 = .ok (.aload_n 0, 1) := by decide +kernel
theorem dX6_feed_40 : decode cX6_feed 40 = .ok (.getfield 25, 3) := by decide +kernel
theorem dX6_feed_43 : decode cX6_feed 43 = .ok (.aload_n 0, 1) := by decide +kernel
theorem dX6_feed_44 : decode cX6_feed 44 = .ok (.getfield 111, 3) := by decide +kernel
theorem dX6_feed_47 : decode cX6_feed 47 = .ok (.iload_n 1, 1) := by decide +kernel
theorem dX6_feed_48 : decode cX6_feed 48 = .ok (.iastore, 1) := by decide +kernel
theorem dX6_feed_49 : decode cX6_feed 49 = .ok (.aload_n 0, 1) := by decide +kernel
theorem dX6_feed_50 : decode cX6_feed 50 = .ok (.dup, 1) := by decide +kernel
theorem dX6_feed_51 : decode cX6_feed 51 = .ok (.getfield 111, 3) := by decide +kernel
theorem dX6_feed_54 : decode cX6_feed 54 = .ok (.iconst 1, 1) := by decide +kernel
theorem dX6_feed_55 : decode cX6_feed 55 = .ok (.iadd, 1) := by decide +kernel
theorem dX6_feed_56 : decode cX6_feed 56 = .ok (.putfield 111, 3) := by decide +kernel
theorem dX6_feed_59 : decode cX6_feed 59 = .ok (.aload_n 0, 1) := by decide +kernel
theorem dX6_feed_60 : decode cX6_feed 60 = .ok (.getfield 111, 3) := by decide +kernel
theorem dX6_feed_63 : decode cX6_feed 63 = .ok (.ireturn, 1) := by decide +kernel
theorem dX6_here_0 : decode cX6_here 0 = .ok (.aload_n 0, 1) := by decide +kernel
theorem dX6_here_1 : decode cX6_here 1 = .ok (.getfield 114, 3) := by decide +kernel
theorem dX6_here_4 : decode cX6_here 4 = .ok (.aload_n 0, 1) := by decide +kernel
theorem dX6_here_5 : decode cX6_here 5 = .ok (.getfield 111, 3) := by decide +kernel
theorem dX6_here_8 : decode cX6_here 8 = .ok (.if_icmp .ge 15, 3) := by decide +kernel
theorem dX6_here_11 : decode cX6_here 11 = .ok (.aload_n 0, 1) := by decide +kernel
theorem dX6_here_12 : decode cX6_here 12 = .ok (.getfield 25, 3) := by decide +kernel
theorem dX6_here_15 : decode cX6_here 15 = .ok (.aload_n 0, 1) := by decide +kernel
theorem dX6_here_16 : decode cX6_here 16 = .ok (.getfield 114, 3) := by decide +kernel
theorem dX6_here_19 : decode cX6_here 19 = .ok (.iaload, 1) := by decide +kernel
theorem dX6_here_20 : decode cX6_here 20 = .ok (.goto 4, 3) := by decide +kernel
theorem dX6_here_23 : decode cX6_here 23 = .ok (.iconst (-1), 1) := by decide +kernel
theorem dX6_here_24 : decode cX6_here 24 = .ok (.ireturn, 1) := by decide +kernel
theorem dX6_readDigits_0 : decode cX6_readDigits 0 = .ok (.iconst 0, 1) := by decide +kernel
theorem dX6_readDigits_1 : decode cX6_readDigits 1 = .ok (.istore_n 2, 1) := by decide +kernel
theorem dX6_readDigits_2 : decode cX6_readDigits 2 = .ok (.iconst 0, 1) := by decide +kernel
theorem dX6_readDigits_3 : decode cX6_readDigits 3 = .ok (.istore_n 3, 1) := by decide +kernel
theorem dX6_readDigits_4 : decode cX6_readDigits 4 = .ok (.iload_n 3, 1) := by decide +kernel
theorem dX6_readDigits_5 : decode cX6_readDigits 5 = .ok (.iload_n 1, 1) := by decide +kernel
theorem dX6_readDigits_6 : decode cX6_readDigits 6 = .ok (.if_icmp .ge 92, 3) := by decide +kernel
theorem dX6_readDigits_9 : decode cX6_readDigits 9 = .ok (.aload_n 0, 1) := by decide +kernel
theorem dX6_readDigits_10 : decode cX6_readDigits 10 = .ok (.aload_n 0, 1) := by decide +kernel
theorem dX6_readDigits_11 : decode cX6_readDigits 11 = .ok (.getfield 117, 3) := by decide +kernel
theorem dX6_readDigits_14 : decode cX6_readDigits 14 = .ok (.ifCond .ne 20, 3) := by decide +kernel
theorem dX6_readDigits_17 : decode cX6_readDigits 17 = .ok (.aload_n 0, 1) := by decide +kernel
theorem dX6_readDigits_18 : decode cX6_readDigits 18 = .ok (.invokevirtual 120, 3) := by decide +kernel
theorem dX6_readDigits_21 : decode cX6_readDigits 21 = .ok (.i2l, 1) := by decide +kernel
theorem dX6_readDigits_22 : decode cX6_readDigits 22 = .ok (.ldc2_w 124, 3) := by decide +kernel
theorem dX6_readDigits_25 : decode cX6_readDigits 25 = .ok (.ldc2_w 126, 3) := by decide +kernel
theorem dX6_readDigits_28 : decode cX6_readDigits 28 = .ok (.invokestatic 65, 3) := by decide +kernel
theorem dX6_readDigits_31 : decode cX6_readDigits 31 = .ok (.ifCond .ne 7, 3) := by decide +kernel
theorem dX6_readDigits_34 : decode cX6_readDigits 34 = .ok (.iconst 1, 1) := by decide +kernel
theorem dX6_readDigits_35 : decode cX6_readDigits 35 = .ok (.goto 4, 3) := by decide +kernel
theorem dX6_readDigits_38 : decode cX6_readDigits 38 = .ok (.iconst 0, 1) := by decide +kernel
theorem dX6_readDigits_39 : decode cX6_readDigits 39 = .ok (.putfield 117, 3) := by decide +kernel
theorem dX6_readDigits_42 : decode cX6_readDigits 42 = .ok (.aload_n 0, 1) := by decide +kernel
theorem dX6_readDigits_43 : decode cX6_readDigits 43 = .ok (.getfield 117, 3) := by decide +kernel
theorem dX6_readDigits_46 : decode cX6_readDigits 46 = .ok (.ifCond .eq 7, 3) := by decide +kernel
theorem dX6_readDigits_49 : decode cX6_readDigits 49 = .ok (.iconst 0, 1) := by decide +kernel
theorem dX6_readDigits_50 : decode cX6_readDigits 50 = .ok (.goto 20, 3) := by decide +kernel
theorem dX6_readDigits_53 : decode cX6_readDigits 53 = .ok (.bipush 10, 2) := by decide +kernel
theorem dX6_readDigits_55 : decode cX6_readDigits 55 = .ok (.iload_n 2, 1) := by decide +kernel
theorem dX6_readDigits_56 : decode cX6_readDigits 56 = .ok (.imul, 1) := by decide +kernel
theorem dX6_readDigits_57 : decode cX6_readDigits 57 = .ok (.aload_n 0, 1) := by decide +kernel
theorem dX6_readDigits_58 : decode cX6_readDigits 58 = .ok (.getfield 25, 3) := by decide +kernel
theorem dX6_readDigits_61 : decode cX6_readDigits 61 = .ok (.aload_n 0, 1) := by decide +kernel
theorem dX6_readDigits_62 : decode cX6_readDigits 62 = .ok (.getfield 114, 3) := by decide +kernel
theorem dX6_readDigits_65 : decode cX6_readDigits 65 = .ok (.iaload, 1) := by decide +kernel
theorem dX6_readDigits_66 : decode cX6_readDigits 66 = .ok (.iadd, 1) := by decide +kernel
theorem dX6_readDigits_67 : decode cX6_readDigits 67 = .ok (.bipush 48, 2) := by decide +kernel
theorem dX6_readDigits_69 : decode cX6_readDigits 69 = .ok (.isub, 1) := by decide +kernel
theorem dX6_readDigits_70 : decode cX6_readDigits 70 = .ok (.istore_n 2, 1) := by decide +kernel
theorem dX6_readDigits_71 : decode cX6_readDigits 71 = .ok (.aload_n 0, 1) := by decide +kernel
theorem dX6_readDigits_72 : decode cX6_readDigits 72 = .ok (.dup, 1) := by decide +kernel
theorem dX6_readDigits_73 : decode cX6_readDigits 73 = .ok (.getfield 114, 3) := by decide +kernel
theorem dX6_readDigits_76 : decode cX6_readDigits 76 = .ok (.aload_n 0, 1) := by decide +kernel
theorem dX6_readDigits_77 : decode cX6_readDigits 77 = .ok (.getfield 117, 3) := by decide +kernel
theorem dX6_readDigits_80 : decode cX6_readDigits 80 = .ok (.ifCond .eq 7, 3) := by decide +kernel
theorem dX6_readDigits_83 : decode cX6_readDigits 83 = .ok (.iconst 0, 1) := by decide +kernel
theorem dX6_readDigits_84 : decode cX6_readDigits 84 = .ok (.goto 4, 3) := by decide +kernel
theorem dX6_readDigits_87 : decode cX6_readDigits 87 = .ok (.iconst 1, 1) := by decide +kernel
theorem dX6_readDigits_88 : decode cX6_readDigits 88 = .ok (.iadd, 1) := by decide +kernel
theorem dX6_readDigits_89 : decode cX6_readDigits 89 = .ok (.putfield 114, 3) := by decide +kernel
theorem dX6_readDigits_92 : decode cX6_readDigits 92 = .ok (.iinc 3 1, 3) := by decide +kernel
theorem dX6_readDigits_95 : decode cX6_readDigits 95 = .ok (.goto (-91), 3) := by decide +kernel
theorem dX6_readDigits_98 : decode cX6_readDigits 98 = .ok (.iload_n 2, 1) := by decide +kernel
theorem dX6_readDigits_99 : decode cX6_readDigits 99 = .ok (.ireturn, 1) := by decide +kernel
theorem dX6_isLetter_0 : decode cX6_isLetter 0 = .ok (.iload_n 0, 1) := by decide +kernel
theorem dX6_isLetter_1 : decode cX6_isLetter 1 = .ok (.bipush 110, 2) := by decide +kernel
theorem dX6_isLetter_3 : decode cX6_isLetter 3 = .ok (.if_icmp .eq 33, 3) := by decide +kernel
theorem dX6_isLetter_6 : decode cX6_isLetter 6 = .ok (.iload_n 0, 1) := by decide +kernel
theorem dX6_isLetter_7 : decode cX6_isLetter 7 = .ok (.bipush 120, 2) := by decide +kernel
theorem dX6_isLetter_9 : decode cX6_isLetter 9 = .ok (.if_icmp .eq 27, 3) := by decide +kernel
theorem dX6_isLetter_12 : decode cX6_isLetter 12 = .ok (.iload_n 0, 1) := by decide +kernel
theorem dX6_isLetter_13 : decode cX6_isLetter 13 = .ok (.bipush 98, 2) := by decide +kernel
theorem dX6_isLetter_15 : decode cX6_isLetter 15 = .ok (.if_icmp .eq 21, 3) := by decide +kernel
theorem dX6_isLetter_18 : decode cX6_isLetter 18 = .ok (.iload_n 0, 1) := by decide +kernel
theorem dX6_isLetter_19 : decode cX6_isLetter 19 = .ok (.bipush 118, 2) := by decide +kernel
theorem dX6_isLetter_21 : decode cX6_isLetter 21 = .ok (.if_icmp .eq 15, 3) := by decide +kernel
theorem dX6_isLetter_24 : decode cX6_isLetter 24 = .ok (.iload_n 0, 1) := by decide +kernel
theorem dX6_isLetter_25 : decode cX6_isLetter 25 = .ok (.bipush 99, 2) := by decide +kernel
theorem dX6_isLetter_27 : decode cX6_isLetter 27 = .ok (.if_icmp .eq 9, 3) := by decide +kernel
theorem dX6_isLetter_30 : decode cX6_isLetter 30 = .ok (.iload_n 0, 1) := by decide +kernel
theorem dX6_isLetter_31 : decode cX6_isLetter 31 = .ok (.bipush 100, 2) := by decide +kernel
theorem dX6_isLetter_33 : decode cX6_isLetter 33 = .ok (.if_icmp .ne 7, 3) := by decide +kernel
theorem dX6_isLetter_36 : decode cX6_isLetter 36 = .ok (.iconst 1, 1) := by decide +kernel
theorem dX6_isLetter_37 : decode cX6_isLetter 37 = .ok (.goto 4, 3) := by decide +kernel
theorem dX6_isLetter_40 : decode cX6_isLetter 40 = .ok (.iconst 0, 1) := by decide +kernel
theorem dX6_isLetter_41 : decode cX6_isLetter 41 = .ok (.ireturn, 1) := by decide +kernel
theorem dX6_readNumbers_0 : decode cX6_readNumbers 0 = .ok (.aload_n 0, 1) := by decide +kernel
theorem dX6_readNumbers_1 : decode cX6_readNumbers 1 = .ok (.getfield 34, 3) := by decide +kernel
theorem dX6_readNumbers_4 : decode cX6_readNumbers 4 = .ok (.iload_n 2, 1) := by decide +kernel
theorem dX6_readNumbers_5 : decode cX6_readNumbers 5 = .ok (.aload_n 0, 1) := by decide +kernel
theorem dX6_readNumbers_6 : decode cX6_readNumbers 6 = .ok (.iload_n 1, 1) := by decide +kernel
theorem dX6_readNumbers_7 : decode cX6_readNumbers 7 = .ok (.bipush 99, 2) := by decide +kernel
theorem dX6_readNumbers_9 : decode cX6_readNumbers 9 = .ok (.if_icmp .ne 7, 3) := by decide +kernel
theorem dX6_readNumbers_12 : decode cX6_readNumbers 12 = .ok (.iconst 0, 1) := by decide +kernel
theorem dX6_readNumbers_13 : decode cX6_readNumbers 13 = .ok (.goto 14, 3) := by decide +kernel
theorem dX6_readNumbers_16 : decode cX6_readNumbers 16 = .ok (.iload_n 1, 1) := by decide +kernel
theorem dX6_readNumbers_17 : decode cX6_readNumbers 17 = .ok (.bipush 100, 2) := by decide +kernel
theorem dX6_readNumbers_19 : decode cX6_readNumbers 19 = .ok (.if_icmp .ne 7, 3) := by decide +kernel
theorem dX6_readNumbers_22 : decode cX6_readNumbers 22 = .ok (.iconst 2, 1) := by decide +kernel
theorem dX6_readNumbers_23 : decode cX6_readNumbers 23 = .ok (.goto 4, 3) := by decide +kernel
theorem dX6_readNumbers_26 : decode cX6_readNumbers 26 = .ok (.iconst 1, 1) := by decide +kernel
theorem dX6_readNumbers_27 : decode cX6_readNumbers 27 = .ok (.invokevirtual 128, 3) := by decide +kernel
theorem dX6_readNumbers_30 : decode cX6_readNumbers 30 = .ok (.iastore, 1) := by decide +kernel
theorem dX6_readNumbers_31 : decode cX6_readNumbers 31 = .ok (.aload_n 0, 1) := by decide +kernel
theorem dX6_readNumbers_32 : decode cX6_readNumbers 32 = .ok (.getfield 34, 3) := by decide +kernel
theorem dX6_readNumbers_35 : decode cX6_readNumbers 35 = .ok (.iload_n 2, 1) := by decide +kernel
theorem dX6_readNumbers_36 : decode cX6_readNumbers 36 = .ok (.iconst 1, 1) := by decide +kernel
theorem dX6_readNumbers_37 : decode cX6_readNumbers 37 = .ok (.iadd, 1) := by decide +kernel
theorem dX6_readNumbers_38 : decode cX6_readNumbers 38 = .ok (.aload_n 0, 1) := by decide +kernel
theorem dX6_readNumbers_39 : decode cX6_readNumbers 39 = .ok (.iload_n 1, 1) := by decide +kernel
theorem dX6_readNumbers_40 : decode cX6_readNumbers 40 = .ok (.bipush 110, 2) := by decide +kernel
theorem dX6_readNumbers_42 : decode cX6_readNumbers 42 = .ok (.if_icmp .eq 9, 3) := by decide +kernel
theorem dX6_readNumbers_45 : decode cX6_readNumbers 45 = .ok (.iload_n 1, 1) := by decide +kernel
theorem dX6_readNumbers_46 : decode cX6_readNumbers 46 = .ok (.bipush 120, 2) := by decide +kernel
theorem dX6_readNumbers_48 : decode cX6_readNumbers 48 = .ok (.if_icmp .ne 7, 3) := by decide +kernel
theorem dX6_readNumbers_51 : decode cX6_readNumbers 51 = .ok (.iconst 1, 1) := by decide +kernel
theorem dX6_readNumbers_52 : decode cX6_readNumbers 52 = .ok (.goto 14, 3) := by decide +kernel
theorem dX6_readNumbers_55 : decode cX6_readNumbers 55 = .ok (.iload_n 1, 1) := by decide +kernel
theorem dX6_readNumbers_56 : decode cX6_readNumbers 56 = .ok (.bipush 118, 2) := by decide +kernel
theorem dX6_readNumbers_58 : decode cX6_readNumbers 58 = .ok (.if_icmp .ne 7, 3) := by decide +kernel
theorem dX6_readNumbers_61 : decode cX6_readNumbers 61 = .ok (.iconst 2, 1) := by decide +kernel
theorem dX6_readNumbers_62 : decode cX6_readNumbers 62 = .ok (.goto 4, 3) := by decide +kernel
theorem dX6_readNumbers_65 : decode cX6_readNumbers 65 = .ok (.iconst 0, 1) := by decide +kernel
theorem dX6_readNumbers_66 : decode cX6_readNumbers 66 = .ok (.invokevirtual 128, 3) := by decide +kernel
theorem dX6_readNumbers_69 : decode cX6_readNumbers 69 = .ok (.iastore, 1) := by decide +kernel
theorem dX6_readNumbers_70 : decode cX6_readNumbers 70 = .ok (.return_, 1) := by decide +kernel
theorem dX6_readStatement_0 : decode cX6_readStatement 0 = .ok (.aload_n 0, 1) := by decide +kernel
theorem dX6_readStatement_1 : decode cX6_readStatement 1 = .ok (.getfield 131, 3) := by decide +kernel
theorem dX6_readStatement_4 : decode cX6_readStatement 4 = .ok (.istore_n 1, 1) := by decide +kernel
theorem dX6_readStatement_5 : decode cX6_readStatement 5 = .ok (.aload_n 0, 1) := by decide +kernel
theorem dX6_readStatement_6 : decode cX6_readStatement 6 = .ok (.invokevirtual 120, 3) := by decide +kernel
theorem dX6_readStatement_9 : decode cX6_readStatement 9 = .ok (.istore_n 2, 1) := by decide +kernel
theorem dX6_readStatement_10 : decode cX6_readStatement 10 = .ok (.aload_n 0, 1) := by decide +kernel
theorem dX6_readStatement_11 : decode cX6_readStatement 11 = .ok (.getfield 28, 3) := by decide +kernel
theorem dX6_readStatement_14 : decode cX6_readStatement 14 = .ok (.iload_n 1, 1) := by decide +kernel
theorem dX6_readStatement_15 : decode cX6_readStatement 15 = .ok (.aload_n 0, 1) := by decide +kernel
theorem dX6_readStatement_16 : decode cX6_readStatement 16 = .ok (.getfield 114, 3) := by decide +kernel
theorem dX6_readStatement_19 : decode cX6_readStatement 19 = .ok (.iastore, 1) := by decide +kernel
theorem dX6_readStatement_20 : decode cX6_readStatement 20 = .ok (.aload_n 0, 1) := by decide +kernel
theorem dX6_readStatement_21 : decode cX6_readStatement 21 = .ok (.getfield 31, 3) := by decide +kernel
theorem dX6_readStatement_24 : decode cX6_readStatement 24 = .ok (.iload_n 1, 1) := by decide +kernel
theorem dX6_readStatement_25 : decode cX6_readStatement 25 = .ok (.iload_n 2, 1) := by decide +kernel
theorem dX6_readStatement_26 : decode cX6_readStatement 26 = .ok (.iastore, 1) := by decide +kernel
theorem dX6_readStatement_27 : decode cX6_readStatement 27 = .ok (.aload_n 0, 1) := by decide +kernel
theorem dX6_readStatement_28 : decode cX6_readStatement 28 = .ok (.aload_n 0, 1) := by decide +kernel
theorem dX6_readStatement_29 : decode cX6_readStatement 29 = .ok (.getfield 117, 3) := by decide +kernel
theorem dX6_readStatement_32 : decode cX6_readStatement 32 = .ok (.ifCond .ne 10, 3) := by decide +kernel
theorem dX6_readStatement_35 : decode cX6_readStatement 35 = .ok (.iload_n 2, 1) := by decide +kernel
theorem dX6_readStatement_36 : decode cX6_readStatement 36 = .ok (.invokestatic 134, 3) := by decide +kernel
theorem dX6_readStatement_39 : decode cX6_readStatement 39 = .ok (.ifCond .ne 7, 3) := by decide +kernel
theorem dX6_readStatement_42 : decode cX6_readStatement 42 = .ok (.iconst 1, 1) := by decide +kernel
theorem dX6_readStatement_43 : decode cX6_readStatement 43 = .ok (.goto 4, 3) := by decide +kernel
theorem dX6_readStatement_46 : decode cX6_readStatement 46 = .ok (.iconst 0, 1) := by decide +kernel
theorem dX6_readStatement_47 : decode cX6_readStatement 47 = .ok (.putfield 117, 3) := by decide +kernel
theorem dX6_readStatement_50 : decode cX6_readStatement 50 = .ok (.aload_n 0, 1) := by decide +kernel
theorem dX6_readStatement_51 : decode cX6_readStatement 51 = .ok (.dup, 1) := by decide +kernel
theorem dX6_readStatement_52 : decode cX6_readStatement 52 = .ok (.getfield 114, 3) := by decide +kernel
theorem dX6_readStatement_55 : decode cX6_readStatement 55 = .ok (.aload_n 0, 1) := by decide +kernel
theorem dX6_readStatement_56 : decode cX6_readStatement 56 = .ok (.getfield 117, 3) := by decide +kernel
theorem dX6_readStatement_59 : decode cX6_readStatement 59 = .ok (.ifCond .eq 7, 3) := by decide +kernel
theorem dX6_readStatement_62 : decode cX6_readStatement 62 = .ok (.iconst 0, 1) := by decide +kernel
theorem dX6_readStatement_63 : decode cX6_readStatement 63 = .ok (.goto 4, 3) := by decide +kernel
theorem dX6_readStatement_66 : decode cX6_readStatement 66 = .ok (.iconst 1, 1) := by decide +kernel
theorem dX6_readStatement_67 : decode cX6_readStatement 67 = .ok (.iadd, 1) := by decide +kernel
theorem dX6_readStatement_68 : decode cX6_readStatement 68 = .ok (.putfield 114, 3) := by decide +kernel
theorem dX6_readStatement_71 : decode cX6_readStatement 71 = .ok (.aload_n 0, 1) := by decide +kernel
theorem dX6_readStatement_72 : decode cX6_readStatement 72 = .ok (.getfield 117, 3) := by decide +kernel
theorem dX6_readStatement_75 : decode cX6_readStatement 75 = .ok (.ifCond .ne 11, 3) := by decide +kernel
theorem dX6_readStatement_78 : decode cX6_readStatement 78 = .ok (.aload_n 0, 1) := by decide +kernel
theorem dX6_readStatement_79 : decode cX6_readStatement 79 = .ok (.iload_n 2, 1) := by decide +kernel
theorem dX6_readStatement_80 : decode cX6_readStatement 80 = .ok (.iconst 2, 1) := by decide +kernel
theorem dX6_readStatement_81 : decode cX6_readStatement 81 = .ok (.iload_n 1, 1) := by decide +kernel
theorem dX6_readStatement_82 : decode cX6_readStatement 82 = .ok (.imul, 1) := by decide +kernel
theorem dX6_readStatement_83 : decode cX6_readStatement 83 = .ok (.invokevirtual 138, 3) := by decide +kernel
theorem dX6_readStatement_86 : decode cX6_readStatement 86 = .ok (.aload_n 0, 1) := by decide +kernel
theorem dX6_readStatement_87 : decode cX6_readStatement 87 = .ok (.aload_n 0, 1) := by decide +kernel
theorem dX6_readStatement_88 : decode cX6_readStatement 88 = .ok (.getfield 117, 3) := by decide +kernel
theorem dX6_readStatement_91 : decode cX6_readStatement 91 = .ok (.ifCond .ne 12, 3) := by decide +kernel
theorem dX6_readStatement_94 : decode cX6_readStatement 94 = .ok (.aload_n 0, 1) := by decide +kernel
theorem dX6_readStatement_95 : decode cX6_readStatement 95 = .ok (.invokevirtual 120, 3) := by decide +kernel
theorem dX6_readStatement_98 : decode cX6_readStatement 98 = .ok (.bipush 59, 2) := by decide +kernel
theorem dX6_readStatement_100 : decode cX6_readStatement 100 = .ok (.if_icmp .eq 7, 3) := by decide +kernel
theorem dX6_readStatement_103 : decode cX6_readStatement 103 = .ok (.iconst 1, 1) := by decide +kernel
theorem dX6_readStatement_104 : decode cX6_readStatement 104 = .ok (.goto 4, 3) := by decide +kernel
theorem dX6_readStatement_107 : decode cX6_readStatement 107 = .ok (.iconst 0, 1) := by decide +kernel
theorem dX6_readStatement_108 : decode cX6_readStatement 108 = .ok (.putfield 117, 3) := by decide +kernel
theorem dX6_readStatement_111 : decode cX6_readStatement 111 = .ok (.aload_n 0, 1) := by decide +kernel
theorem dX6_readStatement_112 : decode cX6_readStatement 112 = .ok (.dup, 1) := by decide +kernel
theorem dX6_readStatement_113 : decode cX6_readStatement 113 = .ok (.getfield 114, 3) := by decide +kernel
theorem dX6_readStatement_116 : decode cX6_readStatement 116 = .ok (.aload_n 0, 1) := by decide +kernel
theorem dX6_readStatement_117 : decode cX6_readStatement 117 = .ok (.getfield 117, 3) := by decide +kernel
theorem dX6_readStatement_120 : decode cX6_readStatement 120 = .ok (.ifCond .eq 7, 3) := by decide +kernel
theorem dX6_readStatement_123 : decode cX6_readStatement 123 = .ok (.iconst 0, 1) := by decide +kernel
theorem dX6_readStatement_124 : decode cX6_readStatement 124 = .ok (.goto 4, 3) := by decide +kernel
theorem dX6_readStatement_127 : decode cX6_readStatement 127 = .ok (.iconst 1, 1) := by decide +kernel
theorem dX6_readStatement_128 : decode cX6_readStatement 128 = .ok (.iadd, 1) := by decide +kernel
theorem dX6_readStatement_129 : decode cX6_readStatement 129 = .ok (.putfield 114, 3) := by decide +kernel
theorem dX6_readStatement_132 : decode cX6_readStatement 132 = .ok (.aload_n 0, 1) := by decide +kernel
theorem dX6_readStatement_133 : decode cX6_readStatement 133 = .ok (.dup, 1) := by decide +kernel
theorem dX6_readStatement_134 : decode cX6_readStatement 134 = .ok (.getfield 131, 3) := by decide +kernel
theorem dX6_readStatement_137 : decode cX6_readStatement 137 = .ok (.iconst 1, 1) := by decide +kernel
theorem dX6_readStatement_138 : decode cX6_readStatement 138 = .ok (.iadd, 1) := by decide +kernel
theorem dX6_readStatement_139 : decode cX6_readStatement 139 = .ok (.putfield 131, 3) := by decide +kernel
theorem dX6_readStatement_142 : decode cX6_readStatement 142 = .ok (.return_, 1) := by decide +kernel
theorem dX6_hoursTold_0 : decode cX6_hoursTold 0 = .ok (.iload_n 1, 1) := by decide +kernel
theorem dX6_hoursTold_1 : decode cX6_hoursTold 1 = .ok (.i2l, 1) := by decide +kernel
theorem dX6_hoursTold_2 : decode cX6_hoursTold 2 = .ok (.lconst 1, 1) := by decide +kernel
theorem dX6_hoursTold_3 : decode cX6_hoursTold 3 = .ok (.ldc2_w 141, 3) := by decide +kernel
theorem dX6_hoursTold_6 : decode cX6_hoursTold 6 = .ok (.invokestatic 65, 3) := by decide +kernel
theorem dX6_hoursTold_9 : decode cX6_hoursTold 9 = .ok (.ifCond .eq 19, 3) := by decide +kernel
theorem dX6_hoursTold_12 : decode cX6_hoursTold 12 = .ok (.aload_n 0, 1) := by decide +kernel
theorem dX6_hoursTold_13 : decode cX6_hoursTold 13 = .ok (.getfield 76, 3) := by decide +kernel
theorem dX6_hoursTold_16 : decode cX6_hoursTold 16 = .ok (.iload_n 1, 1) := by decide +kernel
theorem dX6_hoursTold_17 : decode cX6_hoursTold 17 = .ok (.iadd, 1) := by decide +kernel
theorem dX6_hoursTold_18 : decode cX6_hoursTold 18 = .ok (.sipush 999, 3) := by decide +kernel
theorem dX6_hoursTold_21 : decode cX6_hoursTold 21 = .ok (.if_icmp .gt 7, 3) := by decide +kernel
theorem dX6_hoursTold_24 : decode cX6_hoursTold 24 = .ok (.iconst 1, 1) := by decide +kernel
theorem dX6_hoursTold_25 : decode cX6_hoursTold 25 = .ok (.goto 4, 3) := by decide +kernel
theorem dX6_hoursTold_28 : decode cX6_hoursTold 28 = .ok (.iconst 0, 1) := by decide +kernel
theorem dX6_hoursTold_29 : decode cX6_hoursTold 29 = .ok (.istore_n 2, 1) := by decide +kernel
theorem dX6_hoursTold_30 : decode cX6_hoursTold 30 = .ok (.iload_n 2, 1) := by decide +kernel
theorem dX6_hoursTold_31 : decode cX6_hoursTold 31 = .ok (.ifCond .eq 8, 3) := by decide +kernel
theorem dX6_hoursTold_34 : decode cX6_hoursTold 34 = .ok (.aload_n 0, 1) := by decide +kernel
theorem dX6_hoursTold_35 : decode cX6_hoursTold 35 = .ok (.iload_n 1, 1) := by decide +kernel
theorem dX6_hoursTold_36 : decode cX6_hoursTold 36 = .ok (.invokevirtual 143, 3) := by decide +kernel
theorem dX6_hoursTold_39 : decode cX6_hoursTold 39 = .ok (.iload_n 2, 1) := by decide +kernel
theorem dX6_hoursTold_40 : decode cX6_hoursTold 40 = .ok (.ireturn, 1) := by decide +kernel
theorem dX6_comesTold_0 : decode cX6_comesTold 0 = .ok (.aload_n 0, 1) := by decide +kernel
theorem dX6_comesTold_1 : decode cX6_comesTold 1 = .ok (.getfield 34, 3) := by decide +kernel
theorem dX6_comesTold_4 : decode cX6_comesTold 4 = .ok (.iconst 2, 1) := by decide +kernel
theorem dX6_comesTold_5 : decode cX6_comesTold 5 = .ok (.iload_n 1, 1) := by decide +kernel
theorem dX6_comesTold_6 : decode cX6_comesTold 6 = .ok (.imul, 1) := by decide +kernel
theorem dX6_comesTold_7 : decode cX6_comesTold 7 = .ok (.iaload, 1) := by decide +kernel
theorem dX6_comesTold_8 : decode cX6_comesTold 8 = .ok (.istore_n 2, 1) := by decide +kernel
theorem dX6_comesTold_9 : decode cX6_comesTold 9 = .ok (.aload_n 0, 1) := by decide +kernel
theorem dX6_comesTold_10 : decode cX6_comesTold 10 = .ok (.getfield 34, 3) := by decide +kernel
theorem dX6_comesTold_13 : decode cX6_comesTold 13 = .ok (.iconst 2, 1) := by decide +kernel
theorem dX6_comesTold_14 : decode cX6_comesTold 14 = .ok (.iload_n 1, 1) := by decide +kernel
theorem dX6_comesTold_15 : decode cX6_comesTold 15 = .ok (.imul, 1) := by decide +kernel
theorem dX6_comesTold_16 : decode cX6_comesTold 16 = .ok (.iconst 1, 1) := by decide +kernel
theorem dX6_comesTold_17 : decode cX6_comesTold 17 = .ok (.iadd, 1) := by decide +kernel
theorem dX6_comesTold_18 : decode cX6_comesTold 18 = .ok (.iaload, 1) := by decide +kernel
theorem dX6_comesTold_19 : decode cX6_comesTold 19 = .ok (.istore_n 3, 1) := by decide +kernel
theorem dX6_comesTold_20 : decode cX6_comesTold 20 = .ok (.aload_n 0, 1) := by decide +kernel
theorem dX6_comesTold_21 : decode cX6_comesTold 21 = .ok (.iload_n 2, 1) := by decide +kernel
theorem dX6_comesTold_22 : decode cX6_comesTold 22 = .ok (.invokevirtual 147, 3) := by decide +kernel
theorem dX6_comesTold_25 : decode cX6_comesTold 25 = .ok (.istore 4, 2) := by decide +kernel
theorem dX6_comesTold_27 : decode cX6_comesTold 27 = .ok (.aload_n 0, 1) := by decide +kernel
theorem dX6_comesTold_28 : decode cX6_comesTold 28 = .ok (.getfield 31, 3) := by decide +kernel
theorem dX6_comesTold_31 : decode cX6_comesTold 31 = .ok (.iload_n 1, 1) := by decide +kernel
theorem dX6_comesTold_32 : decode cX6_comesTold 32 = .ok (.iaload, 1) := by decide +kernel
theorem dX6_comesTold_33 : decode cX6_comesTold 33 = .ok (.lookupswitch 135 #[(98, 90), (99, 128), (110, 51), (118, 114), (120, 58)], 51) := by decide +kernel
theorem dX6_comesTold_84 : decode cX6_comesTold 84 = .ok (.aload_n 0, 1) := by decide +kernel
theorem dX6_comesTold_85 : decode cX6_comesTold 85 = .ok (.iload_n 2, 1) := by decide +kernel
theorem dX6_comesTold_86 : decode cX6_comesTold 86 = .ok (.iload_n 3, 1) := by decide +kernel
theorem dX6_comesTold_87 : decode cX6_comesTold 87 = .ok (.invokevirtual 150, 3) := by decide +kernel
theorem dX6_comesTold_90 : decode cX6_comesTold 90 = .ok (.ireturn, 1) := by decide +kernel
theorem dX6_comesTold_91 : decode cX6_comesTold 91 = .ok (.iload 4, 2) := by decide +kernel
theorem dX6_comesTold_93 : decode cX6_comesTold 93 = .ok (.ifCond .eq 12, 3) := by decide +kernel
theorem dX6_comesTold_96 : decode cX6_comesTold 96 = .ok (.iload_n 3, 1) := by decide +kernel
theorem dX6_comesTold_97 : decode cX6_comesTold 97 = .ok (.iload_n 2, 1) := by decide +kernel
theorem dX6_comesTold_98 : decode cX6_comesTold 98 = .ok (.if_icmp .le 7, 3) := by decide +kernel
theorem dX6_comesTold_101 : decode cX6_comesTold 101 = .ok (.iconst 1, 1) := by decide +kernel
theorem dX6_comesTold_102 : decode cX6_comesTold 102 = .ok (.goto 4, 3) := by decide +kernel
theorem dX6_comesTold_105 : decode cX6_comesTold 105 = .ok (.iconst 0, 1) := by decide +kernel
theorem dX6_comesTold_106 : decode cX6_comesTold 106 = .ok (.istore 4, 2) := by decide +kernel
theorem dX6_comesTold_108 : decode cX6_comesTold 108 = .ok (.iload 4, 2) := by decide +kernel
theorem dX6_comesTold_110 : decode cX6_comesTold 110 = .ok (.ifCond .eq 10, 3) := by decide +kernel
theorem dX6_comesTold_113 : decode cX6_comesTold 113 = .ok (.aload_n 0, 1) := by decide +kernel
theorem dX6_comesTold_114 : decode cX6_comesTold 114 = .ok (.getfield 19, 3) := by decide +kernel
theorem dX6_comesTold_117 : decode cX6_comesTold 117 = .ok (.iload_n 2, 1) := by decide +kernel
theorem dX6_comesTold_118 : decode cX6_comesTold 118 = .ok (.iload_n 3, 1) := by decide +kernel
theorem dX6_comesTold_119 : decode cX6_comesTold 119 = .ok (.iastore, 1) := by decide +kernel
theorem dX6_comesTold_120 : decode cX6_comesTold 120 = .ok (.iload 4, 2) := by decide +kernel
theorem dX6_comesTold_122 : decode cX6_comesTold 122 = .ok (.ireturn, 1) := by decide +kernel
theorem dX6_comesTold_123 : decode cX6_comesTold 123 = .ok (.aload_n 0, 1) := by decide +kernel
theorem dX6_comesTold_124 : decode cX6_comesTold 124 = .ok (.dup, 1) := by decide +kernel
theorem dX6_comesTold_125 : decode cX6_comesTold 125 = .ok (.getfield 83, 3) := by decide +kernel
theorem dX6_comesTold_128 : decode cX6_comesTold 128 = .ok (.iload 4, 2) := by decide +kernel
theorem dX6_comesTold_130 : decode cX6_comesTold 130 = .ok (.ifCond .eq 9, 3) := by decide +kernel
theorem dX6_comesTold_133 : decode cX6_comesTold 133 = .ok (.iconst 1, 1) := by decide +kernel
theorem dX6_comesTold_134 : decode cX6_comesTold 134 = .ok (.iload_n 2, 1) := by decide +kernel
theorem dX6_comesTold_135 : decode cX6_comesTold 135 = .ok (.ishl, 1) := by decide +kernel
theorem dX6_comesTold_136 : decode cX6_comesTold 136 = .ok (.goto 4, 3) := by decide +kernel
theorem dX6_comesTold_139 : decode cX6_comesTold 139 = .ok (.iconst 0, 1) := by decide +kernel
theorem dX6_comesTold_140 : decode cX6_comesTold 140 = .ok (.ixor, 1) := by decide +kernel
theorem dX6_comesTold_141 : decode cX6_comesTold 141 = .ok (.putfield 83, 3) := by decide +kernel
theorem dX6_comesTold_144 : decode cX6_comesTold 144 = .ok (.iload 4, 2) := by decide +kernel
theorem dX6_comesTold_146 : decode cX6_comesTold 146 = .ok (.ireturn, 1) := by decide +kernel
theorem dX6_comesTold_147 : decode cX6_comesTold 147 = .ok (.iload 4, 2) := by decide +kernel
theorem dX6_comesTold_149 : decode cX6_comesTold 149 = .ok (.ifCond .eq 9, 3) := by decide +kernel
theorem dX6_comesTold_152 : decode cX6_comesTold 152 = .ok (.aload_n 0, 1) := by decide +kernel
theorem dX6_comesTold_153 : decode cX6_comesTold 153 = .ok (.iload_n 2, 1) := by decide +kernel
theorem dX6_comesTold_154 : decode cX6_comesTold 154 = .ok (.iload_n 3, 1) := by decide +kernel
theorem dX6_comesTold_155 : decode cX6_comesTold 155 = .ok (.invokevirtual 97, 3) := by decide +kernel
theorem dX6_comesTold_158 : decode cX6_comesTold 158 = .ok (.iload 4, 2) := by decide +kernel
theorem dX6_comesTold_160 : decode cX6_comesTold 160 = .ok (.ireturn, 1) := by decide +kernel
theorem dX6_comesTold_161 : decode cX6_comesTold 161 = .ok (.aload_n 0, 1) := by decide +kernel
theorem dX6_comesTold_162 : decode cX6_comesTold 162 = .ok (.iconst 0, 1) := by decide +kernel
theorem dX6_comesTold_163 : decode cX6_comesTold 163 = .ok (.putfield 101, 3) := by decide +kernel
theorem dX6_comesTold_166 : decode cX6_comesTold 166 = .ok (.iconst 1, 1) := by decide +kernel
theorem dX6_comesTold_167 : decode cX6_comesTold 167 = .ok (.ireturn, 1) := by decide +kernel
theorem dX6_comesTold_168 : decode cX6_comesTold 168 = .ok (.aload_n 0, 1) := by decide +kernel
theorem dX6_comesTold_169 : decode cX6_comesTold 169 = .ok (.iload_n 2, 1) := by decide +kernel
theorem dX6_comesTold_170 : decode cX6_comesTold 170 = .ok (.invokevirtual 153, 3) := by decide +kernel
theorem dX6_comesTold_173 : decode cX6_comesTold 173 = .ok (.ireturn, 1) := by decide +kernel
theorem dX6_parish_0 : decode cX6_parish 0 = .ok (.aload_n 0, 1) := by decide +kernel
theorem dX6_parish_1 : decode cX6_parish 1 = .ok (.iconst 0, 1) := by decide +kernel
theorem dX6_parish_2 : decode cX6_parish 2 = .ok (.putfield 58, 3) := by decide +kernel
theorem dX6_parish_5 : decode cX6_parish 5 = .ok (.aload_n 0, 1) := by decide +kernel
theorem dX6_parish_6 : decode cX6_parish 6 = .ok (.iconst 0, 1) := by decide +kernel
theorem dX6_parish_7 : decode cX6_parish 7 = .ok (.putfield 114, 3) := by decide +kernel
theorem dX6_parish_10 : decode cX6_parish 10 = .ok (.aload_n 0, 1) := by decide +kernel
theorem dX6_parish_11 : decode cX6_parish 11 = .ok (.iconst 0, 1) := by decide +kernel
theorem dX6_parish_12 : decode cX6_parish 12 = .ok (.putfield 117, 3) := by decide +kernel
theorem dX6_parish_15 : decode cX6_parish 15 = .ok (.aload_n 0, 1) := by decide +kernel
theorem dX6_parish_16 : decode cX6_parish 16 = .ok (.iconst 0, 1) := by decide +kernel
theorem dX6_parish_17 : decode cX6_parish 17 = .ok (.putfield 131, 3) := by decide +kernel
theorem dX6_parish_20 : decode cX6_parish 20 = .ok (.aload_n 0, 1) := by decide +kernel
theorem dX6_parish_21 : decode cX6_parish 21 = .ok (.getfield 117, 3) := by decide +kernel
theorem dX6_parish_24 : decode cX6_parish 24 = .ok (.ifCond .ne 28, 3) := by decide +kernel
theorem dX6_parish_27 : decode cX6_parish 27 = .ok (.aload_n 0, 1) := by decide +kernel
theorem dX6_parish_28 : decode cX6_parish 28 = .ok (.getfield 131, 3) := by decide +kernel
theorem dX6_parish_31 : decode cX6_parish 31 = .ok (.ifCond .eq 14, 3) := by decide +kernel
theorem dX6_parish_34 : decode cX6_parish 34 = .ok (.aload_n 0, 1) := by decide +kernel
theorem dX6_parish_35 : decode cX6_parish 35 = .ok (.getfield 114, 3) := by decide +kernel
theorem dX6_parish_38 : decode cX6_parish 38 = .ok (.aload_n 0, 1) := by decide +kernel
theorem dX6_parish_39 : decode cX6_parish 39 = .ok (.getfield 111, 3) := by decide +kernel
theorem dX6_parish_42 : decode cX6_parish 42 = .ok (.if_icmp .ge 10, 3) := by decide +kernel
theorem dX6_parish_45 : decode cX6_parish 45 = .ok (.aload_n 0, 1) := by decide +kernel
theorem dX6_parish_46 : decode cX6_parish 46 = .ok (.invokevirtual 156, 3) := by decide +kernel
theorem dX6_parish_49 : decode cX6_parish 49 = .ok (.goto (-29), 3) := by decide +kernel
theorem dX6_parish_52 : decode cX6_parish 52 = .ok (.aload_n 0, 1) := by decide +kernel
theorem dX6_parish_53 : decode cX6_parish 53 = .ok (.iconst 0, 1) := by decide +kernel
theorem dX6_parish_54 : decode cX6_parish 54 = .ok (.putfield 111, 3) := by decide +kernel
theorem dX6_parish_57 : decode cX6_parish 57 = .ok (.aload_n 0, 1) := by decide +kernel
theorem dX6_parish_58 : decode cX6_parish 58 = .ok (.getfield 117, 3) := by decide +kernel
theorem dX6_parish_61 : decode cX6_parish 61 = .ok (.ifCond .eq 12, 3) := by decide +kernel
theorem dX6_parish_64 : decode cX6_parish 64 = .ok (.sipush (-1000), 3) := by decide +kernel
theorem dX6_parish_67 : decode cX6_parish 67 = .ok (.aload_n 0, 1) := by decide +kernel
theorem dX6_parish_68 : decode cX6_parish 68 = .ok (.getfield 114, 3) := by decide +kernel
theorem dX6_parish_71 : decode cX6_parish 71 = .ok (.isub, 1) := by decide +kernel
theorem dX6_parish_72 : decode cX6_parish 72 = .ok (.ireturn, 1) := by decide +kernel
theorem dX6_parish_73 : decode cX6_parish 73 = .ok (.aload_n 0, 1) := by decide +kernel
theorem dX6_parish_74 : decode cX6_parish 74 = .ok (.invokevirtual 159, 3) := by decide +kernel
theorem dX6_parish_77 : decode cX6_parish 77 = .ok (.iconst 0, 1) := by decide +kernel
theorem dX6_parish_78 : decode cX6_parish 78 = .ok (.istore_n 1, 1) := by decide +kernel
theorem dX6_parish_79 : decode cX6_parish 79 = .ok (.iload_n 1, 1) := by decide +kernel
theorem dX6_parish_80 : decode cX6_parish 80 = .ok (.aload_n 0, 1) := by decide +kernel
theorem dX6_parish_81 : decode cX6_parish 81 = .ok (.getfield 131, 3) := by decide +kernel
theorem dX6_parish_84 : decode cX6_parish 84 = .ok (.if_icmp .ge 32, 3) := by decide +kernel
theorem dX6_parish_87 : decode cX6_parish 87 = .ok (.aload_n 0, 1) := by decide +kernel
theorem dX6_parish_88 : decode cX6_parish 88 = .ok (.iload_n 1, 1) := by decide +kernel
theorem dX6_parish_89 : decode cX6_parish 89 = .ok (.invokevirtual 162, 3) := by decide +kernel
theorem dX6_parish_92 : decode cX6_parish 92 = .ok (.ifCond .ne 18, 3) := by decide +kernel
theorem dX6_parish_95 : decode cX6_parish 95 = .ok (.aload_n 0, 1) := by decide +kernel
theorem dX6_parish_96 : decode cX6_parish 96 = .ok (.invokevirtual 165, 3) := by decide +kernel
theorem dX6_parish_99 : decode cX6_parish 99 = .ok (.sipush (-2000), 3) := by decide +kernel
theorem dX6_parish_102 : decode cX6_parish 102 = .ok (.aload_n 0, 1) := by decide +kernel
theorem dX6_parish_103 : decode cX6_parish 103 = .ok (.getfield 28, 3) := by decide +kernel
theorem dX6_parish_106 : decode cX6_parish 106 = .ok (.iload_n 1, 1) := by decide +kernel
theorem dX6_parish_107 : decode cX6_parish 107 = .ok (.iaload, 1) := by decide +kernel
theorem dX6_parish_108 : decode cX6_parish 108 = .ok (.isub, 1) := by decide +kernel
theorem dX6_parish_109 : decode cX6_parish 109 = .ok (.ireturn, 1) := by decide +kernel
theorem dX6_parish_110 : decode cX6_parish 110 = .ok (.iinc 1 1, 3) := by decide +kernel
theorem dX6_parish_113 : decode cX6_parish 113 = .ok (.goto (-34), 3) := by decide +kernel
theorem dX6_parish_116 : decode cX6_parish 116 = .ok (.aload_n 0, 1) := by decide +kernel
theorem dX6_parish_117 : decode cX6_parish 117 = .ok (.iconst 0, 1) := by decide +kernel
theorem dX6_parish_118 : decode cX6_parish 118 = .ok (.putfield 168, 3) := by decide +kernel
theorem dX6_parish_121 : decode cX6_parish 121 = .ok (.aload_n 0, 1) := by decide +kernel
theorem dX6_parish_122 : decode cX6_parish 122 = .ok (.getfield 131, 3) := by decide +kernel
theorem dX6_parish_125 : decode cX6_parish 125 = .ok (.ireturn, 1) := by decide +kernel
theorem dX6_carry_0 : decode cX6_carry 0 = .ok (.aload_n 0, 1) := by decide +kernel
theorem dX6_carry_1 : decode cX6_carry 1 = .ok (.getfield 171, 3) := by decide +kernel
theorem dX6_carry_4 : decode cX6_carry 4 = .ok (.ifCond .eq 13, 3) := by decide +kernel
theorem dX6_carry_7 : decode cX6_carry 7 = .ok (.aload_n 0, 1) := by decide +kernel
theorem dX6_carry_8 : decode cX6_carry 8 = .ok (.getfield 174, 3) := by decide +kernel
theorem dX6_carry_11 : decode cX6_carry 11 = .ok (.aload_n 0, 1) := by decide +kernel
theorem dX6_carry_12 : decode cX6_carry 12 = .ok (.getfield 177, 3) := by decide +kernel
theorem dX6_carry_15 : decode cX6_carry 15 = .ok (.iload_n 1, 1) := by decide +kernel
theorem dX6_carry_16 : decode cX6_carry 16 = .ok (.iastore, 1) := by decide +kernel
theorem dX6_carry_17 : decode cX6_carry 17 = .ok (.aload_n 0, 1) := by decide +kernel
theorem dX6_carry_18 : decode cX6_carry 18 = .ok (.dup, 1) := by decide +kernel
theorem dX6_carry_19 : decode cX6_carry 19 = .ok (.getfield 177, 3) := by decide +kernel
theorem dX6_carry_22 : decode cX6_carry 22 = .ok (.iconst 1, 1) := by decide +kernel
theorem dX6_carry_23 : decode cX6_carry 23 = .ok (.iadd, 1) := by decide +kernel
theorem dX6_carry_24 : decode cX6_carry 24 = .ok (.putfield 177, 3) := by decide +kernel
theorem dX6_carry_27 : decode cX6_carry 27 = .ok (.aload_n 0, 1) := by decide +kernel
theorem dX6_carry_28 : decode cX6_carry 28 = .ok (.getfield 174, 3) := by decide +kernel
theorem dX6_carry_31 : decode cX6_carry 31 = .ok (.aload_n 0, 1) := by decide +kernel
theorem dX6_carry_32 : decode cX6_carry 32 = .ok (.getfield 177, 3) := by decide +kernel
theorem dX6_carry_35 : decode cX6_carry 35 = .ok (.iconst 1, 1) := by decide +kernel
theorem dX6_carry_36 : decode cX6_carry 36 = .ok (.isub, 1) := by decide +kernel
theorem dX6_carry_37 : decode cX6_carry 37 = .ok (.iaload, 1) := by decide +kernel
theorem dX6_carry_38 : decode cX6_carry 38 = .ok (.ireturn, 1) := by decide +kernel
theorem dX6_carryAll_0 : decode cX6_carryAll 0 = .ok (.aload_n 0, 1) := by decide +kernel
theorem dX6_carryAll_1 : decode cX6_carryAll 1 = .ok (.aload_n 1, 1) := by decide +kernel
theorem dX6_carryAll_2 : decode cX6_carryAll 2 = .ok (.putfield 174, 3) := by decide +kernel
theorem dX6_carryAll_5 : decode cX6_carryAll 5 = .ok (.aload_n 0, 1) := by decide +kernel
theorem dX6_carryAll_6 : decode cX6_carryAll 6 = .ok (.iload_n 2, 1) := by decide +kernel
theorem dX6_carryAll_7 : decode cX6_carryAll 7 = .ok (.putfield 171, 3) := by decide +kernel
theorem dX6_carryAll_10 : decode cX6_carryAll 10 = .ok (.aload_n 0, 1) := by decide +kernel
theorem dX6_carryAll_11 : decode cX6_carryAll 11 = .ok (.iconst 0, 1) := by decide +kernel
theorem dX6_carryAll_12 : decode cX6_carryAll 12 = .ok (.putfield 177, 3) := by decide +kernel
theorem dX6_carryAll_15 : decode cX6_carryAll 15 = .ok (.aload_n 0, 1) := by decide +kernel
theorem dX6_carryAll_16 : decode cX6_carryAll 16 = .ok (.aload_n 0, 1) := by decide +kernel
theorem dX6_carryAll_17 : decode cX6_carryAll 17 = .ok (.aload_n 0, 1) := by decide +kernel
theorem dX6_carryAll_18 : decode cX6_carryAll 18 = .ok (.getfield 62, 3) := by decide +kernel
theorem dX6_carryAll_21 : decode cX6_carryAll 21 = .ok (.invokevirtual 180, 3) := by decide +kernel
theorem dX6_carryAll_24 : decode cX6_carryAll 24 = .ok (.putfield 62, 3) := by decide +kernel
theorem dX6_carryAll_27 : decode cX6_carryAll 27 = .ok (.aload_n 0, 1) := by decide +kernel
theorem dX6_carryAll_28 : decode cX6_carryAll 28 = .ok (.aload_n 0, 1) := by decide +kernel
theorem dX6_carryAll_29 : decode cX6_carryAll 29 = .ok (.aload_n 0, 1) := by decide +kernel
theorem dX6_carryAll_30 : decode cX6_carryAll 30 = .ok (.getfield 83, 3) := by decide +kernel
theorem dX6_carryAll_33 : decode cX6_carryAll 33 = .ok (.invokevirtual 180, 3) := by decide +kernel
theorem dX6_carryAll_36 : decode cX6_carryAll 36 = .ok (.putfield 83, 3) := by decide +kernel
theorem dX6_carryAll_39 : decode cX6_carryAll 39 = .ok (.aload_n 0, 1) := by decide +kernel
theorem dX6_carryAll_40 : decode cX6_carryAll 40 = .ok (.aload_n 0, 1) := by decide +kernel
theorem dX6_carryAll_41 : decode cX6_carryAll 41 = .ok (.aload_n 0, 1) := by decide +kernel
theorem dX6_carryAll_42 : decode cX6_carryAll 42 = .ok (.getfield 73, 3) := by decide +kernel
theorem dX6_carryAll_45 : decode cX6_carryAll 45 = .ok (.invokevirtual 180, 3) := by decide +kernel
theorem dX6_carryAll_48 : decode cX6_carryAll 48 = .ok (.putfield 73, 3) := by decide +kernel
theorem dX6_carryAll_51 : decode cX6_carryAll 51 = .ok (.aload_n 0, 1) := by decide +kernel
theorem dX6_carryAll_52 : decode cX6_carryAll 52 = .ok (.aload_n 0, 1) := by decide +kernel
theorem dX6_carryAll_53 : decode cX6_carryAll 53 = .ok (.aload_n 0, 1) := by decide +kernel
theorem dX6_carryAll_54 : decode cX6_carryAll 54 = .ok (.getfield 101, 3) := by decide +kernel
theorem dX6_carryAll_57 : decode cX6_carryAll 57 = .ok (.invokevirtual 180, 3) := by decide +kernel
theorem dX6_carryAll_60 : decode cX6_carryAll 60 = .ok (.putfield 101, 3) := by decide +kernel
theorem dX6_carryAll_63 : decode cX6_carryAll 63 = .ok (.aload_n 0, 1) := by decide +kernel
theorem dX6_carryAll_64 : decode cX6_carryAll 64 = .ok (.aload_n 0, 1) := by decide +kernel
theorem dX6_carryAll_65 : decode cX6_carryAll 65 = .ok (.aload_n 0, 1) := by decide +kernel
theorem dX6_carryAll_66 : decode cX6_carryAll 66 = .ok (.getfield 76, 3) := by decide +kernel
theorem dX6_carryAll_69 : decode cX6_carryAll 69 = .ok (.invokevirtual 180, 3) := by decide +kernel
theorem dX6_carryAll_72 : decode cX6_carryAll 72 = .ok (.putfield 76, 3) := by decide +kernel
theorem dX6_carryAll_75 : decode cX6_carryAll 75 = .ok (.iconst 0, 1) := by decide +kernel
theorem dX6_carryAll_76 : decode cX6_carryAll 76 = .ok (.istore_n 3, 1) := by decide +kernel
theorem dX6_carryAll_77 : decode cX6_carryAll 77 = .ok (.iload_n 3, 1) := by decide +kernel
theorem dX6_carryAll_78 : decode cX6_carryAll 78 = .ok (.bipush 9, 2) := by decide +kernel
theorem dX6_carryAll_80 : decode cX6_carryAll 80 = .ok (.if_icmp .ge 73, 3) := by decide +kernel
theorem dX6_carryAll_83 : decode cX6_carryAll 83 = .ok (.aload_n 0, 1) := by decide +kernel
theorem dX6_carryAll_84 : decode cX6_carryAll 84 = .ok (.getfield 7, 3) := by decide +kernel
theorem dX6_carryAll_87 : decode cX6_carryAll 87 = .ok (.iload_n 3, 1) := by decide +kernel
theorem dX6_carryAll_88 : decode cX6_carryAll 88 = .ok (.aload_n 0, 1) := by decide +kernel
theorem dX6_carryAll_89 : decode cX6_carryAll 89 = .ok (.aload_n 0, 1) := by decide +kernel
theorem dX6_carryAll_90 : decode cX6_carryAll 90 = .ok (.getfield 7, 3) := by decide +kernel
theorem dX6_carryAll_93 : decode cX6_carryAll 93 = .ok (.iload_n 3, 1) := by decide +kernel
theorem dX6_carryAll_94 : decode cX6_carryAll 94 = .ok (.iaload, 1) := by decide +kernel
theorem dX6_carryAll_95 : decode cX6_carryAll 95 = .ok (.invokevirtual 180, 3) := by decide +kernel
theorem dX6_carryAll_98 : decode cX6_carryAll 98 = .ok (.iastore, 1) := by decide +kernel
theorem dX6_carryAll_99 : decode cX6_carryAll 99 = .ok (.aload_n 0, 1) := by decide +kernel
theorem dX6_carryAll_100 : decode cX6_carryAll 100 = .ok (.getfield 13, 3) := by decide +kernel
theorem dX6_carryAll_103 : decode cX6_carryAll 103 = .ok (.iload_n 3, 1) := by decide +kernel
theorem dX6_carryAll_104 : decode cX6_carryAll 104 = .ok (.aload_n 0, 1) := by decide +kernel
theorem dX6_carryAll_105 : decode cX6_carryAll 105 = .ok (.aload_n 0, 1) := by decide +kernel
theorem dX6_carryAll_106 : decode cX6_carryAll 106 = .ok (.getfield 13, 3) := by decide +kernel
theorem dX6_carryAll_109 : decode cX6_carryAll 109 = .ok (.iload_n 3, 1) := by decide +kernel
theorem dX6_carryAll_110 : decode cX6_carryAll 110 = .ok (.iaload, 1) := by decide +kernel
theorem dX6_carryAll_111 : decode cX6_carryAll 111 = .ok (.invokevirtual 180, 3) := by decide +kernel
theorem dX6_carryAll_114 : decode cX6_carryAll 114 = .ok (.iastore, 1) := by decide +kernel
theorem dX6_carryAll_115 : decode cX6_carryAll 115 = .ok (.aload_n 0, 1) := by decide +kernel
theorem dX6_carryAll_116 : decode cX6_carryAll 116 = .ok (.getfield 16, 3) := by decide +kernel
theorem dX6_carryAll_119 : decode cX6_carryAll 119 = .ok (.iload_n 3, 1) := by decide +kernel
theorem dX6_carryAll_120 : decode cX6_carryAll 120 = .ok (.aload_n 0, 1) := by decide +kernel
theorem dX6_carryAll_121 : decode cX6_carryAll 121 = .ok (.aload_n 0, 1) := by decide +kernel
theorem dX6_carryAll_122 : decode cX6_carryAll 122 = .ok (.getfield 16, 3) := by decide +kernel
theorem dX6_carryAll_125 : decode cX6_carryAll 125 = .ok (.iload_n 3, 1) := by decide +kernel
theorem dX6_carryAll_126 : decode cX6_carryAll 126 = .ok (.iaload, 1) := by decide +kernel
theorem dX6_carryAll_127 : decode cX6_carryAll 127 = .ok (.invokevirtual 180, 3) := by decide +kernel
theorem dX6_carryAll_130 : decode cX6_carryAll 130 = .ok (.iastore, 1) := by decide +kernel
theorem dX6_carryAll_131 : decode cX6_carryAll 131 = .ok (.aload_n 0, 1) := by decide +kernel
theorem dX6_carryAll_132 : decode cX6_carryAll 132 = .ok (.getfield 19, 3) := by decide +kernel
theorem dX6_carryAll_135 : decode cX6_carryAll 135 = .ok (.iload_n 3, 1) := by decide +kernel
theorem dX6_carryAll_136 : decode cX6_carryAll 136 = .ok (.aload_n 0, 1) := by decide +kernel
theorem dX6_carryAll_137 : decode cX6_carryAll 137 = .ok (.aload_n 0, 1) := by decide +kernel
theorem dX6_carryAll_138 : decode cX6_carryAll 138 = .ok (.getfield 19, 3) := by decide +kernel
theorem dX6_carryAll_141 : decode cX6_carryAll 141 = .ok (.iload_n 3, 1) := by decide +kernel
theorem dX6_carryAll_142 : decode cX6_carryAll 142 = .ok (.iaload, 1) := by decide +kernel
theorem dX6_carryAll_143 : decode cX6_carryAll 143 = .ok (.invokevirtual 180, 3) := by decide +kernel
theorem dX6_carryAll_146 : decode cX6_carryAll 146 = .ok (.iastore, 1) := by decide +kernel
theorem dX6_carryAll_147 : decode cX6_carryAll 147 = .ok (.iinc 3 1, 3) := by decide +kernel
theorem dX6_carryAll_150 : decode cX6_carryAll 150 = .ok (.goto (-73), 3) := by decide +kernel
theorem dX6_carryAll_153 : decode cX6_carryAll 153 = .ok (.return_, 1) := by decide +kernel
theorem dX6_think_0 : decode cX6_think 0 = .ok (.aload_n 0, 1) := by decide +kernel
theorem dX6_think_1 : decode cX6_think 1 = .ok (.aload_n 0, 1) := by decide +kernel
theorem dX6_think_2 : decode cX6_think 2 = .ok (.getfield 37, 3) := by decide +kernel
theorem dX6_think_5 : decode cX6_think 5 = .ok (.iconst 1, 1) := by decide +kernel
theorem dX6_think_6 : decode cX6_think 6 = .ok (.invokevirtual 183, 3) := by decide +kernel
theorem dX6_think_9 : decode cX6_think 9 = .ok (.return_, 1) := by decide +kernel
theorem dX6_again_0 : decode cX6_again 0 = .ok (.aload_n 0, 1) := by decide +kernel
theorem dX6_again_1 : decode cX6_again 1 = .ok (.aload_n 0, 1) := by decide +kernel
theorem dX6_again_2 : decode cX6_again 2 = .ok (.getfield 37, 3) := by decide +kernel
theorem dX6_again_5 : decode cX6_again 5 = .ok (.iconst 0, 1) := by decide +kernel
theorem dX6_again_6 : decode cX6_again 6 = .ok (.invokevirtual 183, 3) := by decide +kernel
theorem dX6_again_9 : decode cX6_again 9 = .ok (.return_, 1) := by decide +kernel
theorem dX6_image_0 : decode cX6_image 0 = .ok (.aload_n 0, 1) := by decide +kernel
theorem dX6_image_1 : decode cX6_image 1 = .ok (.iconst 0, 1) := by decide +kernel
theorem dX6_image_2 : decode cX6_image 2 = .ok (.putfield 58, 3) := by decide +kernel
theorem dX6_image_5 : decode cX6_image 5 = .ok (.aload_n 0, 1) := by decide +kernel
theorem dX6_image_6 : decode cX6_image 6 = .ok (.iconst 1, 1) := by decide +kernel
theorem dX6_image_7 : decode cX6_image 7 = .ok (.putfield 187, 3) := by decide +kernel
theorem dX6_image_10 : decode cX6_image 10 = .ok (.aload_n 0, 1) := by decide +kernel
theorem dX6_image_11 : decode cX6_image 11 = .ok (.aload_n 0, 1) := by decide +kernel
theorem dX6_image_12 : decode cX6_image 12 = .ok (.getfield 40, 3) := by decide +kernel
theorem dX6_image_15 : decode cX6_image 15 = .ok (.iconst 1, 1) := by decide +kernel
theorem dX6_image_16 : decode cX6_image 16 = .ok (.invokevirtual 183, 3) := by decide +kernel
theorem dX6_image_19 : decode cX6_image 19 = .ok (.aload_n 0, 1) := by decide +kernel
theorem dX6_image_20 : decode cX6_image 20 = .ok (.getfield 76, 3) := by decide +kernel
theorem dX6_image_23 : decode cX6_image 23 = .ok (.ireturn, 1) := by decide +kernel
theorem dX6_restore_0 : decode cX6_restore 0 = .ok (.aload_n 0, 1) := by decide +kernel
theorem dX6_restore_1 : decode cX6_restore 1 = .ok (.iconst 0, 1) := by decide +kernel
theorem dX6_restore_2 : decode cX6_restore 2 = .ok (.putfield 58, 3) := by decide +kernel
theorem dX6_restore_5 : decode cX6_restore 5 = .ok (.aload_n 0, 1) := by decide +kernel
theorem dX6_restore_6 : decode cX6_restore 6 = .ok (.getfield 187, 3) := by decide +kernel
theorem dX6_restore_9 : decode cX6_restore 9 = .ok (.ifCond .ne 10, 3) := by decide +kernel
theorem dX6_restore_12 : decode cX6_restore 12 = .ok (.aload_n 0, 1) := by decide +kernel
theorem dX6_restore_13 : decode cX6_restore 13 = .ok (.bipush (-3), 2) := by decide +kernel
theorem dX6_restore_15 : decode cX6_restore 15 = .ok (.invokevirtual 108, 3) := by decide +kernel
theorem dX6_restore_18 : decode cX6_restore 18 = .ok (.ireturn, 1) := by decide +kernel
theorem dX6_restore_19 : decode cX6_restore 19 = .ok (.aload_n 0, 1) := by decide +kernel
theorem dX6_restore_20 : decode cX6_restore 20 = .ok (.aload_n 0, 1) := by decide +kernel
theorem dX6_restore_21 : decode cX6_restore 21 = .ok (.getfield 40, 3) := by decide +kernel
theorem dX6_restore_24 : decode cX6_restore 24 = .ok (.iconst 0, 1) := by decide +kernel
theorem dX6_restore_25 : decode cX6_restore 25 = .ok (.invokevirtual 183, 3) := by decide +kernel
theorem dX6_restore_28 : decode cX6_restore 28 = .ok (.aload_n 0, 1) := by decide +kernel
theorem dX6_restore_29 : decode cX6_restore 29 = .ok (.iconst 0, 1) := by decide +kernel
theorem dX6_restore_30 : decode cX6_restore 30 = .ok (.putfield 168, 3) := by decide +kernel
theorem dX6_restore_33 : decode cX6_restore 33 = .ok (.aload_n 0, 1) := by decide +kernel
theorem dX6_restore_34 : decode cX6_restore 34 = .ok (.getfield 76, 3) := by decide +kernel
theorem dX6_restore_37 : decode cX6_restore 37 = .ok (.ireturn, 1) := by decide +kernel
theorem dX6_keepTurn_0 : decode cX6_keepTurn 0 = .ok (.aload_n 0, 1) := by decide +kernel
theorem dX6_keepTurn_1 : decode cX6_keepTurn 1 = .ok (.getfield 168, 3) := by decide +kernel
theorem dX6_keepTurn_4 : decode cX6_keepTurn 4 = .ok (.bipush 8, 2) := by decide +kernel
theorem dX6_keepTurn_6 : decode cX6_keepTurn 6 = .ok (.if_icmp .ne 44, 3) := by decide +kernel
theorem dX6_keepTurn_9 : decode cX6_keepTurn 9 = .ok (.bipush 41, 2) := by decide +kernel
theorem dX6_keepTurn_11 : decode cX6_keepTurn 11 = .ok (.istore_n 1, 1) := by decide +kernel
theorem dX6_keepTurn_12 : decode cX6_keepTurn 12 = .ok (.iload_n 1, 1) := by decide +kernel
theorem dX6_keepTurn_13 : decode cX6_keepTurn 13 = .ok (.sipush 328, 3) := by decide +kernel
theorem dX6_keepTurn_16 : decode cX6_keepTurn 16 = .ok (.if_icmp .ge 24, 3) := by decide +kernel
theorem dX6_keepTurn_19 : decode cX6_keepTurn 19 = .ok (.aload_n 0, 1) := by decide +kernel
theorem dX6_keepTurn_20 : decode cX6_keepTurn 20 = .ok (.getfield 43, 3) := by decide +kernel
theorem dX6_keepTurn_23 : decode cX6_keepTurn 23 = .ok (.iload_n 1, 1) := by decide +kernel
theorem dX6_keepTurn_24 : decode cX6_keepTurn 24 = .ok (.bipush 41, 2) := by decide +kernel
theorem dX6_keepTurn_26 : decode cX6_keepTurn 26 = .ok (.isub, 1) := by decide +kernel
theorem dX6_keepTurn_27 : decode cX6_keepTurn 27 = .ok (.aload_n 0, 1) := by decide +kernel
theorem dX6_keepTurn_28 : decode cX6_keepTurn 28 = .ok (.getfield 43, 3) := by decide +kernel
theorem dX6_keepTurn_31 : decode cX6_keepTurn 31 = .ok (.iload_n 1, 1) := by decide +kernel
theorem dX6_keepTurn_32 : decode cX6_keepTurn 32 = .ok (.iaload, 1) := by decide +kernel
theorem dX6_keepTurn_33 : decode cX6_keepTurn 33 = .ok (.iastore, 1) := by decide +kernel
theorem dX6_keepTurn_34 : decode cX6_keepTurn 34 = .ok (.iinc 1 1, 3) := by decide +kernel
theorem dX6_keepTurn_37 : decode cX6_keepTurn 37 = .ok (.goto (-25), 3) := by decide +kernel
theorem dX6_keepTurn_40 : decode cX6_keepTurn 40 = .ok (.aload_n 0, 1) := by decide +kernel
theorem dX6_keepTurn_41 : decode cX6_keepTurn 41 = .ok (.dup, 1) := by decide +kernel
theorem dX6_keepTurn_42 : decode cX6_keepTurn 42 = .ok (.getfield 168, 3) := by decide +kernel
theorem dX6_keepTurn_45 : decode cX6_keepTurn 45 = .ok (.iconst 1, 1) := by decide +kernel
theorem dX6_keepTurn_46 : decode cX6_keepTurn 46 = .ok (.isub, 1) := by decide +kernel
theorem dX6_keepTurn_47 : decode cX6_keepTurn 47 = .ok (.putfield 168, 3) := by decide +kernel
theorem dX6_keepTurn_50 : decode cX6_keepTurn 50 = .ok (.aload_n 0, 1) := by decide +kernel
theorem dX6_keepTurn_51 : decode cX6_keepTurn 51 = .ok (.aload_n 0, 1) := by decide +kernel
theorem dX6_keepTurn_52 : decode cX6_keepTurn 52 = .ok (.getfield 46, 3) := by decide +kernel
theorem dX6_keepTurn_55 : decode cX6_keepTurn 55 = .ok (.iconst 1, 1) := by decide +kernel
theorem dX6_keepTurn_56 : decode cX6_keepTurn 56 = .ok (.invokevirtual 183, 3) := by decide +kernel
theorem dX6_keepTurn_59 : decode cX6_keepTurn 59 = .ok (.iconst 0, 1) := by decide +kernel
theorem dX6_keepTurn_60 : decode cX6_keepTurn 60 = .ok (.istore_n 1, 1) := by decide +kernel
theorem dX6_keepTurn_61 : decode cX6_keepTurn 61 = .ok (.iload_n 1, 1) := by decide +kernel
theorem dX6_keepTurn_62 : decode cX6_keepTurn 62 = .ok (.bipush 41, 2) := by decide +kernel
theorem dX6_keepTurn_64 : decode cX6_keepTurn 64 = .ok (.if_icmp .ge 29, 3) := by decide +kernel
theorem dX6_keepTurn_67 : decode cX6_keepTurn 67 = .ok (.aload_n 0, 1) := by decide +kernel
theorem dX6_keepTurn_68 : decode cX6_keepTurn 68 = .ok (.getfield 43, 3) := by decide +kernel
theorem dX6_keepTurn_71 : decode cX6_keepTurn 71 = .ok (.bipush 41, 2) := by decide +kernel
theorem dX6_keepTurn_73 : decode cX6_keepTurn 73 = .ok (.aload_n 0, 1) := by decide +kernel
theorem dX6_keepTurn_74 : decode cX6_keepTurn 74 = .ok (.getfield 168, 3) := by decide +kernel
theorem dX6_keepTurn_77 : decode cX6_keepTurn 77 = .ok (.imul, 1) := by decide +kernel
theorem dX6_keepTurn_78 : decode cX6_keepTurn 78 = .ok (.iload_n 1, 1) := by decide +kernel
theorem dX6_keepTurn_79 : decode cX6_keepTurn 79 = .ok (.iadd, 1) := by decide +kernel
theorem dX6_keepTurn_80 : decode cX6_keepTurn 80 = .ok (.aload_n 0, 1) := by decide +kernel
theorem dX6_keepTurn_81 : decode cX6_keepTurn 81 = .ok (.getfield 46, 3) := by decide +kernel
theorem dX6_keepTurn_84 : decode cX6_keepTurn 84 = .ok (.iload_n 1, 1) := by decide +kernel
theorem dX6_keepTurn_85 : decode cX6_keepTurn 85 = .ok (.iaload, 1) := by decide +kernel
theorem dX6_keepTurn_86 : decode cX6_keepTurn 86 = .ok (.iastore, 1) := by decide +kernel
theorem dX6_keepTurn_87 : decode cX6_keepTurn 87 = .ok (.iinc 1 1, 3) := by decide +kernel
theorem dX6_keepTurn_90 : decode cX6_keepTurn 90 = .ok (.goto (-29), 3) := by decide +kernel
theorem dX6_keepTurn_93 : decode cX6_keepTurn 93 = .ok (.aload_n 0, 1) := by decide +kernel
theorem dX6_keepTurn_94 : decode cX6_keepTurn 94 = .ok (.dup, 1) := by decide +kernel
theorem dX6_keepTurn_95 : decode cX6_keepTurn 95 = .ok (.getfield 168, 3) := by decide +kernel
theorem dX6_keepTurn_98 : decode cX6_keepTurn 98 = .ok (.iconst 1, 1) := by decide +kernel
theorem dX6_keepTurn_99 : decode cX6_keepTurn 99 = .ok (.iadd, 1) := by decide +kernel
theorem dX6_keepTurn_100 : decode cX6_keepTurn 100 = .ok (.putfield 168, 3) := by decide +kernel
theorem dX6_keepTurn_103 : decode cX6_keepTurn 103 = .ok (.return_, 1) := by decide +kernel
theorem dX6_back_0 : decode cX6_back 0 = .ok (.aload_n 0, 1) := by decide +kernel
theorem dX6_back_1 : decode cX6_back 1 = .ok (.iconst 0, 1) := by decide +kernel
theorem dX6_back_2 : decode cX6_back 2 = .ok (.putfield 58, 3) := by decide +kernel
theorem dX6_back_5 : decode cX6_back 5 = .ok (.aload_n 0, 1) := by decide +kernel
theorem dX6_back_6 : decode cX6_back 6 = .ok (.getfield 168, 3) := by decide +kernel
theorem dX6_back_9 : decode cX6_back 9 = .ok (.ifCond .ne 10, 3) := by decide +kernel
theorem dX6_back_12 : decode cX6_back 12 = .ok (.aload_n 0, 1) := by decide +kernel
theorem dX6_back_13 : decode cX6_back 13 = .ok (.bipush (-3), 2) := by decide +kernel
theorem dX6_back_15 : decode cX6_back 15 = .ok (.invokevirtual 108, 3) := by decide +kernel
theorem dX6_back_18 : decode cX6_back 18 = .ok (.ireturn, 1) := by decide +kernel
theorem dX6_back_19 : decode cX6_back 19 = .ok (.aload_n 0, 1) := by decide +kernel
theorem dX6_back_20 : decode cX6_back 20 = .ok (.dup, 1) := by decide +kernel
theorem dX6_back_21 : decode cX6_back 21 = .ok (.getfield 168, 3) := by decide +kernel
theorem dX6_back_24 : decode cX6_back 24 = .ok (.iconst 1, 1) := by decide +kernel
theorem dX6_back_25 : decode cX6_back 25 = .ok (.isub, 1) := by decide +kernel
theorem dX6_back_26 : decode cX6_back 26 = .ok (.putfield 168, 3) := by decide +kernel
theorem dX6_back_29 : decode cX6_back 29 = .ok (.iconst 0, 1) := by decide +kernel
theorem dX6_back_30 : decode cX6_back 30 = .ok (.istore_n 1, 1) := by decide +kernel
theorem dX6_back_31 : decode cX6_back 31 = .ok (.iload_n 1, 1) := by decide +kernel
theorem dX6_back_32 : decode cX6_back 32 = .ok (.bipush 41, 2) := by decide +kernel
theorem dX6_back_34 : decode cX6_back 34 = .ok (.if_icmp .ge 29, 3) := by decide +kernel
theorem dX6_back_37 : decode cX6_back 37 = .ok (.aload_n 0, 1) := by decide +kernel
theorem dX6_back_38 : decode cX6_back 38 = .ok (.getfield 46, 3) := by decide +kernel
theorem dX6_back_41 : decode cX6_back 41 = .ok (.iload_n 1, 1) := by decide +kernel
theorem dX6_back_42 : decode cX6_back 42 = .ok (.aload_n 0, 1) := by decide +kernel
theorem dX6_back_43 : decode cX6_back 43 = .ok (.getfield 43, 3) := by decide +kernel
theorem dX6_back_46 : decode cX6_back 46 = .ok (.bipush 41, 2) := by decide +kernel
theorem dX6_back_48 : decode cX6_back 48 = .ok (.aload_n 0, 1) := by decide +kernel
theorem dX6_back_49 : decode cX6_back 49 = .ok (.getfield 168, 3) := by decide +kernel
theorem dX6_back_52 : decode cX6_back 52 = .ok (.imul, 1) := by decide +kernel
theorem dX6_back_53 : decode cX6_back 53 = .ok (.iload_n 1, 1) := by decide +kernel
theorem dX6_back_54 : decode cX6_back 54 = .ok (.iadd, 1) := by decide +kernel
theorem dX6_back_55 : decode cX6_back 55 = .ok (.iaload, 1) := by decide +kernel
theorem dX6_back_56 : decode cX6_back 56 = .ok (.iastore, 1) := by decide +kernel
theorem dX6_back_57 : decode cX6_back 57 = .ok (.iinc 1 1, 3) := by decide +kernel
theorem dX6_back_60 : decode cX6_back 60 = .ok (.goto (-29), 3) := by decide +kernel
theorem dX6_back_63 : decode cX6_back 63 = .ok (.aload_n 0, 1) := by decide +kernel
theorem dX6_back_64 : decode cX6_back 64 = .ok (.aload_n 0, 1) := by decide +kernel
theorem dX6_back_65 : decode cX6_back 65 = .ok (.getfield 46, 3) := by decide +kernel
theorem dX6_back_68 : decode cX6_back 68 = .ok (.iconst 0, 1) := by decide +kernel
theorem dX6_back_69 : decode cX6_back 69 = .ok (.invokevirtual 183, 3) := by decide +kernel
theorem dX6_back_72 : decode cX6_back 72 = .ok (.aload_n 0, 1) := by decide +kernel
theorem dX6_back_73 : decode cX6_back 73 = .ok (.getfield 168, 3) := by decide +kernel
theorem dX6_back_76 : decode cX6_back 76 = .ok (.ireturn, 1) := by decide +kernel
theorem dX6_letNext_0 : decode cX6_letNext 0 = .ok (.aload_n 0, 1) := by decide +kernel
theorem dX6_letNext_1 : decode cX6_letNext 1 = .ok (.getfield 83, 3) := by decide +kernel
theorem dX6_letNext_4 : decode cX6_letNext 4 = .ok (.iload_n 1, 1) := by decide +kernel
theorem dX6_letNext_5 : decode cX6_letNext 5 = .ok (.invokestatic 86, 3) := by decide +kernel
theorem dX6_letNext_8 : decode cX6_letNext 8 = .ok (.ifCond .eq 7, 3) := by decide +kernel
theorem dX6_letNext_11 : decode cX6_letNext 11 = .ok (.iconst 0, 1) := by decide +kernel
theorem dX6_letNext_12 : decode cX6_letNext 12 = .ok (.goto 8, 3) := by decide +kernel
theorem dX6_letNext_15 : decode cX6_letNext 15 = .ok (.aload_n 0, 1) := by decide +kernel
theorem dX6_letNext_16 : decode cX6_letNext 16 = .ok (.iload_n 1, 1) := by decide +kernel
theorem dX6_letNext_17 : decode cX6_letNext 17 = .ok (.invokevirtual 90, 3) := by decide +kernel
theorem dX6_letNext_20 : decode cX6_letNext 20 = .ok (.ireturn, 1) := by decide +kernel
theorem dX6_houseOf_0 : decode cX6_houseOf 0 = .ok (.aload_n 0, 1) := by decide +kernel
theorem dX6_houseOf_1 : decode cX6_houseOf 1 = .ok (.iconst 0, 1) := by decide +kernel
theorem dX6_houseOf_2 : decode cX6_houseOf 2 = .ok (.putfield 58, 3) := by decide +kernel
theorem dX6_houseOf_5 : decode cX6_houseOf 5 = .ok (.aload_n 0, 1) := by decide +kernel
theorem dX6_houseOf_6 : decode cX6_houseOf 6 = .ok (.iload_n 1, 1) := by decide +kernel
theorem dX6_houseOf_7 : decode cX6_houseOf 7 = .ok (.invokevirtual 147, 3) := by decide +kernel
theorem dX6_houseOf_10 : decode cX6_houseOf 10 = .ok (.ifCond .eq 15, 3) := by decide +kernel
theorem dX6_houseOf_13 : decode cX6_houseOf 13 = .ok (.iload_n 2, 1) := by decide +kernel
theorem dX6_houseOf_14 : decode cX6_houseOf 14 = .ok (.i2l, 1) := by decide +kernel
theorem dX6_houseOf_15 : decode cX6_houseOf 15 = .ok (.lconst 0, 1) := by decide +kernel
theorem dX6_houseOf_16 : decode cX6_houseOf 16 = .ok (.ldc2_w 190, 3) := by decide +kernel
theorem dX6_houseOf_19 : decode cX6_houseOf 19 = .ok (.invokestatic 65, 3) := by decide +kernel
theorem dX6_houseOf_22 : decode cX6_houseOf 22 = .ok (.ifCond .ne 22, 3) := by decide +kernel
theorem dX6_houseOf_25 : decode cX6_houseOf 25 = .ok (.aload_n 0, 1) := by decide +kernel
theorem dX6_houseOf_26 : decode cX6_houseOf 26 = .ok (.aload_n 0, 1) := by decide +kernel
theorem dX6_houseOf_27 : decode cX6_houseOf 27 = .ok (.iload_n 1, 1) := by decide +kernel
theorem dX6_houseOf_28 : decode cX6_houseOf 28 = .ok (.invokevirtual 147, 3) := by decide +kernel
theorem dX6_houseOf_31 : decode cX6_houseOf 31 = .ok (.ifCond .eq 8, 3) := by decide +kernel
theorem dX6_houseOf_34 : decode cX6_houseOf 34 = .ok (.bipush (-2), 2) := by decide +kernel
theorem dX6_houseOf_36 : decode cX6_houseOf 36 = .ok (.goto 4, 3) := by decide +kernel
theorem dX6_houseOf_39 : decode cX6_houseOf 39 = .ok (.iconst (-1), 1) := by decide +kernel
theorem dX6_houseOf_40 : decode cX6_houseOf 40 = .ok (.invokevirtual 108, 3) := by decide +kernel
theorem dX6_houseOf_43 : decode cX6_houseOf 43 = .ok (.ireturn, 1) := by decide +kernel
theorem dX6_houseOf_44 : decode cX6_houseOf 44 = .ok (.iload_n 2, 1) := by decide +kernel
theorem dX6_houseOf_45 : decode cX6_houseOf 45 = .ok (.tableswitch 101 0 5 #[39, 46, 53, 60, 67, 84], 39) := by decide +kernel
theorem dX6_houseOf_84 : decode cX6_houseOf 84 = .ok (.aload_n 0, 1) := by decide +kernel
theorem dX6_houseOf_85 : decode cX6_houseOf 85 = .ok (.getfield 7, 3) := by decide +kernel
theorem dX6_houseOf_88 : decode cX6_houseOf 88 = .ok (.iload_n 1, 1) := by decide +kernel
theorem dX6_houseOf_89 : decode cX6_houseOf 89 = .ok (.iaload, 1) := by decide +kernel
theorem dX6_houseOf_90 : decode cX6_houseOf 90 = .ok (.ireturn, 1) := by decide +kernel
theorem dX6_houseOf_91 : decode cX6_houseOf 91 = .ok (.aload_n 0, 1) := by decide +kernel
theorem dX6_houseOf_92 : decode cX6_houseOf 92 = .ok (.getfield 13, 3) := by decide +kernel
theorem dX6_houseOf_95 : decode cX6_houseOf 95 = .ok (.iload_n 1, 1) := by decide +kernel
theorem dX6_houseOf_96 : decode cX6_houseOf 96 = .ok (.iaload, 1) := by decide +kernel
theorem dX6_houseOf_97 : decode cX6_houseOf 97 = .ok (.ireturn, 1) := by decide +kernel
theorem dX6_houseOf_98 : decode cX6_houseOf 98 = .ok (.aload_n 0, 1) := by decide +kernel
theorem dX6_houseOf_99 : decode cX6_houseOf 99 = .ok (.getfield 16, 3) := by decide +kernel
theorem dX6_houseOf_102 : decode cX6_houseOf 102 = .ok (.iload_n 1, 1) := by decide +kernel
theorem dX6_houseOf_103 : decode cX6_houseOf 103 = .ok (.iaload, 1) := by decide +kernel
theorem dX6_houseOf_104 : decode cX6_houseOf 104 = .ok (.ireturn, 1) := by decide +kernel
theorem dX6_houseOf_105 : decode cX6_houseOf 105 = .ok (.aload_n 0, 1) := by decide +kernel
theorem dX6_houseOf_106 : decode cX6_houseOf 106 = .ok (.getfield 19, 3) := by decide +kernel
theorem dX6_houseOf_109 : decode cX6_houseOf 109 = .ok (.iload_n 1, 1) := by decide +kernel
theorem dX6_houseOf_110 : decode cX6_houseOf 110 = .ok (.iaload, 1) := by decide +kernel
theorem dX6_houseOf_111 : decode cX6_houseOf 111 = .ok (.ireturn, 1) := by decide +kernel
theorem dX6_houseOf_112 : decode cX6_houseOf 112 = .ok (.aload_n 0, 1) := by decide +kernel
theorem dX6_houseOf_113 : decode cX6_houseOf 113 = .ok (.getfield 83, 3) := by decide +kernel
theorem dX6_houseOf_116 : decode cX6_houseOf 116 = .ok (.iload_n 1, 1) := by decide +kernel
theorem dX6_houseOf_117 : decode cX6_houseOf 117 = .ok (.invokestatic 86, 3) := by decide +kernel
theorem dX6_houseOf_120 : decode cX6_houseOf 120 = .ok (.ifCond .eq 7, 3) := by decide +kernel
theorem dX6_houseOf_123 : decode cX6_houseOf 123 = .ok (.iconst 1, 1) := by decide +kernel
theorem dX6_houseOf_124 : decode cX6_houseOf 124 = .ok (.goto 4, 3) := by decide +kernel
theorem dX6_houseOf_127 : decode cX6_houseOf 127 = .ok (.iconst 0, 1) := by decide +kernel
theorem dX6_houseOf_128 : decode cX6_houseOf 128 = .ok (.ireturn, 1) := by decide +kernel
theorem dX6_houseOf_129 : decode cX6_houseOf 129 = .ok (.aload_n 0, 1) := by decide +kernel
theorem dX6_houseOf_130 : decode cX6_houseOf 130 = .ok (.getfield 73, 3) := by decide +kernel
theorem dX6_houseOf_133 : decode cX6_houseOf 133 = .ok (.iload_n 1, 1) := by decide +kernel
theorem dX6_houseOf_134 : decode cX6_houseOf 134 = .ok (.invokestatic 86, 3) := by decide +kernel
theorem dX6_houseOf_137 : decode cX6_houseOf 137 = .ok (.ifCond .eq 7, 3) := by decide +kernel
theorem dX6_houseOf_140 : decode cX6_houseOf 140 = .ok (.iconst 1, 1) := by decide +kernel
theorem dX6_houseOf_141 : decode cX6_houseOf 141 = .ok (.goto 4, 3) := by decide +kernel
theorem dX6_houseOf_144 : decode cX6_houseOf 144 = .ok (.iconst 0, 1) := by decide +kernel
theorem dX6_houseOf_145 : decode cX6_houseOf 145 = .ok (.ireturn, 1) := by decide +kernel
theorem dX6_houseOf_146 : decode cX6_houseOf 146 = .ok (.aload_n 0, 1) := by decide +kernel
theorem dX6_houseOf_147 : decode cX6_houseOf 147 = .ok (.iload_n 1, 1) := by decide +kernel
theorem dX6_houseOf_148 : decode cX6_houseOf 148 = .ok (.invokevirtual 192, 3) := by decide +kernel
theorem dX6_houseOf_151 : decode cX6_houseOf 151 = .ok (.ireturn, 1) := by decide +kernel
theorem dX6_house_0 : decode cX6_house 0 = .ok (.aload_n 0, 1) := by decide +kernel
theorem dX6_house_1 : decode cX6_house 1 = .ok (.iconst 0, 1) := by decide +kernel
theorem dX6_house_2 : decode cX6_house 2 = .ok (.putfield 58, 3) := by decide +kernel
theorem dX6_house_5 : decode cX6_house 5 = .ok (.iload_n 1, 1) := by decide +kernel
theorem dX6_house_6 : decode cX6_house 6 = .ok (.i2l, 1) := by decide +kernel
theorem dX6_house_7 : decode cX6_house 7 = .ok (.lconst 0, 1) := by decide +kernel
theorem dX6_house_8 : decode cX6_house 8 = .ok (.ldc2_w 195, 3) := by decide +kernel
theorem dX6_house_11 : decode cX6_house 11 = .ok (.invokestatic 65, 3) := by decide +kernel
theorem dX6_house_14 : decode cX6_house 14 = .ok (.ifCond .eq 13, 3) := by decide +kernel
theorem dX6_house_17 : decode cX6_house 17 = .ok (.iload_n 2, 1) := by decide +kernel
theorem dX6_house_18 : decode cX6_house 18 = .ok (.iconst 0, 1) := by decide +kernel
theorem dX6_house_19 : decode cX6_house 19 = .ok (.bipush 9, 2) := by decide +kernel
theorem dX6_house_21 : decode cX6_house 21 = .ok (.invokestatic 197, 3) := by decide +kernel
theorem dX6_house_24 : decode cX6_house 24 = .ok (.goto 5, 3) := by decide +kernel
theorem dX6_house_27 : decode cX6_house 27 = .ok (.bipush (-2), 2) := by decide +kernel
theorem dX6_house_29 : decode cX6_house 29 = .ok (.istore_n 3, 1) := by decide +kernel
theorem dX6_house_30 : decode cX6_house 30 = .ok (.iload_n 3, 1) := by decide +kernel
theorem dX6_house_31 : decode cX6_house 31 = .ok (.ifCond .ne 17, 3) := by decide +kernel
theorem dX6_house_34 : decode cX6_house 34 = .ok (.aload_n 0, 1) := by decide +kernel
theorem dX6_house_35 : decode cX6_house 35 = .ok (.getfield 62, 3) := by decide +kernel
theorem dX6_house_38 : decode cX6_house 38 = .ok (.bipush 9, 2) := by decide +kernel
theorem dX6_house_40 : decode cX6_house 40 = .ok (.if_icmp .ne 8, 3) := by decide +kernel
theorem dX6_house_43 : decode cX6_house 43 = .ok (.bipush (-6), 2) := by decide +kernel
theorem dX6_house_45 : decode cX6_house 45 = .ok (.goto 4, 3) := by decide +kernel
theorem dX6_house_48 : decode cX6_house 48 = .ok (.iload_n 3, 1) := by decide +kernel
theorem dX6_house_49 : decode cX6_house 49 = .ok (.istore_n 3, 1) := by decide +kernel
theorem dX6_house_50 : decode cX6_house 50 = .ok (.iload_n 3, 1) := by decide +kernel
theorem dX6_house_51 : decode cX6_house 51 = .ok (.ifCond .ge 9, 3) := by decide +kernel
theorem dX6_house_54 : decode cX6_house 54 = .ok (.aload_n 0, 1) := by decide +kernel
theorem dX6_house_55 : decode cX6_house 55 = .ok (.iload_n 3, 1) := by decide +kernel
theorem dX6_house_56 : decode cX6_house 56 = .ok (.invokevirtual 108, 3) := by decide +kernel
theorem dX6_house_59 : decode cX6_house 59 = .ok (.ireturn, 1) := by decide +kernel
theorem dX6_house_60 : decode cX6_house 60 = .ok (.aload_n 0, 1) := by decide +kernel
theorem dX6_house_61 : decode cX6_house 61 = .ok (.iload_n 1, 1) := by decide +kernel
theorem dX6_house_62 : decode cX6_house 62 = .ok (.iload_n 2, 1) := by decide +kernel
theorem dX6_house_63 : decode cX6_house 63 = .ok (.invokevirtual 150, 3) := by decide +kernel
theorem dX6_house_66 : decode cX6_house 66 = .ok (.pop, 1) := by decide +kernel
theorem dX6_house_67 : decode cX6_house 67 = .ok (.aload_n 0, 1) := by decide +kernel
theorem dX6_house_68 : decode cX6_house 68 = .ok (.iconst 0, 1) := by decide +kernel
theorem dX6_house_69 : decode cX6_house 69 = .ok (.putfield 168, 3) := by decide +kernel
theorem dX6_house_72 : decode cX6_house 72 = .ok (.aload_n 0, 1) := by decide +kernel
theorem dX6_house_73 : decode cX6_house 73 = .ok (.getfield 62, 3) := by decide +kernel
theorem dX6_house_76 : decode cX6_house 76 = .ok (.iconst 1, 1) := by decide +kernel
theorem dX6_house_77 : decode cX6_house 77 = .ok (.isub, 1) := by decide +kernel
theorem dX6_house_78 : decode cX6_house 78 = .ok (.ireturn, 1) := by decide +kernel
theorem dX6_joins_0 : decode cX6_joins 0 = .ok (.aload_n 0, 1) := by decide +kernel
theorem dX6_joins_1 : decode cX6_joins 1 = .ok (.iconst 0, 1) := by decide +kernel
theorem dX6_joins_2 : decode cX6_joins 2 = .ok (.putfield 58, 3) := by decide +kernel
theorem dX6_joins_5 : decode cX6_joins 5 = .ok (.aload_n 0, 1) := by decide +kernel
theorem dX6_joins_6 : decode cX6_joins 6 = .ok (.iload_n 1, 1) := by decide +kernel
theorem dX6_joins_7 : decode cX6_joins 7 = .ok (.invokevirtual 147, 3) := by decide +kernel
theorem dX6_joins_10 : decode cX6_joins 10 = .ok (.ifCond .eq 15, 3) := by decide +kernel
theorem dX6_joins_13 : decode cX6_joins 13 = .ok (.iload_n 2, 1) := by decide +kernel
theorem dX6_joins_14 : decode cX6_joins 14 = .ok (.i2l, 1) := by decide +kernel
theorem dX6_joins_15 : decode cX6_joins 15 = .ok (.lconst 0, 1) := by decide +kernel
theorem dX6_joins_16 : decode cX6_joins 16 = .ok (.ldc2_w 201, 3) := by decide +kernel
theorem dX6_joins_19 : decode cX6_joins 19 = .ok (.invokestatic 65, 3) := by decide +kernel
theorem dX6_joins_22 : decode cX6_joins 22 = .ok (.ifCond .ne 9, 3) := by decide +kernel
theorem dX6_joins_25 : decode cX6_joins 25 = .ok (.aload_n 0, 1) := by decide +kernel
theorem dX6_joins_26 : decode cX6_joins 26 = .ok (.iconst (-1), 1) := by decide +kernel
theorem dX6_joins_27 : decode cX6_joins 27 = .ok (.invokevirtual 108, 3) := by decide +kernel
theorem dX6_joins_30 : decode cX6_joins 30 = .ok (.ireturn, 1) := by decide +kernel
theorem dX6_joins_31 : decode cX6_joins 31 = .ok (.iload_n 2, 1) := by decide +kernel
theorem dX6_joins_32 : decode cX6_joins 32 = .ok (.iload_n 1, 1) := by decide +kernel
theorem dX6_joins_33 : decode cX6_joins 33 = .ok (.if_icmp .gt 10, 3) := by decide +kernel
theorem dX6_joins_36 : decode cX6_joins 36 = .ok (.aload_n 0, 1) := by decide +kernel
theorem dX6_joins_37 : decode cX6_joins 37 = .ok (.bipush (-3), 2) := by decide +kernel
theorem dX6_joins_39 : decode cX6_joins 39 = .ok (.invokevirtual 108, 3) := by decide +kernel
theorem dX6_joins_42 : decode cX6_joins 42 = .ok (.ireturn, 1) := by decide +kernel
theorem dX6_joins_43 : decode cX6_joins 43 = .ok (.aload_n 0, 1) := by decide +kernel
theorem dX6_joins_44 : decode cX6_joins 44 = .ok (.invokevirtual 203, 3) := by decide +kernel
theorem dX6_joins_47 : decode cX6_joins 47 = .ok (.aload_n 0, 1) := by decide +kernel
theorem dX6_joins_48 : decode cX6_joins 48 = .ok (.getfield 19, 3) := by decide +kernel
theorem dX6_joins_51 : decode cX6_joins 51 = .ok (.iload_n 1, 1) := by decide +kernel
theorem dX6_joins_52 : decode cX6_joins 52 = .ok (.iaload, 1) := by decide +kernel
theorem dX6_joins_53 : decode cX6_joins 53 = .ok (.istore_n 3, 1) := by decide +kernel
theorem dX6_joins_54 : decode cX6_joins 54 = .ok (.aload_n 0, 1) := by decide +kernel
theorem dX6_joins_55 : decode cX6_joins 55 = .ok (.getfield 19, 3) := by decide +kernel
theorem dX6_joins_58 : decode cX6_joins 58 = .ok (.iload_n 1, 1) := by decide +kernel
theorem dX6_joins_59 : decode cX6_joins 59 = .ok (.iload_n 2, 1) := by decide +kernel
theorem dX6_joins_60 : decode cX6_joins 60 = .ok (.iastore, 1) := by decide +kernel
theorem dX6_joins_61 : decode cX6_joins 61 = .ok (.iload_n 3, 1) := by decide +kernel
theorem dX6_joins_62 : decode cX6_joins 62 = .ok (.ireturn, 1) := by decide +kernel
theorem dX6_blocks_0 : decode cX6_blocks 0 = .ok (.aload_n 0, 1) := by decide +kernel
theorem dX6_blocks_1 : decode cX6_blocks 1 = .ok (.iconst 0, 1) := by decide +kernel
theorem dX6_blocks_2 : decode cX6_blocks 2 = .ok (.putfield 58, 3) := by decide +kernel
theorem dX6_blocks_5 : decode cX6_blocks 5 = .ok (.aload_n 0, 1) := by decide +kernel
theorem dX6_blocks_6 : decode cX6_blocks 6 = .ok (.iload_n 1, 1) := by decide +kernel
theorem dX6_blocks_7 : decode cX6_blocks 7 = .ok (.invokevirtual 147, 3) := by decide +kernel
theorem dX6_blocks_10 : decode cX6_blocks 10 = .ok (.ifCond .ne 9, 3) := by decide +kernel
theorem dX6_blocks_13 : decode cX6_blocks 13 = .ok (.aload_n 0, 1) := by decide +kernel
theorem dX6_blocks_14 : decode cX6_blocks 14 = .ok (.iconst (-1), 1) := by decide +kernel
theorem dX6_blocks_15 : decode cX6_blocks 15 = .ok (.invokevirtual 108, 3) := by decide +kernel
theorem dX6_blocks_18 : decode cX6_blocks 18 = .ok (.ireturn, 1) := by decide +kernel
theorem dX6_blocks_19 : decode cX6_blocks 19 = .ok (.aload_n 0, 1) := by decide +kernel
theorem dX6_blocks_20 : decode cX6_blocks 20 = .ok (.invokevirtual 203, 3) := by decide +kernel
theorem dX6_blocks_23 : decode cX6_blocks 23 = .ok (.aload_n 0, 1) := by decide +kernel
theorem dX6_blocks_24 : decode cX6_blocks 24 = .ok (.dup, 1) := by decide +kernel
theorem dX6_blocks_25 : decode cX6_blocks 25 = .ok (.getfield 83, 3) := by decide +kernel
theorem dX6_blocks_28 : decode cX6_blocks 28 = .ok (.iconst 1, 1) := by decide +kernel
theorem dX6_blocks_29 : decode cX6_blocks 29 = .ok (.iload_n 1, 1) := by decide +kernel
theorem dX6_blocks_30 : decode cX6_blocks 30 = .ok (.ishl, 1) := by decide +kernel
theorem dX6_blocks_31 : decode cX6_blocks 31 = .ok (.ixor, 1) := by decide +kernel
theorem dX6_blocks_32 : decode cX6_blocks 32 = .ok (.putfield 83, 3) := by decide +kernel
theorem dX6_blocks_35 : decode cX6_blocks 35 = .ok (.aload_n 0, 1) := by decide +kernel
theorem dX6_blocks_36 : decode cX6_blocks 36 = .ok (.getfield 83, 3) := by decide +kernel
theorem dX6_blocks_39 : decode cX6_blocks 39 = .ok (.iload_n 1, 1) := by decide +kernel
theorem dX6_blocks_40 : decode cX6_blocks 40 = .ok (.invokestatic 86, 3) := by decide +kernel
theorem dX6_blocks_43 : decode cX6_blocks 43 = .ok (.ifCond .eq 7, 3) := by decide +kernel
theorem dX6_blocks_46 : decode cX6_blocks 46 = .ok (.iconst 1, 1) := by decide +kernel
theorem dX6_blocks_47 : decode cX6_blocks 47 = .ok (.goto 4, 3) := by decide +kernel
theorem dX6_blocks_50 : decode cX6_blocks 50 = .ok (.iconst 0, 1) := by decide +kernel
theorem dX6_blocks_51 : decode cX6_blocks 51 = .ok (.ireturn, 1) := by decide +kernel
theorem dX6_pours_0 : decode cX6_pours 0 = .ok (.aload_n 0, 1) := by decide +kernel
theorem dX6_pours_1 : decode cX6_pours 1 = .ok (.iconst 0, 1) := by decide +kernel
theorem dX6_pours_2 : decode cX6_pours 2 = .ok (.putfield 58, 3) := by decide +kernel
theorem dX6_pours_5 : decode cX6_pours 5 = .ok (.aload_n 0, 1) := by decide +kernel
theorem dX6_pours_6 : decode cX6_pours 6 = .ok (.iload_n 1, 1) := by decide +kernel
theorem dX6_pours_7 : decode cX6_pours 7 = .ok (.invokevirtual 147, 3) := by decide +kernel
theorem dX6_pours_10 : decode cX6_pours 10 = .ok (.ifCond .eq 13, 3) := by decide +kernel
theorem dX6_pours_13 : decode cX6_pours 13 = .ok (.iload_n 2, 1) := by decide +kernel
theorem dX6_pours_14 : decode cX6_pours 14 = .ok (.iconst 0, 1) := by decide +kernel
theorem dX6_pours_15 : decode cX6_pours 15 = .ok (.bipush 99, 2) := by decide +kernel
theorem dX6_pours_17 : decode cX6_pours 17 = .ok (.invokestatic 197, 3) := by decide +kernel
theorem dX6_pours_20 : decode cX6_pours 20 = .ok (.goto 4, 3) := by decide +kernel
theorem dX6_pours_23 : decode cX6_pours 23 = .ok (.iconst (-1), 1) := by decide +kernel
theorem dX6_pours_24 : decode cX6_pours 24 = .ok (.istore_n 3, 1) := by decide +kernel
theorem dX6_pours_25 : decode cX6_pours 25 = .ok (.iload_n 3, 1) := by decide +kernel
theorem dX6_pours_26 : decode cX6_pours 26 = .ok (.ifCond .ge 9, 3) := by decide +kernel
theorem dX6_pours_29 : decode cX6_pours 29 = .ok (.aload_n 0, 1) := by decide +kernel
theorem dX6_pours_30 : decode cX6_pours 30 = .ok (.iload_n 3, 1) := by decide +kernel
theorem dX6_pours_31 : decode cX6_pours 31 = .ok (.invokevirtual 108, 3) := by decide +kernel
theorem dX6_pours_34 : decode cX6_pours 34 = .ok (.ireturn, 1) := by decide +kernel
theorem dX6_pours_35 : decode cX6_pours 35 = .ok (.aload_n 0, 1) := by decide +kernel
theorem dX6_pours_36 : decode cX6_pours 36 = .ok (.invokevirtual 203, 3) := by decide +kernel
theorem dX6_pours_39 : decode cX6_pours 39 = .ok (.aload_n 0, 1) := by decide +kernel
theorem dX6_pours_40 : decode cX6_pours 40 = .ok (.iload_n 1, 1) := by decide +kernel
theorem dX6_pours_41 : decode cX6_pours 41 = .ok (.iload_n 2, 1) := by decide +kernel
theorem dX6_pours_42 : decode cX6_pours 42 = .ok (.invokevirtual 97, 3) := by decide +kernel
theorem dX6_pours_45 : decode cX6_pours 45 = .ok (.aload_n 0, 1) := by decide +kernel
theorem dX6_pours_46 : decode cX6_pours 46 = .ok (.getfield 16, 3) := by decide +kernel
theorem dX6_pours_49 : decode cX6_pours 49 = .ok (.iload_n 1, 1) := by decide +kernel
theorem dX6_pours_50 : decode cX6_pours 50 = .ok (.iaload, 1) := by decide +kernel
theorem dX6_pours_51 : decode cX6_pours 51 = .ok (.ireturn, 1) := by decide +kernel
theorem dX6_empties_0 : decode cX6_empties 0 = .ok (.aload_n 0, 1) := by decide +kernel
theorem dX6_empties_1 : decode cX6_empties 1 = .ok (.iconst 0, 1) := by decide +kernel
theorem dX6_empties_2 : decode cX6_empties 2 = .ok (.putfield 58, 3) := by decide +kernel
theorem dX6_empties_5 : decode cX6_empties 5 = .ok (.aload_n 0, 1) := by decide +kernel
theorem dX6_empties_6 : decode cX6_empties 6 = .ok (.getfield 101, 3) := by decide +kernel
theorem dX6_empties_9 : decode cX6_empties 9 = .ok (.istore_n 1, 1) := by decide +kernel
theorem dX6_empties_10 : decode cX6_empties 10 = .ok (.aload_n 0, 1) := by decide +kernel
theorem dX6_empties_11 : decode cX6_empties 11 = .ok (.iconst 0, 1) := by decide +kernel
theorem dX6_empties_12 : decode cX6_empties 12 = .ok (.putfield 101, 3) := by decide +kernel
theorem dX6_empties_15 : decode cX6_empties 15 = .ok (.aload_n 0, 1) := by decide +kernel
theorem dX6_empties_16 : decode cX6_empties 16 = .ok (.iconst 0, 1) := by decide +kernel
theorem dX6_empties_17 : decode cX6_empties 17 = .ok (.putfield 168, 3) := by decide +kernel
theorem dX6_empties_20 : decode cX6_empties 20 = .ok (.iload_n 1, 1) := by decide +kernel
theorem dX6_empties_21 : decode cX6_empties 21 = .ok (.ireturn, 1) := by decide +kernel
theorem dX6_hours_0 : decode cX6_hours 0 = .ok (.aload_n 0, 1) := by decide +kernel
theorem dX6_hours_1 : decode cX6_hours 1 = .ok (.iconst 0, 1) := by decide +kernel
theorem dX6_hours_2 : decode cX6_hours 2 = .ok (.putfield 58, 3) := by decide +kernel
theorem dX6_hours_5 : decode cX6_hours 5 = .ok (.iload_n 1, 1) := by decide +kernel
theorem dX6_hours_6 : decode cX6_hours 6 = .ok (.iconst 1, 1) := by decide +kernel
theorem dX6_hours_7 : decode cX6_hours 7 = .ok (.bipush 60, 2) := by decide +kernel
theorem dX6_hours_9 : decode cX6_hours 9 = .ok (.invokestatic 197, 3) := by decide +kernel
theorem dX6_hours_12 : decode cX6_hours 12 = .ok (.istore_n 2, 1) := by decide +kernel
theorem dX6_hours_13 : decode cX6_hours 13 = .ok (.iload_n 2, 1) := by decide +kernel
theorem dX6_hours_14 : decode cX6_hours 14 = .ok (.ifCond .ne 20, 3) := by decide +kernel
theorem dX6_hours_17 : decode cX6_hours 17 = .ok (.aload_n 0, 1) := by decide +kernel
theorem dX6_hours_18 : decode cX6_hours 18 = .ok (.getfield 76, 3) := by decide +kernel
theorem dX6_hours_21 : decode cX6_hours 21 = .ok (.iload_n 1, 1) := by decide +kernel
theorem dX6_hours_22 : decode cX6_hours 22 = .ok (.iadd, 1) := by decide +kernel
theorem dX6_hours_23 : decode cX6_hours 23 = .ok (.sipush 999, 3) := by decide +kernel
theorem dX6_hours_26 : decode cX6_hours 26 = .ok (.if_icmp .le 8, 3) := by decide +kernel
theorem dX6_hours_29 : decode cX6_hours 29 = .ok (.bipush (-6), 2) := by decide +kernel
theorem dX6_hours_31 : decode cX6_hours 31 = .ok (.goto 4, 3) := by decide +kernel
theorem dX6_hours_34 : decode cX6_hours 34 = .ok (.iload_n 2, 1) := by decide +kernel
theorem dX6_hours_35 : decode cX6_hours 35 = .ok (.istore_n 2, 1) := by decide +kernel
theorem dX6_hours_36 : decode cX6_hours 36 = .ok (.iload_n 2, 1) := by decide +kernel
theorem dX6_hours_37 : decode cX6_hours 37 = .ok (.ifCond .ge 9, 3) := by decide +kernel
theorem dX6_hours_40 : decode cX6_hours 40 = .ok (.aload_n 0, 1) := by decide +kernel
theorem dX6_hours_41 : decode cX6_hours 41 = .ok (.iload_n 2, 1) := by decide +kernel
theorem dX6_hours_42 : decode cX6_hours 42 = .ok (.invokevirtual 108, 3) := by decide +kernel
theorem dX6_hours_45 : decode cX6_hours 45 = .ok (.ireturn, 1) := by decide +kernel
theorem dX6_hours_46 : decode cX6_hours 46 = .ok (.aload_n 0, 1) := by decide +kernel
theorem dX6_hours_47 : decode cX6_hours 47 = .ok (.invokevirtual 203, 3) := by decide +kernel
theorem dX6_hours_50 : decode cX6_hours 50 = .ok (.aload_n 0, 1) := by decide +kernel
theorem dX6_hours_51 : decode cX6_hours 51 = .ok (.iload_n 1, 1) := by decide +kernel
theorem dX6_hours_52 : decode cX6_hours 52 = .ok (.invokevirtual 143, 3) := by decide +kernel
theorem dX6_hours_55 : decode cX6_hours 55 = .ok (.aload_n 0, 1) := by decide +kernel
theorem dX6_hours_56 : decode cX6_hours 56 = .ok (.getfield 101, 3) := by decide +kernel
theorem dX6_hours_59 : decode cX6_hours 59 = .ok (.ireturn, 1) := by decide +kernel
theorem dX6_holdsIn_0 : decode cX6_holdsIn 0 = .ok (.aload_n 0, 1) := by decide +kernel
theorem dX6_holdsIn_1 : decode cX6_holdsIn 1 = .ok (.iconst 0, 1) := by decide +kernel
theorem dX6_holdsIn_2 : decode cX6_holdsIn 2 = .ok (.putfield 58, 3) := by decide +kernel
theorem dX6_holdsIn_5 : decode cX6_holdsIn 5 = .ok (.aload_n 0, 1) := by decide +kernel
theorem dX6_holdsIn_6 : decode cX6_holdsIn 6 = .ok (.iload_n 1, 1) := by decide +kernel
theorem dX6_holdsIn_7 : decode cX6_holdsIn 7 = .ok (.invokevirtual 147, 3) := by decide +kernel
theorem dX6_holdsIn_10 : decode cX6_holdsIn 10 = .ok (.ifCond .eq 13, 3) := by decide +kernel
theorem dX6_holdsIn_13 : decode cX6_holdsIn 13 = .ok (.iload_n 2, 1) := by decide +kernel
theorem dX6_holdsIn_14 : decode cX6_holdsIn 14 = .ok (.iconst 0, 1) := by decide +kernel
theorem dX6_holdsIn_15 : decode cX6_holdsIn 15 = .ok (.bipush 60, 2) := by decide +kernel
theorem dX6_holdsIn_17 : decode cX6_holdsIn 17 = .ok (.invokestatic 197, 3) := by decide +kernel
theorem dX6_holdsIn_20 : decode cX6_holdsIn 20 = .ok (.goto 4, 3) := by decide +kernel
theorem dX6_holdsIn_23 : decode cX6_holdsIn 23 = .ok (.iconst (-1), 1) := by decide +kernel
theorem dX6_holdsIn_24 : decode cX6_holdsIn 24 = .ok (.istore_n 3, 1) := by decide +kernel
theorem dX6_holdsIn_25 : decode cX6_holdsIn 25 = .ok (.iload_n 3, 1) := by decide +kernel
theorem dX6_holdsIn_26 : decode cX6_holdsIn 26 = .ok (.ifCond .ge 9, 3) := by decide +kernel
theorem dX6_holdsIn_29 : decode cX6_holdsIn 29 = .ok (.aload_n 0, 1) := by decide +kernel
theorem dX6_holdsIn_30 : decode cX6_holdsIn 30 = .ok (.iload_n 3, 1) := by decide +kernel
theorem dX6_holdsIn_31 : decode cX6_holdsIn 31 = .ok (.invokevirtual 108, 3) := by decide +kernel
theorem dX6_holdsIn_34 : decode cX6_holdsIn 34 = .ok (.ireturn, 1) := by decide +kernel
theorem dX6_holdsIn_35 : decode cX6_holdsIn 35 = .ok (.aload_n 0, 1) := by decide +kernel
theorem dX6_holdsIn_36 : decode cX6_holdsIn 36 = .ok (.invokevirtual 159, 3) := by decide +kernel
theorem dX6_holdsIn_39 : decode cX6_holdsIn 39 = .ok (.aload_n 0, 1) := by decide +kernel
theorem dX6_holdsIn_40 : decode cX6_holdsIn 40 = .ok (.iload_n 2, 1) := by decide +kernel
theorem dX6_holdsIn_41 : decode cX6_holdsIn 41 = .ok (.invokevirtual 143, 3) := by decide +kernel
theorem dX6_holdsIn_44 : decode cX6_holdsIn 44 = .ok (.aload_n 0, 1) := by decide +kernel
theorem dX6_holdsIn_45 : decode cX6_holdsIn 45 = .ok (.getfield 16, 3) := by decide +kernel
theorem dX6_holdsIn_48 : decode cX6_holdsIn 48 = .ok (.iload_n 1, 1) := by decide +kernel
theorem dX6_holdsIn_49 : decode cX6_holdsIn 49 = .ok (.iaload, 1) := by decide +kernel
theorem dX6_holdsIn_50 : decode cX6_holdsIn 50 = .ok (.istore 4, 2) := by decide +kernel
theorem dX6_holdsIn_52 : decode cX6_holdsIn 52 = .ok (.aload_n 0, 1) := by decide +kernel
theorem dX6_holdsIn_53 : decode cX6_holdsIn 53 = .ok (.invokevirtual 165, 3) := by decide +kernel
theorem dX6_holdsIn_56 : decode cX6_holdsIn 56 = .ok (.iload 4, 2) := by decide +kernel
theorem dX6_holdsIn_58 : decode cX6_holdsIn 58 = .ok (.ireturn, 1) := by decide +kernel
theorem dX6_cupThen_0 : decode cX6_cupThen 0 = .ok (.aload_n 0, 1) := by decide +kernel
theorem dX6_cupThen_1 : decode cX6_cupThen 1 = .ok (.iload_n 1, 1) := by decide +kernel
theorem dX6_cupThen_2 : decode cX6_cupThen 2 = .ok (.invokevirtual 143, 3) := by decide +kernel
theorem dX6_cupThen_5 : decode cX6_cupThen 5 = .ok (.aload_n 0, 1) := by decide +kernel
theorem dX6_cupThen_6 : decode cX6_cupThen 6 = .ok (.getfield 101, 3) := by decide +kernel
theorem dX6_cupThen_9 : decode cX6_cupThen 9 = .ok (.istore_n 2, 1) := by decide +kernel
theorem dX6_cupThen_10 : decode cX6_cupThen 10 = .ok (.aload_n 0, 1) := by decide +kernel
theorem dX6_cupThen_11 : decode cX6_cupThen 11 = .ok (.invokevirtual 165, 3) := by decide +kernel
theorem dX6_cupThen_14 : decode cX6_cupThen 14 = .ok (.iload_n 2, 1) := by decide +kernel
theorem dX6_cupThen_15 : decode cX6_cupThen 15 = .ok (.ireturn, 1) := by decide +kernel
theorem dX6_then_0 : decode cX6_then 0 = .ok (.aload_n 0, 1) := by decide +kernel
theorem dX6_then_1 : decode cX6_then 1 = .ok (.iconst 0, 1) := by decide +kernel
theorem dX6_then_2 : decode cX6_then 2 = .ok (.putfield 58, 3) := by decide +kernel
theorem dX6_then_5 : decode cX6_then 5 = .ok (.iload_n 1, 1) := by decide +kernel
theorem dX6_then_6 : decode cX6_then 6 = .ok (.iconst 0, 1) := by decide +kernel
theorem dX6_then_7 : decode cX6_then 7 = .ok (.bipush 60, 2) := by decide +kernel
theorem dX6_then_9 : decode cX6_then 9 = .ok (.invokestatic 197, 3) := by decide +kernel
theorem dX6_then_12 : decode cX6_then 12 = .ok (.iload_n 2, 1) := by decide +kernel
theorem dX6_then_13 : decode cX6_then 13 = .ok (.iconst 1, 1) := by decide +kernel
theorem dX6_then_14 : decode cX6_then 14 = .ok (.invokestatic 206, 3) := by decide +kernel
theorem dX6_then_17 : decode cX6_then 17 = .ok (.istore_n 3, 1) := by decide +kernel
theorem dX6_then_18 : decode cX6_then 18 = .ok (.iload_n 3, 1) := by decide +kernel
theorem dX6_then_19 : decode cX6_then 19 = .ok (.ifCond .ge 9, 3) := by decide +kernel
theorem dX6_then_22 : decode cX6_then 22 = .ok (.aload_n 0, 1) := by decide +kernel
theorem dX6_then_23 : decode cX6_then 23 = .ok (.iload_n 3, 1) := by decide +kernel
theorem dX6_then_24 : decode cX6_then 24 = .ok (.invokevirtual 108, 3) := by decide +kernel
theorem dX6_then_27 : decode cX6_then 27 = .ok (.ireturn, 1) := by decide +kernel
theorem dX6_then_28 : decode cX6_then 28 = .ok (.aload_n 0, 1) := by decide +kernel
theorem dX6_then_29 : decode cX6_then 29 = .ok (.invokevirtual 159, 3) := by decide +kernel
theorem dX6_then_32 : decode cX6_then 32 = .ok (.aload_n 0, 1) := by decide +kernel
theorem dX6_then_33 : decode cX6_then 33 = .ok (.iload_n 1, 1) := by decide +kernel
theorem dX6_then_34 : decode cX6_then 34 = .ok (.invokevirtual 143, 3) := by decide +kernel
theorem dX6_then_37 : decode cX6_then 37 = .ok (.iload_n 2, 1) := by decide +kernel
theorem dX6_then_38 : decode cX6_then 38 = .ok (.ifCond .ne 10, 3) := by decide +kernel
theorem dX6_then_41 : decode cX6_then 41 = .ok (.aload_n 0, 1) := by decide +kernel
theorem dX6_then_42 : decode cX6_then 42 = .ok (.getfield 101, 3) := by decide +kernel
theorem dX6_then_45 : decode cX6_then 45 = .ok (.goto 7, 3) := by decide +kernel
theorem dX6_then_48 : decode cX6_then 48 = .ok (.aload_n 0, 1) := by decide +kernel
theorem dX6_then_49 : decode cX6_then 49 = .ok (.invokevirtual 209, 3) := by decide +kernel
theorem dX6_then_52 : decode cX6_then 52 = .ok (.istore 4, 2) := by decide +kernel
theorem dX6_then_54 : decode cX6_then 54 = .ok (.aload_n 0, 1) := by decide +kernel
theorem dX6_then_55 : decode cX6_then 55 = .ok (.invokevirtual 165, 3) := by decide +kernel
theorem dX6_then_58 : decode cX6_then 58 = .ok (.iload 4, 2) := by decide +kernel
theorem dX6_then_60 : decode cX6_then 60 = .ok (.ireturn, 1) := by decide +kernel
theorem dX6_firstDrip_0 : decode cX6_firstDrip 0 = .ok (.bipush (-9), 2) := by decide +kernel
theorem dX6_firstDrip_2 : decode cX6_firstDrip 2 = .ok (.istore_n 1, 1) := by decide +kernel
theorem dX6_firstDrip_3 : decode cX6_firstDrip 3 = .ok (.aload_n 0, 1) := by decide +kernel
theorem dX6_firstDrip_4 : decode cX6_firstDrip 4 = .ok (.getfield 101, 3) := by decide +kernel
theorem dX6_firstDrip_7 : decode cX6_firstDrip 7 = .ok (.istore_n 2, 1) := by decide +kernel
theorem dX6_firstDrip_8 : decode cX6_firstDrip 8 = .ok (.aload_n 0, 1) := by decide +kernel
theorem dX6_firstDrip_9 : decode cX6_firstDrip 9 = .ok (.invokevirtual 159, 3) := by decide +kernel
theorem dX6_firstDrip_12 : decode cX6_firstDrip 12 = .ok (.iconst 0, 1) := by decide +kernel
theorem dX6_firstDrip_13 : decode cX6_firstDrip 13 = .ok (.istore_n 3, 1) := by decide +kernel
theorem dX6_firstDrip_14 : decode cX6_firstDrip 14 = .ok (.iload_n 3, 1) := by decide +kernel
theorem dX6_firstDrip_15 : decode cX6_firstDrip 15 = .ok (.bipush 60, 2) := by decide +kernel
theorem dX6_firstDrip_17 : decode cX6_firstDrip 17 = .ok (.if_icmp .gt 33, 3) := by decide +kernel
theorem dX6_firstDrip_20 : decode cX6_firstDrip 20 = .ok (.iload_n 1, 1) := by decide +kernel
theorem dX6_firstDrip_21 : decode cX6_firstDrip 21 = .ok (.ifCond .ge 29, 3) := by decide +kernel
theorem dX6_firstDrip_24 : decode cX6_firstDrip 24 = .ok (.aload_n 0, 1) := by decide +kernel
theorem dX6_firstDrip_25 : decode cX6_firstDrip 25 = .ok (.getfield 101, 3) := by decide +kernel
theorem dX6_firstDrip_28 : decode cX6_firstDrip 28 = .ok (.iload_n 2, 1) := by decide +kernel
theorem dX6_firstDrip_29 : decode cX6_firstDrip 29 = .ok (.if_icmp .le 7, 3) := by decide +kernel
theorem dX6_firstDrip_32 : decode cX6_firstDrip 32 = .ok (.iload_n 3, 1) := by decide +kernel
theorem dX6_firstDrip_33 : decode cX6_firstDrip 33 = .ok (.goto 5, 3) := by decide +kernel
theorem dX6_firstDrip_36 : decode cX6_firstDrip 36 = .ok (.bipush (-9), 2) := by decide +kernel
theorem dX6_firstDrip_38 : decode cX6_firstDrip 38 = .ok (.istore_n 1, 1) := by decide +kernel
theorem dX6_firstDrip_39 : decode cX6_firstDrip 39 = .ok (.aload_n 0, 1) := by decide +kernel
theorem dX6_firstDrip_40 : decode cX6_firstDrip 40 = .ok (.iconst 0, 1) := by decide +kernel
theorem dX6_firstDrip_41 : decode cX6_firstDrip 41 = .ok (.invokevirtual 104, 3) := by decide +kernel
theorem dX6_firstDrip_44 : decode cX6_firstDrip 44 = .ok (.iinc 3 1, 3) := by decide +kernel
theorem dX6_firstDrip_47 : decode cX6_firstDrip 47 = .ok (.goto (-33), 3) := by decide +kernel
theorem dX6_firstDrip_50 : decode cX6_firstDrip 50 = .ok (.aload_n 0, 1) := by decide +kernel
theorem dX6_firstDrip_51 : decode cX6_firstDrip 51 = .ok (.invokevirtual 165, 3) := by decide +kernel
theorem dX6_firstDrip_54 : decode cX6_firstDrip 54 = .ok (.iload_n 1, 1) := by decide +kernel
theorem dX6_firstDrip_55 : decode cX6_firstDrip 55 = .ok (.ireturn, 1) := by decide +kernel
theorem dX6_dryIn_0 : decode cX6_dryIn 0 = .ok (.bipush (-9), 2) := by decide +kernel
theorem dX6_dryIn_2 : decode cX6_dryIn 2 = .ok (.istore_n 1, 1) := by decide +kernel
theorem dX6_dryIn_3 : decode cX6_dryIn 3 = .ok (.aload_n 0, 1) := by decide +kernel
theorem dX6_dryIn_4 : decode cX6_dryIn 4 = .ok (.invokevirtual 159, 3) := by decide +kernel
theorem dX6_dryIn_7 : decode cX6_dryIn 7 = .ok (.iconst 0, 1) := by decide +kernel
theorem dX6_dryIn_8 : decode cX6_dryIn 8 = .ok (.istore_n 2, 1) := by decide +kernel
theorem dX6_dryIn_9 : decode cX6_dryIn 9 = .ok (.iload_n 2, 1) := by decide +kernel
theorem dX6_dryIn_10 : decode cX6_dryIn 10 = .ok (.bipush 60, 2) := by decide +kernel
theorem dX6_dryIn_12 : decode cX6_dryIn 12 = .ok (.if_icmp .gt 32, 3) := by decide +kernel
theorem dX6_dryIn_15 : decode cX6_dryIn 15 = .ok (.iload_n 1, 1) := by decide +kernel
theorem dX6_dryIn_16 : decode cX6_dryIn 16 = .ok (.ifCond .ge 28, 3) := by decide +kernel
theorem dX6_dryIn_19 : decode cX6_dryIn 19 = .ok (.aload_n 0, 1) := by decide +kernel
theorem dX6_dryIn_20 : decode cX6_dryIn 20 = .ok (.invokevirtual 209, 3) := by decide +kernel
theorem dX6_dryIn_23 : decode cX6_dryIn 23 = .ok (.ifCond .ne 7, 3) := by decide +kernel
theorem dX6_dryIn_26 : decode cX6_dryIn 26 = .ok (.iload_n 2, 1) := by decide +kernel
theorem dX6_dryIn_27 : decode cX6_dryIn 27 = .ok (.goto 5, 3) := by decide +kernel
theorem dX6_dryIn_30 : decode cX6_dryIn 30 = .ok (.bipush (-9), 2) := by decide +kernel
theorem dX6_dryIn_32 : decode cX6_dryIn 32 = .ok (.istore_n 1, 1) := by decide +kernel
theorem dX6_dryIn_33 : decode cX6_dryIn 33 = .ok (.aload_n 0, 1) := by decide +kernel
theorem dX6_dryIn_34 : decode cX6_dryIn 34 = .ok (.iconst 0, 1) := by decide +kernel
theorem dX6_dryIn_35 : decode cX6_dryIn 35 = .ok (.invokevirtual 104, 3) := by decide +kernel
theorem dX6_dryIn_38 : decode cX6_dryIn 38 = .ok (.iinc 2 1, 3) := by decide +kernel
theorem dX6_dryIn_41 : decode cX6_dryIn 41 = .ok (.goto (-32), 3) := by decide +kernel
theorem dX6_dryIn_44 : decode cX6_dryIn 44 = .ok (.aload_n 0, 1) := by decide +kernel
theorem dX6_dryIn_45 : decode cX6_dryIn 45 = .ok (.invokevirtual 165, 3) := by decide +kernel
theorem dX6_dryIn_48 : decode cX6_dryIn 48 = .ok (.iload_n 1, 1) := by decide +kernel
theorem dX6_dryIn_49 : decode cX6_dryIn 49 = .ok (.ireturn, 1) := by decide +kernel
theorem dX6_isAsHad_0 : decode cX6_isAsHad 0 = .ok (.iconst 1, 1) := by decide +kernel
theorem dX6_isAsHad_1 : decode cX6_isAsHad 1 = .ok (.istore_n 1, 1) := by decide +kernel
theorem dX6_isAsHad_2 : decode cX6_isAsHad 2 = .ok (.iconst 0, 1) := by decide +kernel
theorem dX6_isAsHad_3 : decode cX6_isAsHad 3 = .ok (.istore_n 2, 1) := by decide +kernel
theorem dX6_isAsHad_4 : decode cX6_isAsHad 4 = .ok (.iload_n 2, 1) := by decide +kernel
theorem dX6_isAsHad_5 : decode cX6_isAsHad 5 = .ok (.aload_n 0, 1) := by decide +kernel
theorem dX6_isAsHad_6 : decode cX6_isAsHad 6 = .ok (.getfield 62, 3) := by decide +kernel
theorem dX6_isAsHad_9 : decode cX6_isAsHad 9 = .ok (.if_icmp .ge 34, 3) := by decide +kernel
theorem dX6_isAsHad_12 : decode cX6_isAsHad 12 = .ok (.iload_n 1, 1) := by decide +kernel
theorem dX6_isAsHad_13 : decode cX6_isAsHad 13 = .ok (.ifCond .eq 22, 3) := by decide +kernel
theorem dX6_isAsHad_16 : decode cX6_isAsHad 16 = .ok (.aload_n 0, 1) := by decide +kernel
theorem dX6_isAsHad_17 : decode cX6_isAsHad 17 = .ok (.getfield 16, 3) := by decide +kernel
theorem dX6_isAsHad_20 : decode cX6_isAsHad 20 = .ok (.iload_n 2, 1) := by decide +kernel
theorem dX6_isAsHad_21 : decode cX6_isAsHad 21 = .ok (.iaload, 1) := by decide +kernel
theorem dX6_isAsHad_22 : decode cX6_isAsHad 22 = .ok (.aload_n 0, 1) := by decide +kernel
theorem dX6_isAsHad_23 : decode cX6_isAsHad 23 = .ok (.getfield 49, 3) := by decide +kernel
theorem dX6_isAsHad_26 : decode cX6_isAsHad 26 = .ok (.iload_n 2, 1) := by decide +kernel
theorem dX6_isAsHad_27 : decode cX6_isAsHad 27 = .ok (.iaload, 1) := by decide +kernel
theorem dX6_isAsHad_28 : decode cX6_isAsHad 28 = .ok (.if_icmp .ne 7, 3) := by decide +kernel
theorem dX6_isAsHad_31 : decode cX6_isAsHad 31 = .ok (.iconst 1, 1) := by decide +kernel
theorem dX6_isAsHad_32 : decode cX6_isAsHad 32 = .ok (.goto 4, 3) := by decide +kernel
theorem dX6_isAsHad_35 : decode cX6_isAsHad 35 = .ok (.iconst 0, 1) := by decide +kernel
theorem dX6_isAsHad_36 : decode cX6_isAsHad 36 = .ok (.istore_n 1, 1) := by decide +kernel
theorem dX6_isAsHad_37 : decode cX6_isAsHad 37 = .ok (.iinc 2 1, 3) := by decide +kernel
theorem dX6_isAsHad_40 : decode cX6_isAsHad 40 = .ok (.goto (-36), 3) := by decide +kernel
theorem dX6_isAsHad_43 : decode cX6_isAsHad 43 = .ok (.iload_n 1, 1) := by decide +kernel
theorem dX6_isAsHad_44 : decode cX6_isAsHad 44 = .ok (.ireturn, 1) := by decide +kernel
theorem dX6_settledIn_0 : decode cX6_settledIn 0 = .ok (.iconst 0, 1) := by decide +kernel
theorem dX6_settledIn_1 : decode cX6_settledIn 1 = .ok (.istore_n 1, 1) := by decide +kernel
theorem dX6_settledIn_2 : decode cX6_settledIn 2 = .ok (.bipush (-9), 2) := by decide +kernel
theorem dX6_settledIn_4 : decode cX6_settledIn 4 = .ok (.istore_n 2, 1) := by decide +kernel
theorem dX6_settledIn_5 : decode cX6_settledIn 5 = .ok (.aload_n 0, 1) := by decide +kernel
theorem dX6_settledIn_6 : decode cX6_settledIn 6 = .ok (.invokevirtual 159, 3) := by decide +kernel
theorem dX6_settledIn_9 : decode cX6_settledIn 9 = .ok (.iconst 1, 1) := by decide +kernel
theorem dX6_settledIn_10 : decode cX6_settledIn 10 = .ok (.istore_n 3, 1) := by decide +kernel
theorem dX6_settledIn_11 : decode cX6_settledIn 11 = .ok (.iload_n 3, 1) := by decide +kernel
theorem dX6_settledIn_12 : decode cX6_settledIn 12 = .ok (.bipush 60, 2) := by decide +kernel
theorem dX6_settledIn_14 : decode cX6_settledIn 14 = .ok (.if_icmp .gt 93, 3) := by decide +kernel
theorem dX6_settledIn_17 : decode cX6_settledIn 17 = .ok (.iload_n 2, 1) := by decide +kernel
theorem dX6_settledIn_18 : decode cX6_settledIn 18 = .ok (.ifCond .ge 89, 3) := by decide +kernel
theorem dX6_settledIn_21 : decode cX6_settledIn 21 = .ok (.iconst 0, 1) := by decide +kernel
theorem dX6_settledIn_22 : decode cX6_settledIn 22 = .ok (.istore 4, 2) := by decide +kernel
theorem dX6_settledIn_24 : decode cX6_settledIn 24 = .ok (.iload 4, 2) := by decide +kernel
theorem dX6_settledIn_26 : decode cX6_settledIn 26 = .ok (.aload_n 0, 1) := by decide +kernel
theorem dX6_settledIn_27 : decode cX6_settledIn 27 = .ok (.getfield 62, 3) := by decide +kernel
theorem dX6_settledIn_30 : decode cX6_settledIn 30 = .ok (.if_icmp .ge 23, 3) := by decide +kernel
theorem dX6_settledIn_33 : decode cX6_settledIn 33 = .ok (.aload_n 0, 1) := by decide +kernel
theorem dX6_settledIn_34 : decode cX6_settledIn 34 = .ok (.getfield 49, 3) := by decide +kernel
theorem dX6_settledIn_37 : decode cX6_settledIn 37 = .ok (.iload 4, 2) := by decide +kernel
theorem dX6_settledIn_39 : decode cX6_settledIn 39 = .ok (.aload_n 0, 1) := by decide +kernel
theorem dX6_settledIn_40 : decode cX6_settledIn 40 = .ok (.getfield 16, 3) := by decide +kernel
theorem dX6_settledIn_43 : decode cX6_settledIn 43 = .ok (.iload 4, 2) := by decide +kernel
theorem dX6_settledIn_45 : decode cX6_settledIn 45 = .ok (.iaload, 1) := by decide +kernel
theorem dX6_settledIn_46 : decode cX6_settledIn 46 = .ok (.iastore, 1) := by decide +kernel
theorem dX6_settledIn_47 : decode cX6_settledIn 47 = .ok (.iinc 4 1, 3) := by decide +kernel
theorem dX6_settledIn_50 : decode cX6_settledIn 50 = .ok (.goto (-26), 3) := by decide +kernel
theorem dX6_settledIn_53 : decode cX6_settledIn 53 = .ok (.aload_n 0, 1) := by decide +kernel
theorem dX6_settledIn_54 : decode cX6_settledIn 54 = .ok (.getfield 101, 3) := by decide +kernel
theorem dX6_settledIn_57 : decode cX6_settledIn 57 = .ok (.istore 4, 2) := by decide +kernel
theorem dX6_settledIn_59 : decode cX6_settledIn 59 = .ok (.aload_n 0, 1) := by decide +kernel
theorem dX6_settledIn_60 : decode cX6_settledIn 60 = .ok (.iconst 0, 1) := by decide +kernel
theorem dX6_settledIn_61 : decode cX6_settledIn 61 = .ok (.invokevirtual 104, 3) := by decide +kernel
theorem dX6_settledIn_64 : decode cX6_settledIn 64 = .ok (.aload_n 0, 1) := by decide +kernel
theorem dX6_settledIn_65 : decode cX6_settledIn 65 = .ok (.invokevirtual 212, 3) := by decide +kernel
theorem dX6_settledIn_68 : decode cX6_settledIn 68 = .ok (.ifCond .eq 16, 3) := by decide +kernel
theorem dX6_settledIn_71 : decode cX6_settledIn 71 = .ok (.aload_n 0, 1) := by decide +kernel
theorem dX6_settledIn_72 : decode cX6_settledIn 72 = .ok (.getfield 101, 3) := by decide +kernel
theorem dX6_settledIn_75 : decode cX6_settledIn 75 = .ok (.iload 4, 2) := by decide +kernel
theorem dX6_settledIn_77 : decode cX6_settledIn 77 = .ok (.if_icmp .ne 7, 3) := by decide +kernel
theorem dX6_settledIn_80 : decode cX6_settledIn 80 = .ok (.iload_n 1, 1) := by decide +kernel
theorem dX6_settledIn_81 : decode cX6_settledIn 81 = .ok (.goto 4, 3) := by decide +kernel
theorem dX6_settledIn_84 : decode cX6_settledIn 84 = .ok (.iload_n 3, 1) := by decide +kernel
theorem dX6_settledIn_85 : decode cX6_settledIn 85 = .ok (.istore_n 1, 1) := by decide +kernel
theorem dX6_settledIn_86 : decode cX6_settledIn 86 = .ok (.iload_n 3, 1) := by decide +kernel
theorem dX6_settledIn_87 : decode cX6_settledIn 87 = .ok (.iload_n 1, 1) := by decide +kernel
theorem dX6_settledIn_88 : decode cX6_settledIn 88 = .ok (.isub, 1) := by decide +kernel
theorem dX6_settledIn_89 : decode cX6_settledIn 89 = .ok (.bipush 10, 2) := by decide +kernel
theorem dX6_settledIn_91 : decode cX6_settledIn 91 = .ok (.if_icmp .ne 7, 3) := by decide +kernel
theorem dX6_settledIn_94 : decode cX6_settledIn 94 = .ok (.iload_n 1, 1) := by decide +kernel
theorem dX6_settledIn_95 : decode cX6_settledIn 95 = .ok (.goto 5, 3) := by decide +kernel
theorem dX6_settledIn_98 : decode cX6_settledIn 98 = .ok (.bipush (-9), 2) := by decide +kernel
theorem dX6_settledIn_100 : decode cX6_settledIn 100 = .ok (.istore_n 2, 1) := by decide +kernel
theorem dX6_settledIn_101 : decode cX6_settledIn 101 = .ok (.iinc 3 1, 3) := by decide +kernel
theorem dX6_settledIn_104 : decode cX6_settledIn 104 = .ok (.goto (-93), 3) := by decide +kernel
theorem dX6_settledIn_107 : decode cX6_settledIn 107 = .ok (.aload_n 0, 1) := by decide +kernel
theorem dX6_settledIn_108 : decode cX6_settledIn 108 = .ok (.invokevirtual 165, 3) := by decide +kernel
theorem dX6_settledIn_111 : decode cX6_settledIn 111 = .ok (.iload_n 2, 1) := by decide +kernel
theorem dX6_settledIn_112 : decode cX6_settledIn 112 = .ok (.ireturn, 1) := by decide +kernel
theorem dX6_drip_0 : decode cX6_drip 0 = .ok (.aload_n 0, 1) := by decide +kernel
theorem dX6_drip_1 : decode cX6_drip 1 = .ok (.iconst 0, 1) := by decide +kernel
theorem dX6_drip_2 : decode cX6_drip 2 = .ok (.putfield 58, 3) := by decide +kernel
theorem dX6_drip_5 : decode cX6_drip 5 = .ok (.iload_n 1, 1) := by decide +kernel
theorem dX6_drip_6 : decode cX6_drip 6 = .ok (.tableswitch 41 0 2 #[26, 31, 36], 26) := by decide +kernel
theorem dX6_drip_32 : decode cX6_drip 32 = .ok (.aload_n 0, 1) := by decide +kernel
theorem dX6_drip_33 : decode cX6_drip 33 = .ok (.invokevirtual 216, 3) := by decide +kernel
theorem dX6_drip_36 : decode cX6_drip 36 = .ok (.ireturn, 1) := by decide +kernel
theorem dX6_drip_37 : decode cX6_drip 37 = .ok (.aload_n 0, 1) := by decide +kernel
theorem dX6_drip_38 : decode cX6_drip 38 = .ok (.invokevirtual 219, 3) := by decide +kernel
theorem dX6_drip_41 : decode cX6_drip 41 = .ok (.ireturn, 1) := by decide +kernel
theorem dX6_drip_42 : decode cX6_drip 42 = .ok (.aload_n 0, 1) := by decide +kernel
theorem dX6_drip_43 : decode cX6_drip 43 = .ok (.invokevirtual 222, 3) := by decide +kernel
theorem dX6_drip_46 : decode cX6_drip 46 = .ok (.ireturn, 1) := by decide +kernel
theorem dX6_drip_47 : decode cX6_drip 47 = .ok (.aload_n 0, 1) := by decide +kernel
theorem dX6_drip_48 : decode cX6_drip 48 = .ok (.bipush (-2), 2) := by decide +kernel
theorem dX6_drip_50 : decode cX6_drip 50 = .ok (.invokevirtual 108, 3) := by decide +kernel
theorem dX6_drip_53 : decode cX6_drip 53 = .ok (.ireturn, 1) := by decide +kernel
theorem dX6_reaches_0 : decode cX6_reaches 0 = .ok (.aload_n 0, 1) := by decide +kernel
theorem dX6_reaches_1 : decode cX6_reaches 1 = .ok (.iconst 0, 1) := by decide +kernel
theorem dX6_reaches_2 : decode cX6_reaches 2 = .ok (.putfield 58, 3) := by decide +kernel
theorem dX6_reaches_5 : decode cX6_reaches 5 = .ok (.aload_n 0, 1) := by decide +kernel
theorem dX6_reaches_6 : decode cX6_reaches 6 = .ok (.iload_n 1, 1) := by decide +kernel
theorem dX6_reaches_7 : decode cX6_reaches 7 = .ok (.invokevirtual 147, 3) := by decide +kernel
theorem dX6_reaches_10 : decode cX6_reaches 10 = .ok (.ifCond .eq 13, 3) := by decide +kernel
theorem dX6_reaches_13 : decode cX6_reaches 13 = .ok (.iload_n 2, 1) := by decide +kernel
theorem dX6_reaches_14 : decode cX6_reaches 14 = .ok (.iconst 1, 1) := by decide +kernel
theorem dX6_reaches_15 : decode cX6_reaches 15 = .ok (.bipush 99, 2) := by decide +kernel
theorem dX6_reaches_17 : decode cX6_reaches 17 = .ok (.invokestatic 197, 3) := by decide +kernel
theorem dX6_reaches_20 : decode cX6_reaches 20 = .ok (.goto 4, 3) := by decide +kernel
theorem dX6_reaches_23 : decode cX6_reaches 23 = .ok (.iconst (-1), 1) := by decide +kernel
theorem dX6_reaches_24 : decode cX6_reaches 24 = .ok (.istore_n 3, 1) := by decide +kernel
theorem dX6_reaches_25 : decode cX6_reaches 25 = .ok (.iload_n 3, 1) := by decide +kernel
theorem dX6_reaches_26 : decode cX6_reaches 26 = .ok (.ifCond .ge 9, 3) := by decide +kernel
theorem dX6_reaches_29 : decode cX6_reaches 29 = .ok (.aload_n 0, 1) := by decide +kernel
theorem dX6_reaches_30 : decode cX6_reaches 30 = .ok (.iload_n 3, 1) := by decide +kernel
theorem dX6_reaches_31 : decode cX6_reaches 31 = .ok (.invokevirtual 108, 3) := by decide +kernel
theorem dX6_reaches_34 : decode cX6_reaches 34 = .ok (.ireturn, 1) := by decide +kernel
theorem dX6_reaches_35 : decode cX6_reaches 35 = .ok (.bipush (-9), 2) := by decide +kernel
theorem dX6_reaches_37 : decode cX6_reaches 37 = .ok (.istore 4, 2) := by decide +kernel
theorem dX6_reaches_39 : decode cX6_reaches 39 = .ok (.aload_n 0, 1) := by decide +kernel
theorem dX6_reaches_40 : decode cX6_reaches 40 = .ok (.invokevirtual 159, 3) := by decide +kernel
theorem dX6_reaches_43 : decode cX6_reaches 43 = .ok (.iconst 0, 1) := by decide +kernel
theorem dX6_reaches_44 : decode cX6_reaches 44 = .ok (.istore 5, 2) := by decide +kernel
theorem dX6_reaches_46 : decode cX6_reaches 46 = .ok (.iload 5, 2) := by decide +kernel
theorem dX6_reaches_48 : decode cX6_reaches 48 = .ok (.bipush 60, 2) := by decide +kernel
theorem dX6_reaches_50 : decode cX6_reaches 50 = .ok (.if_icmp .gt 38, 3) := by decide +kernel
theorem dX6_reaches_53 : decode cX6_reaches 53 = .ok (.iload 4, 2) := by decide +kernel
theorem dX6_reaches_55 : decode cX6_reaches 55 = .ok (.ifCond .ge 33, 3) := by decide +kernel
theorem dX6_reaches_58 : decode cX6_reaches 58 = .ok (.aload_n 0, 1) := by decide +kernel
theorem dX6_reaches_59 : decode cX6_reaches 59 = .ok (.getfield 16, 3) := by decide +kernel
theorem dX6_reaches_62 : decode cX6_reaches 62 = .ok (.iload_n 1, 1) := by decide +kernel
theorem dX6_reaches_63 : decode cX6_reaches 63 = .ok (.iaload, 1) := by decide +kernel
theorem dX6_reaches_64 : decode cX6_reaches 64 = .ok (.iload_n 2, 1) := by decide +kernel
theorem dX6_reaches_65 : decode cX6_reaches 65 = .ok (.if_icmp .lt 8, 3) := by decide +kernel
theorem dX6_reaches_68 : decode cX6_reaches 68 = .ok (.iload 5, 2) := by decide +kernel
theorem dX6_reaches_70 : decode cX6_reaches 70 = .ok (.goto 5, 3) := by decide +kernel
theorem dX6_reaches_73 : decode cX6_reaches 73 = .ok (.bipush (-9), 2) := by decide +kernel
theorem dX6_reaches_75 : decode cX6_reaches 75 = .ok (.istore 4, 2) := by decide +kernel
theorem dX6_reaches_77 : decode cX6_reaches 77 = .ok (.aload_n 0, 1) := by decide +kernel
theorem dX6_reaches_78 : decode cX6_reaches 78 = .ok (.iconst 0, 1) := by decide +kernel
theorem dX6_reaches_79 : decode cX6_reaches 79 = .ok (.invokevirtual 104, 3) := by decide +kernel
theorem dX6_reaches_82 : decode cX6_reaches 82 = .ok (.iinc 5 1, 3) := by decide +kernel
theorem dX6_reaches_85 : decode cX6_reaches 85 = .ok (.goto (-39), 3) := by decide +kernel
theorem dX6_reaches_88 : decode cX6_reaches 88 = .ok (.aload_n 0, 1) := by decide +kernel
theorem dX6_reaches_89 : decode cX6_reaches 89 = .ok (.invokevirtual 165, 3) := by decide +kernel
theorem dX6_reaches_92 : decode cX6_reaches 92 = .ok (.iload 4, 2) := by decide +kernel
theorem dX6_reaches_94 : decode cX6_reaches 94 = .ok (.ireturn, 1) := by decide +kernel
theorem dX6_pour_0 : decode cX6_pour 0 = .ok (.aload_n 0, 1) := by decide +kernel
theorem dX6_pour_1 : decode cX6_pour 1 = .ok (.iconst 0, 1) := by decide +kernel
theorem dX6_pour_2 : decode cX6_pour 2 = .ok (.putfield 58, 3) := by decide +kernel
theorem dX6_pour_5 : decode cX6_pour 5 = .ok (.iload_n 1, 1) := by decide +kernel
theorem dX6_pour_6 : decode cX6_pour 6 = .ok (.iconst 1, 1) := by decide +kernel
theorem dX6_pour_7 : decode cX6_pour 7 = .ok (.if_icmp .lt 7, 3) := by decide +kernel
theorem dX6_pour_10 : decode cX6_pour 10 = .ok (.iload_n 2, 1) := by decide +kernel
theorem dX6_pour_11 : decode cX6_pour 11 = .ok (.ifCond .ge 8, 3) := by decide +kernel
theorem dX6_pour_14 : decode cX6_pour 14 = .ok (.bipush (-4), 2) := by decide +kernel
theorem dX6_pour_16 : decode cX6_pour 16 = .ok (.goto 21, 3) := by decide +kernel
theorem dX6_pour_19 : decode cX6_pour 19 = .ok (.iload_n 1, 1) := by decide +kernel
theorem dX6_pour_20 : decode cX6_pour 20 = .ok (.bipush 99, 2) := by decide +kernel
theorem dX6_pour_22 : decode cX6_pour 22 = .ok (.if_icmp .gt 9, 3) := by decide +kernel
theorem dX6_pour_25 : decode cX6_pour 25 = .ok (.iload_n 2, 1) := by decide +kernel
theorem dX6_pour_26 : decode cX6_pour 26 = .ok (.bipush 60, 2) := by decide +kernel
theorem dX6_pour_28 : decode cX6_pour 28 = .ok (.if_icmp .le 8, 3) := by decide +kernel
theorem dX6_pour_31 : decode cX6_pour 31 = .ok (.bipush (-6), 2) := by decide +kernel
theorem dX6_pour_33 : decode cX6_pour 33 = .ok (.goto 4, 3) := by decide +kernel
theorem dX6_pour_36 : decode cX6_pour 36 = .ok (.iconst 0, 1) := by decide +kernel
theorem dX6_pour_37 : decode cX6_pour 37 = .ok (.istore 4, 2) := by decide +kernel
theorem dX6_pour_39 : decode cX6_pour 39 = .ok (.iload 4, 2) := by decide +kernel
theorem dX6_pour_41 : decode cX6_pour 41 = .ok (.iload_n 3, 1) := by decide +kernel
theorem dX6_pour_42 : decode cX6_pour 42 = .ok (.iconst 1, 1) := by decide +kernel
theorem dX6_pour_43 : decode cX6_pour 43 = .ok (.invokestatic 206, 3) := by decide +kernel
theorem dX6_pour_46 : decode cX6_pour 46 = .ok (.istore 4, 2) := by decide +kernel
theorem dX6_pour_48 : decode cX6_pour 48 = .ok (.iload 4, 2) := by decide +kernel
theorem dX6_pour_50 : decode cX6_pour 50 = .ok (.ifCond .ge 10, 3) := by decide +kernel
theorem dX6_pour_53 : decode cX6_pour 53 = .ok (.aload_n 0, 1) := by decide +kernel
theorem dX6_pour_54 : decode cX6_pour 54 = .ok (.iload 4, 2) := by decide +kernel
theorem dX6_pour_56 : decode cX6_pour 56 = .ok (.invokevirtual 108, 3) := by decide +kernel
theorem dX6_pour_59 : decode cX6_pour 59 = .ok (.ireturn, 1) := by decide +kernel
theorem dX6_pour_60 : decode cX6_pour 60 = .ok (.bipush (-9), 2) := by decide +kernel
theorem dX6_pour_62 : decode cX6_pour 62 = .ok (.istore 5, 2) := by decide +kernel
theorem dX6_pour_64 : decode cX6_pour 64 = .ok (.bipush (-9), 2) := by decide +kernel
theorem dX6_pour_66 : decode cX6_pour 66 = .ok (.istore 6, 2) := by decide +kernel
theorem dX6_pour_68 : decode cX6_pour 68 = .ok (.aload_n 0, 1) := by decide +kernel
theorem dX6_pour_69 : decode cX6_pour 69 = .ok (.invokevirtual 159, 3) := by decide +kernel
theorem dX6_pour_72 : decode cX6_pour 72 = .ok (.iconst 0, 1) := by decide +kernel
theorem dX6_pour_73 : decode cX6_pour 73 = .ok (.istore 7, 2) := by decide +kernel
theorem dX6_pour_75 : decode cX6_pour 75 = .ok (.iload 7, 2) := by decide +kernel
theorem dX6_pour_77 : decode cX6_pour 77 = .ok (.aload_n 0, 1) := by decide +kernel
theorem dX6_pour_78 : decode cX6_pour 78 = .ok (.getfield 62, 3) := by decide +kernel
theorem dX6_pour_81 : decode cX6_pour 81 = .ok (.if_icmp .ge 55, 3) := by decide +kernel
theorem dX6_pour_84 : decode cX6_pour 84 = .ok (.aload_n 0, 1) := by decide +kernel
theorem dX6_pour_85 : decode cX6_pour 85 = .ok (.iload 7, 2) := by decide +kernel
theorem dX6_pour_87 : decode cX6_pour 87 = .ok (.iload_n 1, 1) := by decide +kernel
theorem dX6_pour_88 : decode cX6_pour 88 = .ok (.invokevirtual 97, 3) := by decide +kernel
theorem dX6_pour_91 : decode cX6_pour 91 = .ok (.aload_n 0, 1) := by decide +kernel
theorem dX6_pour_92 : decode cX6_pour 92 = .ok (.iload_n 2, 1) := by decide +kernel
theorem dX6_pour_93 : decode cX6_pour 93 = .ok (.invokevirtual 225, 3) := by decide +kernel
theorem dX6_pour_96 : decode cX6_pour 96 = .ok (.istore 8, 2) := by decide +kernel
theorem dX6_pour_98 : decode cX6_pour 98 = .ok (.iload 8, 2) := by decide +kernel
theorem dX6_pour_100 : decode cX6_pour 100 = .ok (.iload 6, 2) := by decide +kernel
theorem dX6_pour_102 : decode cX6_pour 102 = .ok (.if_icmp .le 8, 3) := by decide +kernel
theorem dX6_pour_105 : decode cX6_pour 105 = .ok (.iload 7, 2) := by decide +kernel
theorem dX6_pour_107 : decode cX6_pour 107 = .ok (.goto 5, 3) := by decide +kernel
theorem dX6_pour_110 : decode cX6_pour 110 = .ok (.iload 5, 2) := by decide +kernel
theorem dX6_pour_112 : decode cX6_pour 112 = .ok (.istore 5, 2) := by decide +kernel
theorem dX6_pour_114 : decode cX6_pour 114 = .ok (.iload 8, 2) := by decide +kernel
theorem dX6_pour_116 : decode cX6_pour 116 = .ok (.iload 6, 2) := by decide +kernel
theorem dX6_pour_118 : decode cX6_pour 118 = .ok (.if_icmp .le 8, 3) := by decide +kernel
theorem dX6_pour_121 : decode cX6_pour 121 = .ok (.iload 8, 2) := by decide +kernel
theorem dX6_pour_123 : decode cX6_pour 123 = .ok (.goto 5, 3) := by decide +kernel
theorem dX6_pour_126 : decode cX6_pour 126 = .ok (.iload 6, 2) := by decide +kernel
theorem dX6_pour_128 : decode cX6_pour 128 = .ok (.istore 6, 2) := by decide +kernel
theorem dX6_pour_130 : decode cX6_pour 130 = .ok (.iinc 7 1, 3) := by decide +kernel
theorem dX6_pour_133 : decode cX6_pour 133 = .ok (.goto (-58), 3) := by decide +kernel
theorem dX6_pour_136 : decode cX6_pour 136 = .ok (.iload_n 3, 1) := by decide +kernel
theorem dX6_pour_137 : decode cX6_pour 137 = .ok (.ifCond .ne 8, 3) := by decide +kernel
theorem dX6_pour_140 : decode cX6_pour 140 = .ok (.iload 5, 2) := by decide +kernel
theorem dX6_pour_142 : decode cX6_pour 142 = .ok (.goto 5, 3) := by decide +kernel
theorem dX6_pour_145 : decode cX6_pour 145 = .ok (.iload 6, 2) := by decide +kernel
theorem dX6_pour_147 : decode cX6_pour 147 = .ok (.ireturn, 1) := by decide +kernel
theorem dX6_least_0 : decode cX6_least 0 = .ok (.aload_n 0, 1) := by decide +kernel
theorem dX6_least_1 : decode cX6_least 1 = .ok (.iconst 0, 1) := by decide +kernel
theorem dX6_least_2 : decode cX6_least 2 = .ok (.putfield 58, 3) := by decide +kernel
theorem dX6_least_5 : decode cX6_least 5 = .ok (.iload_n 1, 1) := by decide +kernel
theorem dX6_least_6 : decode cX6_least 6 = .ok (.ifCond .lt 7, 3) := by decide +kernel
theorem dX6_least_9 : decode cX6_least 9 = .ok (.iload_n 2, 1) := by decide +kernel
theorem dX6_least_10 : decode cX6_least 10 = .ok (.ifCond .ge 8, 3) := by decide +kernel
theorem dX6_least_13 : decode cX6_least 13 = .ok (.bipush (-4), 2) := by decide +kernel
theorem dX6_least_15 : decode cX6_least 15 = .ok (.goto 22, 3) := by decide +kernel
theorem dX6_least_18 : decode cX6_least 18 = .ok (.iload_n 1, 1) := by decide +kernel
theorem dX6_least_19 : decode cX6_least 19 = .ok (.sipush 999, 3) := by decide +kernel
theorem dX6_least_22 : decode cX6_least 22 = .ok (.if_icmp .gt 9, 3) := by decide +kernel
theorem dX6_least_25 : decode cX6_least 25 = .ok (.iload_n 2, 1) := by decide +kernel
theorem dX6_least_26 : decode cX6_least 26 = .ok (.bipush 60, 2) := by decide +kernel
theorem dX6_least_28 : decode cX6_least 28 = .ok (.if_icmp .le 8, 3) := by decide +kernel
theorem dX6_least_31 : decode cX6_least 31 = .ok (.bipush (-6), 2) := by decide +kernel
theorem dX6_least_33 : decode cX6_least 33 = .ok (.goto 4, 3) := by decide +kernel
theorem dX6_least_36 : decode cX6_least 36 = .ok (.iconst 0, 1) := by decide +kernel
theorem dX6_least_37 : decode cX6_least 37 = .ok (.istore_n 3, 1) := by decide +kernel
theorem dX6_least_38 : decode cX6_least 38 = .ok (.iload_n 3, 1) := by decide +kernel
theorem dX6_least_39 : decode cX6_least 39 = .ok (.ifCond .ge 9, 3) := by decide +kernel
theorem dX6_least_42 : decode cX6_least 42 = .ok (.aload_n 0, 1) := by decide +kernel
theorem dX6_least_43 : decode cX6_least 43 = .ok (.iload_n 3, 1) := by decide +kernel
theorem dX6_least_44 : decode cX6_least 44 = .ok (.invokevirtual 108, 3) := by decide +kernel
theorem dX6_least_47 : decode cX6_least 47 = .ok (.ireturn, 1) := by decide +kernel
theorem dX6_least_48 : decode cX6_least 48 = .ok (.bipush (-9), 2) := by decide +kernel
theorem dX6_least_50 : decode cX6_least 50 = .ok (.istore 4, 2) := by decide +kernel
theorem dX6_least_52 : decode cX6_least 52 = .ok (.aload_n 0, 1) := by decide +kernel
theorem dX6_least_53 : decode cX6_least 53 = .ok (.invokevirtual 159, 3) := by decide +kernel
theorem dX6_least_56 : decode cX6_least 56 = .ok (.iconst 0, 1) := by decide +kernel
theorem dX6_least_57 : decode cX6_least 57 = .ok (.istore 5, 2) := by decide +kernel
theorem dX6_least_59 : decode cX6_least 59 = .ok (.iload 5, 2) := by decide +kernel
theorem dX6_least_61 : decode cX6_least 61 = .ok (.bipush 100, 2) := by decide +kernel
theorem dX6_least_63 : decode cX6_least 63 = .ok (.if_icmp .ge 46, 3) := by decide +kernel
theorem dX6_least_66 : decode cX6_least 66 = .ok (.iload 4, 2) := by decide +kernel
theorem dX6_least_68 : decode cX6_least 68 = .ok (.ifCond .ge 41, 3) := by decide +kernel
theorem dX6_least_71 : decode cX6_least 71 = .ok (.aload_n 0, 1) := by decide +kernel
theorem dX6_least_72 : decode cX6_least 72 = .ok (.getfield 62, 3) := by decide +kernel
theorem dX6_least_75 : decode cX6_least 75 = .ok (.ifCond .le 34, 3) := by decide +kernel
theorem dX6_least_78 : decode cX6_least 78 = .ok (.aload_n 0, 1) := by decide +kernel
theorem dX6_least_79 : decode cX6_least 79 = .ok (.iconst 0, 1) := by decide +kernel
theorem dX6_least_80 : decode cX6_least 80 = .ok (.iload 5, 2) := by decide +kernel
theorem dX6_least_82 : decode cX6_least 82 = .ok (.invokevirtual 97, 3) := by decide +kernel
theorem dX6_least_85 : decode cX6_least 85 = .ok (.aload_n 0, 1) := by decide +kernel
theorem dX6_least_86 : decode cX6_least 86 = .ok (.iload_n 2, 1) := by decide +kernel
theorem dX6_least_87 : decode cX6_least 87 = .ok (.invokevirtual 225, 3) := by decide +kernel
theorem dX6_least_90 : decode cX6_least 90 = .ok (.iload_n 1, 1) := by decide +kernel
theorem dX6_least_91 : decode cX6_least 91 = .ok (.if_icmp .lt 8, 3) := by decide +kernel
theorem dX6_least_94 : decode cX6_least 94 = .ok (.iload 5, 2) := by decide +kernel
theorem dX6_least_96 : decode cX6_least 96 = .ok (.goto 5, 3) := by decide +kernel
theorem dX6_least_99 : decode cX6_least 99 = .ok (.bipush (-9), 2) := by decide +kernel
theorem dX6_least_101 : decode cX6_least 101 = .ok (.istore 4, 2) := by decide +kernel
theorem dX6_least_103 : decode cX6_least 103 = .ok (.iinc 5 1, 3) := by decide +kernel
theorem dX6_least_106 : decode cX6_least 106 = .ok (.goto (-47), 3) := by decide +kernel
theorem dX6_least_109 : decode cX6_least 109 = .ok (.iload 4, 2) := by decide +kernel
theorem dX6_least_111 : decode cX6_least 111 = .ok (.ireturn, 1) := by decide +kernel
theorem dX6_clearing_0 : decode cX6_clearing 0 = .ok (.aload_n 0, 1) := by decide +kernel
theorem dX6_clearing_1 : decode cX6_clearing 1 = .ok (.iconst 0, 1) := by decide +kernel
theorem dX6_clearing_2 : decode cX6_clearing 2 = .ok (.putfield 58, 3) := by decide +kernel
theorem dX6_clearing_5 : decode cX6_clearing 5 = .ok (.iload_n 1, 1) := by decide +kernel
theorem dX6_clearing_6 : decode cX6_clearing 6 = .ok (.iconst 0, 1) := by decide +kernel
theorem dX6_clearing_7 : decode cX6_clearing 7 = .ok (.bipush 60, 2) := by decide +kernel
theorem dX6_clearing_9 : decode cX6_clearing 9 = .ok (.invokestatic 197, 3) := by decide +kernel
theorem dX6_clearing_12 : decode cX6_clearing 12 = .ok (.istore_n 2, 1) := by decide +kernel
theorem dX6_clearing_13 : decode cX6_clearing 13 = .ok (.iload_n 2, 1) := by decide +kernel
theorem dX6_clearing_14 : decode cX6_clearing 14 = .ok (.ifCond .ge 9, 3) := by decide +kernel
theorem dX6_clearing_17 : decode cX6_clearing 17 = .ok (.aload_n 0, 1) := by decide +kernel
theorem dX6_clearing_18 : decode cX6_clearing 18 = .ok (.iload_n 2, 1) := by decide +kernel
theorem dX6_clearing_19 : decode cX6_clearing 19 = .ok (.invokevirtual 108, 3) := by decide +kernel
theorem dX6_clearing_22 : decode cX6_clearing 22 = .ok (.ireturn, 1) := by decide +kernel
theorem dX6_clearing_23 : decode cX6_clearing 23 = .ok (.iconst 0, 1) := by decide +kernel
theorem dX6_clearing_24 : decode cX6_clearing 24 = .ok (.istore_n 3, 1) := by decide +kernel
theorem dX6_clearing_25 : decode cX6_clearing 25 = .ok (.iconst (-1), 1) := by decide +kernel
theorem dX6_clearing_26 : decode cX6_clearing 26 = .ok (.istore 4, 2) := by decide +kernel
theorem dX6_clearing_28 : decode cX6_clearing 28 = .ok (.aload_n 0, 1) := by decide +kernel
theorem dX6_clearing_29 : decode cX6_clearing 29 = .ok (.invokevirtual 159, 3) := by decide +kernel
theorem dX6_clearing_32 : decode cX6_clearing 32 = .ok (.iconst 0, 1) := by decide +kernel
theorem dX6_clearing_33 : decode cX6_clearing 33 = .ok (.istore 5, 2) := by decide +kernel
theorem dX6_clearing_35 : decode cX6_clearing 35 = .ok (.iload 5, 2) := by decide +kernel
theorem dX6_clearing_37 : decode cX6_clearing 37 = .ok (.iconst 1, 1) := by decide +kernel
theorem dX6_clearing_38 : decode cX6_clearing 38 = .ok (.aload_n 0, 1) := by decide +kernel
theorem dX6_clearing_39 : decode cX6_clearing 39 = .ok (.getfield 62, 3) := by decide +kernel
theorem dX6_clearing_42 : decode cX6_clearing 42 = .ok (.ishl, 1) := by decide +kernel
theorem dX6_clearing_43 : decode cX6_clearing 43 = .ok (.if_icmp .ge 90, 3) := by decide +kernel
theorem dX6_clearing_46 : decode cX6_clearing 46 = .ok (.iload 5, 2) := by decide +kernel
theorem dX6_clearing_48 : decode cX6_clearing 48 = .ok (.aload_n 0, 1) := by decide +kernel
theorem dX6_clearing_49 : decode cX6_clearing 49 = .ok (.getfield 83, 3) := by decide +kernel
theorem dX6_clearing_52 : decode cX6_clearing 52 = .ok (.iconst (-1), 1) := by decide +kernel
theorem dX6_clearing_53 : decode cX6_clearing 53 = .ok (.ixor, 1) := by decide +kernel
theorem dX6_clearing_54 : decode cX6_clearing 54 = .ok (.iand, 1) := by decide +kernel
theorem dX6_clearing_55 : decode cX6_clearing 55 = .ok (.ifCond .ne 72, 3) := by decide +kernel
theorem dX6_clearing_58 : decode cX6_clearing 58 = .ok (.aload_n 0, 1) := by decide +kernel
theorem dX6_clearing_59 : decode cX6_clearing 59 = .ok (.dup, 1) := by decide +kernel
theorem dX6_clearing_60 : decode cX6_clearing 60 = .ok (.getfield 83, 3) := by decide +kernel
theorem dX6_clearing_63 : decode cX6_clearing 63 = .ok (.iload 5, 2) := by decide +kernel
theorem dX6_clearing_65 : decode cX6_clearing 65 = .ok (.iconst (-1), 1) := by decide +kernel
theorem dX6_clearing_66 : decode cX6_clearing 66 = .ok (.ixor, 1) := by decide +kernel
theorem dX6_clearing_67 : decode cX6_clearing 67 = .ok (.iand, 1) := by decide +kernel
theorem dX6_clearing_68 : decode cX6_clearing 68 = .ok (.putfield 83, 3) := by decide +kernel
theorem dX6_clearing_71 : decode cX6_clearing 71 = .ok (.aload_n 0, 1) := by decide +kernel
theorem dX6_clearing_72 : decode cX6_clearing 72 = .ok (.iload_n 1, 1) := by decide +kernel
theorem dX6_clearing_73 : decode cX6_clearing 73 = .ok (.invokevirtual 225, 3) := by decide +kernel
theorem dX6_clearing_76 : decode cX6_clearing 76 = .ok (.istore 6, 2) := by decide +kernel
theorem dX6_clearing_78 : decode cX6_clearing 78 = .ok (.iload 6, 2) := by decide +kernel
theorem dX6_clearing_80 : decode cX6_clearing 80 = .ok (.iload 4, 2) := by decide +kernel
theorem dX6_clearing_82 : decode cX6_clearing 82 = .ok (.if_icmp .gt 22, 3) := by decide +kernel
theorem dX6_clearing_85 : decode cX6_clearing 85 = .ok (.iload 6, 2) := by decide +kernel
theorem dX6_clearing_87 : decode cX6_clearing 87 = .ok (.iload 4, 2) := by decide +kernel
theorem dX6_clearing_89 : decode cX6_clearing 89 = .ok (.if_icmp .ne 20, 3) := by decide +kernel
theorem dX6_clearing_92 : decode cX6_clearing 92 = .ok (.iload 5, 2) := by decide +kernel
theorem dX6_clearing_94 : decode cX6_clearing 94 = .ok (.invokestatic 228, 3) := by decide +kernel
theorem dX6_clearing_97 : decode cX6_clearing 97 = .ok (.iload_n 3, 1) := by decide +kernel
theorem dX6_clearing_98 : decode cX6_clearing 98 = .ok (.invokestatic 228, 3) := by decide +kernel
theorem dX6_clearing_101 : decode cX6_clearing 101 = .ok (.if_icmp .ge 8, 3) := by decide +kernel
theorem dX6_clearing_104 : decode cX6_clearing 104 = .ok (.iload 5, 2) := by decide +kernel
theorem dX6_clearing_106 : decode cX6_clearing 106 = .ok (.goto 4, 3) := by decide +kernel
theorem dX6_clearing_109 : decode cX6_clearing 109 = .ok (.iload_n 3, 1) := by decide +kernel
theorem dX6_clearing_110 : decode cX6_clearing 110 = .ok (.istore_n 3, 1) := by decide +kernel
theorem dX6_clearing_111 : decode cX6_clearing 111 = .ok (.iload 6, 2) := by decide +kernel
theorem dX6_clearing_113 : decode cX6_clearing 113 = .ok (.iload 4, 2) := by decide +kernel
theorem dX6_clearing_115 : decode cX6_clearing 115 = .ok (.if_icmp .le 8, 3) := by decide +kernel
theorem dX6_clearing_118 : decode cX6_clearing 118 = .ok (.iload 6, 2) := by decide +kernel
theorem dX6_clearing_120 : decode cX6_clearing 120 = .ok (.goto 5, 3) := by decide +kernel
theorem dX6_clearing_123 : decode cX6_clearing 123 = .ok (.iload 4, 2) := by decide +kernel
theorem dX6_clearing_125 : decode cX6_clearing 125 = .ok (.istore 4, 2) := by decide +kernel
theorem dX6_clearing_127 : decode cX6_clearing 127 = .ok (.iinc 5 1, 3) := by decide +kernel
theorem dX6_clearing_130 : decode cX6_clearing 130 = .ok (.goto (-95), 3) := by decide +kernel
theorem dX6_clearing_133 : decode cX6_clearing 133 = .ok (.iload_n 3, 1) := by decide +kernel
theorem dX6_clearing_134 : decode cX6_clearing 134 = .ok (.ireturn, 1) := by decide +kernel
theorem dX6_stop_0 : decode cX6_stop 0 = .ok (.aload_n 0, 1) := by decide +kernel
theorem dX6_stop_1 : decode cX6_stop 1 = .ok (.iconst 0, 1) := by decide +kernel
theorem dX6_stop_2 : decode cX6_stop 2 = .ok (.putfield 58, 3) := by decide +kernel
theorem dX6_stop_5 : decode cX6_stop 5 = .ok (.iload_n 1, 1) := by decide +kernel
theorem dX6_stop_6 : decode cX6_stop 6 = .ok (.iconst 0, 1) := by decide +kernel
theorem dX6_stop_7 : decode cX6_stop 7 = .ok (.bipush 60, 2) := by decide +kernel
theorem dX6_stop_9 : decode cX6_stop 9 = .ok (.invokestatic 197, 3) := by decide +kernel
theorem dX6_stop_12 : decode cX6_stop 12 = .ok (.istore_n 2, 1) := by decide +kernel
theorem dX6_stop_13 : decode cX6_stop 13 = .ok (.iload_n 2, 1) := by decide +kernel
theorem dX6_stop_14 : decode cX6_stop 14 = .ok (.ifCond .ge 9, 3) := by decide +kernel
theorem dX6_stop_17 : decode cX6_stop 17 = .ok (.aload_n 0, 1) := by decide +kernel
theorem dX6_stop_18 : decode cX6_stop 18 = .ok (.iload_n 2, 1) := by decide +kernel
theorem dX6_stop_19 : decode cX6_stop 19 = .ok (.invokevirtual 108, 3) := by decide +kernel
theorem dX6_stop_22 : decode cX6_stop 22 = .ok (.ireturn, 1) := by decide +kernel
theorem dX6_stop_23 : decode cX6_stop 23 = .ok (.bipush (-9), 2) := by decide +kernel
theorem dX6_stop_25 : decode cX6_stop 25 = .ok (.istore_n 3, 1) := by decide +kernel
theorem dX6_stop_26 : decode cX6_stop 26 = .ok (.aload_n 0, 1) := by decide +kernel
theorem dX6_stop_27 : decode cX6_stop 27 = .ok (.invokevirtual 159, 3) := by decide +kernel
theorem dX6_stop_30 : decode cX6_stop 30 = .ok (.aload_n 0, 1) := by decide +kernel
theorem dX6_stop_31 : decode cX6_stop 31 = .ok (.iload_n 1, 1) := by decide +kernel
theorem dX6_stop_32 : decode cX6_stop 32 = .ok (.invokevirtual 225, 3) := by decide +kernel
theorem dX6_stop_35 : decode cX6_stop 35 = .ok (.istore 4, 2) := by decide +kernel
theorem dX6_stop_37 : decode cX6_stop 37 = .ok (.iconst 0, 1) := by decide +kernel
theorem dX6_stop_38 : decode cX6_stop 38 = .ok (.istore 5, 2) := by decide +kernel
theorem dX6_stop_40 : decode cX6_stop 40 = .ok (.iload 5, 2) := by decide +kernel
theorem dX6_stop_42 : decode cX6_stop 42 = .ok (.aload_n 0, 1) := by decide +kernel
theorem dX6_stop_43 : decode cX6_stop 43 = .ok (.getfield 62, 3) := by decide +kernel
theorem dX6_stop_46 : decode cX6_stop 46 = .ok (.if_icmp .ge 71, 3) := by decide +kernel
theorem dX6_stop_49 : decode cX6_stop 49 = .ok (.aload_n 0, 1) := by decide +kernel
theorem dX6_stop_50 : decode cX6_stop 50 = .ok (.getfield 83, 3) := by decide +kernel
theorem dX6_stop_53 : decode cX6_stop 53 = .ok (.iload 5, 2) := by decide +kernel
theorem dX6_stop_55 : decode cX6_stop 55 = .ok (.invokestatic 86, 3) := by decide +kernel
theorem dX6_stop_58 : decode cX6_stop 58 = .ok (.ifCond .ne 53, 3) := by decide +kernel
theorem dX6_stop_61 : decode cX6_stop 61 = .ok (.aload_n 0, 1) := by decide +kernel
theorem dX6_stop_62 : decode cX6_stop 62 = .ok (.dup, 1) := by decide +kernel
theorem dX6_stop_63 : decode cX6_stop 63 = .ok (.getfield 83, 3) := by decide +kernel
theorem dX6_stop_66 : decode cX6_stop 66 = .ok (.iconst 1, 1) := by decide +kernel
theorem dX6_stop_67 : decode cX6_stop 67 = .ok (.iload 5, 2) := by decide +kernel
theorem dX6_stop_69 : decode cX6_stop 69 = .ok (.ishl, 1) := by decide +kernel
theorem dX6_stop_70 : decode cX6_stop 70 = .ok (.ior, 1) := by decide +kernel
theorem dX6_stop_71 : decode cX6_stop 71 = .ok (.putfield 83, 3) := by decide +kernel
theorem dX6_stop_74 : decode cX6_stop 74 = .ok (.aload_n 0, 1) := by decide +kernel
theorem dX6_stop_75 : decode cX6_stop 75 = .ok (.iload_n 1, 1) := by decide +kernel
theorem dX6_stop_76 : decode cX6_stop 76 = .ok (.invokevirtual 225, 3) := by decide +kernel
theorem dX6_stop_79 : decode cX6_stop 79 = .ok (.istore 6, 2) := by decide +kernel
theorem dX6_stop_81 : decode cX6_stop 81 = .ok (.iload 6, 2) := by decide +kernel
theorem dX6_stop_83 : decode cX6_stop 83 = .ok (.iload 4, 2) := by decide +kernel
theorem dX6_stop_85 : decode cX6_stop 85 = .ok (.if_icmp .ge 8, 3) := by decide +kernel
theorem dX6_stop_88 : decode cX6_stop 88 = .ok (.iload 5, 2) := by decide +kernel
theorem dX6_stop_90 : decode cX6_stop 90 = .ok (.goto 4, 3) := by decide +kernel
theorem dX6_stop_93 : decode cX6_stop 93 = .ok (.iload_n 3, 1) := by decide +kernel
theorem dX6_stop_94 : decode cX6_stop 94 = .ok (.istore_n 3, 1) := by decide +kernel
theorem dX6_stop_95 : decode cX6_stop 95 = .ok (.iload 6, 2) := by decide +kernel
theorem dX6_stop_97 : decode cX6_stop 97 = .ok (.iload 4, 2) := by decide +kernel
theorem dX6_stop_99 : decode cX6_stop 99 = .ok (.if_icmp .ge 8, 3) := by decide +kernel
theorem dX6_stop_102 : decode cX6_stop 102 = .ok (.iload 6, 2) := by decide +kernel
theorem dX6_stop_104 : decode cX6_stop 104 = .ok (.goto 5, 3) := by decide +kernel
theorem dX6_stop_107 : decode cX6_stop 107 = .ok (.iload 4, 2) := by decide +kernel
theorem dX6_stop_109 : decode cX6_stop 109 = .ok (.istore 4, 2) := by decide +kernel
theorem dX6_stop_111 : decode cX6_stop 111 = .ok (.iinc 5 1, 3) := by decide +kernel
theorem dX6_stop_114 : decode cX6_stop 114 = .ok (.goto (-74), 3) := by decide +kernel
theorem dX6_stop_117 : decode cX6_stop 117 = .ok (.iload_n 3, 1) := by decide +kernel
theorem dX6_stop_118 : decode cX6_stop 118 = .ok (.ireturn, 1) := by decide +kernel
theorem dX6_join_0 : decode cX6_join 0 = .ok (.aload_n 0, 1) := by decide +kernel
theorem dX6_join_1 : decode cX6_join 1 = .ok (.iconst 0, 1) := by decide +kernel
theorem dX6_join_2 : decode cX6_join 2 = .ok (.putfield 58, 3) := by decide +kernel
theorem dX6_join_5 : decode cX6_join 5 = .ok (.iload_n 1, 1) := by decide +kernel
theorem dX6_join_6 : decode cX6_join 6 = .ok (.iconst 0, 1) := by decide +kernel
theorem dX6_join_7 : decode cX6_join 7 = .ok (.bipush 60, 2) := by decide +kernel
theorem dX6_join_9 : decode cX6_join 9 = .ok (.invokestatic 197, 3) := by decide +kernel
theorem dX6_join_12 : decode cX6_join 12 = .ok (.istore_n 2, 1) := by decide +kernel
theorem dX6_join_13 : decode cX6_join 13 = .ok (.iload_n 2, 1) := by decide +kernel
theorem dX6_join_14 : decode cX6_join 14 = .ok (.ifCond .ge 9, 3) := by decide +kernel
theorem dX6_join_17 : decode cX6_join 17 = .ok (.aload_n 0, 1) := by decide +kernel
theorem dX6_join_18 : decode cX6_join 18 = .ok (.iload_n 2, 1) := by decide +kernel
theorem dX6_join_19 : decode cX6_join 19 = .ok (.invokevirtual 108, 3) := by decide +kernel
theorem dX6_join_22 : decode cX6_join 22 = .ok (.ireturn, 1) := by decide +kernel
theorem dX6_join_23 : decode cX6_join 23 = .ok (.bipush (-9), 2) := by decide +kernel
theorem dX6_join_25 : decode cX6_join 25 = .ok (.istore_n 3, 1) := by decide +kernel
theorem dX6_join_26 : decode cX6_join 26 = .ok (.aload_n 0, 1) := by decide +kernel
theorem dX6_join_27 : decode cX6_join 27 = .ok (.invokevirtual 159, 3) := by decide +kernel
theorem dX6_join_30 : decode cX6_join 30 = .ok (.aload_n 0, 1) := by decide +kernel
theorem dX6_join_31 : decode cX6_join 31 = .ok (.iload_n 1, 1) := by decide +kernel
theorem dX6_join_32 : decode cX6_join 32 = .ok (.invokevirtual 225, 3) := by decide +kernel
theorem dX6_join_35 : decode cX6_join 35 = .ok (.istore 4, 2) := by decide +kernel
theorem dX6_join_37 : decode cX6_join 37 = .ok (.iconst 0, 1) := by decide +kernel
theorem dX6_join_38 : decode cX6_join 38 = .ok (.istore 5, 2) := by decide +kernel
theorem dX6_join_40 : decode cX6_join 40 = .ok (.iload 5, 2) := by decide +kernel
theorem dX6_join_42 : decode cX6_join 42 = .ok (.bipush 10, 2) := by decide +kernel
theorem dX6_join_44 : decode cX6_join 44 = .ok (.aload_n 0, 1) := by decide +kernel
theorem dX6_join_45 : decode cX6_join 45 = .ok (.getfield 62, 3) := by decide +kernel
theorem dX6_join_48 : decode cX6_join 48 = .ok (.imul, 1) := by decide +kernel
theorem dX6_join_49 : decode cX6_join 49 = .ok (.if_icmp .ge 91, 3) := by decide +kernel
theorem dX6_join_52 : decode cX6_join 52 = .ok (.iload 5, 2) := by decide +kernel
theorem dX6_join_54 : decode cX6_join 54 = .ok (.bipush 10, 2) := by decide +kernel
theorem dX6_join_56 : decode cX6_join 56 = .ok (.irem, 1) := by decide +kernel
theorem dX6_join_57 : decode cX6_join 57 = .ok (.istore 6, 2) := by decide +kernel
theorem dX6_join_59 : decode cX6_join 59 = .ok (.iload 6, 2) := by decide +kernel
theorem dX6_join_61 : decode cX6_join 61 = .ok (.iload 5, 2) := by decide +kernel
theorem dX6_join_63 : decode cX6_join 63 = .ok (.bipush 10, 2) := by decide +kernel
theorem dX6_join_65 : decode cX6_join 65 = .ok (.idiv, 1) := by decide +kernel
theorem dX6_join_66 : decode cX6_join 66 = .ok (.if_icmp .le 68, 3) := by decide +kernel
theorem dX6_join_69 : decode cX6_join 69 = .ok (.iload 6, 2) := by decide +kernel
theorem dX6_join_71 : decode cX6_join 71 = .ok (.aload_n 0, 1) := by decide +kernel
theorem dX6_join_72 : decode cX6_join 72 = .ok (.getfield 62, 3) := by decide +kernel
theorem dX6_join_75 : decode cX6_join 75 = .ok (.if_icmp .lt 10, 3) := by decide +kernel
theorem dX6_join_78 : decode cX6_join 78 = .ok (.iload 6, 2) := by decide +kernel
theorem dX6_join_80 : decode cX6_join 80 = .ok (.bipush 9, 2) := by decide +kernel
theorem dX6_join_82 : decode cX6_join 82 = .ok (.if_icmp .ne 52, 3) := by decide +kernel
theorem dX6_join_85 : decode cX6_join 85 = .ok (.aload_n 0, 1) := by decide +kernel
theorem dX6_join_86 : decode cX6_join 86 = .ok (.getfield 19, 3) := by decide +kernel
theorem dX6_join_89 : decode cX6_join 89 = .ok (.iload 5, 2) := by decide +kernel
theorem dX6_join_91 : decode cX6_join 91 = .ok (.bipush 10, 2) := by decide +kernel
theorem dX6_join_93 : decode cX6_join 93 = .ok (.idiv, 1) := by decide +kernel
theorem dX6_join_94 : decode cX6_join 94 = .ok (.iload 6, 2) := by decide +kernel
theorem dX6_join_96 : decode cX6_join 96 = .ok (.iastore, 1) := by decide +kernel
theorem dX6_join_97 : decode cX6_join 97 = .ok (.aload_n 0, 1) := by decide +kernel
theorem dX6_join_98 : decode cX6_join 98 = .ok (.iload_n 1, 1) := by decide +kernel
theorem dX6_join_99 : decode cX6_join 99 = .ok (.invokevirtual 225, 3) := by decide +kernel
theorem dX6_join_102 : decode cX6_join 102 = .ok (.istore 7, 2) := by decide +kernel
theorem dX6_join_104 : decode cX6_join 104 = .ok (.iload 7, 2) := by decide +kernel
theorem dX6_join_106 : decode cX6_join 106 = .ok (.iload 4, 2) := by decide +kernel
theorem dX6_join_108 : decode cX6_join 108 = .ok (.if_icmp .le 8, 3) := by decide +kernel
theorem dX6_join_111 : decode cX6_join 111 = .ok (.iload 5, 2) := by decide +kernel
theorem dX6_join_113 : decode cX6_join 113 = .ok (.goto 4, 3) := by decide +kernel
theorem dX6_join_116 : decode cX6_join 116 = .ok (.iload_n 3, 1) := by decide +kernel
theorem dX6_join_117 : decode cX6_join 117 = .ok (.istore_n 3, 1) := by decide +kernel
theorem dX6_join_118 : decode cX6_join 118 = .ok (.iload 7, 2) := by decide +kernel
theorem dX6_join_120 : decode cX6_join 120 = .ok (.iload 4, 2) := by decide +kernel
theorem dX6_join_122 : decode cX6_join 122 = .ok (.if_icmp .le 8, 3) := by decide +kernel
theorem dX6_join_125 : decode cX6_join 125 = .ok (.iload 7, 2) := by decide +kernel
theorem dX6_join_127 : decode cX6_join 127 = .ok (.goto 5, 3) := by decide +kernel
theorem dX6_join_130 : decode cX6_join 130 = .ok (.iload 4, 2) := by decide +kernel
theorem dX6_join_132 : decode cX6_join 132 = .ok (.istore 4, 2) := by decide +kernel
theorem dX6_join_134 : decode cX6_join 134 = .ok (.iinc 5 1, 3) := by decide +kernel
theorem dX6_join_137 : decode cX6_join 137 = .ok (.goto (-97), 3) := by decide +kernel
theorem dX6_join_140 : decode cX6_join 140 = .ok (.iload_n 3, 1) := by decide +kernel
theorem dX6_join_141 : decode cX6_join 141 = .ok (.ireturn, 1) := by decide +kernel
theorem dX6_wayBits_0 : decode cX6_wayBits 0 = .ok (.iconst 0, 1) := by decide +kernel
theorem dX6_wayBits_1 : decode cX6_wayBits 1 = .ok (.istore_n 2, 1) := by decide +kernel
theorem dX6_wayBits_2 : decode cX6_wayBits 2 = .ok (.iload_n 1, 1) := by decide +kernel
theorem dX6_wayBits_3 : decode cX6_wayBits 3 = .ok (.istore_n 3, 1) := by decide +kernel
theorem dX6_wayBits_4 : decode cX6_wayBits 4 = .ok (.iload_n 3, 1) := by decide +kernel
theorem dX6_wayBits_5 : decode cX6_wayBits 5 = .ok (.aload_n 0, 1) := by decide +kernel
theorem dX6_wayBits_6 : decode cX6_wayBits 6 = .ok (.getfield 62, 3) := by decide +kernel
theorem dX6_wayBits_9 : decode cX6_wayBits 9 = .ok (.if_icmp .ge 19, 3) := by decide +kernel
theorem dX6_wayBits_12 : decode cX6_wayBits 12 = .ok (.iload_n 2, 1) := by decide +kernel
theorem dX6_wayBits_13 : decode cX6_wayBits 13 = .ok (.iconst 1, 1) := by decide +kernel
theorem dX6_wayBits_14 : decode cX6_wayBits 14 = .ok (.iload_n 3, 1) := by decide +kernel
theorem dX6_wayBits_15 : decode cX6_wayBits 15 = .ok (.ishl, 1) := by decide +kernel
theorem dX6_wayBits_16 : decode cX6_wayBits 16 = .ok (.ior, 1) := by decide +kernel
theorem dX6_wayBits_17 : decode cX6_wayBits 17 = .ok (.istore_n 2, 1) := by decide +kernel
theorem dX6_wayBits_18 : decode cX6_wayBits 18 = .ok (.aload_n 0, 1) := by decide +kernel
theorem dX6_wayBits_19 : decode cX6_wayBits 19 = .ok (.getfield 19, 3) := by decide +kernel
theorem dX6_wayBits_22 : decode cX6_wayBits 22 = .ok (.iload_n 3, 1) := by decide +kernel
theorem dX6_wayBits_23 : decode cX6_wayBits 23 = .ok (.iaload, 1) := by decide +kernel
theorem dX6_wayBits_24 : decode cX6_wayBits 24 = .ok (.istore_n 3, 1) := by decide +kernel
theorem dX6_wayBits_25 : decode cX6_wayBits 25 = .ok (.goto (-21), 3) := by decide +kernel
theorem dX6_wayBits_28 : decode cX6_wayBits 28 = .ok (.iload_n 2, 1) := by decide +kernel
theorem dX6_wayBits_29 : decode cX6_wayBits 29 = .ok (.ireturn, 1) := by decide +kernel
theorem dX6_way_0 : decode cX6_way 0 = .ok (.aload_n 0, 1) := by decide +kernel
theorem dX6_way_1 : decode cX6_way 1 = .ok (.iconst 0, 1) := by decide +kernel
theorem dX6_way_2 : decode cX6_way 2 = .ok (.putfield 58, 3) := by decide +kernel
theorem dX6_way_5 : decode cX6_way 5 = .ok (.aload_n 0, 1) := by decide +kernel
theorem dX6_way_6 : decode cX6_way 6 = .ok (.iload_n 1, 1) := by decide +kernel
theorem dX6_way_7 : decode cX6_way 7 = .ok (.invokevirtual 147, 3) := by decide +kernel
theorem dX6_way_10 : decode cX6_way 10 = .ok (.ifCond .eq 7, 3) := by decide +kernel
theorem dX6_way_13 : decode cX6_way 13 = .ok (.iconst 0, 1) := by decide +kernel
theorem dX6_way_14 : decode cX6_way 14 = .ok (.goto 4, 3) := by decide +kernel
theorem dX6_way_17 : decode cX6_way 17 = .ok (.iconst (-1), 1) := by decide +kernel
theorem dX6_way_18 : decode cX6_way 18 = .ok (.iload_n 2, 1) := by decide +kernel
theorem dX6_way_19 : decode cX6_way 19 = .ok (.iconst 2, 1) := by decide +kernel
theorem dX6_way_20 : decode cX6_way 20 = .ok (.invokestatic 206, 3) := by decide +kernel
theorem dX6_way_23 : decode cX6_way 23 = .ok (.istore_n 3, 1) := by decide +kernel
theorem dX6_way_24 : decode cX6_way 24 = .ok (.iload_n 3, 1) := by decide +kernel
theorem dX6_way_25 : decode cX6_way 25 = .ok (.ifCond .ge 9, 3) := by decide +kernel
theorem dX6_way_28 : decode cX6_way 28 = .ok (.aload_n 0, 1) := by decide +kernel
theorem dX6_way_29 : decode cX6_way 29 = .ok (.iload_n 3, 1) := by decide +kernel
theorem dX6_way_30 : decode cX6_way 30 = .ok (.invokevirtual 108, 3) := by decide +kernel
theorem dX6_way_33 : decode cX6_way 33 = .ok (.ireturn, 1) := by decide +kernel
theorem dX6_way_34 : decode cX6_way 34 = .ok (.aload_n 0, 1) := by decide +kernel
theorem dX6_way_35 : decode cX6_way 35 = .ok (.iload_n 1, 1) := by decide +kernel
theorem dX6_way_36 : decode cX6_way 36 = .ok (.invokevirtual 231, 3) := by decide +kernel
theorem dX6_way_39 : decode cX6_way 39 = .ok (.istore 4, 2) := by decide +kernel
theorem dX6_way_41 : decode cX6_way 41 = .ok (.iload_n 2, 1) := by decide +kernel
theorem dX6_way_42 : decode cX6_way 42 = .ok (.ifCond .ne 11, 3) := by decide +kernel
theorem dX6_way_45 : decode cX6_way 45 = .ok (.iload 4, 2) := by decide +kernel
theorem dX6_way_47 : decode cX6_way 47 = .ok (.invokestatic 228, 3) := by decide +kernel
theorem dX6_way_50 : decode cX6_way 50 = .ok (.goto 23, 3) := by decide +kernel
theorem dX6_way_53 : decode cX6_way 53 = .ok (.iload_n 2, 1) := by decide +kernel
theorem dX6_way_54 : decode cX6_way 54 = .ok (.iconst 1, 1) := by decide +kernel
theorem dX6_way_55 : decode cX6_way 55 = .ok (.if_icmp .ne 16, 3) := by decide +kernel
theorem dX6_way_58 : decode cX6_way 58 = .ok (.iload 4, 2) := by decide +kernel
theorem dX6_way_60 : decode cX6_way 60 = .ok (.aload_n 0, 1) := by decide +kernel
theorem dX6_way_61 : decode cX6_way 61 = .ok (.getfield 83, 3) := by decide +kernel
theorem dX6_way_64 : decode cX6_way 64 = .ok (.iand, 1) := by decide +kernel
theorem dX6_way_65 : decode cX6_way 65 = .ok (.invokestatic 228, 3) := by decide +kernel
theorem dX6_way_68 : decode cX6_way 68 = .ok (.goto 5, 3) := by decide +kernel
theorem dX6_way_71 : decode cX6_way 71 = .ok (.iload 4, 2) := by decide +kernel
theorem dX6_way_73 : decode cX6_way 73 = .ok (.ireturn, 1) := by decide +kernel
theorem dX6_isRow_0 : decode cX6_isRow 0 = .ok (.iconst 1, 1) := by decide +kernel
theorem dX6_isRow_1 : decode cX6_isRow 1 = .ok (.istore_n 1, 1) := by decide +kernel
theorem dX6_isRow_2 : decode cX6_isRow 2 = .ok (.iconst 0, 1) := by decide +kernel
theorem dX6_isRow_3 : decode cX6_isRow 3 = .ok (.istore_n 2, 1) := by decide +kernel
theorem dX6_isRow_4 : decode cX6_isRow 4 = .ok (.iload_n 2, 1) := by decide +kernel
theorem dX6_isRow_5 : decode cX6_isRow 5 = .ok (.aload_n 0, 1) := by decide +kernel
theorem dX6_isRow_6 : decode cX6_isRow 6 = .ok (.getfield 234, 3) := by decide +kernel
theorem dX6_isRow_9 : decode cX6_isRow 9 = .ok (.if_icmp .ge 37, 3) := by decide +kernel
theorem dX6_isRow_12 : decode cX6_isRow 12 = .ok (.iload_n 1, 1) := by decide +kernel
theorem dX6_isRow_13 : decode cX6_isRow 13 = .ok (.ifCond .eq 33, 3) := by decide +kernel
theorem dX6_isRow_16 : decode cX6_isRow 16 = .ok (.aload_n 0, 1) := by decide +kernel
theorem dX6_isRow_17 : decode cX6_isRow 17 = .ok (.getfield 52, 3) := by decide +kernel
theorem dX6_isRow_20 : decode cX6_isRow 20 = .ok (.iload_n 2, 1) := by decide +kernel
theorem dX6_isRow_21 : decode cX6_isRow 21 = .ok (.iaload, 1) := by decide +kernel
theorem dX6_isRow_22 : decode cX6_isRow 22 = .ok (.aload_n 0, 1) := by decide +kernel
theorem dX6_isRow_23 : decode cX6_isRow 23 = .ok (.getfield 101, 3) := by decide +kernel
theorem dX6_isRow_26 : decode cX6_isRow 26 = .ok (.if_icmp .ne 7, 3) := by decide +kernel
theorem dX6_isRow_29 : decode cX6_isRow 29 = .ok (.iconst 1, 1) := by decide +kernel
theorem dX6_isRow_30 : decode cX6_isRow 30 = .ok (.goto 4, 3) := by decide +kernel
theorem dX6_isRow_33 : decode cX6_isRow 33 = .ok (.iconst 0, 1) := by decide +kernel
theorem dX6_isRow_34 : decode cX6_isRow 34 = .ok (.istore_n 1, 1) := by decide +kernel
theorem dX6_isRow_35 : decode cX6_isRow 35 = .ok (.aload_n 0, 1) := by decide +kernel
theorem dX6_isRow_36 : decode cX6_isRow 36 = .ok (.iconst 0, 1) := by decide +kernel
theorem dX6_isRow_37 : decode cX6_isRow 37 = .ok (.invokevirtual 104, 3) := by decide +kernel
theorem dX6_isRow_40 : decode cX6_isRow 40 = .ok (.iinc 2 1, 3) := by decide +kernel
theorem dX6_isRow_43 : decode cX6_isRow 43 = .ok (.goto (-39), 3) := by decide +kernel
theorem dX6_isRow_46 : decode cX6_isRow 46 = .ok (.aload_n 0, 1) := by decide +kernel
theorem dX6_isRow_47 : decode cX6_isRow 47 = .ok (.invokevirtual 165, 3) := by decide +kernel
theorem dX6_isRow_50 : decode cX6_isRow 50 = .ok (.iload_n 1, 1) := by decide +kernel
theorem dX6_isRow_51 : decode cX6_isRow 51 = .ok (.ireturn, 1) := by decide +kernel
theorem dX6_whichBlocked_0 : decode cX6_whichBlocked 0 = .ok (.aload_n 0, 1) := by decide +kernel
theorem dX6_whichBlocked_1 : decode cX6_whichBlocked 1 = .ok (.iconst 0, 1) := by decide +kernel
theorem dX6_whichBlocked_2 : decode cX6_whichBlocked 2 = .ok (.putfield 58, 3) := by decide +kernel
theorem dX6_whichBlocked_5 : decode cX6_whichBlocked 5 = .ok (.iconst 0, 1) := by decide +kernel
theorem dX6_whichBlocked_6 : decode cX6_whichBlocked 6 = .ok (.istore_n 1, 1) := by decide +kernel
theorem dX6_whichBlocked_7 : decode cX6_whichBlocked 7 = .ok (.aload_n 0, 1) := by decide +kernel
theorem dX6_whichBlocked_8 : decode cX6_whichBlocked 8 = .ok (.invokevirtual 159, 3) := by decide +kernel
theorem dX6_whichBlocked_11 : decode cX6_whichBlocked 11 = .ok (.iconst 0, 1) := by decide +kernel
theorem dX6_whichBlocked_12 : decode cX6_whichBlocked 12 = .ok (.istore_n 2, 1) := by decide +kernel
theorem dX6_whichBlocked_13 : decode cX6_whichBlocked 13 = .ok (.iload_n 2, 1) := by decide +kernel
theorem dX6_whichBlocked_14 : decode cX6_whichBlocked 14 = .ok (.aload_n 0, 1) := by decide +kernel
theorem dX6_whichBlocked_15 : decode cX6_whichBlocked 15 = .ok (.getfield 62, 3) := by decide +kernel
theorem dX6_whichBlocked_18 : decode cX6_whichBlocked 18 = .ok (.if_icmp .ge 49, 3) := by decide +kernel
theorem dX6_whichBlocked_21 : decode cX6_whichBlocked 21 = .ok (.aload_n 0, 1) := by decide +kernel
theorem dX6_whichBlocked_22 : decode cX6_whichBlocked 22 = .ok (.getfield 83, 3) := by decide +kernel
theorem dX6_whichBlocked_25 : decode cX6_whichBlocked 25 = .ok (.iload_n 2, 1) := by decide +kernel
theorem dX6_whichBlocked_26 : decode cX6_whichBlocked 26 = .ok (.invokestatic 86, 3) := by decide +kernel
theorem dX6_whichBlocked_29 : decode cX6_whichBlocked 29 = .ok (.ifCond .ne 32, 3) := by decide +kernel
theorem dX6_whichBlocked_32 : decode cX6_whichBlocked 32 = .ok (.aload_n 0, 1) := by decide +kernel
theorem dX6_whichBlocked_33 : decode cX6_whichBlocked 33 = .ok (.dup, 1) := by decide +kernel
theorem dX6_whichBlocked_34 : decode cX6_whichBlocked 34 = .ok (.getfield 83, 3) := by decide +kernel
theorem dX6_whichBlocked_37 : decode cX6_whichBlocked 37 = .ok (.iconst 1, 1) := by decide +kernel
theorem dX6_whichBlocked_38 : decode cX6_whichBlocked 38 = .ok (.iload_n 2, 1) := by decide +kernel
theorem dX6_whichBlocked_39 : decode cX6_whichBlocked 39 = .ok (.ishl, 1) := by decide +kernel
theorem dX6_whichBlocked_40 : decode cX6_whichBlocked 40 = .ok (.ior, 1) := by decide +kernel
theorem dX6_whichBlocked_41 : decode cX6_whichBlocked 41 = .ok (.putfield 83, 3) := by decide +kernel
theorem dX6_whichBlocked_44 : decode cX6_whichBlocked 44 = .ok (.iload_n 1, 1) := by decide +kernel
theorem dX6_whichBlocked_45 : decode cX6_whichBlocked 45 = .ok (.aload_n 0, 1) := by decide +kernel
theorem dX6_whichBlocked_46 : decode cX6_whichBlocked 46 = .ok (.invokevirtual 237, 3) := by decide +kernel
theorem dX6_whichBlocked_49 : decode cX6_whichBlocked 49 = .ok (.ifCond .eq 9, 3) := by decide +kernel
theorem dX6_whichBlocked_52 : decode cX6_whichBlocked 52 = .ok (.iconst 1, 1) := by decide +kernel
theorem dX6_whichBlocked_53 : decode cX6_whichBlocked 53 = .ok (.iload_n 2, 1) := by decide +kernel
theorem dX6_whichBlocked_54 : decode cX6_whichBlocked 54 = .ok (.ishl, 1) := by decide +kernel
theorem dX6_whichBlocked_55 : decode cX6_whichBlocked 55 = .ok (.goto 4, 3) := by decide +kernel
theorem dX6_whichBlocked_58 : decode cX6_whichBlocked 58 = .ok (.iconst 0, 1) := by decide +kernel
theorem dX6_whichBlocked_59 : decode cX6_whichBlocked 59 = .ok (.ior, 1) := by decide +kernel
theorem dX6_whichBlocked_60 : decode cX6_whichBlocked 60 = .ok (.istore_n 1, 1) := by decide +kernel
theorem dX6_whichBlocked_61 : decode cX6_whichBlocked 61 = .ok (.iinc 2 1, 3) := by decide +kernel
theorem dX6_whichBlocked_64 : decode cX6_whichBlocked 64 = .ok (.goto (-51), 3) := by decide +kernel
theorem dX6_whichBlocked_67 : decode cX6_whichBlocked 67 = .ok (.iload_n 1, 1) := by decide +kernel
theorem dX6_whichBlocked_68 : decode cX6_whichBlocked 68 = .ok (.ireturn, 1) := by decide +kernel
theorem dX6_wasPoured_0 : decode cX6_wasPoured 0 = .ok (.aload_n 0, 1) := by decide +kernel
theorem dX6_wasPoured_1 : decode cX6_wasPoured 1 = .ok (.iconst 0, 1) := by decide +kernel
theorem dX6_wasPoured_2 : decode cX6_wasPoured 2 = .ok (.putfield 58, 3) := by decide +kernel
theorem dX6_wasPoured_5 : decode cX6_wasPoured 5 = .ok (.aload_n 0, 1) := by decide +kernel
theorem dX6_wasPoured_6 : decode cX6_wasPoured 6 = .ok (.iload_n 1, 1) := by decide +kernel
theorem dX6_wasPoured_7 : decode cX6_wasPoured 7 = .ok (.invokevirtual 147, 3) := by decide +kernel
theorem dX6_wasPoured_10 : decode cX6_wasPoured 10 = .ok (.ifCond .eq 7, 3) := by decide +kernel
theorem dX6_wasPoured_13 : decode cX6_wasPoured 13 = .ok (.iconst 0, 1) := by decide +kernel
theorem dX6_wasPoured_14 : decode cX6_wasPoured 14 = .ok (.goto 4, 3) := by decide +kernel
theorem dX6_wasPoured_17 : decode cX6_wasPoured 17 = .ok (.iconst (-1), 1) := by decide +kernel
theorem dX6_wasPoured_18 : decode cX6_wasPoured 18 = .ok (.iload_n 2, 1) := by decide +kernel
theorem dX6_wasPoured_19 : decode cX6_wasPoured 19 = .ok (.iconst 2, 1) := by decide +kernel
theorem dX6_wasPoured_20 : decode cX6_wasPoured 20 = .ok (.invokestatic 206, 3) := by decide +kernel
theorem dX6_wasPoured_23 : decode cX6_wasPoured 23 = .ok (.istore_n 3, 1) := by decide +kernel
theorem dX6_wasPoured_24 : decode cX6_wasPoured 24 = .ok (.iload_n 3, 1) := by decide +kernel
theorem dX6_wasPoured_25 : decode cX6_wasPoured 25 = .ok (.ifCond .ge 9, 3) := by decide +kernel
theorem dX6_wasPoured_28 : decode cX6_wasPoured 28 = .ok (.aload_n 0, 1) := by decide +kernel
theorem dX6_wasPoured_29 : decode cX6_wasPoured 29 = .ok (.iload_n 3, 1) := by decide +kernel
theorem dX6_wasPoured_30 : decode cX6_wasPoured 30 = .ok (.invokevirtual 108, 3) := by decide +kernel
theorem dX6_wasPoured_33 : decode cX6_wasPoured 33 = .ok (.ireturn, 1) := by decide +kernel
theorem dX6_wasPoured_34 : decode cX6_wasPoured 34 = .ok (.iconst 0, 1) := by decide +kernel
theorem dX6_wasPoured_35 : decode cX6_wasPoured 35 = .ok (.istore 4, 2) := by decide +kernel
theorem dX6_wasPoured_37 : decode cX6_wasPoured 37 = .ok (.bipush (-9), 2) := by decide +kernel
theorem dX6_wasPoured_39 : decode cX6_wasPoured 39 = .ok (.istore 5, 2) := by decide +kernel
theorem dX6_wasPoured_41 : decode cX6_wasPoured 41 = .ok (.bipush (-9), 2) := by decide +kernel
theorem dX6_wasPoured_43 : decode cX6_wasPoured 43 = .ok (.istore 6, 2) := by decide +kernel
theorem dX6_wasPoured_45 : decode cX6_wasPoured 45 = .ok (.aload_n 0, 1) := by decide +kernel
theorem dX6_wasPoured_46 : decode cX6_wasPoured 46 = .ok (.invokevirtual 159, 3) := by decide +kernel
theorem dX6_wasPoured_49 : decode cX6_wasPoured 49 = .ok (.iconst 0, 1) := by decide +kernel
theorem dX6_wasPoured_50 : decode cX6_wasPoured 50 = .ok (.istore 7, 2) := by decide +kernel
theorem dX6_wasPoured_52 : decode cX6_wasPoured 52 = .ok (.iload 7, 2) := by decide +kernel
theorem dX6_wasPoured_54 : decode cX6_wasPoured 54 = .ok (.bipush 100, 2) := by decide +kernel
theorem dX6_wasPoured_56 : decode cX6_wasPoured 56 = .ok (.if_icmp .ge 44, 3) := by decide +kernel
theorem dX6_wasPoured_59 : decode cX6_wasPoured 59 = .ok (.aload_n 0, 1) := by decide +kernel
theorem dX6_wasPoured_60 : decode cX6_wasPoured 60 = .ok (.iload_n 1, 1) := by decide +kernel
theorem dX6_wasPoured_61 : decode cX6_wasPoured 61 = .ok (.iload 7, 2) := by decide +kernel
theorem dX6_wasPoured_63 : decode cX6_wasPoured 63 = .ok (.invokevirtual 97, 3) := by decide +kernel
theorem dX6_wasPoured_66 : decode cX6_wasPoured 66 = .ok (.aload_n 0, 1) := by decide +kernel
theorem dX6_wasPoured_67 : decode cX6_wasPoured 67 = .ok (.invokevirtual 237, 3) := by decide +kernel
theorem dX6_wasPoured_70 : decode cX6_wasPoured 70 = .ok (.ifCond .eq 24, 3) := by decide +kernel
theorem dX6_wasPoured_73 : decode cX6_wasPoured 73 = .ok (.iinc 4 1, 3) := by decide +kernel
theorem dX6_wasPoured_76 : decode cX6_wasPoured 76 = .ok (.iload 5, 2) := by decide +kernel
theorem dX6_wasPoured_78 : decode cX6_wasPoured 78 = .ok (.ifCond .ge 8, 3) := by decide +kernel
theorem dX6_wasPoured_81 : decode cX6_wasPoured 81 = .ok (.iload 7, 2) := by decide +kernel
theorem dX6_wasPoured_83 : decode cX6_wasPoured 83 = .ok (.goto 5, 3) := by decide +kernel
theorem dX6_wasPoured_86 : decode cX6_wasPoured 86 = .ok (.iload 5, 2) := by decide +kernel
theorem dX6_wasPoured_88 : decode cX6_wasPoured 88 = .ok (.istore 5, 2) := by decide +kernel
theorem dX6_wasPoured_90 : decode cX6_wasPoured 90 = .ok (.iload 7, 2) := by decide +kernel
theorem dX6_wasPoured_92 : decode cX6_wasPoured 92 = .ok (.istore 6, 2) := by decide +kernel
theorem dX6_wasPoured_94 : decode cX6_wasPoured 94 = .ok (.iinc 7 1, 3) := by decide +kernel
theorem dX6_wasPoured_97 : decode cX6_wasPoured 97 = .ok (.goto (-45), 3) := by decide +kernel
theorem dX6_wasPoured_100 : decode cX6_wasPoured 100 = .ok (.iload_n 2, 1) := by decide +kernel
theorem dX6_wasPoured_101 : decode cX6_wasPoured 101 = .ok (.ifCond .ne 8, 3) := by decide +kernel
theorem dX6_wasPoured_104 : decode cX6_wasPoured 104 = .ok (.iload 4, 2) := by decide +kernel
theorem dX6_wasPoured_106 : decode cX6_wasPoured 106 = .ok (.goto 15, 3) := by decide +kernel
theorem dX6_wasPoured_109 : decode cX6_wasPoured 109 = .ok (.iload_n 2, 1) := by decide +kernel
theorem dX6_wasPoured_110 : decode cX6_wasPoured 110 = .ok (.iconst 1, 1) := by decide +kernel
theorem dX6_wasPoured_111 : decode cX6_wasPoured 111 = .ok (.if_icmp .ne 8, 3) := by decide +kernel
theorem dX6_wasPoured_114 : decode cX6_wasPoured 114 = .ok (.iload 5, 2) := by decide +kernel
theorem dX6_wasPoured_116 : decode cX6_wasPoured 116 = .ok (.goto 5, 3) := by decide +kernel
theorem dX6_wasPoured_119 : decode cX6_wasPoured 119 = .ok (.iload 6, 2) := by decide +kernel
theorem dX6_wasPoured_121 : decode cX6_wasPoured 121 = .ok (.ireturn, 1) := by decide +kernel
theorem dX6_whatKind_0 : decode cX6_whatKind 0 = .ok (.aload_n 0, 1) := by decide +kernel
theorem dX6_whatKind_1 : decode cX6_whatKind 1 = .ok (.iconst 0, 1) := by decide +kernel
theorem dX6_whatKind_2 : decode cX6_whatKind 2 = .ok (.putfield 58, 3) := by decide +kernel
theorem dX6_whatKind_5 : decode cX6_whatKind 5 = .ok (.aload_n 0, 1) := by decide +kernel
theorem dX6_whatKind_6 : decode cX6_whatKind 6 = .ok (.iload_n 1, 1) := by decide +kernel
theorem dX6_whatKind_7 : decode cX6_whatKind 7 = .ok (.invokevirtual 147, 3) := by decide +kernel
theorem dX6_whatKind_10 : decode cX6_whatKind 10 = .ok (.ifCond .eq 7, 3) := by decide +kernel
theorem dX6_whatKind_13 : decode cX6_whatKind 13 = .ok (.iconst 0, 1) := by decide +kernel
theorem dX6_whatKind_14 : decode cX6_whatKind 14 = .ok (.goto 4, 3) := by decide +kernel
theorem dX6_whatKind_17 : decode cX6_whatKind 17 = .ok (.iconst (-1), 1) := by decide +kernel
theorem dX6_whatKind_18 : decode cX6_whatKind 18 = .ok (.iload_n 2, 1) := by decide +kernel
theorem dX6_whatKind_19 : decode cX6_whatKind 19 = .ok (.iconst 1, 1) := by decide +kernel
theorem dX6_whatKind_20 : decode cX6_whatKind 20 = .ok (.invokestatic 206, 3) := by decide +kernel
theorem dX6_whatKind_23 : decode cX6_whatKind 23 = .ok (.istore_n 3, 1) := by decide +kernel
theorem dX6_whatKind_24 : decode cX6_whatKind 24 = .ok (.iload_n 3, 1) := by decide +kernel
theorem dX6_whatKind_25 : decode cX6_whatKind 25 = .ok (.ifCond .ge 9, 3) := by decide +kernel
theorem dX6_whatKind_28 : decode cX6_whatKind 28 = .ok (.aload_n 0, 1) := by decide +kernel
theorem dX6_whatKind_29 : decode cX6_whatKind 29 = .ok (.iload_n 3, 1) := by decide +kernel
theorem dX6_whatKind_30 : decode cX6_whatKind 30 = .ok (.invokevirtual 108, 3) := by decide +kernel
theorem dX6_whatKind_33 : decode cX6_whatKind 33 = .ok (.ireturn, 1) := by decide +kernel
theorem dX6_whatKind_34 : decode cX6_whatKind 34 = .ok (.iconst 0, 1) := by decide +kernel
theorem dX6_whatKind_35 : decode cX6_whatKind 35 = .ok (.istore 4, 2) := by decide +kernel
theorem dX6_whatKind_37 : decode cX6_whatKind 37 = .ok (.aload_n 0, 1) := by decide +kernel
theorem dX6_whatKind_38 : decode cX6_whatKind 38 = .ok (.invokevirtual 159, 3) := by decide +kernel
theorem dX6_whatKind_41 : decode cX6_whatKind 41 = .ok (.iconst 0, 1) := by decide +kernel
theorem dX6_whatKind_42 : decode cX6_whatKind 42 = .ok (.istore 5, 2) := by decide +kernel
theorem dX6_whatKind_44 : decode cX6_whatKind 44 = .ok (.iload 5, 2) := by decide +kernel
theorem dX6_whatKind_46 : decode cX6_whatKind 46 = .ok (.iload_n 2, 1) := by decide +kernel
theorem dX6_whatKind_47 : decode cX6_whatKind 47 = .ok (.ifCond .ne 8, 3) := by decide +kernel
theorem dX6_whatKind_50 : decode cX6_whatKind 50 = .ok (.bipush 6, 2) := by decide +kernel
theorem dX6_whatKind_52 : decode cX6_whatKind 52 = .ok (.goto 5, 3) := by decide +kernel
theorem dX6_whatKind_55 : decode cX6_whatKind 55 = .ok (.bipush 10, 2) := by decide +kernel
theorem dX6_whatKind_57 : decode cX6_whatKind 57 = .ok (.if_icmp .ge 72, 3) := by decide +kernel
theorem dX6_whatKind_60 : decode cX6_whatKind 60 = .ok (.aload_n 0, 1) := by decide +kernel
theorem dX6_whatKind_61 : decode cX6_whatKind 61 = .ok (.getfield 7, 3) := by decide +kernel
theorem dX6_whatKind_64 : decode cX6_whatKind 64 = .ok (.iload_n 1, 1) := by decide +kernel
theorem dX6_whatKind_65 : decode cX6_whatKind 65 = .ok (.iload_n 2, 1) := by decide +kernel
theorem dX6_whatKind_66 : decode cX6_whatKind 66 = .ok (.ifCond .ne 8, 3) := by decide +kernel
theorem dX6_whatKind_69 : decode cX6_whatKind 69 = .ok (.iload 5, 2) := by decide +kernel
theorem dX6_whatKind_71 : decode cX6_whatKind 71 = .ok (.goto 9, 3) := by decide +kernel
theorem dX6_whatKind_74 : decode cX6_whatKind 74 = .ok (.aload_n 0, 1) := by decide +kernel
theorem dX6_whatKind_75 : decode cX6_whatKind 75 = .ok (.getfield 7, 3) := by decide +kernel
theorem dX6_whatKind_78 : decode cX6_whatKind 78 = .ok (.iload_n 1, 1) := by decide +kernel
theorem dX6_whatKind_79 : decode cX6_whatKind 79 = .ok (.iaload, 1) := by decide +kernel
theorem dX6_whatKind_80 : decode cX6_whatKind 80 = .ok (.iastore, 1) := by decide +kernel
theorem dX6_whatKind_81 : decode cX6_whatKind 81 = .ok (.aload_n 0, 1) := by decide +kernel
theorem dX6_whatKind_82 : decode cX6_whatKind 82 = .ok (.getfield 13, 3) := by decide +kernel
theorem dX6_whatKind_85 : decode cX6_whatKind 85 = .ok (.iload_n 1, 1) := by decide +kernel
theorem dX6_whatKind_86 : decode cX6_whatKind 86 = .ok (.iload_n 2, 1) := by decide +kernel
theorem dX6_whatKind_87 : decode cX6_whatKind 87 = .ok (.iconst 1, 1) := by decide +kernel
theorem dX6_whatKind_88 : decode cX6_whatKind 88 = .ok (.if_icmp .ne 8, 3) := by decide +kernel
theorem dX6_whatKind_91 : decode cX6_whatKind 91 = .ok (.iload 5, 2) := by decide +kernel
theorem dX6_whatKind_93 : decode cX6_whatKind 93 = .ok (.goto 9, 3) := by decide +kernel
theorem dX6_whatKind_96 : decode cX6_whatKind 96 = .ok (.aload_n 0, 1) := by decide +kernel
theorem dX6_whatKind_97 : decode cX6_whatKind 97 = .ok (.getfield 13, 3) := by decide +kernel
theorem dX6_whatKind_100 : decode cX6_whatKind 100 = .ok (.iload_n 1, 1) := by decide +kernel
theorem dX6_whatKind_101 : decode cX6_whatKind 101 = .ok (.iaload, 1) := by decide +kernel
theorem dX6_whatKind_102 : decode cX6_whatKind 102 = .ok (.iastore, 1) := by decide +kernel
theorem dX6_whatKind_103 : decode cX6_whatKind 103 = .ok (.iload 4, 2) := by decide +kernel
theorem dX6_whatKind_105 : decode cX6_whatKind 105 = .ok (.aload_n 0, 1) := by decide +kernel
theorem dX6_whatKind_106 : decode cX6_whatKind 106 = .ok (.invokevirtual 237, 3) := by decide +kernel
theorem dX6_whatKind_109 : decode cX6_whatKind 109 = .ok (.ifCond .eq 10, 3) := by decide +kernel
theorem dX6_whatKind_112 : decode cX6_whatKind 112 = .ok (.iconst 1, 1) := by decide +kernel
theorem dX6_whatKind_113 : decode cX6_whatKind 113 = .ok (.iload 5, 2) := by decide +kernel
theorem dX6_whatKind_115 : decode cX6_whatKind 115 = .ok (.ishl, 1) := by decide +kernel
theorem dX6_whatKind_116 : decode cX6_whatKind 116 = .ok (.goto 4, 3) := by decide +kernel
theorem dX6_whatKind_119 : decode cX6_whatKind 119 = .ok (.iconst 0, 1) := by decide +kernel
theorem dX6_whatKind_120 : decode cX6_whatKind 120 = .ok (.ior, 1) := by decide +kernel
theorem dX6_whatKind_121 : decode cX6_whatKind 121 = .ok (.istore 4, 2) := by decide +kernel
theorem dX6_whatKind_123 : decode cX6_whatKind 123 = .ok (.iinc 5 1, 3) := by decide +kernel
theorem dX6_whatKind_126 : decode cX6_whatKind 126 = .ok (.goto (-82), 3) := by decide +kernel
theorem dX6_whatKind_129 : decode cX6_whatKind 129 = .ok (.iload 4, 2) := by decide +kernel
theorem dX6_whatKind_131 : decode cX6_whatKind 131 = .ok (.ireturn, 1) := by decide +kernel
theorem dX6_two_0 : decode cX6_two 0 = .ok (.aload_n 0, 1) := by decide +kernel
theorem dX6_two_1 : decode cX6_two 1 = .ok (.iconst 0, 1) := by decide +kernel
theorem dX6_two_2 : decode cX6_two 2 = .ok (.putfield 58, 3) := by decide +kernel
theorem dX6_two_5 : decode cX6_two 5 = .ok (.aload_n 0, 1) := by decide +kernel
theorem dX6_two_6 : decode cX6_two 6 = .ok (.iload_n 1, 1) := by decide +kernel
theorem dX6_two_7 : decode cX6_two 7 = .ok (.invokevirtual 147, 3) := by decide +kernel
theorem dX6_two_10 : decode cX6_two 10 = .ok (.ifCond .eq 26, 3) := by decide +kernel
theorem dX6_two_13 : decode cX6_two 13 = .ok (.aload_n 0, 1) := by decide +kernel
theorem dX6_two_14 : decode cX6_two 14 = .ok (.iload_n 2, 1) := by decide +kernel
theorem dX6_two_15 : decode cX6_two 15 = .ok (.invokevirtual 147, 3) := by decide +kernel
theorem dX6_two_18 : decode cX6_two 18 = .ok (.ifCond .eq 18, 3) := by decide +kernel
theorem dX6_two_21 : decode cX6_two 21 = .ok (.iload_n 1, 1) := by decide +kernel
theorem dX6_two_22 : decode cX6_two 22 = .ok (.iload_n 2, 1) := by decide +kernel
theorem dX6_two_23 : decode cX6_two 23 = .ok (.if_icmp .eq 13, 3) := by decide +kernel
theorem dX6_two_26 : decode cX6_two 26 = .ok (.iload_n 3, 1) := by decide +kernel
theorem dX6_two_27 : decode cX6_two 27 = .ok (.iconst 0, 1) := by decide +kernel
theorem dX6_two_28 : decode cX6_two 28 = .ok (.bipush 30, 2) := by decide +kernel
theorem dX6_two_30 : decode cX6_two 30 = .ok (.invokestatic 197, 3) := by decide +kernel
theorem dX6_two_33 : decode cX6_two 33 = .ok (.goto 4, 3) := by decide +kernel
theorem dX6_two_36 : decode cX6_two 36 = .ok (.iconst (-1), 1) := by decide +kernel
theorem dX6_two_37 : decode cX6_two 37 = .ok (.istore 4, 2) := by decide +kernel
theorem dX6_two_39 : decode cX6_two 39 = .ok (.iload 4, 2) := by decide +kernel
theorem dX6_two_41 : decode cX6_two 41 = .ok (.ifCond .ge 10, 3) := by decide +kernel
theorem dX6_two_44 : decode cX6_two 44 = .ok (.aload_n 0, 1) := by decide +kernel
theorem dX6_two_45 : decode cX6_two 45 = .ok (.iload 4, 2) := by decide +kernel
theorem dX6_two_47 : decode cX6_two 47 = .ok (.invokevirtual 108, 3) := by decide +kernel
theorem dX6_two_50 : decode cX6_two 50 = .ok (.ireturn, 1) := by decide +kernel
theorem dX6_two_51 : decode cX6_two 51 = .ok (.aload_n 0, 1) := by decide +kernel
theorem dX6_two_52 : decode cX6_two 52 = .ok (.invokevirtual 159, 3) := by decide +kernel
theorem dX6_two_55 : decode cX6_two 55 = .ok (.iconst 0, 1) := by decide +kernel
theorem dX6_two_56 : decode cX6_two 56 = .ok (.istore 5, 2) := by decide +kernel
theorem dX6_two_58 : decode cX6_two 58 = .ok (.iload 5, 2) := by decide +kernel
theorem dX6_two_60 : decode cX6_two 60 = .ok (.iconst 4, 1) := by decide +kernel
theorem dX6_two_61 : decode cX6_two 61 = .ok (.if_icmp .ge 86, 3) := by decide +kernel
theorem dX6_two_64 : decode cX6_two 64 = .ok (.aload_n 0, 1) := by decide +kernel
theorem dX6_two_65 : decode cX6_two 65 = .ok (.dup, 1) := by decide +kernel
theorem dX6_two_66 : decode cX6_two 66 = .ok (.getfield 83, 3) := by decide +kernel
theorem dX6_two_69 : decode cX6_two 69 = .ok (.iload 5, 2) := by decide +kernel
theorem dX6_two_71 : decode cX6_two 71 = .ok (.iconst 2, 1) := by decide +kernel
theorem dX6_two_72 : decode cX6_two 72 = .ok (.idiv, 1) := by decide +kernel
theorem dX6_two_73 : decode cX6_two 73 = .ok (.iload_n 1, 1) := by decide +kernel
theorem dX6_two_74 : decode cX6_two 74 = .ok (.ishl, 1) := by decide +kernel
theorem dX6_two_75 : decode cX6_two 75 = .ok (.iload 5, 2) := by decide +kernel
theorem dX6_two_77 : decode cX6_two 77 = .ok (.iconst 2, 1) := by decide +kernel
theorem dX6_two_78 : decode cX6_two 78 = .ok (.irem, 1) := by decide +kernel
theorem dX6_two_79 : decode cX6_two 79 = .ok (.iload_n 2, 1) := by decide +kernel
theorem dX6_two_80 : decode cX6_two 80 = .ok (.ishl, 1) := by decide +kernel
theorem dX6_two_81 : decode cX6_two 81 = .ok (.ior, 1) := by decide +kernel
theorem dX6_two_82 : decode cX6_two 82 = .ok (.ior, 1) := by decide +kernel
theorem dX6_two_83 : decode cX6_two 83 = .ok (.putfield 83, 3) := by decide +kernel
theorem dX6_two_86 : decode cX6_two 86 = .ok (.aload_n 0, 1) := by decide +kernel
theorem dX6_two_87 : decode cX6_two 87 = .ok (.iload_n 3, 1) := by decide +kernel
theorem dX6_two_88 : decode cX6_two 88 = .ok (.invokevirtual 143, 3) := by decide +kernel
theorem dX6_two_91 : decode cX6_two 91 = .ok (.aload_n 0, 1) := by decide +kernel
theorem dX6_two_92 : decode cX6_two 92 = .ok (.getfield 55, 3) := by decide +kernel
theorem dX6_two_95 : decode cX6_two 95 = .ok (.iconst 2, 1) := by decide +kernel
theorem dX6_two_96 : decode cX6_two 96 = .ok (.iload 5, 2) := by decide +kernel
theorem dX6_two_98 : decode cX6_two 98 = .ok (.imul, 1) := by decide +kernel
theorem dX6_two_99 : decode cX6_two 99 = .ok (.aload_n 0, 1) := by decide +kernel
theorem dX6_two_100 : decode cX6_two 100 = .ok (.getfield 16, 3) := by decide +kernel
theorem dX6_two_103 : decode cX6_two 103 = .ok (.iload_n 1, 1) := by decide +kernel
theorem dX6_two_104 : decode cX6_two 104 = .ok (.iaload, 1) := by decide +kernel
theorem dX6_two_105 : decode cX6_two 105 = .ok (.iconst 3, 1) := by decide +kernel
theorem dX6_two_106 : decode cX6_two 106 = .ok (.iload 5, 2) := by decide +kernel
theorem dX6_two_108 : decode cX6_two 108 = .ok (.iconst 2, 1) := by decide +kernel
theorem dX6_two_109 : decode cX6_two 109 = .ok (.idiv, 1) := by decide +kernel
theorem dX6_two_110 : decode cX6_two 110 = .ok (.imul, 1) := by decide +kernel
theorem dX6_two_111 : decode cX6_two 111 = .ok (.isub, 1) := by decide +kernel
theorem dX6_two_112 : decode cX6_two 112 = .ok (.iastore, 1) := by decide +kernel
theorem dX6_two_113 : decode cX6_two 113 = .ok (.aload_n 0, 1) := by decide +kernel
theorem dX6_two_114 : decode cX6_two 114 = .ok (.getfield 55, 3) := by decide +kernel
theorem dX6_two_117 : decode cX6_two 117 = .ok (.iconst 2, 1) := by decide +kernel
theorem dX6_two_118 : decode cX6_two 118 = .ok (.iload 5, 2) := by decide +kernel
theorem dX6_two_120 : decode cX6_two 120 = .ok (.imul, 1) := by decide +kernel
theorem dX6_two_121 : decode cX6_two 121 = .ok (.iconst 1, 1) := by decide +kernel
theorem dX6_two_122 : decode cX6_two 122 = .ok (.iadd, 1) := by decide +kernel
theorem dX6_two_123 : decode cX6_two 123 = .ok (.aload_n 0, 1) := by decide +kernel
theorem dX6_two_124 : decode cX6_two 124 = .ok (.getfield 16, 3) := by decide +kernel
theorem dX6_two_127 : decode cX6_two 127 = .ok (.iload_n 2, 1) := by decide +kernel
theorem dX6_two_128 : decode cX6_two 128 = .ok (.iaload, 1) := by decide +kernel
theorem dX6_two_129 : decode cX6_two 129 = .ok (.iconst 3, 1) := by decide +kernel
theorem dX6_two_130 : decode cX6_two 130 = .ok (.iload 5, 2) := by decide +kernel
theorem dX6_two_132 : decode cX6_two 132 = .ok (.iconst 2, 1) := by decide +kernel
theorem dX6_two_133 : decode cX6_two 133 = .ok (.irem, 1) := by decide +kernel
theorem dX6_two_134 : decode cX6_two 134 = .ok (.imul, 1) := by decide +kernel
theorem dX6_two_135 : decode cX6_two 135 = .ok (.isub, 1) := by decide +kernel
theorem dX6_two_136 : decode cX6_two 136 = .ok (.iastore, 1) := by decide +kernel
theorem dX6_two_137 : decode cX6_two 137 = .ok (.aload_n 0, 1) := by decide +kernel
theorem dX6_two_138 : decode cX6_two 138 = .ok (.invokevirtual 165, 3) := by decide +kernel
theorem dX6_two_141 : decode cX6_two 141 = .ok (.iinc 5 1, 3) := by decide +kernel
theorem dX6_two_144 : decode cX6_two 144 = .ok (.goto (-86), 3) := by decide +kernel
theorem dX6_two_147 : decode cX6_two 147 = .ok (.iconst 0, 1) := by decide +kernel
theorem dX6_two_148 : decode cX6_two 148 = .ok (.istore 5, 2) := by decide +kernel
theorem dX6_two_150 : decode cX6_two 150 = .ok (.iload 5, 2) := by decide +kernel
theorem dX6_two_152 : decode cX6_two 152 = .ok (.iconst 4, 1) := by decide +kernel
theorem dX6_two_153 : decode cX6_two 153 = .ok (.if_icmp .ge 98, 3) := by decide +kernel
theorem dX6_two_156 : decode cX6_two 156 = .ok (.iconst 2, 1) := by decide +kernel
theorem dX6_two_157 : decode cX6_two 157 = .ok (.iconst 1, 1) := by decide +kernel
theorem dX6_two_158 : decode cX6_two 158 = .ok (.iload 5, 2) := by decide +kernel
theorem dX6_two_160 : decode cX6_two 160 = .ok (.iconst 2, 1) := by decide +kernel
theorem dX6_two_161 : decode cX6_two 161 = .ok (.idiv, 1) := by decide +kernel
theorem dX6_two_162 : decode cX6_two 162 = .ok (.isub, 1) := by decide +kernel
theorem dX6_two_163 : decode cX6_two 163 = .ok (.imul, 1) := by decide +kernel
theorem dX6_two_164 : decode cX6_two 164 = .ok (.iload 5, 2) := by decide +kernel
theorem dX6_two_166 : decode cX6_two 166 = .ok (.iconst 2, 1) := by decide +kernel
theorem dX6_two_167 : decode cX6_two 167 = .ok (.irem, 1) := by decide +kernel
theorem dX6_two_168 : decode cX6_two 168 = .ok (.iadd, 1) := by decide +kernel
theorem dX6_two_169 : decode cX6_two 169 = .ok (.istore 6, 2) := by decide +kernel
theorem dX6_two_171 : decode cX6_two 171 = .ok (.iconst 2, 1) := by decide +kernel
theorem dX6_two_172 : decode cX6_two 172 = .ok (.iload 5, 2) := by decide +kernel
theorem dX6_two_174 : decode cX6_two 174 = .ok (.iconst 2, 1) := by decide +kernel
theorem dX6_two_175 : decode cX6_two 175 = .ok (.idiv, 1) := by decide +kernel
theorem dX6_two_176 : decode cX6_two 176 = .ok (.imul, 1) := by decide +kernel
theorem dX6_two_177 : decode cX6_two 177 = .ok (.iconst 1, 1) := by decide +kernel
theorem dX6_two_178 : decode cX6_two 178 = .ok (.iadd, 1) := by decide +kernel
theorem dX6_two_179 : decode cX6_two 179 = .ok (.iload 5, 2) := by decide +kernel
theorem dX6_two_181 : decode cX6_two 181 = .ok (.iconst 2, 1) := by decide +kernel
theorem dX6_two_182 : decode cX6_two 182 = .ok (.irem, 1) := by decide +kernel
theorem dX6_two_183 : decode cX6_two 183 = .ok (.isub, 1) := by decide +kernel
theorem dX6_two_184 : decode cX6_two 184 = .ok (.istore 7, 2) := by decide +kernel
theorem dX6_two_186 : decode cX6_two 186 = .ok (.aload_n 0, 1) := by decide +kernel
theorem dX6_two_187 : decode cX6_two 187 = .ok (.getfield 55, 3) := by decide +kernel
theorem dX6_two_190 : decode cX6_two 190 = .ok (.iconst 2, 1) := by decide +kernel
theorem dX6_two_191 : decode cX6_two 191 = .ok (.iload 5, 2) := by decide +kernel
theorem dX6_two_193 : decode cX6_two 193 = .ok (.imul, 1) := by decide +kernel
theorem dX6_two_194 : decode cX6_two 194 = .ok (.iaload, 1) := by decide +kernel
theorem dX6_two_195 : decode cX6_two 195 = .ok (.aload_n 0, 1) := by decide +kernel
theorem dX6_two_196 : decode cX6_two 196 = .ok (.getfield 55, 3) := by decide +kernel
theorem dX6_two_199 : decode cX6_two 199 = .ok (.iconst 2, 1) := by decide +kernel
theorem dX6_two_200 : decode cX6_two 200 = .ok (.iload 6, 2) := by decide +kernel
theorem dX6_two_202 : decode cX6_two 202 = .ok (.imul, 1) := by decide +kernel
theorem dX6_two_203 : decode cX6_two 203 = .ok (.iaload, 1) := by decide +kernel
theorem dX6_two_204 : decode cX6_two 204 = .ok (.if_icmp .lt 41, 3) := by decide +kernel
theorem dX6_two_207 : decode cX6_two 207 = .ok (.aload_n 0, 1) := by decide +kernel
theorem dX6_two_208 : decode cX6_two 208 = .ok (.getfield 55, 3) := by decide +kernel
theorem dX6_two_211 : decode cX6_two 211 = .ok (.iconst 2, 1) := by decide +kernel
theorem dX6_two_212 : decode cX6_two 212 = .ok (.iload 5, 2) := by decide +kernel
theorem dX6_two_214 : decode cX6_two 214 = .ok (.imul, 1) := by decide +kernel
theorem dX6_two_215 : decode cX6_two 215 = .ok (.iconst 1, 1) := by decide +kernel
theorem dX6_two_216 : decode cX6_two 216 = .ok (.iadd, 1) := by decide +kernel
theorem dX6_two_217 : decode cX6_two 217 = .ok (.iaload, 1) := by decide +kernel
theorem dX6_two_218 : decode cX6_two 218 = .ok (.aload_n 0, 1) := by decide +kernel
theorem dX6_two_219 : decode cX6_two 219 = .ok (.getfield 55, 3) := by decide +kernel
theorem dX6_two_222 : decode cX6_two 222 = .ok (.iconst 2, 1) := by decide +kernel
theorem dX6_two_223 : decode cX6_two 223 = .ok (.iload 7, 2) := by decide +kernel
theorem dX6_two_225 : decode cX6_two 225 = .ok (.imul, 1) := by decide +kernel
theorem dX6_two_226 : decode cX6_two 226 = .ok (.iconst 1, 1) := by decide +kernel
theorem dX6_two_227 : decode cX6_two 227 = .ok (.iadd, 1) := by decide +kernel
theorem dX6_two_228 : decode cX6_two 228 = .ok (.iaload, 1) := by decide +kernel
theorem dX6_two_229 : decode cX6_two 229 = .ok (.if_icmp .lt 16, 3) := by decide +kernel
theorem dX6_two_232 : decode cX6_two 232 = .ok (.bipush 10, 2) := by decide +kernel
theorem dX6_two_234 : decode cX6_two 234 = .ok (.iload 5, 2) := by decide +kernel
theorem dX6_two_236 : decode cX6_two 236 = .ok (.iconst 2, 1) := by decide +kernel
theorem dX6_two_237 : decode cX6_two 237 = .ok (.idiv, 1) := by decide +kernel
theorem dX6_two_238 : decode cX6_two 238 = .ok (.imul, 1) := by decide +kernel
theorem dX6_two_239 : decode cX6_two 239 = .ok (.iload 5, 2) := by decide +kernel
theorem dX6_two_241 : decode cX6_two 241 = .ok (.iconst 2, 1) := by decide +kernel
theorem dX6_two_242 : decode cX6_two 242 = .ok (.irem, 1) := by decide +kernel
theorem dX6_two_243 : decode cX6_two 243 = .ok (.iadd, 1) := by decide +kernel
theorem dX6_two_244 : decode cX6_two 244 = .ok (.ireturn, 1) := by decide +kernel
theorem dX6_two_245 : decode cX6_two 245 = .ok (.iinc 5 1, 3) := by decide +kernel
theorem dX6_two_248 : decode cX6_two 248 = .ok (.goto (-98), 3) := by decide +kernel
theorem dX6_two_251 : decode cX6_two 251 = .ok (.bipush (-9), 2) := by decide +kernel
theorem dX6_two_253 : decode cX6_two 253 = .ok (.ireturn, 1) := by decide +kernel
theorem dX6_divisor_0 : decode cX6_divisor 0 = .ok (.lload_n 0, 1) := by decide +kernel
theorem dX6_divisor_1 : decode cX6_divisor 1 = .ok (.lstore 4, 2) := by decide +kernel
theorem dX6_divisor_3 : decode cX6_divisor 3 = .ok (.lload_n 2, 1) := by decide +kernel
theorem dX6_divisor_4 : decode cX6_divisor 4 = .ok (.lstore 6, 2) := by decide +kernel
theorem dX6_divisor_6 : decode cX6_divisor 6 = .ok (.lload 6, 2) := by decide +kernel
theorem dX6_divisor_8 : decode cX6_divisor 8 = .ok (.lconst 0, 1) := by decide +kernel
theorem dX6_divisor_9 : decode cX6_divisor 9 = .ok (.lcmp, 1) := by decide +kernel
theorem dX6_divisor_10 : decode cX6_divisor 10 = .ok (.ifCond .eq 21, 3) := by decide +kernel
theorem dX6_divisor_13 : decode cX6_divisor 13 = .ok (.lload 4, 2) := by decide +kernel
theorem dX6_divisor_15 : decode cX6_divisor 15 = .ok (.lload 6, 2) := by decide +kernel
theorem dX6_divisor_17 : decode cX6_divisor 17 = .ok (.lrem, 1) := by decide +kernel
theorem dX6_divisor_18 : decode cX6_divisor 18 = .ok (.lstore 8, 2) := by decide +kernel
theorem dX6_divisor_20 : decode cX6_divisor 20 = .ok (.lload 6, 2) := by decide +kernel
theorem dX6_divisor_22 : decode cX6_divisor 22 = .ok (.lstore 4, 2) := by decide +kernel
theorem dX6_divisor_24 : decode cX6_divisor 24 = .ok (.lload 8, 2) := by decide +kernel
theorem dX6_divisor_26 : decode cX6_divisor 26 = .ok (.lstore 6, 2) := by decide +kernel
theorem dX6_divisor_28 : decode cX6_divisor 28 = .ok (.goto (-22), 3) := by decide +kernel
theorem dX6_divisor_31 : decode cX6_divisor 31 = .ok (.lload 4, 2) := by decide +kernel
theorem dX6_divisor_33 : decode cX6_divisor 33 = .ok (.lreturn, 1) := by decide +kernel
theorem dX6_partOf_0 : decode cX6_partOf 0 = .ok (.lload_n 0, 1) := by decide +kernel
theorem dX6_partOf_1 : decode cX6_partOf 1 = .ok (.lconst 0, 1) := by decide +kernel
theorem dX6_partOf_2 : decode cX6_partOf 2 = .ok (.lcmp, 1) := by decide +kernel
theorem dX6_partOf_3 : decode cX6_partOf 3 = .ok (.ifCond .ne 7, 3) := by decide +kernel
theorem dX6_partOf_6 : decode cX6_partOf 6 = .ok (.iload 4, 2) := by decide +kernel
theorem dX6_partOf_8 : decode cX6_partOf 8 = .ok (.i2l, 1) := by decide +kernel
theorem dX6_partOf_9 : decode cX6_partOf 9 = .ok (.lreturn, 1) := by decide +kernel
theorem dX6_partOf_10 : decode cX6_partOf 10 = .ok (.lload_n 0, 1) := by decide +kernel
theorem dX6_partOf_11 : decode cX6_partOf 11 = .ok (.lload_n 2, 1) := by decide +kernel
theorem dX6_partOf_12 : decode cX6_partOf 12 = .ok (.invokestatic 240, 3) := by decide +kernel
theorem dX6_partOf_15 : decode cX6_partOf 15 = .ok (.lstore 5, 2) := by decide +kernel
theorem dX6_partOf_17 : decode cX6_partOf 17 = .ok (.iload 4, 2) := by decide +kernel
theorem dX6_partOf_19 : decode cX6_partOf 19 = .ok (.ifCond .ne 10, 3) := by decide +kernel
theorem dX6_partOf_22 : decode cX6_partOf 22 = .ok (.lload_n 0, 1) := by decide +kernel
theorem dX6_partOf_23 : decode cX6_partOf 23 = .ok (.lload 5, 2) := by decide +kernel
theorem dX6_partOf_25 : decode cX6_partOf 25 = .ok (.ldiv, 1) := by decide +kernel
theorem dX6_partOf_26 : decode cX6_partOf 26 = .ok (.goto 7, 3) := by decide +kernel
theorem dX6_partOf_29 : decode cX6_partOf 29 = .ok (.lload_n 2, 1) := by decide +kernel
theorem dX6_partOf_30 : decode cX6_partOf 30 = .ok (.lload 5, 2) := by decide +kernel
theorem dX6_partOf_32 : decode cX6_partOf 32 = .ok (.ldiv, 1) := by decide +kernel
theorem dX6_partOf_33 : decode cX6_partOf 33 = .ok (.lreturn, 1) := by decide +kernel
theorem dX6_blocked_0 : decode cX6_blocked 0 = .ok (.aload_n 0, 1) := by decide +kernel
theorem dX6_blocked_1 : decode cX6_blocked 1 = .ok (.iconst 0, 1) := by decide +kernel
theorem dX6_blocked_2 : decode cX6_blocked 2 = .ok (.putfield 58, 3) := by decide +kernel
theorem dX6_blocked_5 : decode cX6_blocked 5 = .ok (.iload_n 1, 1) := by decide +kernel
theorem dX6_blocked_6 : decode cX6_blocked 6 = .ok (.ifCond .lt 12, 3) := by decide +kernel
theorem dX6_blocked_9 : decode cX6_blocked 9 = .ok (.iload_n 3, 1) := by decide +kernel
theorem dX6_blocked_10 : decode cX6_blocked 10 = .ok (.ifCond .lt 8, 3) := by decide +kernel
theorem dX6_blocked_13 : decode cX6_blocked 13 = .ok (.iload_n 2, 1) := by decide +kernel
theorem dX6_blocked_14 : decode cX6_blocked 14 = .ok (.iconst 2, 1) := by decide +kernel
theorem dX6_blocked_15 : decode cX6_blocked 15 = .ok (.if_icmp .ge 8, 3) := by decide +kernel
theorem dX6_blocked_18 : decode cX6_blocked 18 = .ok (.bipush (-4), 2) := by decide +kernel
theorem dX6_blocked_20 : decode cX6_blocked 20 = .ok (.goto 28, 3) := by decide +kernel
theorem dX6_blocked_23 : decode cX6_blocked 23 = .ok (.iload_n 1, 1) := by decide +kernel
theorem dX6_blocked_24 : decode cX6_blocked 24 = .ok (.bipush 7, 2) := by decide +kernel
theorem dX6_blocked_26 : decode cX6_blocked 26 = .ok (.if_icmp .gt 16, 3) := by decide +kernel
theorem dX6_blocked_29 : decode cX6_blocked 29 = .ok (.iload_n 2, 1) := by decide +kernel
theorem dX6_blocked_30 : decode cX6_blocked 30 = .ok (.bipush 20, 2) := by decide +kernel
theorem dX6_blocked_32 : decode cX6_blocked 32 = .ok (.if_icmp .gt 10, 3) := by decide +kernel
theorem dX6_blocked_35 : decode cX6_blocked 35 = .ok (.iload_n 3, 1) := by decide +kernel
theorem dX6_blocked_36 : decode cX6_blocked 36 = .ok (.sipush 999, 3) := by decide +kernel
theorem dX6_blocked_39 : decode cX6_blocked 39 = .ok (.if_icmp .le 8, 3) := by decide +kernel
theorem dX6_blocked_42 : decode cX6_blocked 42 = .ok (.bipush (-6), 2) := by decide +kernel
theorem dX6_blocked_44 : decode cX6_blocked 44 = .ok (.goto 4, 3) := by decide +kernel
theorem dX6_blocked_47 : decode cX6_blocked 47 = .ok (.iconst 0, 1) := by decide +kernel
theorem dX6_blocked_48 : decode cX6_blocked 48 = .ok (.istore 5, 2) := by decide +kernel
theorem dX6_blocked_50 : decode cX6_blocked 50 = .ok (.iload 5, 2) := by decide +kernel
theorem dX6_blocked_52 : decode cX6_blocked 52 = .ok (.iload 4, 2) := by decide +kernel
theorem dX6_blocked_54 : decode cX6_blocked 54 = .ok (.iconst 1, 1) := by decide +kernel
theorem dX6_blocked_55 : decode cX6_blocked 55 = .ok (.invokestatic 206, 3) := by decide +kernel
theorem dX6_blocked_58 : decode cX6_blocked 58 = .ok (.istore 5, 2) := by decide +kernel
theorem dX6_blocked_60 : decode cX6_blocked 60 = .ok (.iload 5, 2) := by decide +kernel
theorem dX6_blocked_62 : decode cX6_blocked 62 = .ok (.ifCond .ge 15, 3) := by decide +kernel
theorem dX6_blocked_65 : decode cX6_blocked 65 = .ok (.ldc2_w 244, 3) := by decide +kernel
theorem dX6_blocked_68 : decode cX6_blocked 68 = .ok (.aload_n 0, 1) := by decide +kernel
theorem dX6_blocked_69 : decode cX6_blocked 69 = .ok (.iload 5, 2) := by decide +kernel
theorem dX6_blocked_71 : decode cX6_blocked 71 = .ok (.invokevirtual 108, 3) := by decide +kernel
theorem dX6_blocked_74 : decode cX6_blocked 74 = .ok (.i2l, 1) := by decide +kernel
theorem dX6_blocked_75 : decode cX6_blocked 75 = .ok (.lsub, 1) := by decide +kernel
theorem dX6_blocked_76 : decode cX6_blocked 76 = .ok (.lreturn, 1) := by decide +kernel
theorem dX6_blocked_77 : decode cX6_blocked 77 = .ok (.lconst 0, 1) := by decide +kernel
theorem dX6_blocked_78 : decode cX6_blocked 78 = .ok (.lstore 6, 2) := by decide +kernel
theorem dX6_blocked_80 : decode cX6_blocked 80 = .ok (.lconst 1, 1) := by decide +kernel
theorem dX6_blocked_81 : decode cX6_blocked 81 = .ok (.lstore 8, 2) := by decide +kernel
theorem dX6_blocked_83 : decode cX6_blocked 83 = .ok (.iconst 0, 1) := by decide +kernel
theorem dX6_blocked_84 : decode cX6_blocked 84 = .ok (.istore 10, 2) := by decide +kernel
theorem dX6_blocked_86 : decode cX6_blocked 86 = .ok (.iload 10, 2) := by decide +kernel
theorem dX6_blocked_88 : decode cX6_blocked 88 = .ok (.iload_n 1, 1) := by decide +kernel
theorem dX6_blocked_89 : decode cX6_blocked 89 = .ok (.if_icmp .ge 16, 3) := by decide +kernel
theorem dX6_blocked_92 : decode cX6_blocked 92 = .ok (.lload 8, 2) := by decide +kernel
theorem dX6_blocked_94 : decode cX6_blocked 94 = .ok (.iload_n 2, 1) := by decide +kernel
theorem dX6_blocked_95 : decode cX6_blocked 95 = .ok (.i2l, 1) := by decide +kernel
theorem dX6_blocked_96 : decode cX6_blocked 96 = .ok (.lmul, 1) := by decide +kernel
theorem dX6_blocked_97 : decode cX6_blocked 97 = .ok (.lstore 8, 2) := by decide +kernel
theorem dX6_blocked_99 : decode cX6_blocked 99 = .ok (.iinc 10 1, 3) := by decide +kernel
theorem dX6_blocked_102 : decode cX6_blocked 102 = .ok (.goto (-16), 3) := by decide +kernel
theorem dX6_blocked_105 : decode cX6_blocked 105 = .ok (.aload_n 0, 1) := by decide +kernel
theorem dX6_blocked_106 : decode cX6_blocked 106 = .ok (.invokevirtual 159, 3) := by decide +kernel
theorem dX6_blocked_109 : decode cX6_blocked 109 = .ok (.iconst 0, 1) := by decide +kernel
theorem dX6_blocked_110 : decode cX6_blocked 110 = .ok (.istore 10, 2) := by decide +kernel
theorem dX6_blocked_112 : decode cX6_blocked 112 = .ok (.iload 10, 2) := by decide +kernel
theorem dX6_blocked_114 : decode cX6_blocked 114 = .ok (.iconst 1, 1) := by decide +kernel
theorem dX6_blocked_115 : decode cX6_blocked 115 = .ok (.iload_n 1, 1) := by decide +kernel
theorem dX6_blocked_116 : decode cX6_blocked 116 = .ok (.ishl, 1) := by decide +kernel
theorem dX6_blocked_117 : decode cX6_blocked 117 = .ok (.if_icmp .ge 84, 3) := by decide +kernel
theorem dX6_blocked_120 : decode cX6_blocked 120 = .ok (.lconst 1, 1) := by decide +kernel
theorem dX6_blocked_121 : decode cX6_blocked 121 = .ok (.lstore 11, 2) := by decide +kernel
theorem dX6_blocked_123 : decode cX6_blocked 123 = .ok (.iconst 0, 1) := by decide +kernel
theorem dX6_blocked_124 : decode cX6_blocked 124 = .ok (.istore 13, 2) := by decide +kernel
theorem dX6_blocked_126 : decode cX6_blocked 126 = .ok (.iload 13, 2) := by decide +kernel
theorem dX6_blocked_128 : decode cX6_blocked 128 = .ok (.iload_n 1, 1) := by decide +kernel
theorem dX6_blocked_129 : decode cX6_blocked 129 = .ok (.if_icmp .ge 43, 3) := by decide +kernel
theorem dX6_blocked_132 : decode cX6_blocked 132 = .ok (.lload 11, 2) := by decide +kernel
theorem dX6_blocked_134 : decode cX6_blocked 134 = .ok (.iload 10, 2) := by decide +kernel
theorem dX6_blocked_136 : decode cX6_blocked 136 = .ok (.iload 13, 2) := by decide +kernel
theorem dX6_blocked_138 : decode cX6_blocked 138 = .ok (.invokestatic 86, 3) := by decide +kernel
theorem dX6_blocked_141 : decode cX6_blocked 141 = .ok (.ifCond .eq 7, 3) := by decide +kernel
theorem dX6_blocked_144 : decode cX6_blocked 144 = .ok (.lconst 1, 1) := by decide +kernel
theorem dX6_blocked_145 : decode cX6_blocked 145 = .ok (.goto 7, 3) := by decide +kernel
theorem dX6_blocked_148 : decode cX6_blocked 148 = .ok (.iload_n 2, 1) := by decide +kernel
theorem dX6_blocked_149 : decode cX6_blocked 149 = .ok (.iconst 1, 1) := by decide +kernel
theorem dX6_blocked_150 : decode cX6_blocked 150 = .ok (.isub, 1) := by decide +kernel
theorem dX6_blocked_151 : decode cX6_blocked 151 = .ok (.i2l, 1) := by decide +kernel
theorem dX6_blocked_152 : decode cX6_blocked 152 = .ok (.lmul, 1) := by decide +kernel
theorem dX6_blocked_153 : decode cX6_blocked 153 = .ok (.lstore 11, 2) := by decide +kernel
theorem dX6_blocked_155 : decode cX6_blocked 155 = .ok (.aload_n 0, 1) := by decide +kernel
theorem dX6_blocked_156 : decode cX6_blocked 156 = .ok (.iload 10, 2) := by decide +kernel
theorem dX6_blocked_158 : decode cX6_blocked 158 = .ok (.iload 13, 2) := by decide +kernel
theorem dX6_blocked_160 : decode cX6_blocked 160 = .ok (.invokestatic 86, 3) := by decide +kernel
theorem dX6_blocked_163 : decode cX6_blocked 163 = .ok (.invokevirtual 104, 3) := by decide +kernel
theorem dX6_blocked_166 : decode cX6_blocked 166 = .ok (.iinc 13 1, 3) := by decide +kernel
theorem dX6_blocked_169 : decode cX6_blocked 169 = .ok (.goto (-43), 3) := by decide +kernel
theorem dX6_blocked_172 : decode cX6_blocked 172 = .ok (.lload 6, 2) := by decide +kernel
theorem dX6_blocked_174 : decode cX6_blocked 174 = .ok (.aload_n 0, 1) := by decide +kernel
theorem dX6_blocked_175 : decode cX6_blocked 175 = .ok (.getfield 101, 3) := by decide +kernel
theorem dX6_blocked_178 : decode cX6_blocked 178 = .ok (.iload_n 3, 1) := by decide +kernel
theorem dX6_blocked_179 : decode cX6_blocked 179 = .ok (.if_icmp .lt 8, 3) := by decide +kernel
theorem dX6_blocked_182 : decode cX6_blocked 182 = .ok (.lload 11, 2) := by decide +kernel
theorem dX6_blocked_184 : decode cX6_blocked 184 = .ok (.goto 4, 3) := by decide +kernel
theorem dX6_blocked_187 : decode cX6_blocked 187 = .ok (.lconst 0, 1) := by decide +kernel
theorem dX6_blocked_188 : decode cX6_blocked 188 = .ok (.ladd, 1) := by decide +kernel
theorem dX6_blocked_189 : decode cX6_blocked 189 = .ok (.lstore 6, 2) := by decide +kernel
theorem dX6_blocked_191 : decode cX6_blocked 191 = .ok (.aload_n 0, 1) := by decide +kernel
theorem dX6_blocked_192 : decode cX6_blocked 192 = .ok (.invokevirtual 165, 3) := by decide +kernel
theorem dX6_blocked_195 : decode cX6_blocked 195 = .ok (.iinc 10 1, 3) := by decide +kernel
theorem dX6_blocked_198 : decode cX6_blocked 198 = .ok (.goto (-86), 3) := by decide +kernel
theorem dX6_blocked_201 : decode cX6_blocked 201 = .ok (.lload 6, 2) := by decide +kernel
theorem dX6_blocked_203 : decode cX6_blocked 203 = .ok (.lload 8, 2) := by decide +kernel
theorem dX6_blocked_205 : decode cX6_blocked 205 = .ok (.iload 4, 2) := by decide +kernel
theorem dX6_blocked_207 : decode cX6_blocked 207 = .ok (.invokestatic 246, 3) := by decide +kernel
theorem dX6_blocked_210 : decode cX6_blocked 210 = .ok (.lreturn, 1) := by decide +kernel
theorem dX6_shares_0 : decode cX6_shares 0 = .ok (.aload_n 0, 1) := by decide +kernel
theorem dX6_shares_1 : decode cX6_shares 1 = .ok (.iconst 0, 1) := by decide +kernel
theorem dX6_shares_2 : decode cX6_shares 2 = .ok (.putfield 58, 3) := by decide +kernel
theorem dX6_shares_5 : decode cX6_shares 5 = .ok (.iload_n 1, 1) := by decide +kernel
theorem dX6_shares_6 : decode cX6_shares 6 = .ok (.iconst 1, 1) := by decide +kernel
theorem dX6_shares_7 : decode cX6_shares 7 = .ok (.bipush 9, 2) := by decide +kernel
theorem dX6_shares_9 : decode cX6_shares 9 = .ok (.invokestatic 197, 3) := by decide +kernel
theorem dX6_shares_12 : decode cX6_shares 12 = .ok (.iload_n 2, 1) := by decide +kernel
theorem dX6_shares_13 : decode cX6_shares 13 = .ok (.iconst 1, 1) := by decide +kernel
theorem dX6_shares_14 : decode cX6_shares 14 = .ok (.invokestatic 206, 3) := by decide +kernel
theorem dX6_shares_17 : decode cX6_shares 17 = .ok (.istore_n 3, 1) := by decide +kernel
theorem dX6_shares_18 : decode cX6_shares 18 = .ok (.iload_n 3, 1) := by decide +kernel
theorem dX6_shares_19 : decode cX6_shares 19 = .ok (.ifCond .ge 9, 3) := by decide +kernel
theorem dX6_shares_22 : decode cX6_shares 22 = .ok (.aload_n 0, 1) := by decide +kernel
theorem dX6_shares_23 : decode cX6_shares 23 = .ok (.iload_n 3, 1) := by decide +kernel
theorem dX6_shares_24 : decode cX6_shares 24 = .ok (.invokevirtual 108, 3) := by decide +kernel
theorem dX6_shares_27 : decode cX6_shares 27 = .ok (.ireturn, 1) := by decide +kernel
theorem dX6_shares_28 : decode cX6_shares 28 = .ok (.iload_n 2, 1) := by decide +kernel
theorem dX6_shares_29 : decode cX6_shares 29 = .ok (.ifCond .ne 12, 3) := by decide +kernel
theorem dX6_shares_32 : decode cX6_shares 32 = .ok (.aload_n 0, 1) := by decide +kernel
theorem dX6_shares_33 : decode cX6_shares 33 = .ok (.getfield 101, 3) := by decide +kernel
theorem dX6_shares_36 : decode cX6_shares 36 = .ok (.iload_n 1, 1) := by decide +kernel
theorem dX6_shares_37 : decode cX6_shares 37 = .ok (.idiv, 1) := by decide +kernel
theorem dX6_shares_38 : decode cX6_shares 38 = .ok (.goto 9, 3) := by decide +kernel
theorem dX6_shares_41 : decode cX6_shares 41 = .ok (.aload_n 0, 1) := by decide +kernel
theorem dX6_shares_42 : decode cX6_shares 42 = .ok (.getfield 101, 3) := by decide +kernel
theorem dX6_shares_45 : decode cX6_shares 45 = .ok (.iload_n 1, 1) := by decide +kernel
theorem dX6_shares_46 : decode cX6_shares 46 = .ok (.irem, 1) := by decide +kernel
theorem dX6_shares_47 : decode cX6_shares 47 = .ok (.ireturn, 1) := by decide +kernel
theorem dX6_fullestOne_0 : decode cX6_fullestOne 0 = .ok (.bipush (-9), 2) := by decide +kernel
theorem dX6_fullestOne_2 : decode cX6_fullestOne 2 = .ok (.istore_n 1, 1) := by decide +kernel
theorem dX6_fullestOne_3 : decode cX6_fullestOne 3 = .ok (.iconst 0, 1) := by decide +kernel
theorem dX6_fullestOne_4 : decode cX6_fullestOne 4 = .ok (.istore_n 2, 1) := by decide +kernel
theorem dX6_fullestOne_5 : decode cX6_fullestOne 5 = .ok (.iload_n 2, 1) := by decide +kernel
theorem dX6_fullestOne_6 : decode cX6_fullestOne 6 = .ok (.aload_n 0, 1) := by decide +kernel
theorem dX6_fullestOne_7 : decode cX6_fullestOne 7 = .ok (.getfield 62, 3) := by decide +kernel
theorem dX6_fullestOne_10 : decode cX6_fullestOne 10 = .ok (.if_icmp .ge 34, 3) := by decide +kernel
theorem dX6_fullestOne_13 : decode cX6_fullestOne 13 = .ok (.iload_n 1, 1) := by decide +kernel
theorem dX6_fullestOne_14 : decode cX6_fullestOne 14 = .ok (.ifCond .lt 18, 3) := by decide +kernel
theorem dX6_fullestOne_17 : decode cX6_fullestOne 17 = .ok (.aload_n 0, 1) := by decide +kernel
theorem dX6_fullestOne_18 : decode cX6_fullestOne 18 = .ok (.getfield 16, 3) := by decide +kernel
theorem dX6_fullestOne_21 : decode cX6_fullestOne 21 = .ok (.iload_n 2, 1) := by decide +kernel
theorem dX6_fullestOne_22 : decode cX6_fullestOne 22 = .ok (.iaload, 1) := by decide +kernel
theorem dX6_fullestOne_23 : decode cX6_fullestOne 23 = .ok (.aload_n 0, 1) := by decide +kernel
theorem dX6_fullestOne_24 : decode cX6_fullestOne 24 = .ok (.getfield 16, 3) := by decide +kernel
theorem dX6_fullestOne_27 : decode cX6_fullestOne 27 = .ok (.iload_n 1, 1) := by decide +kernel
theorem dX6_fullestOne_28 : decode cX6_fullestOne 28 = .ok (.iaload, 1) := by decide +kernel
theorem dX6_fullestOne_29 : decode cX6_fullestOne 29 = .ok (.if_icmp .le 7, 3) := by decide +kernel
theorem dX6_fullestOne_32 : decode cX6_fullestOne 32 = .ok (.iload_n 2, 1) := by decide +kernel
theorem dX6_fullestOne_33 : decode cX6_fullestOne 33 = .ok (.goto 4, 3) := by decide +kernel
theorem dX6_fullestOne_36 : decode cX6_fullestOne 36 = .ok (.iload_n 1, 1) := by decide +kernel
theorem dX6_fullestOne_37 : decode cX6_fullestOne 37 = .ok (.istore_n 1, 1) := by decide +kernel
theorem dX6_fullestOne_38 : decode cX6_fullestOne 38 = .ok (.iinc 2 1, 3) := by decide +kernel
theorem dX6_fullestOne_41 : decode cX6_fullestOne 41 = .ok (.goto (-36), 3) := by decide +kernel
theorem dX6_fullestOne_44 : decode cX6_fullestOne 44 = .ok (.iload_n 1, 1) := by decide +kernel
theorem dX6_fullestOne_45 : decode cX6_fullestOne 45 = .ok (.ireturn, 1) := by decide +kernel
theorem dX6_pumpBits_0 : decode cX6_pumpBits 0 = .ok (.iconst 0, 1) := by decide +kernel
theorem dX6_pumpBits_1 : decode cX6_pumpBits 1 = .ok (.istore_n 1, 1) := by decide +kernel
theorem dX6_pumpBits_2 : decode cX6_pumpBits 2 = .ok (.iconst 0, 1) := by decide +kernel
theorem dX6_pumpBits_3 : decode cX6_pumpBits 3 = .ok (.istore_n 2, 1) := by decide +kernel
theorem dX6_pumpBits_4 : decode cX6_pumpBits 4 = .ok (.iload_n 2, 1) := by decide +kernel
theorem dX6_pumpBits_5 : decode cX6_pumpBits 5 = .ok (.aload_n 0, 1) := by decide +kernel
theorem dX6_pumpBits_6 : decode cX6_pumpBits 6 = .ok (.getfield 62, 3) := by decide +kernel
theorem dX6_pumpBits_9 : decode cX6_pumpBits 9 = .ok (.if_icmp .ge 32, 3) := by decide +kernel
theorem dX6_pumpBits_12 : decode cX6_pumpBits 12 = .ok (.iload_n 1, 1) := by decide +kernel
theorem dX6_pumpBits_13 : decode cX6_pumpBits 13 = .ok (.aload_n 0, 1) := by decide +kernel
theorem dX6_pumpBits_14 : decode cX6_pumpBits 14 = .ok (.getfield 19, 3) := by decide +kernel
theorem dX6_pumpBits_17 : decode cX6_pumpBits 17 = .ok (.iload_n 2, 1) := by decide +kernel
theorem dX6_pumpBits_18 : decode cX6_pumpBits 18 = .ok (.iaload, 1) := by decide +kernel
theorem dX6_pumpBits_19 : decode cX6_pumpBits 19 = .ok (.aload_n 0, 1) := by decide +kernel
theorem dX6_pumpBits_20 : decode cX6_pumpBits 20 = .ok (.getfield 62, 3) := by decide +kernel
theorem dX6_pumpBits_23 : decode cX6_pumpBits 23 = .ok (.if_icmp .lt 9, 3) := by decide +kernel
theorem dX6_pumpBits_26 : decode cX6_pumpBits 26 = .ok (.iconst 1, 1) := by decide +kernel
theorem dX6_pumpBits_27 : decode cX6_pumpBits 27 = .ok (.iload_n 2, 1) := by decide +kernel
theorem dX6_pumpBits_28 : decode cX6_pumpBits 28 = .ok (.ishl, 1) := by decide +kernel
theorem dX6_pumpBits_29 : decode cX6_pumpBits 29 = .ok (.goto 4, 3) := by decide +kernel
theorem dX6_pumpBits_32 : decode cX6_pumpBits 32 = .ok (.iconst 0, 1) := by decide +kernel
theorem dX6_pumpBits_33 : decode cX6_pumpBits 33 = .ok (.ior, 1) := by decide +kernel
theorem dX6_pumpBits_34 : decode cX6_pumpBits 34 = .ok (.istore_n 1, 1) := by decide +kernel
theorem dX6_pumpBits_35 : decode cX6_pumpBits 35 = .ok (.iinc 2 1, 3) := by decide +kernel
theorem dX6_pumpBits_38 : decode cX6_pumpBits 38 = .ok (.goto (-34), 3) := by decide +kernel
theorem dX6_pumpBits_41 : decode cX6_pumpBits 41 = .ok (.iload_n 1, 1) := by decide +kernel
theorem dX6_pumpBits_42 : decode cX6_pumpBits 42 = .ok (.ireturn, 1) := by decide +kernel
theorem dX6_deepest_0 : decode cX6_deepest 0 = .ok (.iconst 0, 1) := by decide +kernel
theorem dX6_deepest_1 : decode cX6_deepest 1 = .ok (.istore_n 1, 1) := by decide +kernel
theorem dX6_deepest_2 : decode cX6_deepest 2 = .ok (.iconst 0, 1) := by decide +kernel
theorem dX6_deepest_3 : decode cX6_deepest 3 = .ok (.istore_n 2, 1) := by decide +kernel
theorem dX6_deepest_4 : decode cX6_deepest 4 = .ok (.iload_n 2, 1) := by decide +kernel
theorem dX6_deepest_5 : decode cX6_deepest 5 = .ok (.aload_n 0, 1) := by decide +kernel
theorem dX6_deepest_6 : decode cX6_deepest 6 = .ok (.getfield 62, 3) := by decide +kernel
theorem dX6_deepest_9 : decode cX6_deepest 9 = .ok (.if_icmp .ge 34, 3) := by decide +kernel
theorem dX6_deepest_12 : decode cX6_deepest 12 = .ok (.aload_n 0, 1) := by decide +kernel
theorem dX6_deepest_13 : decode cX6_deepest 13 = .ok (.iload_n 2, 1) := by decide +kernel
theorem dX6_deepest_14 : decode cX6_deepest 14 = .ok (.invokevirtual 231, 3) := by decide +kernel
theorem dX6_deepest_17 : decode cX6_deepest 17 = .ok (.invokestatic 228, 3) := by decide +kernel
theorem dX6_deepest_20 : decode cX6_deepest 20 = .ok (.iload_n 1, 1) := by decide +kernel
theorem dX6_deepest_21 : decode cX6_deepest 21 = .ok (.if_icmp .le 14, 3) := by decide +kernel
theorem dX6_deepest_24 : decode cX6_deepest 24 = .ok (.aload_n 0, 1) := by decide +kernel
theorem dX6_deepest_25 : decode cX6_deepest 25 = .ok (.iload_n 2, 1) := by decide +kernel
theorem dX6_deepest_26 : decode cX6_deepest 26 = .ok (.invokevirtual 231, 3) := by decide +kernel
theorem dX6_deepest_29 : decode cX6_deepest 29 = .ok (.invokestatic 228, 3) := by decide +kernel
theorem dX6_deepest_32 : decode cX6_deepest 32 = .ok (.goto 4, 3) := by decide +kernel
theorem dX6_deepest_35 : decode cX6_deepest 35 = .ok (.iload_n 1, 1) := by decide +kernel
theorem dX6_deepest_36 : decode cX6_deepest 36 = .ok (.istore_n 1, 1) := by decide +kernel
theorem dX6_deepest_37 : decode cX6_deepest 37 = .ok (.iinc 2 1, 3) := by decide +kernel
theorem dX6_deepest_40 : decode cX6_deepest 40 = .ok (.goto (-36), 3) := by decide +kernel
theorem dX6_deepest_43 : decode cX6_deepest 43 = .ok (.iload_n 1, 1) := by decide +kernel
theorem dX6_deepest_44 : decode cX6_deepest 44 = .ok (.ireturn, 1) := by decide +kernel
theorem dX6_longestStill_0 : decode cX6_longestStill 0 = .ok (.iconst 0, 1) := by decide +kernel
theorem dX6_longestStill_1 : decode cX6_longestStill 1 = .ok (.istore_n 1, 1) := by decide +kernel
theorem dX6_longestStill_2 : decode cX6_longestStill 2 = .ok (.iconst 0, 1) := by decide +kernel
theorem dX6_longestStill_3 : decode cX6_longestStill 3 = .ok (.istore_n 2, 1) := by decide +kernel
theorem dX6_longestStill_4 : decode cX6_longestStill 4 = .ok (.aload_n 0, 1) := by decide +kernel
theorem dX6_longestStill_5 : decode cX6_longestStill 5 = .ok (.invokevirtual 159, 3) := by decide +kernel
theorem dX6_longestStill_8 : decode cX6_longestStill 8 = .ok (.iconst 0, 1) := by decide +kernel
theorem dX6_longestStill_9 : decode cX6_longestStill 9 = .ok (.istore_n 3, 1) := by decide +kernel
theorem dX6_longestStill_10 : decode cX6_longestStill 10 = .ok (.iload_n 3, 1) := by decide +kernel
theorem dX6_longestStill_11 : decode cX6_longestStill 11 = .ok (.bipush 60, 2) := by decide +kernel
theorem dX6_longestStill_13 : decode cX6_longestStill 13 = .ok (.if_icmp .ge 40, 3) := by decide +kernel
theorem dX6_longestStill_16 : decode cX6_longestStill 16 = .ok (.aload_n 0, 1) := by decide +kernel
theorem dX6_longestStill_17 : decode cX6_longestStill 17 = .ok (.iconst 0, 1) := by decide +kernel
theorem dX6_longestStill_18 : decode cX6_longestStill 18 = .ok (.invokevirtual 104, 3) := by decide +kernel
theorem dX6_longestStill_21 : decode cX6_longestStill 21 = .ok (.aload_n 0, 1) := by decide +kernel
theorem dX6_longestStill_22 : decode cX6_longestStill 22 = .ok (.getfield 79, 3) := by decide +kernel
theorem dX6_longestStill_25 : decode cX6_longestStill 25 = .ok (.ifCond .eq 7, 3) := by decide +kernel
theorem dX6_longestStill_28 : decode cX6_longestStill 28 = .ok (.iconst 0, 1) := by decide +kernel
theorem dX6_longestStill_29 : decode cX6_longestStill 29 = .ok (.goto 6, 3) := by decide +kernel
theorem dX6_longestStill_32 : decode cX6_longestStill 32 = .ok (.iload_n 2, 1) := by decide +kernel
theorem dX6_longestStill_33 : decode cX6_longestStill 33 = .ok (.iconst 1, 1) := by decide +kernel
theorem dX6_longestStill_34 : decode cX6_longestStill 34 = .ok (.iadd, 1) := by decide +kernel
theorem dX6_longestStill_35 : decode cX6_longestStill 35 = .ok (.istore_n 2, 1) := by decide +kernel
theorem dX6_longestStill_36 : decode cX6_longestStill 36 = .ok (.iload_n 2, 1) := by decide +kernel
theorem dX6_longestStill_37 : decode cX6_longestStill 37 = .ok (.iload_n 1, 1) := by decide +kernel
theorem dX6_longestStill_38 : decode cX6_longestStill 38 = .ok (.if_icmp .le 7, 3) := by decide +kernel
theorem dX6_longestStill_41 : decode cX6_longestStill 41 = .ok (.iload_n 2, 1) := by decide +kernel
theorem dX6_longestStill_42 : decode cX6_longestStill 42 = .ok (.goto 4, 3) := by decide +kernel
theorem dX6_longestStill_45 : decode cX6_longestStill 45 = .ok (.iload_n 1, 1) := by decide +kernel
theorem dX6_longestStill_46 : decode cX6_longestStill 46 = .ok (.istore_n 1, 1) := by decide +kernel
theorem dX6_longestStill_47 : decode cX6_longestStill 47 = .ok (.iinc 3 1, 3) := by decide +kernel
theorem dX6_longestStill_50 : decode cX6_longestStill 50 = .ok (.goto (-40), 3) := by decide +kernel
theorem dX6_longestStill_53 : decode cX6_longestStill 53 = .ok (.aload_n 0, 1) := by decide +kernel
theorem dX6_longestStill_54 : decode cX6_longestStill 54 = .ok (.invokevirtual 165, 3) := by decide +kernel
theorem dX6_longestStill_57 : decode cX6_longestStill 57 = .ok (.iload_n 1, 1) := by decide +kernel
theorem dX6_longestStill_58 : decode cX6_longestStill 58 = .ok (.ireturn, 1) := by decide +kernel
theorem dX6_twinTwos_0 : decode cX6_twinTwos 0 = .ok (.iconst 0, 1) := by decide +kernel
theorem dX6_twinTwos_1 : decode cX6_twinTwos 1 = .ok (.istore_n 1, 1) := by decide +kernel
theorem dX6_twinTwos_2 : decode cX6_twinTwos 2 = .ok (.iconst 0, 1) := by decide +kernel
theorem dX6_twinTwos_3 : decode cX6_twinTwos 3 = .ok (.istore_n 2, 1) := by decide +kernel
theorem dX6_twinTwos_4 : decode cX6_twinTwos 4 = .ok (.iload_n 2, 1) := by decide +kernel
theorem dX6_twinTwos_5 : decode cX6_twinTwos 5 = .ok (.aload_n 0, 1) := by decide +kernel
theorem dX6_twinTwos_6 : decode cX6_twinTwos 6 = .ok (.getfield 62, 3) := by decide +kernel
theorem dX6_twinTwos_9 : decode cX6_twinTwos 9 = .ok (.if_icmp .ge 50, 3) := by decide +kernel
theorem dX6_twinTwos_12 : decode cX6_twinTwos 12 = .ok (.iload_n 2, 1) := by decide +kernel
theorem dX6_twinTwos_13 : decode cX6_twinTwos 13 = .ok (.iconst 1, 1) := by decide +kernel
theorem dX6_twinTwos_14 : decode cX6_twinTwos 14 = .ok (.iadd, 1) := by decide +kernel
theorem dX6_twinTwos_15 : decode cX6_twinTwos 15 = .ok (.istore_n 3, 1) := by decide +kernel
theorem dX6_twinTwos_16 : decode cX6_twinTwos 16 = .ok (.iload_n 3, 1) := by decide +kernel
theorem dX6_twinTwos_17 : decode cX6_twinTwos 17 = .ok (.aload_n 0, 1) := by decide +kernel
theorem dX6_twinTwos_18 : decode cX6_twinTwos 18 = .ok (.getfield 62, 3) := by decide +kernel
theorem dX6_twinTwos_21 : decode cX6_twinTwos 21 = .ok (.if_icmp .ge 32, 3) := by decide +kernel
theorem dX6_twinTwos_24 : decode cX6_twinTwos 24 = .ok (.iload_n 1, 1) := by decide +kernel
theorem dX6_twinTwos_25 : decode cX6_twinTwos 25 = .ok (.aload_n 0, 1) := by decide +kernel
theorem dX6_twinTwos_26 : decode cX6_twinTwos 26 = .ok (.getfield 16, 3) := by decide +kernel
theorem dX6_twinTwos_29 : decode cX6_twinTwos 29 = .ok (.iload_n 2, 1) := by decide +kernel
theorem dX6_twinTwos_30 : decode cX6_twinTwos 30 = .ok (.iaload, 1) := by decide +kernel
theorem dX6_twinTwos_31 : decode cX6_twinTwos 31 = .ok (.aload_n 0, 1) := by decide +kernel
theorem dX6_twinTwos_32 : decode cX6_twinTwos 32 = .ok (.getfield 16, 3) := by decide +kernel
theorem dX6_twinTwos_35 : decode cX6_twinTwos 35 = .ok (.iload_n 3, 1) := by decide +kernel
theorem dX6_twinTwos_36 : decode cX6_twinTwos 36 = .ok (.iaload, 1) := by decide +kernel
theorem dX6_twinTwos_37 : decode cX6_twinTwos 37 = .ok (.if_icmp .ne 7, 3) := by decide +kernel
theorem dX6_twinTwos_40 : decode cX6_twinTwos 40 = .ok (.iconst 1, 1) := by decide +kernel
theorem dX6_twinTwos_41 : decode cX6_twinTwos 41 = .ok (.goto 4, 3) := by decide +kernel
theorem dX6_twinTwos_44 : decode cX6_twinTwos 44 = .ok (.iconst 0, 1) := by decide +kernel
theorem dX6_twinTwos_45 : decode cX6_twinTwos 45 = .ok (.iadd, 1) := by decide +kernel
theorem dX6_twinTwos_46 : decode cX6_twinTwos 46 = .ok (.istore_n 1, 1) := by decide +kernel
theorem dX6_twinTwos_47 : decode cX6_twinTwos 47 = .ok (.iinc 3 1, 3) := by decide +kernel
theorem dX6_twinTwos_50 : decode cX6_twinTwos 50 = .ok (.goto (-34), 3) := by decide +kernel
theorem dX6_twinTwos_53 : decode cX6_twinTwos 53 = .ok (.iinc 2 1, 3) := by decide +kernel
theorem dX6_twinTwos_56 : decode cX6_twinTwos 56 = .ok (.goto (-52), 3) := by decide +kernel
theorem dX6_twinTwos_59 : decode cX6_twinTwos 59 = .ok (.iload_n 1, 1) := by decide +kernel
theorem dX6_twinTwos_60 : decode cX6_twinTwos 60 = .ok (.ireturn, 1) := by decide +kernel
theorem dX6_fullest_0 : decode cX6_fullest 0 = .ok (.aload_n 0, 1) := by decide +kernel
theorem dX6_fullest_1 : decode cX6_fullest 1 = .ok (.iconst 0, 1) := by decide +kernel
theorem dX6_fullest_2 : decode cX6_fullest 2 = .ok (.putfield 58, 3) := by decide +kernel
theorem dX6_fullest_5 : decode cX6_fullest 5 = .ok (.iload_n 1, 1) := by decide +kernel
theorem dX6_fullest_6 : decode cX6_fullest 6 = .ok (.tableswitch 79 0 5 #[38, 43, 48, 64, 69, 74], 38) := by decide +kernel
theorem dX6_fullest_44 : decode cX6_fullest 44 = .ok (.aload_n 0, 1) := by decide +kernel
theorem dX6_fullest_45 : decode cX6_fullest 45 = .ok (.invokevirtual 250, 3) := by decide +kernel
theorem dX6_fullest_48 : decode cX6_fullest 48 = .ok (.ireturn, 1) := by decide +kernel
theorem dX6_fullest_49 : decode cX6_fullest 49 = .ok (.aload_n 0, 1) := by decide +kernel
theorem dX6_fullest_50 : decode cX6_fullest 50 = .ok (.invokevirtual 253, 3) := by decide +kernel
theorem dX6_fullest_53 : decode cX6_fullest 53 = .ok (.ireturn, 1) := by decide +kernel
theorem dX6_fullest_54 : decode cX6_fullest 54 = .ok (.iconst 1, 1) := by decide +kernel
theorem dX6_fullest_55 : decode cX6_fullest 55 = .ok (.aload_n 0, 1) := by decide +kernel
theorem dX6_fullest_56 : decode cX6_fullest 56 = .ok (.getfield 62, 3) := by decide +kernel
theorem dX6_fullest_59 : decode cX6_fullest 59 = .ok (.ishl, 1) := by decide +kernel
theorem dX6_fullest_60 : decode cX6_fullest 60 = .ok (.iconst 1, 1) := by decide +kernel
theorem dX6_fullest_61 : decode cX6_fullest 61 = .ok (.isub, 1) := by decide +kernel
theorem dX6_fullest_62 : decode cX6_fullest 62 = .ok (.aload_n 0, 1) := by decide +kernel
theorem dX6_fullest_63 : decode cX6_fullest 63 = .ok (.getfield 73, 3) := by decide +kernel
theorem dX6_fullest_66 : decode cX6_fullest 66 = .ok (.iconst (-1), 1) := by decide +kernel
theorem dX6_fullest_67 : decode cX6_fullest 67 = .ok (.ixor, 1) := by decide +kernel
theorem dX6_fullest_68 : decode cX6_fullest 68 = .ok (.iand, 1) := by decide +kernel
theorem dX6_fullest_69 : decode cX6_fullest 69 = .ok (.ireturn, 1) := by decide +kernel
theorem dX6_fullest_70 : decode cX6_fullest 70 = .ok (.aload_n 0, 1) := by decide +kernel
theorem dX6_fullest_71 : decode cX6_fullest 71 = .ok (.invokevirtual 256, 3) := by decide +kernel
theorem dX6_fullest_74 : decode cX6_fullest 74 = .ok (.ireturn, 1) := by decide +kernel
theorem dX6_fullest_75 : decode cX6_fullest 75 = .ok (.aload_n 0, 1) := by decide +kernel
theorem dX6_fullest_76 : decode cX6_fullest 76 = .ok (.invokevirtual 259, 3) := by decide +kernel
theorem dX6_fullest_79 : decode cX6_fullest 79 = .ok (.ireturn, 1) := by decide +kernel
theorem dX6_fullest_80 : decode cX6_fullest 80 = .ok (.aload_n 0, 1) := by decide +kernel
theorem dX6_fullest_81 : decode cX6_fullest 81 = .ok (.invokevirtual 262, 3) := by decide +kernel
theorem dX6_fullest_84 : decode cX6_fullest 84 = .ok (.ireturn, 1) := by decide +kernel
theorem dX6_fullest_85 : decode cX6_fullest 85 = .ok (.aload_n 0, 1) := by decide +kernel
theorem dX6_fullest_86 : decode cX6_fullest 86 = .ok (.bipush (-2), 2) := by decide +kernel
theorem dX6_fullest_88 : decode cX6_fullest 88 = .ok (.invokevirtual 108, 3) := by decide +kernel
theorem dX6_fullest_91 : decode cX6_fullest 91 = .ok (.ireturn, 1) := by decide +kernel
theorem dX6_into_0 : decode cX6_into 0 = .ok (.aload_n 0, 1) := by decide +kernel
theorem dX6_into_1 : decode cX6_into 1 = .ok (.iconst 0, 1) := by decide +kernel
theorem dX6_into_2 : decode cX6_into 2 = .ok (.putfield 58, 3) := by decide +kernel
theorem dX6_into_5 : decode cX6_into 5 = .ok (.aload_n 0, 1) := by decide +kernel
theorem dX6_into_6 : decode cX6_into 6 = .ok (.iload_n 1, 1) := by decide +kernel
theorem dX6_into_7 : decode cX6_into 7 = .ok (.invokevirtual 147, 3) := by decide +kernel
theorem dX6_into_10 : decode cX6_into 10 = .ok (.ifCond .ne 9, 3) := by decide +kernel
theorem dX6_into_13 : decode cX6_into 13 = .ok (.aload_n 0, 1) := by decide +kernel
theorem dX6_into_14 : decode cX6_into 14 = .ok (.iconst (-1), 1) := by decide +kernel
theorem dX6_into_15 : decode cX6_into 15 = .ok (.invokevirtual 108, 3) := by decide +kernel
theorem dX6_into_18 : decode cX6_into 18 = .ok (.ireturn, 1) := by decide +kernel
theorem dX6_into_19 : decode cX6_into 19 = .ok (.iconst 0, 1) := by decide +kernel
theorem dX6_into_20 : decode cX6_into 20 = .ok (.istore_n 2, 1) := by decide +kernel
theorem dX6_into_21 : decode cX6_into 21 = .ok (.iconst 0, 1) := by decide +kernel
theorem dX6_into_22 : decode cX6_into 22 = .ok (.istore_n 3, 1) := by decide +kernel
theorem dX6_into_23 : decode cX6_into 23 = .ok (.iload_n 3, 1) := by decide +kernel
theorem dX6_into_24 : decode cX6_into 24 = .ok (.aload_n 0, 1) := by decide +kernel
theorem dX6_into_25 : decode cX6_into 25 = .ok (.getfield 62, 3) := by decide +kernel
theorem dX6_into_28 : decode cX6_into 28 = .ok (.if_icmp .ge 27, 3) := by decide +kernel
theorem dX6_into_31 : decode cX6_into 31 = .ok (.iload_n 2, 1) := by decide +kernel
theorem dX6_into_32 : decode cX6_into 32 = .ok (.aload_n 0, 1) := by decide +kernel
theorem dX6_into_33 : decode cX6_into 33 = .ok (.getfield 19, 3) := by decide +kernel
theorem dX6_into_36 : decode cX6_into 36 = .ok (.iload_n 3, 1) := by decide +kernel
theorem dX6_into_37 : decode cX6_into 37 = .ok (.iaload, 1) := by decide +kernel
theorem dX6_into_38 : decode cX6_into 38 = .ok (.iload_n 1, 1) := by decide +kernel
theorem dX6_into_39 : decode cX6_into 39 = .ok (.if_icmp .ne 7, 3) := by decide +kernel
theorem dX6_into_42 : decode cX6_into 42 = .ok (.iconst 1, 1) := by decide +kernel
theorem dX6_into_43 : decode cX6_into 43 = .ok (.goto 4, 3) := by decide +kernel
theorem dX6_into_46 : decode cX6_into 46 = .ok (.iconst 0, 1) := by decide +kernel
theorem dX6_into_47 : decode cX6_into 47 = .ok (.iadd, 1) := by decide +kernel
theorem dX6_into_48 : decode cX6_into 48 = .ok (.istore_n 2, 1) := by decide +kernel
theorem dX6_into_49 : decode cX6_into 49 = .ok (.iinc 3 1, 3) := by decide +kernel
theorem dX6_into_52 : decode cX6_into 52 = .ok (.goto (-29), 3) := by decide +kernel
theorem dX6_into_55 : decode cX6_into 55 = .ok (.iload_n 2, 1) := by decide +kernel
theorem dX6_into_56 : decode cX6_into 56 = .ok (.ireturn, 1) := by decide +kernel
theorem dX6_mean_0 : decode cX6_mean 0 = .ok (.aload_n 0, 1) := by decide +kernel
theorem dX6_mean_1 : decode cX6_mean 1 = .ok (.iconst 0, 1) := by decide +kernel
theorem dX6_mean_2 : decode cX6_mean 2 = .ok (.putfield 58, 3) := by decide +kernel
theorem dX6_mean_5 : decode cX6_mean 5 = .ok (.iload_n 1, 1) := by decide +kernel
theorem dX6_mean_6 : decode cX6_mean 6 = .ok (.i2l, 1) := by decide +kernel
theorem dX6_mean_7 : decode cX6_mean 7 = .ok (.lconst 0, 1) := by decide +kernel
theorem dX6_mean_8 : decode cX6_mean 8 = .ok (.lconst 1, 1) := by decide +kernel
theorem dX6_mean_9 : decode cX6_mean 9 = .ok (.invokestatic 65, 3) := by decide +kernel
theorem dX6_mean_12 : decode cX6_mean 12 = .ok (.ifCond .eq 20, 3) := by decide +kernel
theorem dX6_mean_15 : decode cX6_mean 15 = .ok (.aload_n 0, 1) := by decide +kernel
theorem dX6_mean_16 : decode cX6_mean 16 = .ok (.invokevirtual 209, 3) := by decide +kernel
theorem dX6_mean_19 : decode cX6_mean 19 = .ok (.i2l, 1) := by decide +kernel
theorem dX6_mean_20 : decode cX6_mean 20 = .ok (.aload_n 0, 1) := by decide +kernel
theorem dX6_mean_21 : decode cX6_mean 21 = .ok (.getfield 62, 3) := by decide +kernel
theorem dX6_mean_24 : decode cX6_mean 24 = .ok (.i2l, 1) := by decide +kernel
theorem dX6_mean_25 : decode cX6_mean 25 = .ok (.iload_n 1, 1) := by decide +kernel
theorem dX6_mean_26 : decode cX6_mean 26 = .ok (.invokestatic 246, 3) := by decide +kernel
theorem dX6_mean_29 : decode cX6_mean 29 = .ok (.goto 14, 3) := by decide +kernel
theorem dX6_mean_32 : decode cX6_mean 32 = .ok (.ldc2_w 244, 3) := by decide +kernel
theorem dX6_mean_35 : decode cX6_mean 35 = .ok (.aload_n 0, 1) := by decide +kernel
theorem dX6_mean_36 : decode cX6_mean 36 = .ok (.bipush (-2), 2) := by decide +kernel
theorem dX6_mean_38 : decode cX6_mean 38 = .ok (.invokevirtual 108, 3) := by decide +kernel
theorem dX6_mean_41 : decode cX6_mean 41 = .ok (.i2l, 1) := by decide +kernel
theorem dX6_mean_42 : decode cX6_mean 42 = .ok (.lsub, 1) := by decide +kernel
theorem dX6_mean_43 : decode cX6_mean 43 = .ok (.lreturn, 1) := by decide +kernel
theorem dX6_strong_0 : decode cX6_strong 0 = .ok (.aload_n 0, 1) := by decide +kernel
theorem dX6_strong_1 : decode cX6_strong 1 = .ok (.iconst 0, 1) := by decide +kernel
theorem dX6_strong_2 : decode cX6_strong 2 = .ok (.putfield 58, 3) := by decide +kernel
theorem dX6_strong_5 : decode cX6_strong 5 = .ok (.iload_n 1, 1) := by decide +kernel
theorem dX6_strong_6 : decode cX6_strong 6 = .ok (.iconst 0, 1) := by decide +kernel
theorem dX6_strong_7 : decode cX6_strong 7 = .ok (.bipush 60, 2) := by decide +kernel
theorem dX6_strong_9 : decode cX6_strong 9 = .ok (.invokestatic 197, 3) := by decide +kernel
theorem dX6_strong_12 : decode cX6_strong 12 = .ok (.istore_n 2, 1) := by decide +kernel
theorem dX6_strong_13 : decode cX6_strong 13 = .ok (.iload_n 2, 1) := by decide +kernel
theorem dX6_strong_14 : decode cX6_strong 14 = .ok (.ifCond .ge 13, 3) := by decide +kernel
theorem dX6_strong_17 : decode cX6_strong 17 = .ok (.ldc_w 265, 3) := by decide +kernel
theorem dX6_strong_20 : decode cX6_strong 20 = .ok (.aload_n 0, 1) := by decide +kernel
theorem dX6_strong_21 : decode cX6_strong 21 = .ok (.iload_n 2, 1) := by decide +kernel
theorem dX6_strong_22 : decode cX6_strong 22 = .ok (.invokevirtual 108, 3) := by decide +kernel
theorem dX6_strong_25 : decode cX6_strong 25 = .ok (.isub, 1) := by decide +kernel
theorem dX6_strong_26 : decode cX6_strong 26 = .ok (.ireturn, 1) := by decide +kernel
theorem dX6_strong_27 : decode cX6_strong 27 = .ok (.aload_n 0, 1) := by decide +kernel
theorem dX6_strong_28 : decode cX6_strong 28 = .ok (.invokevirtual 159, 3) := by decide +kernel
theorem dX6_strong_31 : decode cX6_strong 31 = .ok (.aload_n 0, 1) := by decide +kernel
theorem dX6_strong_32 : decode cX6_strong 32 = .ok (.iload_n 1, 1) := by decide +kernel
theorem dX6_strong_33 : decode cX6_strong 33 = .ok (.invokevirtual 225, 3) := by decide +kernel
theorem dX6_strong_36 : decode cX6_strong 36 = .ok (.istore_n 3, 1) := by decide +kernel
theorem dX6_strong_37 : decode cX6_strong 37 = .ok (.aload_n 0, 1) := by decide +kernel
theorem dX6_strong_38 : decode cX6_strong 38 = .ok (.iconst 0, 1) := by decide +kernel
theorem dX6_strong_39 : decode cX6_strong 39 = .ok (.putfield 83, 3) := by decide +kernel
theorem dX6_strong_42 : decode cX6_strong 42 = .ok (.aload_n 0, 1) := by decide +kernel
theorem dX6_strong_43 : decode cX6_strong 43 = .ok (.iload_n 1, 1) := by decide +kernel
theorem dX6_strong_44 : decode cX6_strong 44 = .ok (.invokevirtual 225, 3) := by decide +kernel
theorem dX6_strong_47 : decode cX6_strong 47 = .ok (.iload_n 3, 1) := by decide +kernel
theorem dX6_strong_48 : decode cX6_strong 48 = .ok (.isub, 1) := by decide +kernel
theorem dX6_strong_49 : decode cX6_strong 49 = .ok (.ireturn, 1) := by decide +kernel
theorem dX6_kinds_0 : decode cX6_kinds 0 = .ok (.aload_n 0, 1) := by decide +kernel
theorem dX6_kinds_1 : decode cX6_kinds 1 = .ok (.iconst 0, 1) := by decide +kernel
theorem dX6_kinds_2 : decode cX6_kinds 2 = .ok (.putfield 58, 3) := by decide +kernel
theorem dX6_kinds_5 : decode cX6_kinds 5 = .ok (.iload_n 1, 1) := by decide +kernel
theorem dX6_kinds_6 : decode cX6_kinds 6 = .ok (.i2l, 1) := by decide +kernel
theorem dX6_kinds_7 : decode cX6_kinds 7 = .ok (.lconst 0, 1) := by decide +kernel
theorem dX6_kinds_8 : decode cX6_kinds 8 = .ok (.ldc2_w 195, 3) := by decide +kernel
theorem dX6_kinds_11 : decode cX6_kinds 11 = .ok (.invokestatic 65, 3) := by decide +kernel
theorem dX6_kinds_14 : decode cX6_kinds 14 = .ok (.ifCond .ne 10, 3) := by decide +kernel
theorem dX6_kinds_17 : decode cX6_kinds 17 = .ok (.aload_n 0, 1) := by decide +kernel
theorem dX6_kinds_18 : decode cX6_kinds 18 = .ok (.bipush (-2), 2) := by decide +kernel
theorem dX6_kinds_20 : decode cX6_kinds 20 = .ok (.invokevirtual 108, 3) := by decide +kernel
theorem dX6_kinds_23 : decode cX6_kinds 23 = .ok (.ireturn, 1) := by decide +kernel
theorem dX6_kinds_24 : decode cX6_kinds 24 = .ok (.iconst 0, 1) := by decide +kernel
theorem dX6_kinds_25 : decode cX6_kinds 25 = .ok (.istore_n 2, 1) := by decide +kernel
theorem dX6_kinds_26 : decode cX6_kinds 26 = .ok (.iconst 0, 1) := by decide +kernel
theorem dX6_kinds_27 : decode cX6_kinds 27 = .ok (.istore_n 3, 1) := by decide +kernel
theorem dX6_kinds_28 : decode cX6_kinds 28 = .ok (.iload_n 3, 1) := by decide +kernel
theorem dX6_kinds_29 : decode cX6_kinds 29 = .ok (.aload_n 0, 1) := by decide +kernel
theorem dX6_kinds_30 : decode cX6_kinds 30 = .ok (.getfield 62, 3) := by decide +kernel
theorem dX6_kinds_33 : decode cX6_kinds 33 = .ok (.if_icmp .ge 27, 3) := by decide +kernel
theorem dX6_kinds_36 : decode cX6_kinds 36 = .ok (.iload_n 2, 1) := by decide +kernel
theorem dX6_kinds_37 : decode cX6_kinds 37 = .ok (.aload_n 0, 1) := by decide +kernel
theorem dX6_kinds_38 : decode cX6_kinds 38 = .ok (.getfield 7, 3) := by decide +kernel
theorem dX6_kinds_41 : decode cX6_kinds 41 = .ok (.iload_n 3, 1) := by decide +kernel
theorem dX6_kinds_42 : decode cX6_kinds 42 = .ok (.iaload, 1) := by decide +kernel
theorem dX6_kinds_43 : decode cX6_kinds 43 = .ok (.iload_n 1, 1) := by decide +kernel
theorem dX6_kinds_44 : decode cX6_kinds 44 = .ok (.if_icmp .ne 7, 3) := by decide +kernel
theorem dX6_kinds_47 : decode cX6_kinds 47 = .ok (.iconst 1, 1) := by decide +kernel
theorem dX6_kinds_48 : decode cX6_kinds 48 = .ok (.goto 4, 3) := by decide +kernel
theorem dX6_kinds_51 : decode cX6_kinds 51 = .ok (.iconst 0, 1) := by decide +kernel
theorem dX6_kinds_52 : decode cX6_kinds 52 = .ok (.iadd, 1) := by decide +kernel
theorem dX6_kinds_53 : decode cX6_kinds 53 = .ok (.istore_n 2, 1) := by decide +kernel
theorem dX6_kinds_54 : decode cX6_kinds 54 = .ok (.iinc 3 1, 3) := by decide +kernel
theorem dX6_kinds_57 : decode cX6_kinds 57 = .ok (.goto (-29), 3) := by decide +kernel
theorem dX6_kinds_60 : decode cX6_kinds 60 = .ok (.iload_n 2, 1) := by decide +kernel
theorem dX6_kinds_61 : decode cX6_kinds 61 = .ok (.ireturn, 1) := by decide +kernel
theorem dX6_turn_0 : decode cX6_turn 0 = .ok (.aload_n 0, 1) := by decide +kernel
theorem dX6_turn_1 : decode cX6_turn 1 = .ok (.iconst 0, 1) := by decide +kernel
theorem dX6_turn_2 : decode cX6_turn 2 = .ok (.putfield 58, 3) := by decide +kernel
theorem dX6_turn_5 : decode cX6_turn 5 = .ok (.aload_n 0, 1) := by decide +kernel
theorem dX6_turn_6 : decode cX6_turn 6 = .ok (.iload_n 1, 1) := by decide +kernel
theorem dX6_turn_7 : decode cX6_turn 7 = .ok (.invokevirtual 147, 3) := by decide +kernel
theorem dX6_turn_10 : decode cX6_turn 10 = .ok (.ifCond .eq 13, 3) := by decide +kernel
theorem dX6_turn_13 : decode cX6_turn 13 = .ok (.iload_n 2, 1) := by decide +kernel
theorem dX6_turn_14 : decode cX6_turn 14 = .ok (.iconst 0, 1) := by decide +kernel
theorem dX6_turn_15 : decode cX6_turn 15 = .ok (.bipush 60, 2) := by decide +kernel
theorem dX6_turn_17 : decode cX6_turn 17 = .ok (.invokestatic 197, 3) := by decide +kernel
theorem dX6_turn_20 : decode cX6_turn 20 = .ok (.goto 4, 3) := by decide +kernel
theorem dX6_turn_23 : decode cX6_turn 23 = .ok (.iconst (-1), 1) := by decide +kernel
theorem dX6_turn_24 : decode cX6_turn 24 = .ok (.istore_n 3, 1) := by decide +kernel
theorem dX6_turn_25 : decode cX6_turn 25 = .ok (.iload_n 3, 1) := by decide +kernel
theorem dX6_turn_26 : decode cX6_turn 26 = .ok (.ifCond .ge 9, 3) := by decide +kernel
theorem dX6_turn_29 : decode cX6_turn 29 = .ok (.aload_n 0, 1) := by decide +kernel
theorem dX6_turn_30 : decode cX6_turn 30 = .ok (.iload_n 3, 1) := by decide +kernel
theorem dX6_turn_31 : decode cX6_turn 31 = .ok (.invokevirtual 108, 3) := by decide +kernel
theorem dX6_turn_34 : decode cX6_turn 34 = .ok (.ireturn, 1) := by decide +kernel
theorem dX6_turn_35 : decode cX6_turn 35 = .ok (.iconst 0, 1) := by decide +kernel
theorem dX6_turn_36 : decode cX6_turn 36 = .ok (.istore 4, 2) := by decide +kernel
theorem dX6_turn_38 : decode cX6_turn 38 = .ok (.iconst (-1), 1) := by decide +kernel
theorem dX6_turn_39 : decode cX6_turn 39 = .ok (.istore 5, 2) := by decide +kernel
theorem dX6_turn_41 : decode cX6_turn 41 = .ok (.aload_n 0, 1) := by decide +kernel
theorem dX6_turn_42 : decode cX6_turn 42 = .ok (.invokevirtual 159, 3) := by decide +kernel
theorem dX6_turn_45 : decode cX6_turn 45 = .ok (.iconst 0, 1) := by decide +kernel
theorem dX6_turn_46 : decode cX6_turn 46 = .ok (.istore 6, 2) := by decide +kernel
theorem dX6_turn_48 : decode cX6_turn 48 = .ok (.iload 6, 2) := by decide +kernel
theorem dX6_turn_50 : decode cX6_turn 50 = .ok (.bipush 6, 2) := by decide +kernel
theorem dX6_turn_52 : decode cX6_turn 52 = .ok (.if_icmp .ge 56, 3) := by decide +kernel
theorem dX6_turn_55 : decode cX6_turn 55 = .ok (.aload_n 0, 1) := by decide +kernel
theorem dX6_turn_56 : decode cX6_turn 56 = .ok (.getfield 7, 3) := by decide +kernel
theorem dX6_turn_59 : decode cX6_turn 59 = .ok (.iload_n 1, 1) := by decide +kernel
theorem dX6_turn_60 : decode cX6_turn 60 = .ok (.iload 6, 2) := by decide +kernel
theorem dX6_turn_62 : decode cX6_turn 62 = .ok (.iastore, 1) := by decide +kernel
theorem dX6_turn_63 : decode cX6_turn 63 = .ok (.aload_n 0, 1) := by decide +kernel
theorem dX6_turn_64 : decode cX6_turn 64 = .ok (.iload_n 2, 1) := by decide +kernel
theorem dX6_turn_65 : decode cX6_turn 65 = .ok (.invokevirtual 225, 3) := by decide +kernel
theorem dX6_turn_68 : decode cX6_turn 68 = .ok (.istore 7, 2) := by decide +kernel
theorem dX6_turn_70 : decode cX6_turn 70 = .ok (.iload 7, 2) := by decide +kernel
theorem dX6_turn_72 : decode cX6_turn 72 = .ok (.iload 5, 2) := by decide +kernel
theorem dX6_turn_74 : decode cX6_turn 74 = .ok (.if_icmp .le 8, 3) := by decide +kernel
theorem dX6_turn_77 : decode cX6_turn 77 = .ok (.iload 6, 2) := by decide +kernel
theorem dX6_turn_79 : decode cX6_turn 79 = .ok (.goto 5, 3) := by decide +kernel
theorem dX6_turn_82 : decode cX6_turn 82 = .ok (.iload 4, 2) := by decide +kernel
theorem dX6_turn_84 : decode cX6_turn 84 = .ok (.istore 4, 2) := by decide +kernel
theorem dX6_turn_86 : decode cX6_turn 86 = .ok (.iload 7, 2) := by decide +kernel
theorem dX6_turn_88 : decode cX6_turn 88 = .ok (.iload 5, 2) := by decide +kernel
theorem dX6_turn_90 : decode cX6_turn 90 = .ok (.if_icmp .le 8, 3) := by decide +kernel
theorem dX6_turn_93 : decode cX6_turn 93 = .ok (.iload 7, 2) := by decide +kernel
theorem dX6_turn_95 : decode cX6_turn 95 = .ok (.goto 5, 3) := by decide +kernel
theorem dX6_turn_98 : decode cX6_turn 98 = .ok (.iload 5, 2) := by decide +kernel
theorem dX6_turn_100 : decode cX6_turn 100 = .ok (.istore 5, 2) := by decide +kernel
theorem dX6_turn_102 : decode cX6_turn 102 = .ok (.iinc 6 1, 3) := by decide +kernel
theorem dX6_turn_105 : decode cX6_turn 105 = .ok (.goto (-57), 3) := by decide +kernel
theorem dX6_turn_108 : decode cX6_turn 108 = .ok (.iload 4, 2) := by decide +kernel
theorem dX6_turn_110 : decode cX6_turn 110 = .ok (.ireturn, 1) := by decide +kernel
theorem dX6_row_0 : decode cX6_row 0 = .ok (.aload_n 0, 1) := by decide +kernel
theorem dX6_row_1 : decode cX6_row 1 = .ok (.iconst 0, 1) := by decide +kernel
theorem dX6_row_2 : decode cX6_row 2 = .ok (.putfield 58, 3) := by decide +kernel
theorem dX6_row_5 : decode cX6_row 5 = .ok (.iload_n 1, 1) := by decide +kernel
theorem dX6_row_6 : decode cX6_row 6 = .ok (.ifCond .ge 10, 3) := by decide +kernel
theorem dX6_row_9 : decode cX6_row 9 = .ok (.aload_n 0, 1) := by decide +kernel
theorem dX6_row_10 : decode cX6_row 10 = .ok (.bipush (-4), 2) := by decide +kernel
theorem dX6_row_12 : decode cX6_row 12 = .ok (.invokevirtual 108, 3) := by decide +kernel
theorem dX6_row_15 : decode cX6_row 15 = .ok (.ireturn, 1) := by decide +kernel
theorem dX6_row_16 : decode cX6_row 16 = .ok (.iload_n 1, 1) := by decide +kernel
theorem dX6_row_17 : decode cX6_row 17 = .ok (.bipush 99, 2) := by decide +kernel
theorem dX6_row_19 : decode cX6_row 19 = .ok (.if_icmp .gt 12, 3) := by decide +kernel
theorem dX6_row_22 : decode cX6_row 22 = .ok (.aload_n 0, 1) := by decide +kernel
theorem dX6_row_23 : decode cX6_row 23 = .ok (.getfield 234, 3) := by decide +kernel
theorem dX6_row_26 : decode cX6_row 26 = .ok (.bipush 12, 2) := by decide +kernel
theorem dX6_row_28 : decode cX6_row 28 = .ok (.if_icmp .ne 10, 3) := by decide +kernel
theorem dX6_row_31 : decode cX6_row 31 = .ok (.aload_n 0, 1) := by decide +kernel
theorem dX6_row_32 : decode cX6_row 32 = .ok (.bipush (-6), 2) := by decide +kernel
theorem dX6_row_34 : decode cX6_row 34 = .ok (.invokevirtual 108, 3) := by decide +kernel
theorem dX6_row_37 : decode cX6_row 37 = .ok (.ireturn, 1) := by decide +kernel
theorem dX6_row_38 : decode cX6_row 38 = .ok (.aload_n 0, 1) := by decide +kernel
theorem dX6_row_39 : decode cX6_row 39 = .ok (.getfield 52, 3) := by decide +kernel
theorem dX6_row_42 : decode cX6_row 42 = .ok (.aload_n 0, 1) := by decide +kernel
theorem dX6_row_43 : decode cX6_row 43 = .ok (.getfield 234, 3) := by decide +kernel
theorem dX6_row_46 : decode cX6_row 46 = .ok (.iload_n 1, 1) := by decide +kernel
theorem dX6_row_47 : decode cX6_row 47 = .ok (.iastore, 1) := by decide +kernel
theorem dX6_row_48 : decode cX6_row 48 = .ok (.aload_n 0, 1) := by decide +kernel
theorem dX6_row_49 : decode cX6_row 49 = .ok (.dup, 1) := by decide +kernel
theorem dX6_row_50 : decode cX6_row 50 = .ok (.getfield 234, 3) := by decide +kernel
theorem dX6_row_53 : decode cX6_row 53 = .ok (.iconst 1, 1) := by decide +kernel
theorem dX6_row_54 : decode cX6_row 54 = .ok (.iadd, 1) := by decide +kernel
theorem dX6_row_55 : decode cX6_row 55 = .ok (.putfield 234, 3) := by decide +kernel
theorem dX6_row_58 : decode cX6_row 58 = .ok (.aload_n 0, 1) := by decide +kernel
theorem dX6_row_59 : decode cX6_row 59 = .ok (.getfield 234, 3) := by decide +kernel
theorem dX6_row_62 : decode cX6_row 62 = .ok (.ireturn, 1) := by decide +kernel
theorem dX6_judge_0 : decode cX6_judge 0 = .ok (.aload_n 0, 1) := by decide +kernel
theorem dX6_judge_1 : decode cX6_judge 1 = .ok (.iconst 0, 1) := by decide +kernel
theorem dX6_judge_2 : decode cX6_judge 2 = .ok (.putfield 58, 3) := by decide +kernel
theorem dX6_judge_5 : decode cX6_judge 5 = .ok (.aload_n 0, 1) := by decide +kernel
theorem dX6_judge_6 : decode cX6_judge 6 = .ok (.getfield 234, 3) := by decide +kernel
theorem dX6_judge_9 : decode cX6_judge 9 = .ok (.istore_n 1, 1) := by decide +kernel
theorem dX6_judge_10 : decode cX6_judge 10 = .ok (.aload_n 0, 1) := by decide +kernel
theorem dX6_judge_11 : decode cX6_judge 11 = .ok (.iconst 0, 1) := by decide +kernel
theorem dX6_judge_12 : decode cX6_judge 12 = .ok (.putfield 234, 3) := by decide +kernel
theorem dX6_judge_15 : decode cX6_judge 15 = .ok (.iconst 0, 1) := by decide +kernel
theorem dX6_judge_16 : decode cX6_judge 16 = .ok (.istore_n 2, 1) := by decide +kernel
theorem dX6_judge_17 : decode cX6_judge 17 = .ok (.iload_n 2, 1) := by decide +kernel
theorem dX6_judge_18 : decode cX6_judge 18 = .ok (.iload_n 1, 1) := by decide +kernel
theorem dX6_judge_19 : decode cX6_judge 19 = .ok (.if_icmp .ge 34, 3) := by decide +kernel
theorem dX6_judge_22 : decode cX6_judge 22 = .ok (.iload_n 2, 1) := by decide +kernel
theorem dX6_judge_23 : decode cX6_judge 23 = .ok (.aload_n 0, 1) := by decide +kernel
theorem dX6_judge_24 : decode cX6_judge 24 = .ok (.getfield 62, 3) := by decide +kernel
theorem dX6_judge_27 : decode cX6_judge 27 = .ok (.if_icmp .ge 18, 3) := by decide +kernel
theorem dX6_judge_30 : decode cX6_judge 30 = .ok (.aload_n 0, 1) := by decide +kernel
theorem dX6_judge_31 : decode cX6_judge 31 = .ok (.getfield 52, 3) := by decide +kernel
theorem dX6_judge_34 : decode cX6_judge 34 = .ok (.iload_n 2, 1) := by decide +kernel
theorem dX6_judge_35 : decode cX6_judge 35 = .ok (.iaload, 1) := by decide +kernel
theorem dX6_judge_36 : decode cX6_judge 36 = .ok (.aload_n 0, 1) := by decide +kernel
theorem dX6_judge_37 : decode cX6_judge 37 = .ok (.getfield 16, 3) := by decide +kernel
theorem dX6_judge_40 : decode cX6_judge 40 = .ok (.iload_n 2, 1) := by decide +kernel
theorem dX6_judge_41 : decode cX6_judge 41 = .ok (.iaload, 1) := by decide +kernel
theorem dX6_judge_42 : decode cX6_judge 42 = .ok (.if_icmp .eq 5, 3) := by decide +kernel
theorem dX6_judge_45 : decode cX6_judge 45 = .ok (.iload_n 2, 1) := by decide +kernel
theorem dX6_judge_46 : decode cX6_judge 46 = .ok (.ireturn, 1) := by decide +kernel
theorem dX6_judge_47 : decode cX6_judge 47 = .ok (.iinc 2 1, 3) := by decide +kernel
theorem dX6_judge_50 : decode cX6_judge 50 = .ok (.goto (-33), 3) := by decide +kernel
theorem dX6_judge_53 : decode cX6_judge 53 = .ok (.bipush (-9), 2) := by decide +kernel
theorem dX6_judge_55 : decode cX6_judge 55 = .ok (.ireturn, 1) := by decide +kernel
theorem dX6_clear_0 : decode cX6_clear 0 = .ok (.aload_n 0, 1) := by decide +kernel
theorem dX6_clear_1 : decode cX6_clear 1 = .ok (.iconst 0, 1) := by decide +kernel
theorem dX6_clear_2 : decode cX6_clear 2 = .ok (.putfield 58, 3) := by decide +kernel
theorem dX6_clear_5 : decode cX6_clear 5 = .ok (.aload_n 0, 1) := by decide +kernel
theorem dX6_clear_6 : decode cX6_clear 6 = .ok (.getfield 234, 3) := by decide +kernel
theorem dX6_clear_9 : decode cX6_clear 9 = .ok (.istore_n 1, 1) := by decide +kernel
theorem dX6_clear_10 : decode cX6_clear 10 = .ok (.aload_n 0, 1) := by decide +kernel
theorem dX6_clear_11 : decode cX6_clear 11 = .ok (.iconst 0, 1) := by decide +kernel
theorem dX6_clear_12 : decode cX6_clear 12 = .ok (.putfield 234, 3) := by decide +kernel
theorem dX6_clear_15 : decode cX6_clear 15 = .ok (.iload_n 1, 1) := by decide +kernel
theorem dX6_clear_16 : decode cX6_clear 16 = .ok (.ireturn, 1) := by decide +kernel
theorem dX6_drawBelow_0 : decode cX6_drawBelow 0 = .ok (.aload_n 0, 1) := by decide +kernel
theorem dX6_drawBelow_1 : decode cX6_drawBelow 1 = .ok (.aload_n 0, 1) := by decide +kernel
theorem dX6_drawBelow_2 : decode cX6_drawBelow 2 = .ok (.getfield 266, 3) := by decide +kernel
theorem dX6_drawBelow_5 : decode cX6_drawBelow 5 = .ok (.ldc_w 269, 3) := by decide +kernel
theorem dX6_drawBelow_8 : decode cX6_drawBelow 8 = .ok (.imul, 1) := by decide +kernel
theorem dX6_drawBelow_9 : decode cX6_drawBelow 9 = .ok (.sipush 12345, 3) := by decide +kernel
theorem dX6_drawBelow_12 : decode cX6_drawBelow 12 = .ok (.iadd, 1) := by decide +kernel
theorem dX6_drawBelow_13 : decode cX6_drawBelow 13 = .ok (.putfield 266, 3) := by decide +kernel
theorem dX6_drawBelow_16 : decode cX6_drawBelow 16 = .ok (.aload_n 0, 1) := by decide +kernel
theorem dX6_drawBelow_17 : decode cX6_drawBelow 17 = .ok (.getfield 266, 3) := by decide +kernel
theorem dX6_drawBelow_20 : decode cX6_drawBelow 20 = .ok (.ldc_w 270, 3) := by decide +kernel
theorem dX6_drawBelow_23 : decode cX6_drawBelow 23 = .ok (.iand, 1) := by decide +kernel
theorem dX6_drawBelow_24 : decode cX6_drawBelow 24 = .ok (.ldc_w 271, 3) := by decide +kernel
theorem dX6_drawBelow_27 : decode cX6_drawBelow 27 = .ok (.idiv, 1) := by decide +kernel
theorem dX6_drawBelow_28 : decode cX6_drawBelow 28 = .ok (.iload_n 1, 1) := by decide +kernel
theorem dX6_drawBelow_29 : decode cX6_drawBelow 29 = .ok (.irem, 1) := by decide +kernel
theorem dX6_drawBelow_30 : decode cX6_drawBelow 30 = .ok (.ireturn, 1) := by decide +kernel
theorem dX6_lots_0 : decode cX6_lots 0 = .ok (.aload_n 0, 1) := by decide +kernel
theorem dX6_lots_1 : decode cX6_lots 1 = .ok (.iconst 0, 1) := by decide +kernel
theorem dX6_lots_2 : decode cX6_lots 2 = .ok (.putfield 58, 3) := by decide +kernel
theorem dX6_lots_5 : decode cX6_lots 5 = .ok (.iload_n 1, 1) := by decide +kernel
theorem dX6_lots_6 : decode cX6_lots 6 = .ok (.iconst 1, 1) := by decide +kernel
theorem dX6_lots_7 : decode cX6_lots 7 = .ok (.bipush 20, 2) := by decide +kernel
theorem dX6_lots_9 : decode cX6_lots 9 = .ok (.invokestatic 197, 3) := by decide +kernel
theorem dX6_lots_12 : decode cX6_lots 12 = .ok (.iload_n 3, 1) := by decide +kernel
theorem dX6_lots_13 : decode cX6_lots 13 = .ok (.iconst 1, 1) := by decide +kernel
theorem dX6_lots_14 : decode cX6_lots 14 = .ok (.invokestatic 206, 3) := by decide +kernel
theorem dX6_lots_17 : decode cX6_lots 17 = .ok (.istore 4, 2) := by decide +kernel
theorem dX6_lots_19 : decode cX6_lots 19 = .ok (.iload 4, 2) := by decide +kernel
theorem dX6_lots_21 : decode cX6_lots 21 = .ok (.ifCond .ge 10, 3) := by decide +kernel
theorem dX6_lots_24 : decode cX6_lots 24 = .ok (.aload_n 0, 1) := by decide +kernel
theorem dX6_lots_25 : decode cX6_lots 25 = .ok (.iload 4, 2) := by decide +kernel
theorem dX6_lots_27 : decode cX6_lots 27 = .ok (.invokevirtual 108, 3) := by decide +kernel
theorem dX6_lots_30 : decode cX6_lots 30 = .ok (.ireturn, 1) := by decide +kernel
theorem dX6_lots_31 : decode cX6_lots 31 = .ok (.aload_n 0, 1) := by decide +kernel
theorem dX6_lots_32 : decode cX6_lots 32 = .ok (.iload_n 2, 1) := by decide +kernel
theorem dX6_lots_33 : decode cX6_lots 33 = .ok (.putfield 266, 3) := by decide +kernel
theorem dX6_lots_36 : decode cX6_lots 36 = .ok (.iconst 0, 1) := by decide +kernel
theorem dX6_lots_37 : decode cX6_lots 37 = .ok (.istore 5, 2) := by decide +kernel
theorem dX6_lots_39 : decode cX6_lots 39 = .ok (.aload_n 0, 1) := by decide +kernel
theorem dX6_lots_40 : decode cX6_lots 40 = .ok (.getfield 101, 3) := by decide +kernel
theorem dX6_lots_43 : decode cX6_lots 43 = .ok (.istore 6, 2) := by decide +kernel
theorem dX6_lots_45 : decode cX6_lots 45 = .ok (.aload_n 0, 1) := by decide +kernel
theorem dX6_lots_46 : decode cX6_lots 46 = .ok (.invokevirtual 159, 3) := by decide +kernel
theorem dX6_lots_49 : decode cX6_lots 49 = .ok (.iconst 0, 1) := by decide +kernel
theorem dX6_lots_50 : decode cX6_lots 50 = .ok (.istore 7, 2) := by decide +kernel
theorem dX6_lots_52 : decode cX6_lots 52 = .ok (.iload 7, 2) := by decide +kernel
theorem dX6_lots_54 : decode cX6_lots 54 = .ok (.iload_n 1, 1) := by decide +kernel
theorem dX6_lots_55 : decode cX6_lots 55 = .ok (.if_icmp .ge 86, 3) := by decide +kernel
theorem dX6_lots_58 : decode cX6_lots 58 = .ok (.iconst 0, 1) := by decide +kernel
theorem dX6_lots_59 : decode cX6_lots 59 = .ok (.istore 8, 2) := by decide +kernel
theorem dX6_lots_61 : decode cX6_lots 61 = .ok (.iload 8, 2) := by decide +kernel
theorem dX6_lots_63 : decode cX6_lots 63 = .ok (.iconst 3, 1) := by decide +kernel
theorem dX6_lots_64 : decode cX6_lots 64 = .ok (.if_icmp .ge 38, 3) := by decide +kernel
theorem dX6_lots_67 : decode cX6_lots 67 = .ok (.aload_n 0, 1) := by decide +kernel
theorem dX6_lots_68 : decode cX6_lots 68 = .ok (.getfield 62, 3) := by decide +kernel
theorem dX6_lots_71 : decode cX6_lots 71 = .ok (.ifCond .le 31, 3) := by decide +kernel
theorem dX6_lots_74 : decode cX6_lots 74 = .ok (.aload_n 0, 1) := by decide +kernel
theorem dX6_lots_75 : decode cX6_lots 75 = .ok (.aload_n 0, 1) := by decide +kernel
theorem dX6_lots_76 : decode cX6_lots 76 = .ok (.getfield 62, 3) := by decide +kernel
theorem dX6_lots_79 : decode cX6_lots 79 = .ok (.invokevirtual 272, 3) := by decide +kernel
theorem dX6_lots_82 : decode cX6_lots 82 = .ok (.istore 9, 2) := by decide +kernel
theorem dX6_lots_84 : decode cX6_lots 84 = .ok (.aload_n 0, 1) := by decide +kernel
theorem dX6_lots_85 : decode cX6_lots 85 = .ok (.iload 9, 2) := by decide +kernel
theorem dX6_lots_87 : decode cX6_lots 87 = .ok (.aload_n 0, 1) := by decide +kernel
theorem dX6_lots_88 : decode cX6_lots 88 = .ok (.bipush 40, 2) := by decide +kernel
theorem dX6_lots_90 : decode cX6_lots 90 = .ok (.invokevirtual 272, 3) := by decide +kernel
theorem dX6_lots_93 : decode cX6_lots 93 = .ok (.invokevirtual 97, 3) := by decide +kernel
theorem dX6_lots_96 : decode cX6_lots 96 = .ok (.iinc 8 1, 3) := by decide +kernel
theorem dX6_lots_99 : decode cX6_lots 99 = .ok (.goto (-38), 3) := by decide +kernel
theorem dX6_lots_102 : decode cX6_lots 102 = .ok (.aload_n 0, 1) := by decide +kernel
theorem dX6_lots_103 : decode cX6_lots 103 = .ok (.bipush 12, 2) := by decide +kernel
theorem dX6_lots_105 : decode cX6_lots 105 = .ok (.invokevirtual 143, 3) := by decide +kernel
theorem dX6_lots_108 : decode cX6_lots 108 = .ok (.iload 5, 2) := by decide +kernel
theorem dX6_lots_110 : decode cX6_lots 110 = .ok (.iload_n 3, 1) := by decide +kernel
theorem dX6_lots_111 : decode cX6_lots 111 = .ok (.ifCond .ne 13, 3) := by decide +kernel
theorem dX6_lots_114 : decode cX6_lots 114 = .ok (.aload_n 0, 1) := by decide +kernel
theorem dX6_lots_115 : decode cX6_lots 115 = .ok (.getfield 101, 3) := by decide +kernel
theorem dX6_lots_118 : decode cX6_lots 118 = .ok (.iload 6, 2) := by decide +kernel
theorem dX6_lots_120 : decode cX6_lots 120 = .ok (.isub, 1) := by decide +kernel
theorem dX6_lots_121 : decode cX6_lots 121 = .ok (.goto 7, 3) := by decide +kernel
theorem dX6_lots_124 : decode cX6_lots 124 = .ok (.aload_n 0, 1) := by decide +kernel
theorem dX6_lots_125 : decode cX6_lots 125 = .ok (.invokevirtual 209, 3) := by decide +kernel
theorem dX6_lots_128 : decode cX6_lots 128 = .ok (.iadd, 1) := by decide +kernel
theorem dX6_lots_129 : decode cX6_lots 129 = .ok (.istore 5, 2) := by decide +kernel
theorem dX6_lots_131 : decode cX6_lots 131 = .ok (.aload_n 0, 1) := by decide +kernel
theorem dX6_lots_132 : decode cX6_lots 132 = .ok (.invokevirtual 165, 3) := by decide +kernel
theorem dX6_lots_135 : decode cX6_lots 135 = .ok (.iinc 7 1, 3) := by decide +kernel
theorem dX6_lots_138 : decode cX6_lots 138 = .ok (.goto (-86), 3) := by decide +kernel
theorem dX6_lots_141 : decode cX6_lots 141 = .ok (.iload 5, 2) := by decide +kernel
theorem dX6_lots_143 : decode cX6_lots 143 = .ok (.ireturn, 1) := by decide +kernel
theorem dX6_count_0 : decode cX6_count 0 = .ok (.aload_n 0, 1) := by decide +kernel
theorem dX6_count_1 : decode cX6_count 1 = .ok (.iconst 0, 1) := by decide +kernel
theorem dX6_count_2 : decode cX6_count 2 = .ok (.putfield 58, 3) := by decide +kernel
theorem dX6_count_5 : decode cX6_count 5 = .ok (.iload_n 1, 1) := by decide +kernel
theorem dX6_count_6 : decode cX6_count 6 = .ok (.tableswitch 95 0 8 #[50, 55, 60, 65, 70, 75, 80, 85, 90], 50) := by decide +kernel
theorem dX6_count_56 : decode cX6_count 56 = .ok (.aload_n 0, 1) := by decide +kernel
theorem dX6_count_57 : decode cX6_count 57 = .ok (.getfield 62, 3) := by decide +kernel
theorem dX6_count_60 : decode cX6_count 60 = .ok (.ireturn, 1) := by decide +kernel
theorem dX6_count_61 : decode cX6_count 61 = .ok (.aload_n 0, 1) := by decide +kernel
theorem dX6_count_62 : decode cX6_count 62 = .ok (.getfield 76, 3) := by decide +kernel
theorem dX6_count_65 : decode cX6_count 65 = .ok (.ireturn, 1) := by decide +kernel
theorem dX6_count_66 : decode cX6_count 66 = .ok (.aload_n 0, 1) := by decide +kernel
theorem dX6_count_67 : decode cX6_count 67 = .ok (.getfield 101, 3) := by decide +kernel
theorem dX6_count_70 : decode cX6_count 70 = .ok (.ireturn, 1) := by decide +kernel
theorem dX6_count_71 : decode cX6_count 71 = .ok (.aload_n 0, 1) := by decide +kernel
theorem dX6_count_72 : decode cX6_count 72 = .ok (.getfield 83, 3) := by decide +kernel
theorem dX6_count_75 : decode cX6_count 75 = .ok (.ireturn, 1) := by decide +kernel
theorem dX6_count_76 : decode cX6_count 76 = .ok (.aload_n 0, 1) := by decide +kernel
theorem dX6_count_77 : decode cX6_count 77 = .ok (.getfield 73, 3) := by decide +kernel
theorem dX6_count_80 : decode cX6_count 80 = .ok (.ireturn, 1) := by decide +kernel
theorem dX6_count_81 : decode cX6_count 81 = .ok (.aload_n 0, 1) := by decide +kernel
theorem dX6_count_82 : decode cX6_count 82 = .ok (.invokevirtual 209, 3) := by decide +kernel
theorem dX6_count_85 : decode cX6_count 85 = .ok (.ireturn, 1) := by decide +kernel
theorem dX6_count_86 : decode cX6_count 86 = .ok (.aload_n 0, 1) := by decide +kernel
theorem dX6_count_87 : decode cX6_count 87 = .ok (.getfield 111, 3) := by decide +kernel
theorem dX6_count_90 : decode cX6_count 90 = .ok (.ireturn, 1) := by decide +kernel
theorem dX6_count_91 : decode cX6_count 91 = .ok (.aload_n 0, 1) := by decide +kernel
theorem dX6_count_92 : decode cX6_count 92 = .ok (.getfield 234, 3) := by decide +kernel
theorem dX6_count_95 : decode cX6_count 95 = .ok (.ireturn, 1) := by decide +kernel
theorem dX6_count_96 : decode cX6_count 96 = .ok (.aload_n 0, 1) := by decide +kernel
theorem dX6_count_97 : decode cX6_count 97 = .ok (.getfield 168, 3) := by decide +kernel
theorem dX6_count_100 : decode cX6_count 100 = .ok (.ireturn, 1) := by decide +kernel
theorem dX6_count_101 : decode cX6_count 101 = .ok (.iload_n 1, 1) := by decide +kernel
theorem dX6_count_102 : decode cX6_count 102 = .ok (.i2l, 1) := by decide +kernel
theorem dX6_count_103 : decode cX6_count 103 = .ok (.ldc2_w 275, 3) := by decide +kernel
theorem dX6_count_106 : decode cX6_count 106 = .ok (.ldc2_w 277, 3) := by decide +kernel
theorem dX6_count_109 : decode cX6_count 109 = .ok (.invokestatic 65, 3) := by decide +kernel
theorem dX6_count_112 : decode cX6_count 112 = .ok (.ifCond .eq 15, 3) := by decide +kernel
theorem dX6_count_115 : decode cX6_count 115 = .ok (.aload_n 0, 1) := by decide +kernel
theorem dX6_count_116 : decode cX6_count 116 = .ok (.getfield 22, 3) := by decide +kernel
theorem dX6_count_119 : decode cX6_count 119 = .ok (.iload_n 1, 1) := by decide +kernel
theorem dX6_count_120 : decode cX6_count 120 = .ok (.bipush 10, 2) := by decide +kernel
theorem dX6_count_122 : decode cX6_count 122 = .ok (.isub, 1) := by decide +kernel
theorem dX6_count_123 : decode cX6_count 123 = .ok (.iaload, 1) := by decide +kernel
theorem dX6_count_124 : decode cX6_count 124 = .ok (.goto 5, 3) := by decide +kernel
theorem dX6_count_127 : decode cX6_count 127 = .ok (.bipush (-9), 2) := by decide +kernel
theorem dX6_count_129 : decode cX6_count 129 = .ok (.ireturn, 1) := by decide +kernel
