theorem dX0_letsThrough_0 : decode cX0_letsThrough 0 = .ok (.iload_n 2, 1) := by decide +kernel
theorem dX0_letsThrough_1 : decode cX0_letsThrough 1 = .ok (.iload_n 0, 1) := by decide +kernel
theorem dX0_letsThrough_2 : decode cX0_letsThrough 2 = .ok (.invokestatic 7, 3) := by decide +kernel
theorem dX0_letsThrough_5 : decode cX0_letsThrough 5 = .ok (.if_icmp .le 12, 3) := by decide +kernel
theorem dX0_letsThrough_8 : decode cX0_letsThrough 8 = .ok (.iload_n 2, 1) := by decide +kernel
theorem dX0_letsThrough_9 : decode cX0_letsThrough 9 = .ok (.iload_n 0, 1) := by decide +kernel
theorem dX0_letsThrough_10 : decode cX0_letsThrough 10 = .ok (.invokestatic 7, 3) := by decide +kernel
theorem dX0_letsThrough_13 : decode cX0_letsThrough 13 = .ok (.isub, 1) := by decide +kernel
theorem dX0_letsThrough_14 : decode cX0_letsThrough 14 = .ok (.goto 4, 3) := by decide +kernel
theorem dX0_letsThrough_17 : decode cX0_letsThrough 17 = .ok (.iconst 0, 1) := by decide +kernel
theorem dX0_letsThrough_18 : decode cX0_letsThrough 18 = .ok (.istore_n 3, 1) := by decide +kernel
theorem dX0_letsThrough_19 : decode cX0_letsThrough 19 = .ok (.iload_n 0, 1) := by decide +kernel
theorem dX0_letsThrough_20 : decode cX0_letsThrough 20 = .ok (.iload_n 1, 1) := by decide +kernel
theorem dX0_letsThrough_21 : decode cX0_letsThrough 21 = .ok (.iload_n 2, 1) := by decide +kernel
theorem dX0_letsThrough_22 : decode cX0_letsThrough 22 = .ok (.invokestatic 13, 3) := by decide +kernel
theorem dX0_letsThrough_25 : decode cX0_letsThrough 25 = .ok (.istore 4, 2) := by decide +kernel
theorem dX0_letsThrough_27 : decode cX0_letsThrough 27 = .ok (.iload 4, 2) := by decide +kernel
theorem dX0_letsThrough_29 : decode cX0_letsThrough 29 = .ok (.iload_n 3, 1) := by decide +kernel
theorem dX0_letsThrough_30 : decode cX0_letsThrough 30 = .ok (.if_icmp .ge 8, 3) := by decide +kernel
theorem dX0_letsThrough_33 : decode cX0_letsThrough 33 = .ok (.iload 4, 2) := by decide +kernel
theorem dX0_letsThrough_35 : decode cX0_letsThrough 35 = .ok (.goto 4, 3) := by decide +kernel
theorem dX0_letsThrough_38 : decode cX0_letsThrough 38 = .ok (.iload_n 3, 1) := by decide +kernel
theorem dX0_letsThrough_39 : decode cX0_letsThrough 39 = .ok (.ireturn, 1) := by decide +kernel
theorem dX0_wouldLet_0 : decode cX0_wouldLet 0 = .ok (.iload_n 0, 1) := by decide +kernel
theorem dX0_wouldLet_1 : decode cX0_wouldLet 1 = .ok (.tableswitch 71 1 5 #[35, 37, 41, 52, 65], 35) := by decide +kernel
theorem dX0_wouldLet_36 : decode cX0_wouldLet 36 = .ok (.iload_n 2, 1) := by decide +kernel
theorem dX0_wouldLet_37 : decode cX0_wouldLet 37 = .ok (.ireturn, 1) := by decide +kernel
theorem dX0_wouldLet_38 : decode cX0_wouldLet 38 = .ok (.iload_n 2, 1) := by decide +kernel
theorem dX0_wouldLet_39 : decode cX0_wouldLet 39 = .ok (.iconst 2, 1) := by decide +kernel
theorem dX0_wouldLet_40 : decode cX0_wouldLet 40 = .ok (.idiv, 1) := by decide +kernel
theorem dX0_wouldLet_41 : decode cX0_wouldLet 41 = .ok (.ireturn, 1) := by decide +kernel
theorem dX0_wouldLet_42 : decode cX0_wouldLet 42 = .ok (.iload_n 1, 1) := by decide +kernel
theorem dX0_wouldLet_43 : decode cX0_wouldLet 43 = .ok (.iload_n 2, 1) := by decide +kernel
theorem dX0_wouldLet_44 : decode cX0_wouldLet 44 = .ok (.if_icmp .ge 7, 3) := by decide +kernel
theorem dX0_wouldLet_47 : decode cX0_wouldLet 47 = .ok (.iload_n 1, 1) := by decide +kernel
theorem dX0_wouldLet_48 : decode cX0_wouldLet 48 = .ok (.goto 4, 3) := by decide +kernel
theorem dX0_wouldLet_51 : decode cX0_wouldLet 51 = .ok (.iload_n 2, 1) := by decide +kernel
theorem dX0_wouldLet_52 : decode cX0_wouldLet 52 = .ok (.ireturn, 1) := by decide +kernel
theorem dX0_wouldLet_53 : decode cX0_wouldLet 53 = .ok (.iload_n 1, 1) := by decide +kernel
theorem dX0_wouldLet_54 : decode cX0_wouldLet 54 = .ok (.iload_n 2, 1) := by decide +kernel
theorem dX0_wouldLet_55 : decode cX0_wouldLet 55 = .ok (.if_icmp .ge 9, 3) := by decide +kernel
theorem dX0_wouldLet_58 : decode cX0_wouldLet 58 = .ok (.iload_n 2, 1) := by decide +kernel
theorem dX0_wouldLet_59 : decode cX0_wouldLet 59 = .ok (.iload_n 1, 1) := by decide +kernel
theorem dX0_wouldLet_60 : decode cX0_wouldLet 60 = .ok (.isub, 1) := by decide +kernel
theorem dX0_wouldLet_61 : decode cX0_wouldLet 61 = .ok (.goto 4, 3) := by decide +kernel
theorem dX0_wouldLet_64 : decode cX0_wouldLet 64 = .ok (.iconst 0, 1) := by decide +kernel
theorem dX0_wouldLet_65 : decode cX0_wouldLet 65 = .ok (.ireturn, 1) := by decide +kernel
theorem dX0_wouldLet_66 : decode cX0_wouldLet 66 = .ok (.iload_n 2, 1) := by decide +kernel
theorem dX0_wouldLet_67 : decode cX0_wouldLet 67 = .ok (.iconst 2, 1) := by decide +kernel
theorem dX0_wouldLet_68 : decode cX0_wouldLet 68 = .ok (.idiv, 1) := by decide +kernel
theorem dX0_wouldLet_69 : decode cX0_wouldLet 69 = .ok (.iconst 2, 1) := by decide +kernel
theorem dX0_wouldLet_70 : decode cX0_wouldLet 70 = .ok (.idiv, 1) := by decide +kernel
theorem dX0_wouldLet_71 : decode cX0_wouldLet 71 = .ok (.ireturn, 1) := by decide +kernel
theorem dX0_wouldLet_72 : decode cX0_wouldLet 72 = .ok (.iload_n 2, 1) := by decide +kernel
theorem dX0_wouldLet_73 : decode cX0_wouldLet 73 = .ok (.iconst 1, 1) := by decide +kernel
theorem dX0_wouldLet_74 : decode cX0_wouldLet 74 = .ok (.iadd, 1) := by decide +kernel
theorem dX0_wouldLet_75 : decode cX0_wouldLet 75 = .ok (.iconst 2, 1) := by decide +kernel
theorem dX0_wouldLet_76 : decode cX0_wouldLet 76 = .ok (.idiv, 1) := by decide +kernel
theorem dX0_wouldLet_77 : decode cX0_wouldLet 77 = .ok (.ireturn, 1) := by decide +kernel
theorem dX0_adds_0 : decode cX0_adds 0 = .ok (.iload_n 0, 1) := by decide +kernel
theorem dX0_adds_1 : decode cX0_adds 1 = .ok (.tableswitch 49 1 5 #[35, 37, 39, 41, 45], 35) := by decide +kernel
theorem dX0_adds_36 : decode cX0_adds 36 = .ok (.iload_n 1, 1) := by decide +kernel
theorem dX0_adds_37 : decode cX0_adds 37 = .ok (.ireturn, 1) := by decide +kernel
theorem dX0_adds_38 : decode cX0_adds 38 = .ok (.iconst 3, 1) := by decide +kernel
theorem dX0_adds_39 : decode cX0_adds 39 = .ok (.ireturn, 1) := by decide +kernel
theorem dX0_adds_40 : decode cX0_adds 40 = .ok (.iconst 0, 1) := by decide +kernel
theorem dX0_adds_41 : decode cX0_adds 41 = .ok (.ireturn, 1) := by decide +kernel
theorem dX0_adds_42 : decode cX0_adds 42 = .ok (.iload_n 1, 1) := by decide +kernel
theorem dX0_adds_43 : decode cX0_adds 43 = .ok (.iconst 2, 1) := by decide +kernel
theorem dX0_adds_44 : decode cX0_adds 44 = .ok (.idiv, 1) := by decide +kernel
theorem dX0_adds_45 : decode cX0_adds 45 = .ok (.ireturn, 1) := by decide +kernel
theorem dX0_adds_46 : decode cX0_adds 46 = .ok (.iconst 3, 1) := by decide +kernel
theorem dX0_adds_47 : decode cX0_adds 47 = .ok (.iload_n 1, 1) := by decide +kernel
theorem dX0_adds_48 : decode cX0_adds 48 = .ok (.iadd, 1) := by decide +kernel
theorem dX0_adds_49 : decode cX0_adds 49 = .ok (.ireturn, 1) := by decide +kernel
theorem dX0_adds_50 : decode cX0_adds 50 = .ok (.iconst 1, 1) := by decide +kernel
theorem dX0_adds_51 : decode cX0_adds 51 = .ok (.ireturn, 1) := by decide +kernel
theorem dX0_stands_0 : decode cX0_stands 0 = .ok (.iload_n 0, 1) := by decide +kernel
theorem dX0_stands_1 : decode cX0_stands 1 = .ok (.lookupswitch 31 #[(2, 27), (5, 29)], 27) := by decide +kernel
theorem dX0_stands_28 : decode cX0_stands 28 = .ok (.iconst 1, 1) := by decide +kernel
theorem dX0_stands_29 : decode cX0_stands 29 = .ok (.ireturn, 1) := by decide +kernel
theorem dX0_stands_30 : decode cX0_stands 30 = .ok (.iconst 3, 1) := by decide +kernel
theorem dX0_stands_31 : decode cX0_stands 31 = .ok (.ireturn, 1) := by decide +kernel
theorem dX0_stands_32 : decode cX0_stands 32 = .ok (.iconst 0, 1) := by decide +kernel
theorem dX0_stands_33 : decode cX0_stands 33 = .ok (.ireturn, 1) := by decide +kernel
theorem dX1_init_0 : decode cX1_init 0 = .ok (.aload_n 0, 1) := by decide +kernel
theorem dX1_init_1 : decode cX1_init 1 = .ok (.invokespecial 3, 3) := by decide +kernel
theorem dX1_init_4 : decode cX1_init 4 = .ok (.aload_n 0, 1) := by decide +kernel
theorem dX1_init_5 : decode cX1_init 5 = .ok (.bipush 96, 2) := by decide +kernel
theorem dX1_init_7 : decode cX1_init 7 = .ok (.newarray .int, 2) := by decide +kernel
theorem dX1_init_9 : decode cX1_init 9 = .ok (.putfield 9, 3) := by decide +kernel
theorem dX1_init_12 : decode cX1_init 12 = .ok (.return_, 1) := by decide +kernel
theorem dX1_size_0 : decode cX1_size 0 = .ok (.aload_n 0, 1) := by decide +kernel
theorem dX1_size_1 : decode cX1_size 1 = .ok (.getfield 15, 3) := by decide +kernel
theorem dX1_size_4 : decode cX1_size 4 = .ok (.ireturn, 1) := by decide +kernel
theorem dX1_drop_0 : decode cX1_drop 0 = .ok (.aload_n 0, 1) := by decide +kernel
theorem dX1_drop_1 : decode cX1_drop 1 = .ok (.iconst 0, 1) := by decide +kernel
theorem dX1_drop_2 : decode cX1_drop 2 = .ok (.putfield 15, 3) := by decide +kernel
theorem dX1_drop_5 : decode cX1_drop 5 = .ok (.return_, 1) := by decide +kernel
theorem dX1_add_0 : decode cX1_add 0 = .ok (.aload_n 0, 1) := by decide +kernel
theorem dX1_add_1 : decode cX1_add 1 = .ok (.getfield 15, 3) := by decide +kernel
theorem dX1_add_4 : decode cX1_add 4 = .ok (.bipush 96, 2) := by decide +kernel
theorem dX1_add_6 : decode cX1_add 6 = .ok (.if_icmp .lt 5, 3) := by decide +kernel
theorem dX1_add_9 : decode cX1_add 9 = .ok (.iconst 0, 1) := by decide +kernel
theorem dX1_add_10 : decode cX1_add 10 = .ok (.ireturn, 1) := by decide +kernel
theorem dX1_add_11 : decode cX1_add 11 = .ok (.aload_n 0, 1) := by decide +kernel
theorem dX1_add_12 : decode cX1_add 12 = .ok (.getfield 9, 3) := by decide +kernel
theorem dX1_add_15 : decode cX1_add 15 = .ok (.aload_n 0, 1) := by decide +kernel
theorem dX1_add_16 : decode cX1_add 16 = .ok (.getfield 15, 3) := by decide +kernel
theorem dX1_add_19 : decode cX1_add 19 = .ok (.iload_n 1, 1) := by decide +kernel
theorem dX1_add_20 : decode cX1_add 20 = .ok (.iastore, 1) := by decide +kernel
theorem dX1_add_21 : decode cX1_add 21 = .ok (.aload_n 0, 1) := by decide +kernel
theorem dX1_add_22 : decode cX1_add 22 = .ok (.dup, 1) := by decide +kernel
theorem dX1_add_23 : decode cX1_add 23 = .ok (.getfield 15, 3) := by decide +kernel
theorem dX1_add_26 : decode cX1_add 26 = .ok (.iconst 1, 1) := by decide +kernel
theorem dX1_add_27 : decode cX1_add 27 = .ok (.iadd, 1) := by decide +kernel
theorem dX1_add_28 : decode cX1_add 28 = .ok (.putfield 15, 3) := by decide +kernel
theorem dX1_add_31 : decode cX1_add 31 = .ok (.iconst 1, 1) := by decide +kernel
theorem dX1_add_32 : decode cX1_add 32 = .ok (.ireturn, 1) := by decide +kernel
theorem dX1_at_0 : decode cX1_at 0 = .ok (.iload_n 1, 1) := by decide +kernel
theorem dX1_at_1 : decode cX1_at 1 = .ok (.ifCond .lt 20, 3) := by decide +kernel
theorem dX1_at_4 : decode cX1_at 4 = .ok (.iload_n 1, 1) := by decide +kernel
theorem dX1_at_5 : decode cX1_at 5 = .ok (.aload_n 0, 1) := by decide +kernel
theorem dX1_at_6 : decode cX1_at 6 = .ok (.getfield 15, 3) := by decide +kernel
theorem dX1_at_9 : decode cX1_at 9 = .ok (.if_icmp .ge 12, 3) := by decide +kernel
theorem dX1_at_12 : decode cX1_at 12 = .ok (.aload_n 0, 1) := by decide +kernel
theorem dX1_at_13 : decode cX1_at 13 = .ok (.getfield 9, 3) := by decide +kernel
theorem dX1_at_16 : decode cX1_at 16 = .ok (.iload_n 1, 1) := by decide +kernel
theorem dX1_at_17 : decode cX1_at 17 = .ok (.iaload, 1) := by decide +kernel
theorem dX1_at_18 : decode cX1_at 18 = .ok (.goto 4, 3) := by decide +kernel
theorem dX1_at_21 : decode cX1_at 21 = .ok (.iconst (-1), 1) := by decide +kernel
theorem dX1_at_22 : decode cX1_at 22 = .ok (.ireturn, 1) := by decide +kernel
theorem dX1_digitAt_0 : decode cX1_digitAt 0 = .ok (.aload_n 0, 1) := by decide +kernel
theorem dX1_digitAt_1 : decode cX1_digitAt 1 = .ok (.iload_n 1, 1) := by decide +kernel
theorem dX1_digitAt_2 : decode cX1_digitAt 2 = .ok (.invokevirtual 19, 3) := by decide +kernel
theorem dX1_digitAt_5 : decode cX1_digitAt 5 = .ok (.istore_n 2, 1) := by decide +kernel
theorem dX1_digitAt_6 : decode cX1_digitAt 6 = .ok (.iload_n 2, 1) := by decide +kernel
theorem dX1_digitAt_7 : decode cX1_digitAt 7 = .ok (.invokestatic 23, 3) := by decide +kernel
theorem dX1_digitAt_10 : decode cX1_digitAt 10 = .ok (.ifCond .eq 10, 3) := by decide +kernel
theorem dX1_digitAt_13 : decode cX1_digitAt 13 = .ok (.iload_n 2, 1) := by decide +kernel
theorem dX1_digitAt_14 : decode cX1_digitAt 14 = .ok (.bipush 48, 2) := by decide +kernel
theorem dX1_digitAt_16 : decode cX1_digitAt 16 = .ok (.isub, 1) := by decide +kernel
theorem dX1_digitAt_17 : decode cX1_digitAt 17 = .ok (.goto 4, 3) := by decide +kernel
theorem dX1_digitAt_20 : decode cX1_digitAt 20 = .ok (.iconst (-1), 1) := by decide +kernel
theorem dX1_digitAt_21 : decode cX1_digitAt 21 = .ok (.ireturn, 1) := by decide +kernel
theorem dX1_beginsAt_0 : decode cX1_beginsAt 0 = .ok (.iload_n 1, 1) := by decide +kernel
theorem dX1_beginsAt_1 : decode cX1_beginsAt 1 = .ok (.ifCond .eq 15, 3) := by decide +kernel
theorem dX1_beginsAt_4 : decode cX1_beginsAt 4 = .ok (.aload_n 0, 1) := by decide +kernel
theorem dX1_beginsAt_5 : decode cX1_beginsAt 5 = .ok (.iload_n 1, 1) := by decide +kernel
theorem dX1_beginsAt_6 : decode cX1_beginsAt 6 = .ok (.iconst 1, 1) := by decide +kernel
theorem dX1_beginsAt_7 : decode cX1_beginsAt 7 = .ok (.isub, 1) := by decide +kernel
theorem dX1_beginsAt_8 : decode cX1_beginsAt 8 = .ok (.invokevirtual 19, 3) := by decide +kernel
theorem dX1_beginsAt_11 : decode cX1_beginsAt 11 = .ok (.bipush 59, 2) := by decide +kernel
theorem dX1_beginsAt_13 : decode cX1_beginsAt 13 = .ok (.if_icmp .ne 7, 3) := by decide +kernel
theorem dX1_beginsAt_16 : decode cX1_beginsAt 16 = .ok (.iconst 1, 1) := by decide +kernel
theorem dX1_beginsAt_17 : decode cX1_beginsAt 17 = .ok (.goto 4, 3) := by decide +kernel
theorem dX1_beginsAt_20 : decode cX1_beginsAt 20 = .ok (.iconst 0, 1) := by decide +kernel
theorem dX1_beginsAt_21 : decode cX1_beginsAt 21 = .ok (.ireturn, 1) := by decide +kernel
theorem dX1_firstFault_0 : decode cX1_firstFault 0 = .ok (.iconst (-1), 1) := by decide +kernel
theorem dX1_firstFault_1 : decode cX1_firstFault 1 = .ok (.istore_n 1, 1) := by decide +kernel
theorem dX1_firstFault_2 : decode cX1_firstFault 2 = .ok (.iconst 0, 1) := by decide +kernel
theorem dX1_firstFault_3 : decode cX1_firstFault 3 = .ok (.istore_n 2, 1) := by decide +kernel
theorem dX1_firstFault_4 : decode cX1_firstFault 4 = .ok (.iload_n 2, 1) := by decide +kernel
theorem dX1_firstFault_5 : decode cX1_firstFault 5 = .ok (.aload_n 0, 1) := by decide +kernel
theorem dX1_firstFault_6 : decode cX1_firstFault 6 = .ok (.getfield 15, 3) := by decide +kernel
theorem dX1_firstFault_9 : decode cX1_firstFault 9 = .ok (.if_icmp .ge 61, 3) := by decide +kernel
theorem dX1_firstFault_12 : decode cX1_firstFault 12 = .ok (.aload_n 0, 1) := by decide +kernel
theorem dX1_firstFault_13 : decode cX1_firstFault 13 = .ok (.getfield 9, 3) := by decide +kernel
theorem dX1_firstFault_16 : decode cX1_firstFault 16 = .ok (.iload_n 2, 1) := by decide +kernel
theorem dX1_firstFault_17 : decode cX1_firstFault 17 = .ok (.iaload, 1) := by decide +kernel
theorem dX1_firstFault_18 : decode cX1_firstFault 18 = .ok (.istore_n 3, 1) := by decide +kernel
theorem dX1_firstFault_19 : decode cX1_firstFault 19 = .ok (.iload_n 1, 1) := by decide +kernel
theorem dX1_firstFault_20 : decode cX1_firstFault 20 = .ok (.iconst (-1), 1) := by decide +kernel
theorem dX1_firstFault_21 : decode cX1_firstFault 21 = .ok (.if_icmp .ne 14, 3) := by decide +kernel
theorem dX1_firstFault_24 : decode cX1_firstFault 24 = .ok (.iload_n 3, 1) := by decide +kernel
theorem dX1_firstFault_25 : decode cX1_firstFault 25 = .ok (.invokestatic 27, 3) := by decide +kernel
theorem dX1_firstFault_28 : decode cX1_firstFault 28 = .ok (.istore_n 1, 1) := by decide +kernel
theorem dX1_firstFault_29 : decode cX1_firstFault 29 = .ok (.iload_n 1, 1) := by decide +kernel
theorem dX1_firstFault_30 : decode cX1_firstFault 30 = .ok (.ifCond .ge 34, 3) := by decide +kernel
theorem dX1_firstFault_33 : decode cX1_firstFault 33 = .ok (.iload_n 2, 1) := by decide +kernel
theorem dX1_firstFault_34 : decode cX1_firstFault 34 = .ok (.ireturn, 1) := by decide +kernel
theorem dX1_firstFault_35 : decode cX1_firstFault 35 = .ok (.iload_n 1, 1) := by decide +kernel
theorem dX1_firstFault_36 : decode cX1_firstFault 36 = .ok (.ifCond .le 18, 3) := by decide +kernel
theorem dX1_firstFault_39 : decode cX1_firstFault 39 = .ok (.iload_n 3, 1) := by decide +kernel
theorem dX1_firstFault_40 : decode cX1_firstFault 40 = .ok (.invokestatic 23, 3) := by decide +kernel
theorem dX1_firstFault_43 : decode cX1_firstFault 43 = .ok (.ifCond .ne 5, 3) := by decide +kernel
theorem dX1_firstFault_46 : decode cX1_firstFault 46 = .ok (.iload_n 2, 1) := by decide +kernel
theorem dX1_firstFault_47 : decode cX1_firstFault 47 = .ok (.ireturn, 1) := by decide +kernel
theorem dX1_firstFault_48 : decode cX1_firstFault 48 = .ok (.iinc 1 (-1), 3) := by decide +kernel
theorem dX1_firstFault_51 : decode cX1_firstFault 51 = .ok (.goto 13, 3) := by decide +kernel
theorem dX1_firstFault_54 : decode cX1_firstFault 54 = .ok (.iload_n 3, 1) := by decide +kernel
theorem dX1_firstFault_55 : decode cX1_firstFault 55 = .ok (.bipush 59, 2) := by decide +kernel
theorem dX1_firstFault_57 : decode cX1_firstFault 57 = .ok (.if_icmp .eq 5, 3) := by decide +kernel
theorem dX1_firstFault_60 : decode cX1_firstFault 60 = .ok (.iload_n 2, 1) := by decide +kernel
theorem dX1_firstFault_61 : decode cX1_firstFault 61 = .ok (.ireturn, 1) := by decide +kernel
theorem dX1_firstFault_62 : decode cX1_firstFault 62 = .ok (.iconst (-1), 1) := by decide +kernel
theorem dX1_firstFault_63 : decode cX1_firstFault 63 = .ok (.istore_n 1, 1) := by decide +kernel
theorem dX1_firstFault_64 : decode cX1_firstFault 64 = .ok (.iinc 2 1, 3) := by decide +kernel
theorem dX1_firstFault_67 : decode cX1_firstFault 67 = .ok (.goto (-63), 3) := by decide +kernel
theorem dX1_firstFault_70 : decode cX1_firstFault 70 = .ok (.aload_n 0, 1) := by decide +kernel
theorem dX1_firstFault_71 : decode cX1_firstFault 71 = .ok (.getfield 15, 3) := by decide +kernel
theorem dX1_firstFault_74 : decode cX1_firstFault 74 = .ok (.ifCond .le 12, 3) := by decide +kernel
theorem dX1_firstFault_77 : decode cX1_firstFault 77 = .ok (.iload_n 1, 1) := by decide +kernel
theorem dX1_firstFault_78 : decode cX1_firstFault 78 = .ok (.iconst (-1), 1) := by decide +kernel
theorem dX1_firstFault_79 : decode cX1_firstFault 79 = .ok (.if_icmp .ne 7, 3) := by decide +kernel
theorem dX1_firstFault_82 : decode cX1_firstFault 82 = .ok (.iconst (-1), 1) := by decide +kernel
theorem dX1_firstFault_83 : decode cX1_firstFault 83 = .ok (.goto 7, 3) := by decide +kernel
theorem dX1_firstFault_86 : decode cX1_firstFault 86 = .ok (.aload_n 0, 1) := by decide +kernel
theorem dX1_firstFault_87 : decode cX1_firstFault 87 = .ok (.getfield 15, 3) := by decide +kernel
theorem dX1_firstFault_90 : decode cX1_firstFault 90 = .ok (.ireturn, 1) := by decide +kernel
theorem dX1_isDigit_0 : decode cX1_isDigit 0 = .ok (.iload_n 0, 1) := by decide +kernel
theorem dX1_isDigit_1 : decode cX1_isDigit 1 = .ok (.bipush 48, 2) := by decide +kernel
theorem dX1_isDigit_3 : decode cX1_isDigit 3 = .ok (.if_icmp .lt 13, 3) := by decide +kernel
theorem dX1_isDigit_6 : decode cX1_isDigit 6 = .ok (.iload_n 0, 1) := by decide +kernel
theorem dX1_isDigit_7 : decode cX1_isDigit 7 = .ok (.bipush 57, 2) := by decide +kernel
theorem dX1_isDigit_9 : decode cX1_isDigit 9 = .ok (.if_icmp .gt 7, 3) := by decide +kernel
theorem dX1_isDigit_12 : decode cX1_isDigit 12 = .ok (.iconst 1, 1) := by decide +kernel
theorem dX1_isDigit_13 : decode cX1_isDigit 13 = .ok (.goto 4, 3) := by decide +kernel
theorem dX1_isDigit_16 : decode cX1_isDigit 16 = .ok (.iconst 0, 1) := by decide +kernel
theorem dX1_isDigit_17 : decode cX1_isDigit 17 = .ok (.ireturn, 1) := by decide +kernel
theorem dX1_digitsBehind_0 : decode cX1_digitsBehind 0 = .ok (.iload_n 0, 1) := by decide +kernel
theorem dX1_digitsBehind_1 : decode cX1_digitsBehind 1 = .ok (.lookupswitch 67 #[(98, 61), (99, 59), (100, 63), (110, 63), (118, 65), (120, 63)], 59) := by decide +kernel
theorem dX1_digitsBehind_60 : decode cX1_digitsBehind 60 = .ok (.iconst 0, 1) := by decide +kernel
theorem dX1_digitsBehind_61 : decode cX1_digitsBehind 61 = .ok (.ireturn, 1) := by decide +kernel
theorem dX1_digitsBehind_62 : decode cX1_digitsBehind 62 = .ok (.iconst 1, 1) := by decide +kernel
theorem dX1_digitsBehind_63 : decode cX1_digitsBehind 63 = .ok (.ireturn, 1) := by decide +kernel
theorem dX1_digitsBehind_64 : decode cX1_digitsBehind 64 = .ok (.iconst 2, 1) := by decide +kernel
theorem dX1_digitsBehind_65 : decode cX1_digitsBehind 65 = .ok (.ireturn, 1) := by decide +kernel
theorem dX1_digitsBehind_66 : decode cX1_digitsBehind 66 = .ok (.iconst 3, 1) := by decide +kernel
theorem dX1_digitsBehind_67 : decode cX1_digitsBehind 67 = .ok (.ireturn, 1) := by decide +kernel
theorem dX1_digitsBehind_68 : decode cX1_digitsBehind 68 = .ok (.iconst (-1), 1) := by decide +kernel
theorem dX1_digitsBehind_69 : decode cX1_digitsBehind 69 = .ok (.ireturn, 1) := by decide +kernel
theorem dX2_init_0 : decode cX2_init 0 = .ok (.aload_n 0, 1) := by decide +kernel
theorem dX2_init_1 : decode cX2_init 1 = .ok (.invokespecial 3, 3) := by decide +kernel
theorem dX2_init_4 : decode cX2_init 4 = .ok (.aload_n 0, 1) := by decide +kernel
theorem dX2_init_5 : decode cX2_init 5 = .ok (.bipush 12, 2) := by decide +kernel
theorem dX2_init_7 : decode cX2_init 7 = .ok (.newarray .int, 2) := by decide +kernel
theorem dX2_init_9 : decode cX2_init 9 = .ok (.putfield 9, 3) := by decide +kernel
theorem dX2_init_12 : decode cX2_init 12 = .ok (.return_, 1) := by decide +kernel
theorem dX2_size_0 : decode cX2_size 0 = .ok (.aload_n 0, 1) := by decide +kernel
theorem dX2_size_1 : decode cX2_size 1 = .ok (.getfield 15, 3) := by decide +kernel
theorem dX2_size_4 : decode cX2_size 4 = .ok (.ireturn, 1) := by decide +kernel
theorem dX2_drop_0 : decode cX2_drop 0 = .ok (.aload_n 0, 1) := by decide +kernel
theorem dX2_drop_1 : decode cX2_drop 1 = .ok (.iconst 0, 1) := by decide +kernel
theorem dX2_drop_2 : decode cX2_drop 2 = .ok (.putfield 15, 3) := by decide +kernel
theorem dX2_drop_5 : decode cX2_drop 5 = .ok (.return_, 1) := by decide +kernel
theorem dX2_add_0 : decode cX2_add 0 = .ok (.aload_n 0, 1) := by decide +kernel
theorem dX2_add_1 : decode cX2_add 1 = .ok (.getfield 15, 3) := by decide +kernel
theorem dX2_add_4 : decode cX2_add 4 = .ok (.bipush 12, 2) := by decide +kernel
theorem dX2_add_6 : decode cX2_add 6 = .ok (.if_icmp .lt 5, 3) := by decide +kernel
theorem dX2_add_9 : decode cX2_add 9 = .ok (.iconst 0, 1) := by decide +kernel
theorem dX2_add_10 : decode cX2_add 10 = .ok (.ireturn, 1) := by decide +kernel
theorem dX2_add_11 : decode cX2_add 11 = .ok (.aload_n 0, 1) := by decide +kernel
theorem dX2_add_12 : decode cX2_add 12 = .ok (.getfield 9, 3) := by decide +kernel
theorem dX2_add_15 : decode cX2_add 15 = .ok (.aload_n 0, 1) := by decide +kernel
theorem dX2_add_16 : decode cX2_add 16 = .ok (.getfield 15, 3) := by decide +kernel
theorem dX2_add_19 : decode cX2_add 19 = .ok (.iload_n 1, 1) := by decide +kernel
theorem dX2_add_20 : decode cX2_add 20 = .ok (.iastore, 1) := by decide +kernel
theorem dX2_add_21 : decode cX2_add 21 = .ok (.aload_n 0, 1) := by decide +kernel
theorem dX2_add_22 : decode cX2_add 22 = .ok (.dup, 1) := by decide +kernel
theorem dX2_add_23 : decode cX2_add 23 = .ok (.getfield 15, 3) := by decide +kernel
theorem dX2_add_26 : decode cX2_add 26 = .ok (.iconst 1, 1) := by decide +kernel
theorem dX2_add_27 : decode cX2_add 27 = .ok (.iadd, 1) := by decide +kernel
theorem dX2_add_28 : decode cX2_add 28 = .ok (.putfield 15, 3) := by decide +kernel
theorem dX2_add_31 : decode cX2_add 31 = .ok (.iconst 1, 1) := by decide +kernel
theorem dX2_add_32 : decode cX2_add 32 = .ok (.ireturn, 1) := by decide +kernel
theorem dX2_at_0 : decode cX2_at 0 = .ok (.iload_n 1, 1) := by decide +kernel
theorem dX2_at_1 : decode cX2_at 1 = .ok (.ifCond .lt 20, 3) := by decide +kernel
theorem dX2_at_4 : decode cX2_at 4 = .ok (.iload_n 1, 1) := by decide +kernel
theorem dX2_at_5 : decode cX2_at 5 = .ok (.aload_n 0, 1) := by decide +kernel
theorem dX2_at_6 : decode cX2_at 6 = .ok (.getfield 15, 3) := by decide +kernel
theorem dX2_at_9 : decode cX2_at 9 = .ok (.if_icmp .ge 12, 3) := by decide +kernel
theorem dX2_at_12 : decode cX2_at 12 = .ok (.aload_n 0, 1) := by decide +kernel
theorem dX2_at_13 : decode cX2_at 13 = .ok (.getfield 9, 3) := by decide +kernel
theorem dX2_at_16 : decode cX2_at 16 = .ok (.iload_n 1, 1) := by decide +kernel
theorem dX2_at_17 : decode cX2_at 17 = .ok (.iaload, 1) := by decide +kernel
theorem dX2_at_18 : decode cX2_at 18 = .ok (.goto 4, 3) := by decide +kernel
theorem dX2_at_21 : decode cX2_at 21 = .ok (.iconst (-1), 1) := by decide +kernel
theorem dX2_at_22 : decode cX2_at 22 = .ok (.ireturn, 1) := by decide +kernel
theorem dX3_init_0 : decode cX3_init 0 = .ok (.aload_n 0, 1) := by decide +kernel
theorem dX3_init_1 : decode cX3_init 1 = .ok (.invokespecial 3, 3) := by decide +kernel
theorem dX3_init_4 : decode cX3_init 4 = .ok (.aload_n 0, 1) := by decide +kernel
theorem dX3_init_5 : decode cX3_init 5 = .ok (.bipush 9, 2) := by decide +kernel
theorem dX3_init_7 : decode cX3_init 7 = .ok (.newarray .int, 2) := by decide +kernel
theorem dX3_init_9 : decode cX3_init 9 = .ok (.putfield 9, 3) := by decide +kernel
theorem dX3_init_12 : decode cX3_init 12 = .ok (.aload_n 0, 1) := by decide +kernel
theorem dX3_init_13 : decode cX3_init 13 = .ok (.bipush 9, 2) := by decide +kernel
theorem dX3_init_15 : decode cX3_init 15 = .ok (.newarray .int, 2) := by decide +kernel
theorem dX3_init_17 : decode cX3_init 17 = .ok (.putfield 15, 3) := by decide +kernel
theorem dX3_init_20 : decode cX3_init 20 = .ok (.aload_n 0, 1) := by decide +kernel
theorem dX3_init_21 : decode cX3_init 21 = .ok (.bipush 9, 2) := by decide +kernel
theorem dX3_init_23 : decode cX3_init 23 = .ok (.newarray .int, 2) := by decide +kernel
theorem dX3_init_25 : decode cX3_init 25 = .ok (.putfield 18, 3) := by decide +kernel
theorem dX3_init_28 : decode cX3_init 28 = .ok (.aload_n 0, 1) := by decide +kernel
theorem dX3_init_29 : decode cX3_init 29 = .ok (.bipush 9, 2) := by decide +kernel
theorem dX3_init_31 : decode cX3_init 31 = .ok (.newarray .int, 2) := by decide +kernel
theorem dX3_init_33 : decode cX3_init 33 = .ok (.putfield 21, 3) := by decide +kernel
theorem dX3_init_36 : decode cX3_init 36 = .ok (.return_, 1) := by decide +kernel
theorem dX3_become_0 : decode cX3_become 0 = .ok (.aload_n 1, 1) := by decide +kernel
theorem dX3_become_1 : decode cX3_become 1 = .ok (.ifnonnull 4, 3) := by decide +kernel
theorem dX3_become_4 : decode cX3_become 4 = .ok (.return_, 1) := by decide +kernel
theorem dX3_become_5 : decode cX3_become 5 = .ok (.aload_n 1, 1) := by decide +kernel
theorem dX3_become_6 : decode cX3_become 6 = .ok (.getfield 9, 3) := by decide +kernel
theorem dX3_become_9 : decode cX3_become 9 = .ok (.iconst 0, 1) := by decide +kernel
theorem dX3_become_10 : decode cX3_become 10 = .ok (.aload_n 0, 1) := by decide +kernel
theorem dX3_become_11 : decode cX3_become 11 = .ok (.getfield 9, 3) := by decide +kernel
theorem dX3_become_14 : decode cX3_become 14 = .ok (.iconst 0, 1) := by decide +kernel
theorem dX3_become_15 : decode cX3_become 15 = .ok (.bipush 9, 2) := by decide +kernel
theorem dX3_become_17 : decode cX3_become 17 = .ok (.invokestatic 24, 3) := by decide +kernel
theorem dX3_become_20 : decode cX3_become 20 = .ok (.aload_n 1, 1) := by decide +kernel
theorem dX3_become_21 : decode cX3_become 21 = .ok (.getfield 15, 3) := by decide +kernel
theorem dX3_become_24 : decode cX3_become 24 = .ok (.iconst 0, 1) := by decide +kernel
theorem dX3_become_25 : decode cX3_become 25 = .ok (.aload_n 0, 1) := by decide +kernel
theorem dX3_become_26 : decode cX3_become 26 = .ok (.getfield 15, 3) := by decide +kernel
theorem dX3_become_29 : decode cX3_become 29 = .ok (.iconst 0, 1) := by decide +kernel
theorem dX3_become_30 : decode cX3_become 30 = .ok (.bipush 9, 2) := by decide +kernel
theorem dX3_become_32 : decode cX3_become 32 = .ok (.invokestatic 24, 3) := by decide +kernel
theorem dX3_become_35 : decode cX3_become 35 = .ok (.aload_n 1, 1) := by decide +kernel
theorem dX3_become_36 : decode cX3_become 36 = .ok (.getfield 18, 3) := by decide +kernel
theorem dX3_become_39 : decode cX3_become 39 = .ok (.iconst 0, 1) := by decide +kernel
theorem dX3_become_40 : decode cX3_become 40 = .ok (.aload_n 0, 1) := by decide +kernel
theorem dX3_become_41 : decode cX3_become 41 = .ok (.getfield 18, 3) := by decide +kernel
theorem dX3_become_44 : decode cX3_become 44 = .ok (.iconst 0, 1) := by decide +kernel
theorem dX3_become_45 : decode cX3_become 45 = .ok (.bipush 9, 2) := by decide +kernel
theorem dX3_become_47 : decode cX3_become 47 = .ok (.invokestatic 24, 3) := by decide +kernel
theorem dX3_become_50 : decode cX3_become 50 = .ok (.aload_n 1, 1) := by decide +kernel
theorem dX3_become_51 : decode cX3_become 51 = .ok (.getfield 21, 3) := by decide +kernel
theorem dX3_become_54 : decode cX3_become 54 = .ok (.iconst 0, 1) := by decide +kernel
theorem dX3_become_55 : decode cX3_become 55 = .ok (.aload_n 0, 1) := by decide +kernel
theorem dX3_become_56 : decode cX3_become 56 = .ok (.getfield 21, 3) := by decide +kernel
theorem dX3_become_59 : decode cX3_become 59 = .ok (.iconst 0, 1) := by decide +kernel
theorem dX3_become_60 : decode cX3_become 60 = .ok (.bipush 9, 2) := by decide +kernel
theorem dX3_become_62 : decode cX3_become 62 = .ok (.invokestatic 24, 3) := by decide +kernel
theorem dX3_become_65 : decode cX3_become 65 = .ok (.aload_n 0, 1) := by decide +kernel
theorem dX3_become_66 : decode cX3_become 66 = .ok (.aload_n 1, 1) := by decide +kernel
theorem dX3_become_67 : decode cX3_become 67 = .ok (.getfield 30, 3) := by decide +kernel
theorem dX3_become_70 : decode cX3_become 70 = .ok (.putfield 30, 3) := by decide +kernel
theorem dX3_become_73 : decode cX3_become 73 = .ok (.aload_n 0, 1) := by decide +kernel
theorem dX3_become_74 : decode cX3_become 74 = .ok (.aload_n 1, 1) := by decide +kernel
theorem dX3_become_75 : decode cX3_become 75 = .ok (.getfield 34, 3) := by decide +kernel
theorem dX3_become_78 : decode cX3_become 78 = .ok (.putfield 34, 3) := by decide +kernel
theorem dX3_become_81 : decode cX3_become 81 = .ok (.aload_n 0, 1) := by decide +kernel
theorem dX3_become_82 : decode cX3_become 82 = .ok (.aload_n 1, 1) := by decide +kernel
theorem dX3_become_83 : decode cX3_become 83 = .ok (.getfield 37, 3) := by decide +kernel
theorem dX3_become_86 : decode cX3_become 86 = .ok (.putfield 37, 3) := by decide +kernel
theorem dX3_become_89 : decode cX3_become 89 = .ok (.aload_n 0, 1) := by decide +kernel
theorem dX3_become_90 : decode cX3_become 90 = .ok (.aload_n 1, 1) := by decide +kernel
theorem dX3_become_91 : decode cX3_become 91 = .ok (.getfield 40, 3) := by decide +kernel
theorem dX3_become_94 : decode cX3_become 94 = .ok (.putfield 40, 3) := by decide +kernel
theorem dX3_become_97 : decode cX3_become 97 = .ok (.aload_n 0, 1) := by decide +kernel
theorem dX3_become_98 : decode cX3_become 98 = .ok (.aload_n 1, 1) := by decide +kernel
theorem dX3_become_99 : decode cX3_become 99 = .ok (.getfield 43, 3) := by decide +kernel
theorem dX3_become_102 : decode cX3_become 102 = .ok (.putfield 43, 3) := by decide +kernel
theorem dX3_become_105 : decode cX3_become 105 = .ok (.return_, 1) := by decide +kernel
theorem dX3_there_0 : decode cX3_there 0 = .ok (.iload_n 1, 1) := by decide +kernel
theorem dX3_there_1 : decode cX3_there 1 = .ok (.ifCond .lt 15, 3) := by decide +kernel
theorem dX3_there_4 : decode cX3_there 4 = .ok (.iload_n 1, 1) := by decide +kernel
theorem dX3_there_5 : decode cX3_there 5 = .ok (.aload_n 0, 1) := by decide +kernel
theorem dX3_there_6 : decode cX3_there 6 = .ok (.getfield 30, 3) := by decide +kernel
theorem dX3_there_9 : decode cX3_there 9 = .ok (.if_icmp .ge 7, 3) := by decide +kernel
theorem dX3_there_12 : decode cX3_there 12 = .ok (.iconst 1, 1) := by decide +kernel
theorem dX3_there_13 : decode cX3_there 13 = .ok (.goto 4, 3) := by decide +kernel
theorem dX3_there_16 : decode cX3_there 16 = .ok (.iconst 0, 1) := by decide +kernel
theorem dX3_there_17 : decode cX3_there 17 = .ok (.ireturn, 1) := by decide +kernel
theorem dX3_houses_0 : decode cX3_houses 0 = .ok (.aload_n 0, 1) := by decide +kernel
theorem dX3_houses_1 : decode cX3_houses 1 = .ok (.getfield 30, 3) := by decide +kernel
theorem dX3_houses_4 : decode cX3_houses 4 = .ok (.ireturn, 1) := by decide +kernel
theorem dX3_kindOf_0 : decode cX3_kindOf 0 = .ok (.aload_n 0, 1) := by decide +kernel
theorem dX3_kindOf_1 : decode cX3_kindOf 1 = .ok (.iload_n 1, 1) := by decide +kernel
theorem dX3_kindOf_2 : decode cX3_kindOf 2 = .ok (.invokevirtual 46, 3) := by decide +kernel
theorem dX3_kindOf_5 : decode cX3_kindOf 5 = .ok (.ifCond .eq 12, 3) := by decide +kernel
theorem dX3_kindOf_8 : decode cX3_kindOf 8 = .ok (.aload_n 0, 1) := by decide +kernel
theorem dX3_kindOf_9 : decode cX3_kindOf 9 = .ok (.getfield 9, 3) := by decide +kernel
theorem dX3_kindOf_12 : decode cX3_kindOf 12 = .ok (.iload_n 1, 1) := by decide +kernel
theorem dX3_kindOf_13 : decode cX3_kindOf 13 = .ok (.iaload, 1) := by decide +kernel
theorem dX3_kindOf_14 : decode cX3_kindOf 14 = .ok (.goto 4, 3) := by decide +kernel
theorem dX3_kindOf_17 : decode cX3_kindOf 17 = .ok (.iconst 0, 1) := by decide +kernel
theorem dX3_kindOf_18 : decode cX3_kindOf 18 = .ok (.ireturn, 1) := by decide +kernel
theorem dX3_figureOf_0 : decode cX3_figureOf 0 = .ok (.aload_n 0, 1) := by decide +kernel
theorem dX3_figureOf_1 : decode cX3_figureOf 1 = .ok (.iload_n 1, 1) := by decide +kernel
theorem dX3_figureOf_2 : decode cX3_figureOf 2 = .ok (.invokevirtual 46, 3) := by decide +kernel
theorem dX3_figureOf_5 : decode cX3_figureOf 5 = .ok (.ifCond .eq 12, 3) := by decide +kernel
theorem dX3_figureOf_8 : decode cX3_figureOf 8 = .ok (.aload_n 0, 1) := by decide +kernel
theorem dX3_figureOf_9 : decode cX3_figureOf 9 = .ok (.getfield 15, 3) := by decide +kernel
theorem dX3_figureOf_12 : decode cX3_figureOf 12 = .ok (.iload_n 1, 1) := by decide +kernel
theorem dX3_figureOf_13 : decode cX3_figureOf 13 = .ok (.iaload, 1) := by decide +kernel
theorem dX3_figureOf_14 : decode cX3_figureOf 14 = .ok (.goto 4, 3) := by decide +kernel
theorem dX3_figureOf_17 : decode cX3_figureOf 17 = .ok (.iconst 0, 1) := by decide +kernel
theorem dX3_figureOf_18 : decode cX3_figureOf 18 = .ok (.ireturn, 1) := by decide +kernel
theorem dX3_holdsOf_0 : decode cX3_holdsOf 0 = .ok (.aload_n 0, 1) := by decide +kernel
theorem dX3_holdsOf_1 : decode cX3_holdsOf 1 = .ok (.iload_n 1, 1) := by decide +kernel
theorem dX3_holdsOf_2 : decode cX3_holdsOf 2 = .ok (.invokevirtual 46, 3) := by decide +kernel
theorem dX3_holdsOf_5 : decode cX3_holdsOf 5 = .ok (.ifCond .eq 12, 3) := by decide +kernel
theorem dX3_holdsOf_8 : decode cX3_holdsOf 8 = .ok (.aload_n 0, 1) := by decide +kernel
theorem dX3_holdsOf_9 : decode cX3_holdsOf 9 = .ok (.getfield 18, 3) := by decide +kernel
theorem dX3_holdsOf_12 : decode cX3_holdsOf 12 = .ok (.iload_n 1, 1) := by decide +kernel
theorem dX3_holdsOf_13 : decode cX3_holdsOf 13 = .ok (.iaload, 1) := by decide +kernel
theorem dX3_holdsOf_14 : decode cX3_holdsOf 14 = .ok (.goto 4, 3) := by decide +kernel
theorem dX3_holdsOf_17 : decode cX3_holdsOf 17 = .ok (.iconst 0, 1) := by decide +kernel
theorem dX3_holdsOf_18 : decode cX3_holdsOf 18 = .ok (.ireturn, 1) := by decide +kernel
theorem dX3_nextOf_0 : decode cX3_nextOf 0 = .ok (.aload_n 0, 1) := by decide +kernel
theorem dX3_nextOf_1 : decode cX3_nextOf 1 = .ok (.iload_n 1, 1) := by decide +kernel
theorem dX3_nextOf_2 : decode cX3_nextOf 2 = .ok (.invokevirtual 46, 3) := by decide +kernel
theorem dX3_nextOf_5 : decode cX3_nextOf 5 = .ok (.ifCond .eq 12, 3) := by decide +kernel
theorem dX3_nextOf_8 : decode cX3_nextOf 8 = .ok (.aload_n 0, 1) := by decide +kernel
theorem dX3_nextOf_9 : decode cX3_nextOf 9 = .ok (.getfield 21, 3) := by decide +kernel
theorem dX3_nextOf_12 : decode cX3_nextOf 12 = .ok (.iload_n 1, 1) := by decide +kernel
theorem dX3_nextOf_13 : decode cX3_nextOf 13 = .ok (.iaload, 1) := by decide +kernel
theorem dX3_nextOf_14 : decode cX3_nextOf 14 = .ok (.goto 4, 3) := by decide +kernel
theorem dX3_nextOf_17 : decode cX3_nextOf 17 = .ok (.iconst 0, 1) := by decide +kernel
theorem dX3_nextOf_18 : decode cX3_nextOf 18 = .ok (.ireturn, 1) := by decide +kernel
theorem dX3_isBlocked_0 : decode cX3_isBlocked 0 = .ok (.aload_n 0, 1) := by decide +kernel
theorem dX3_isBlocked_1 : decode cX3_isBlocked 1 = .ok (.iload_n 1, 1) := by decide +kernel
theorem dX3_isBlocked_2 : decode cX3_isBlocked 2 = .ok (.invokevirtual 46, 3) := by decide +kernel
theorem dX3_isBlocked_5 : decode cX3_isBlocked 5 = .ok (.ifCond .eq 19, 3) := by decide +kernel
theorem dX3_isBlocked_8 : decode cX3_isBlocked 8 = .ok (.aload_n 0, 1) := by decide +kernel
theorem dX3_isBlocked_9 : decode cX3_isBlocked 9 = .ok (.getfield 34, 3) := by decide +kernel
theorem dX3_isBlocked_12 : decode cX3_isBlocked 12 = .ok (.iload_n 1, 1) := by decide +kernel
theorem dX3_isBlocked_13 : decode cX3_isBlocked 13 = .ok (.ishr, 1) := by decide +kernel
theorem dX3_isBlocked_14 : decode cX3_isBlocked 14 = .ok (.iconst 1, 1) := by decide +kernel
theorem dX3_isBlocked_15 : decode cX3_isBlocked 15 = .ok (.iand, 1) := by decide +kernel
theorem dX3_isBlocked_16 : decode cX3_isBlocked 16 = .ok (.iconst 1, 1) := by decide +kernel
theorem dX3_isBlocked_17 : decode cX3_isBlocked 17 = .ok (.if_icmp .ne 7, 3) := by decide +kernel
theorem dX3_isBlocked_20 : decode cX3_isBlocked 20 = .ok (.iconst 1, 1) := by decide +kernel
theorem dX3_isBlocked_21 : decode cX3_isBlocked 21 = .ok (.goto 4, 3) := by decide +kernel
theorem dX3_isBlocked_24 : decode cX3_isBlocked 24 = .ok (.iconst 0, 1) := by decide +kernel
theorem dX3_isBlocked_25 : decode cX3_isBlocked 25 = .ok (.ireturn, 1) := by decide +kernel
theorem dX3_isWet_0 : decode cX3_isWet 0 = .ok (.aload_n 0, 1) := by decide +kernel
theorem dX3_isWet_1 : decode cX3_isWet 1 = .ok (.iload_n 1, 1) := by decide +kernel
theorem dX3_isWet_2 : decode cX3_isWet 2 = .ok (.invokevirtual 46, 3) := by decide +kernel
theorem dX3_isWet_5 : decode cX3_isWet 5 = .ok (.ifCond .eq 19, 3) := by decide +kernel
theorem dX3_isWet_8 : decode cX3_isWet 8 = .ok (.aload_n 0, 1) := by decide +kernel
theorem dX3_isWet_9 : decode cX3_isWet 9 = .ok (.getfield 37, 3) := by decide +kernel
theorem dX3_isWet_12 : decode cX3_isWet 12 = .ok (.iload_n 1, 1) := by decide +kernel
theorem dX3_isWet_13 : decode cX3_isWet 13 = .ok (.ishr, 1) := by decide +kernel
theorem dX3_isWet_14 : decode cX3_isWet 14 = .ok (.iconst 1, 1) := by decide +kernel
theorem dX3_isWet_15 : decode cX3_isWet 15 = .ok (.iand, 1) := by decide +kernel
theorem dX3_isWet_16 : decode cX3_isWet 16 = .ok (.iconst 1, 1) := by decide +kernel
theorem dX3_isWet_17 : decode cX3_isWet 17 = .ok (.if_icmp .ne 7, 3) := by decide +kernel
theorem dX3_isWet_20 : decode cX3_isWet 20 = .ok (.iconst 1, 1) := by decide +kernel
theorem dX3_isWet_21 : decode cX3_isWet 21 = .ok (.goto 4, 3) := by decide +kernel
theorem dX3_isWet_24 : decode cX3_isWet 24 = .ok (.iconst 0, 1) := by decide +kernel
theorem dX3_isWet_25 : decode cX3_isWet 25 = .ok (.ireturn, 1) := by decide +kernel
theorem dX3_letsThrough_0 : decode cX3_letsThrough 0 = .ok (.aload_n 0, 1) := by decide +kernel
theorem dX3_letsThrough_1 : decode cX3_letsThrough 1 = .ok (.iload_n 1, 1) := by decide +kernel
theorem dX3_letsThrough_2 : decode cX3_letsThrough 2 = .ok (.invokevirtual 46, 3) := by decide +kernel
theorem dX3_letsThrough_5 : decode cX3_letsThrough 5 = .ok (.ifCond .eq 27, 3) := by decide +kernel
theorem dX3_letsThrough_8 : decode cX3_letsThrough 8 = .ok (.aload_n 0, 1) := by decide +kernel
theorem dX3_letsThrough_9 : decode cX3_letsThrough 9 = .ok (.getfield 9, 3) := by decide +kernel
theorem dX3_letsThrough_12 : decode cX3_letsThrough 12 = .ok (.iload_n 1, 1) := by decide +kernel
theorem dX3_letsThrough_13 : decode cX3_letsThrough 13 = .ok (.iaload, 1) := by decide +kernel
theorem dX3_letsThrough_14 : decode cX3_letsThrough 14 = .ok (.aload_n 0, 1) := by decide +kernel
theorem dX3_letsThrough_15 : decode cX3_letsThrough 15 = .ok (.getfield 15, 3) := by decide +kernel
theorem dX3_letsThrough_18 : decode cX3_letsThrough 18 = .ok (.iload_n 1, 1) := by decide +kernel
theorem dX3_letsThrough_19 : decode cX3_letsThrough 19 = .ok (.iaload, 1) := by decide +kernel
theorem dX3_letsThrough_20 : decode cX3_letsThrough 20 = .ok (.aload_n 0, 1) := by decide +kernel
theorem dX3_letsThrough_21 : decode cX3_letsThrough 21 = .ok (.getfield 18, 3) := by decide +kernel
theorem dX3_letsThrough_24 : decode cX3_letsThrough 24 = .ok (.iload_n 1, 1) := by decide +kernel
theorem dX3_letsThrough_25 : decode cX3_letsThrough 25 = .ok (.iaload, 1) := by decide +kernel
theorem dX3_letsThrough_26 : decode cX3_letsThrough 26 = .ok (.invokestatic 50, 3) := by decide +kernel
theorem dX3_letsThrough_29 : decode cX3_letsThrough 29 = .ok (.goto 4, 3) := by decide +kernel
theorem dX3_letsThrough_32 : decode cX3_letsThrough 32 = .ok (.iconst 0, 1) := by decide +kernel
theorem dX3_letsThrough_33 : decode cX3_letsThrough 33 = .ok (.ireturn, 1) := by decide +kernel
theorem dX3_allBits_0 : decode cX3_allBits 0 = .ok (.iconst 1, 1) := by decide +kernel
theorem dX3_allBits_1 : decode cX3_allBits 1 = .ok (.aload_n 0, 1) := by decide +kernel
theorem dX3_allBits_2 : decode cX3_allBits 2 = .ok (.getfield 30, 3) := by decide +kernel
theorem dX3_allBits_5 : decode cX3_allBits 5 = .ok (.ishl, 1) := by decide +kernel
theorem dX3_allBits_6 : decode cX3_allBits 6 = .ok (.iconst 1, 1) := by decide +kernel
theorem dX3_allBits_7 : decode cX3_allBits 7 = .ok (.isub, 1) := by decide +kernel
theorem dX3_allBits_8 : decode cX3_allBits 8 = .ok (.ireturn, 1) := by decide +kernel
theorem dX3_blockedBits_0 : decode cX3_blockedBits 0 = .ok (.aload_n 0, 1) := by decide +kernel
theorem dX3_blockedBits_1 : decode cX3_blockedBits 1 = .ok (.getfield 34, 3) := by decide +kernel
theorem dX3_blockedBits_4 : decode cX3_blockedBits 4 = .ok (.ireturn, 1) := by decide +kernel
theorem dX3_wetBits_0 : decode cX3_wetBits 0 = .ok (.aload_n 0, 1) := by decide +kernel
theorem dX3_wetBits_1 : decode cX3_wetBits 1 = .ok (.getfield 37, 3) := by decide +kernel
theorem dX3_wetBits_4 : decode cX3_wetBits 4 = .ok (.ireturn, 1) := by decide +kernel
theorem dX3_inCup_0 : decode cX3_inCup 0 = .ok (.aload_n 0, 1) := by decide +kernel
theorem dX3_inCup_1 : decode cX3_inCup 1 = .ok (.getfield 40, 3) := by decide +kernel
theorem dX3_inCup_4 : decode cX3_inCup 4 = .ok (.ireturn, 1) := by decide +kernel
theorem dX3_hour_0 : decode cX3_hour 0 = .ok (.aload_n 0, 1) := by decide +kernel
theorem dX3_hour_1 : decode cX3_hour 1 = .ok (.getfield 43, 3) := by decide +kernel
theorem dX3_hour_4 : decode cX3_hour 4 = .ok (.ireturn, 1) := by decide +kernel
theorem dX3_hasTimeFor_0 : decode cX3_hasTimeFor 0 = .ok (.iload_n 1, 1) := by decide +kernel
theorem dX3_hasTimeFor_1 : decode cX3_hasTimeFor 1 = .ok (.iconst 1, 1) := by decide +kernel
theorem dX3_hasTimeFor_2 : decode cX3_hasTimeFor 2 = .ok (.if_icmp .lt 25, 3) := by decide +kernel
theorem dX3_hasTimeFor_5 : decode cX3_hasTimeFor 5 = .ok (.iload_n 1, 1) := by decide +kernel
theorem dX3_hasTimeFor_6 : decode cX3_hasTimeFor 6 = .ok (.bipush 60, 2) := by decide +kernel
theorem dX3_hasTimeFor_8 : decode cX3_hasTimeFor 8 = .ok (.if_icmp .gt 19, 3) := by decide +kernel
theorem dX3_hasTimeFor_11 : decode cX3_hasTimeFor 11 = .ok (.iload_n 1, 1) := by decide +kernel
theorem dX3_hasTimeFor_12 : decode cX3_hasTimeFor 12 = .ok (.sipush 999, 3) := by decide +kernel
theorem dX3_hasTimeFor_15 : decode cX3_hasTimeFor 15 = .ok (.aload_n 0, 1) := by decide +kernel
theorem dX3_hasTimeFor_16 : decode cX3_hasTimeFor 16 = .ok (.getfield 43, 3) := by decide +kernel
theorem dX3_hasTimeFor_19 : decode cX3_hasTimeFor 19 = .ok (.isub, 1) := by decide +kernel
theorem dX3_hasTimeFor_20 : decode cX3_hasTimeFor 20 = .ok (.if_icmp .gt 7, 3) := by decide +kernel
theorem dX3_hasTimeFor_23 : decode cX3_hasTimeFor 23 = .ok (.iconst 1, 1) := by decide +kernel
theorem dX3_hasTimeFor_24 : decode cX3_hasTimeFor 24 = .ok (.goto 4, 3) := by decide +kernel
theorem dX3_hasTimeFor_27 : decode cX3_hasTimeFor 27 = .ok (.iconst 0, 1) := by decide +kernel
theorem dX3_hasTimeFor_28 : decode cX3_hasTimeFor 28 = .ok (.ireturn, 1) := by decide +kernel
theorem dX3_hasDripped_0 : decode cX3_hasDripped 0 = .ok (.aload_n 0, 1) := by decide +kernel
theorem dX3_hasDripped_1 : decode cX3_hasDripped 1 = .ok (.getfield 56, 3) := by decide +kernel
theorem dX3_hasDripped_4 : decode cX3_hasDripped 4 = .ok (.ireturn, 1) := by decide +kernel
theorem dX3_holdsInAll_0 : decode cX3_holdsInAll 0 = .ok (.iconst 0, 1) := by decide +kernel
theorem dX3_holdsInAll_1 : decode cX3_holdsInAll 1 = .ok (.istore_n 1, 1) := by decide +kernel
theorem dX3_holdsInAll_2 : decode cX3_holdsInAll 2 = .ok (.iconst 0, 1) := by decide +kernel
theorem dX3_holdsInAll_3 : decode cX3_holdsInAll 3 = .ok (.istore_n 2, 1) := by decide +kernel
theorem dX3_holdsInAll_4 : decode cX3_holdsInAll 4 = .ok (.iload_n 2, 1) := by decide +kernel
theorem dX3_holdsInAll_5 : decode cX3_holdsInAll 5 = .ok (.aload_n 0, 1) := by decide +kernel
theorem dX3_holdsInAll_6 : decode cX3_holdsInAll 6 = .ok (.getfield 30, 3) := by decide +kernel
theorem dX3_holdsInAll_9 : decode cX3_holdsInAll 9 = .ok (.if_icmp .ge 18, 3) := by decide +kernel
theorem dX3_holdsInAll_12 : decode cX3_holdsInAll 12 = .ok (.iload_n 1, 1) := by decide +kernel
theorem dX3_holdsInAll_13 : decode cX3_holdsInAll 13 = .ok (.aload_n 0, 1) := by decide +kernel
theorem dX3_holdsInAll_14 : decode cX3_holdsInAll 14 = .ok (.getfield 18, 3) := by decide +kernel
theorem dX3_holdsInAll_17 : decode cX3_holdsInAll 17 = .ok (.iload_n 2, 1) := by decide +kernel
theorem dX3_holdsInAll_18 : decode cX3_holdsInAll 18 = .ok (.iaload, 1) := by decide +kernel
theorem dX3_holdsInAll_19 : decode cX3_holdsInAll 19 = .ok (.iadd, 1) := by decide +kernel
theorem dX3_holdsInAll_20 : decode cX3_holdsInAll 20 = .ok (.istore_n 1, 1) := by decide +kernel
theorem dX3_holdsInAll_21 : decode cX3_holdsInAll 21 = .ok (.iinc 2 1, 3) := by decide +kernel
theorem dX3_holdsInAll_24 : decode cX3_holdsInAll 24 = .ok (.goto (-20), 3) := by decide +kernel
theorem dX3_holdsInAll_27 : decode cX3_holdsInAll 27 = .ok (.iload_n 1, 1) := by decide +kernel
theorem dX3_holdsInAll_28 : decode cX3_holdsInAll 28 = .ok (.ireturn, 1) := by decide +kernel
theorem dX3_wayBits_0 : decode cX3_wayBits 0 = .ok (.iconst 0, 1) := by decide +kernel
theorem dX3_wayBits_1 : decode cX3_wayBits 1 = .ok (.istore_n 2, 1) := by decide +kernel
theorem dX3_wayBits_2 : decode cX3_wayBits 2 = .ok (.iload_n 1, 1) := by decide +kernel
theorem dX3_wayBits_3 : decode cX3_wayBits 3 = .ok (.istore_n 3, 1) := by decide +kernel
theorem dX3_wayBits_4 : decode cX3_wayBits 4 = .ok (.iconst 0, 1) := by decide +kernel
theorem dX3_wayBits_5 : decode cX3_wayBits 5 = .ok (.istore 4, 2) := by decide +kernel
theorem dX3_wayBits_7 : decode cX3_wayBits 7 = .ok (.iload 4, 2) := by decide +kernel
theorem dX3_wayBits_9 : decode cX3_wayBits 9 = .ok (.bipush 9, 2) := by decide +kernel
theorem dX3_wayBits_11 : decode cX3_wayBits 11 = .ok (.if_icmp .ge 30, 3) := by decide +kernel
theorem dX3_wayBits_14 : decode cX3_wayBits 14 = .ok (.aload_n 0, 1) := by decide +kernel
theorem dX3_wayBits_15 : decode cX3_wayBits 15 = .ok (.iload_n 3, 1) := by decide +kernel
theorem dX3_wayBits_16 : decode cX3_wayBits 16 = .ok (.invokevirtual 46, 3) := by decide +kernel
theorem dX3_wayBits_19 : decode cX3_wayBits 19 = .ok (.ifCond .eq 22, 3) := by decide +kernel
theorem dX3_wayBits_22 : decode cX3_wayBits 22 = .ok (.iload_n 2, 1) := by decide +kernel
theorem dX3_wayBits_23 : decode cX3_wayBits 23 = .ok (.iconst 1, 1) := by decide +kernel
theorem dX3_wayBits_24 : decode cX3_wayBits 24 = .ok (.iload_n 3, 1) := by decide +kernel
theorem dX3_wayBits_25 : decode cX3_wayBits 25 = .ok (.ishl, 1) := by decide +kernel
theorem dX3_wayBits_26 : decode cX3_wayBits 26 = .ok (.ior, 1) := by decide +kernel
theorem dX3_wayBits_27 : decode cX3_wayBits 27 = .ok (.istore_n 2, 1) := by decide +kernel
theorem dX3_wayBits_28 : decode cX3_wayBits 28 = .ok (.aload_n 0, 1) := by decide +kernel
theorem dX3_wayBits_29 : decode cX3_wayBits 29 = .ok (.getfield 21, 3) := by decide +kernel
theorem dX3_wayBits_32 : decode cX3_wayBits 32 = .ok (.iload_n 3, 1) := by decide +kernel
theorem dX3_wayBits_33 : decode cX3_wayBits 33 = .ok (.iaload, 1) := by decide +kernel
theorem dX3_wayBits_34 : decode cX3_wayBits 34 = .ok (.istore_n 3, 1) := by decide +kernel
theorem dX3_wayBits_35 : decode cX3_wayBits 35 = .ok (.iinc 4 1, 3) := by decide +kernel
theorem dX3_wayBits_38 : decode cX3_wayBits 38 = .ok (.goto (-31), 3) := by decide +kernel
theorem dX3_wayBits_41 : decode cX3_wayBits 41 = .ok (.iload_n 2, 1) := by decide +kernel
theorem dX3_wayBits_42 : decode cX3_wayBits 42 = .ok (.ireturn, 1) := by decide +kernel
theorem dX3_build_0 : decode cX3_build 0 = .ok (.aload_n 0, 1) := by decide +kernel
theorem dX3_build_1 : decode cX3_build 1 = .ok (.getfield 30, 3) := by decide +kernel
theorem dX3_build_4 : decode cX3_build 4 = .ok (.bipush 9, 2) := by decide +kernel
theorem dX3_build_6 : decode cX3_build 6 = .ok (.if_icmp .ge 12, 3) := by decide +kernel
theorem dX3_build_9 : decode cX3_build 9 = .ok (.iload_n 1, 1) := by decide +kernel
theorem dX3_build_10 : decode cX3_build 10 = .ok (.ifCond .lt 8, 3) := by decide +kernel
theorem dX3_build_13 : decode cX3_build 13 = .ok (.iload_n 1, 1) := by decide +kernel
theorem dX3_build_14 : decode cX3_build 14 = .ok (.iconst 5, 1) := by decide +kernel
theorem dX3_build_15 : decode cX3_build 15 = .ok (.if_icmp .le 5, 3) := by decide +kernel
theorem dX3_build_18 : decode cX3_build 18 = .ok (.iconst 0, 1) := by decide +kernel
theorem dX3_build_19 : decode cX3_build 19 = .ok (.ireturn, 1) := by decide +kernel
theorem dX3_build_20 : decode cX3_build 20 = .ok (.aload_n 0, 1) := by decide +kernel
theorem dX3_build_21 : decode cX3_build 21 = .ok (.getfield 9, 3) := by decide +kernel
theorem dX3_build_24 : decode cX3_build 24 = .ok (.aload_n 0, 1) := by decide +kernel
theorem dX3_build_25 : decode cX3_build 25 = .ok (.getfield 30, 3) := by decide +kernel
theorem dX3_build_28 : decode cX3_build 28 = .ok (.iload_n 1, 1) := by decide +kernel
theorem dX3_build_29 : decode cX3_build 29 = .ok (.iastore, 1) := by decide +kernel
theorem dX3_build_30 : decode cX3_build 30 = .ok (.aload_n 0, 1) := by decide +kernel
theorem dX3_build_31 : decode cX3_build 31 = .ok (.getfield 15, 3) := by decide +kernel
theorem dX3_build_34 : decode cX3_build 34 = .ok (.aload_n 0, 1) := by decide +kernel
theorem dX3_build_35 : decode cX3_build 35 = .ok (.getfield 30, 3) := by decide +kernel
theorem dX3_build_38 : decode cX3_build 38 = .ok (.iload_n 2, 1) := by decide +kernel
theorem dX3_build_39 : decode cX3_build 39 = .ok (.iastore, 1) := by decide +kernel
theorem dX3_build_40 : decode cX3_build 40 = .ok (.aload_n 0, 1) := by decide +kernel
theorem dX3_build_41 : decode cX3_build 41 = .ok (.getfield 18, 3) := by decide +kernel
theorem dX3_build_44 : decode cX3_build 44 = .ok (.aload_n 0, 1) := by decide +kernel
theorem dX3_build_45 : decode cX3_build 45 = .ok (.getfield 30, 3) := by decide +kernel
theorem dX3_build_48 : decode cX3_build 48 = .ok (.iconst 0, 1) := by decide +kernel
theorem dX3_build_49 : decode cX3_build 49 = .ok (.iastore, 1) := by decide +kernel
theorem dX3_build_50 : decode cX3_build 50 = .ok (.aload_n 0, 1) := by decide +kernel
theorem dX3_build_51 : decode cX3_build 51 = .ok (.getfield 21, 3) := by decide +kernel
theorem dX3_build_54 : decode cX3_build 54 = .ok (.aload_n 0, 1) := by decide +kernel
theorem dX3_build_55 : decode cX3_build 55 = .ok (.getfield 30, 3) := by decide +kernel
theorem dX3_build_58 : decode cX3_build 58 = .ok (.bipush 9, 2) := by decide +kernel
theorem dX3_build_60 : decode cX3_build 60 = .ok (.iastore, 1) := by decide +kernel
theorem dX3_build_61 : decode cX3_build 61 = .ok (.aload_n 0, 1) := by decide +kernel
theorem dX3_build_62 : decode cX3_build 62 = .ok (.dup, 1) := by decide +kernel
theorem dX3_build_63 : decode cX3_build 63 = .ok (.getfield 30, 3) := by decide +kernel
theorem dX3_build_66 : decode cX3_build 66 = .ok (.iconst 1, 1) := by decide +kernel
theorem dX3_build_67 : decode cX3_build 67 = .ok (.iadd, 1) := by decide +kernel
theorem dX3_build_68 : decode cX3_build 68 = .ok (.putfield 30, 3) := by decide +kernel
theorem dX3_build_71 : decode cX3_build 71 = .ok (.iconst 1, 1) := by decide +kernel
theorem dX3_build_72 : decode cX3_build 72 = .ok (.ireturn, 1) := by decide +kernel
theorem dX3_remake_0 : decode cX3_remake 0 = .ok (.aload_n 0, 1) := by decide +kernel
theorem dX3_remake_1 : decode cX3_remake 1 = .ok (.iload_n 1, 1) := by decide +kernel
theorem dX3_remake_2 : decode cX3_remake 2 = .ok (.invokevirtual 46, 3) := by decide +kernel
theorem dX3_remake_5 : decode cX3_remake 5 = .ok (.ifCond .eq 17, 3) := by decide +kernel
theorem dX3_remake_8 : decode cX3_remake 8 = .ok (.aload_n 0, 1) := by decide +kernel
theorem dX3_remake_9 : decode cX3_remake 9 = .ok (.getfield 9, 3) := by decide +kernel
theorem dX3_remake_12 : decode cX3_remake 12 = .ok (.iload_n 1, 1) := by decide +kernel
theorem dX3_remake_13 : decode cX3_remake 13 = .ok (.iload_n 2, 1) := by decide +kernel
theorem dX3_remake_14 : decode cX3_remake 14 = .ok (.iastore, 1) := by decide +kernel
theorem dX3_remake_15 : decode cX3_remake 15 = .ok (.aload_n 0, 1) := by decide +kernel
theorem dX3_remake_16 : decode cX3_remake 16 = .ok (.getfield 15, 3) := by decide +kernel
theorem dX3_remake_19 : decode cX3_remake 19 = .ok (.iload_n 1, 1) := by decide +kernel
theorem dX3_remake_20 : decode cX3_remake 20 = .ok (.iload_n 3, 1) := by decide +kernel
theorem dX3_remake_21 : decode cX3_remake 21 = .ok (.iastore, 1) := by decide +kernel
theorem dX3_remake_22 : decode cX3_remake 22 = .ok (.return_, 1) := by decide +kernel
theorem dX3_lead_0 : decode cX3_lead 0 = .ok (.aload_n 0, 1) := by decide +kernel
theorem dX3_lead_1 : decode cX3_lead 1 = .ok (.iload_n 1, 1) := by decide +kernel
theorem dX3_lead_2 : decode cX3_lead 2 = .ok (.invokevirtual 46, 3) := by decide +kernel
theorem dX3_lead_5 : decode cX3_lead 5 = .ok (.ifCond .eq 14, 3) := by decide +kernel
theorem dX3_lead_8 : decode cX3_lead 8 = .ok (.iload_n 2, 1) := by decide +kernel
theorem dX3_lead_9 : decode cX3_lead 9 = .ok (.iload_n 1, 1) := by decide +kernel
theorem dX3_lead_10 : decode cX3_lead 10 = .ok (.if_icmp .le 9, 3) := by decide +kernel
theorem dX3_lead_13 : decode cX3_lead 13 = .ok (.iload_n 2, 1) := by decide +kernel
theorem dX3_lead_14 : decode cX3_lead 14 = .ok (.bipush 9, 2) := by decide +kernel
theorem dX3_lead_16 : decode cX3_lead 16 = .ok (.if_icmp .le 5, 3) := by decide +kernel
theorem dX3_lead_19 : decode cX3_lead 19 = .ok (.iconst 0, 1) := by decide +kernel
theorem dX3_lead_20 : decode cX3_lead 20 = .ok (.ireturn, 1) := by decide +kernel
theorem dX3_lead_21 : decode cX3_lead 21 = .ok (.aload_n 0, 1) := by decide +kernel
theorem dX3_lead_22 : decode cX3_lead 22 = .ok (.getfield 21, 3) := by decide +kernel
theorem dX3_lead_25 : decode cX3_lead 25 = .ok (.iload_n 1, 1) := by decide +kernel
theorem dX3_lead_26 : decode cX3_lead 26 = .ok (.iload_n 2, 1) := by decide +kernel
theorem dX3_lead_27 : decode cX3_lead 27 = .ok (.iastore, 1) := by decide +kernel
theorem dX3_lead_28 : decode cX3_lead 28 = .ok (.iconst 1, 1) := by decide +kernel
theorem dX3_lead_29 : decode cX3_lead 29 = .ok (.ireturn, 1) := by decide +kernel
theorem dX3_blockOrFree_0 : decode cX3_blockOrFree 0 = .ok (.aload_n 0, 1) := by decide +kernel
theorem dX3_blockOrFree_1 : decode cX3_blockOrFree 1 = .ok (.iload_n 1, 1) := by decide +kernel
theorem dX3_blockOrFree_2 : decode cX3_blockOrFree 2 = .ok (.invokevirtual 46, 3) := by decide +kernel
theorem dX3_blockOrFree_5 : decode cX3_blockOrFree 5 = .ok (.ifCond .ne 5, 3) := by decide +kernel
theorem dX3_blockOrFree_8 : decode cX3_blockOrFree 8 = .ok (.iconst 0, 1) := by decide +kernel
theorem dX3_blockOrFree_9 : decode cX3_blockOrFree 9 = .ok (.ireturn, 1) := by decide +kernel
theorem dX3_blockOrFree_10 : decode cX3_blockOrFree 10 = .ok (.aload_n 0, 1) := by decide +kernel
theorem dX3_blockOrFree_11 : decode cX3_blockOrFree 11 = .ok (.dup, 1) := by decide +kernel
theorem dX3_blockOrFree_12 : decode cX3_blockOrFree 12 = .ok (.getfield 34, 3) := by decide +kernel
theorem dX3_blockOrFree_15 : decode cX3_blockOrFree 15 = .ok (.iconst 1, 1) := by decide +kernel
theorem dX3_blockOrFree_16 : decode cX3_blockOrFree 16 = .ok (.iload_n 1, 1) := by decide +kernel
theorem dX3_blockOrFree_17 : decode cX3_blockOrFree 17 = .ok (.ishl, 1) := by decide +kernel
theorem dX3_blockOrFree_18 : decode cX3_blockOrFree 18 = .ok (.ixor, 1) := by decide +kernel
theorem dX3_blockOrFree_19 : decode cX3_blockOrFree 19 = .ok (.putfield 34, 3) := by decide +kernel
theorem dX3_blockOrFree_22 : decode cX3_blockOrFree 22 = .ok (.iconst 1, 1) := by decide +kernel
theorem dX3_blockOrFree_23 : decode cX3_blockOrFree 23 = .ok (.ireturn, 1) := by decide +kernel
theorem dX3_block_0 : decode cX3_block 0 = .ok (.aload_n 0, 1) := by decide +kernel
theorem dX3_block_1 : decode cX3_block 1 = .ok (.iload_n 1, 1) := by decide +kernel
theorem dX3_block_2 : decode cX3_block 2 = .ok (.invokevirtual 46, 3) := by decide +kernel
theorem dX3_block_5 : decode cX3_block 5 = .ok (.ifCond .eq 15, 3) := by decide +kernel
theorem dX3_block_8 : decode cX3_block 8 = .ok (.aload_n 0, 1) := by decide +kernel
theorem dX3_block_9 : decode cX3_block 9 = .ok (.dup, 1) := by decide +kernel
theorem dX3_block_10 : decode cX3_block 10 = .ok (.getfield 34, 3) := by decide +kernel
theorem dX3_block_13 : decode cX3_block 13 = .ok (.iconst 1, 1) := by decide +kernel
theorem dX3_block_14 : decode cX3_block 14 = .ok (.iload_n 1, 1) := by decide +kernel
theorem dX3_block_15 : decode cX3_block 15 = .ok (.ishl, 1) := by decide +kernel
theorem dX3_block_16 : decode cX3_block 16 = .ok (.ior, 1) := by decide +kernel
theorem dX3_block_17 : decode cX3_block 17 = .ok (.putfield 34, 3) := by decide +kernel
theorem dX3_block_20 : decode cX3_block 20 = .ok (.return_, 1) := by decide +kernel
theorem dX3_free_0 : decode cX3_free 0 = .ok (.aload_n 0, 1) := by decide +kernel
theorem dX3_free_1 : decode cX3_free 1 = .ok (.dup, 1) := by decide +kernel
theorem dX3_free_2 : decode cX3_free 2 = .ok (.getfield 34, 3) := by decide +kernel
theorem dX3_free_5 : decode cX3_free 5 = .ok (.iload_n 1, 1) := by decide +kernel
theorem dX3_free_6 : decode cX3_free 6 = .ok (.iconst (-1), 1) := by decide +kernel
theorem dX3_free_7 : decode cX3_free 7 = .ok (.ixor, 1) := by decide +kernel
theorem dX3_free_8 : decode cX3_free 8 = .ok (.iand, 1) := by decide +kernel
theorem dX3_free_9 : decode cX3_free 9 = .ok (.putfield 34, 3) := by decide +kernel
theorem dX3_free_12 : decode cX3_free 12 = .ok (.return_, 1) := by decide +kernel
theorem dX3_fill_0 : decode cX3_fill 0 = .ok (.aload_n 0, 1) := by decide +kernel
theorem dX3_fill_1 : decode cX3_fill 1 = .ok (.iload_n 1, 1) := by decide +kernel
theorem dX3_fill_2 : decode cX3_fill 2 = .ok (.invokevirtual 46, 3) := by decide +kernel
theorem dX3_fill_5 : decode cX3_fill 5 = .ok (.ifCond .ne 5, 3) := by decide +kernel
theorem dX3_fill_8 : decode cX3_fill 8 = .ok (.iconst 0, 1) := by decide +kernel
theorem dX3_fill_9 : decode cX3_fill 9 = .ok (.ireturn, 1) := by decide +kernel
theorem dX3_fill_10 : decode cX3_fill 10 = .ok (.aload_n 0, 1) := by decide +kernel
theorem dX3_fill_11 : decode cX3_fill 11 = .ok (.getfield 18, 3) := by decide +kernel
theorem dX3_fill_14 : decode cX3_fill 14 = .ok (.iload_n 1, 1) := by decide +kernel
theorem dX3_fill_15 : decode cX3_fill 15 = .ok (.bipush 99, 2) := by decide +kernel
theorem dX3_fill_17 : decode cX3_fill 17 = .ok (.aload_n 0, 1) := by decide +kernel
theorem dX3_fill_18 : decode cX3_fill 18 = .ok (.getfield 18, 3) := by decide +kernel
theorem dX3_fill_21 : decode cX3_fill 21 = .ok (.iload_n 1, 1) := by decide +kernel
theorem dX3_fill_22 : decode cX3_fill 22 = .ok (.iaload, 1) := by decide +kernel
theorem dX3_fill_23 : decode cX3_fill 23 = .ok (.iload_n 2, 1) := by decide +kernel
theorem dX3_fill_24 : decode cX3_fill 24 = .ok (.iadd, 1) := by decide +kernel
theorem dX3_fill_25 : decode cX3_fill 25 = .ok (.invokestatic 60, 3) := by decide +kernel
theorem dX3_fill_28 : decode cX3_fill 28 = .ok (.iastore, 1) := by decide +kernel
theorem dX3_fill_29 : decode cX3_fill 29 = .ok (.iload_n 2, 1) := by decide +kernel
theorem dX3_fill_30 : decode cX3_fill 30 = .ok (.ifCond .le 15, 3) := by decide +kernel
theorem dX3_fill_33 : decode cX3_fill 33 = .ok (.aload_n 0, 1) := by decide +kernel
theorem dX3_fill_34 : decode cX3_fill 34 = .ok (.dup, 1) := by decide +kernel
theorem dX3_fill_35 : decode cX3_fill 35 = .ok (.getfield 37, 3) := by decide +kernel
theorem dX3_fill_38 : decode cX3_fill 38 = .ok (.iconst 1, 1) := by decide +kernel
theorem dX3_fill_39 : decode cX3_fill 39 = .ok (.iload_n 1, 1) := by decide +kernel
theorem dX3_fill_40 : decode cX3_fill 40 = .ok (.ishl, 1) := by decide +kernel
theorem dX3_fill_41 : decode cX3_fill 41 = .ok (.ior, 1) := by decide +kernel
theorem dX3_fill_42 : decode cX3_fill 42 = .ok (.putfield 37, 3) := by decide +kernel
theorem dX3_fill_45 : decode cX3_fill 45 = .ok (.iconst 1, 1) := by decide +kernel
theorem dX3_fill_46 : decode cX3_fill 46 = .ok (.ireturn, 1) := by decide +kernel
theorem dX3_emptyCup_0 : decode cX3_emptyCup 0 = .ok (.aload_n 0, 1) := by decide +kernel
theorem dX3_emptyCup_1 : decode cX3_emptyCup 1 = .ok (.iconst 0, 1) := by decide +kernel
theorem dX3_emptyCup_2 : decode cX3_emptyCup 2 = .ok (.putfield 40, 3) := by decide +kernel
theorem dX3_emptyCup_5 : decode cX3_emptyCup 5 = .ok (.return_, 1) := by decide +kernel
theorem dX3_flow_0 : decode cX3_flow 0 = .ok (.iconst 0, 1) := by decide +kernel
theorem dX3_flow_1 : decode cX3_flow 1 = .ok (.istore_n 1, 1) := by decide +kernel
theorem dX3_flow_2 : decode cX3_flow 2 = .ok (.aload_n 0, 1) := by decide +kernel
theorem dX3_flow_3 : decode cX3_flow 3 = .ok (.iconst 0, 1) := by decide +kernel
theorem dX3_flow_4 : decode cX3_flow 4 = .ok (.putfield 56, 3) := by decide +kernel
theorem dX3_flow_7 : decode cX3_flow 7 = .ok (.iconst 0, 1) := by decide +kernel
theorem dX3_flow_8 : decode cX3_flow 8 = .ok (.istore_n 2, 1) := by decide +kernel
theorem dX3_flow_9 : decode cX3_flow 9 = .ok (.iload_n 2, 1) := by decide +kernel
theorem dX3_flow_10 : decode cX3_flow 10 = .ok (.aload_n 0, 1) := by decide +kernel
theorem dX3_flow_11 : decode cX3_flow 11 = .ok (.getfield 30, 3) := by decide +kernel
theorem dX3_flow_14 : decode cX3_flow 14 = .ok (.if_icmp .ge 115, 3) := by decide +kernel
theorem dX3_flow_17 : decode cX3_flow 17 = .ok (.aload_n 0, 1) := by decide +kernel
theorem dX3_flow_18 : decode cX3_flow 18 = .ok (.iload_n 2, 1) := by decide +kernel
theorem dX3_flow_19 : decode cX3_flow 19 = .ok (.invokevirtual 66, 3) := by decide +kernel
theorem dX3_flow_22 : decode cX3_flow 22 = .ok (.ifCond .eq 7, 3) := by decide +kernel
theorem dX3_flow_25 : decode cX3_flow 25 = .ok (.iconst 0, 1) := by decide +kernel
theorem dX3_flow_26 : decode cX3_flow 26 = .ok (.goto 24, 3) := by decide +kernel
theorem dX3_flow_29 : decode cX3_flow 29 = .ok (.aload_n 0, 1) := by decide +kernel
theorem dX3_flow_30 : decode cX3_flow 30 = .ok (.getfield 9, 3) := by decide +kernel
theorem dX3_flow_33 : decode cX3_flow 33 = .ok (.iload_n 2, 1) := by decide +kernel
theorem dX3_flow_34 : decode cX3_flow 34 = .ok (.iaload, 1) := by decide +kernel
theorem dX3_flow_35 : decode cX3_flow 35 = .ok (.aload_n 0, 1) := by decide +kernel
theorem dX3_flow_36 : decode cX3_flow 36 = .ok (.getfield 15, 3) := by decide +kernel
theorem dX3_flow_39 : decode cX3_flow 39 = .ok (.iload_n 2, 1) := by decide +kernel
theorem dX3_flow_40 : decode cX3_flow 40 = .ok (.iaload, 1) := by decide +kernel
theorem dX3_flow_41 : decode cX3_flow 41 = .ok (.aload_n 0, 1) := by decide +kernel
theorem dX3_flow_42 : decode cX3_flow 42 = .ok (.getfield 18, 3) := by decide +kernel
theorem dX3_flow_45 : decode cX3_flow 45 = .ok (.iload_n 2, 1) := by decide +kernel
theorem dX3_flow_46 : decode cX3_flow 46 = .ok (.iaload, 1) := by decide +kernel
theorem dX3_flow_47 : decode cX3_flow 47 = .ok (.invokestatic 50, 3) := by decide +kernel
theorem dX3_flow_50 : decode cX3_flow 50 = .ok (.istore_n 3, 1) := by decide +kernel
theorem dX3_flow_51 : decode cX3_flow 51 = .ok (.iload_n 3, 1) := by decide +kernel
theorem dX3_flow_52 : decode cX3_flow 52 = .ok (.ifCond .le 71, 3) := by decide +kernel
theorem dX3_flow_55 : decode cX3_flow 55 = .ok (.aload_n 0, 1) := by decide +kernel
theorem dX3_flow_56 : decode cX3_flow 56 = .ok (.getfield 18, 3) := by decide +kernel
theorem dX3_flow_59 : decode cX3_flow 59 = .ok (.iload_n 2, 1) := by decide +kernel
theorem dX3_flow_60 : decode cX3_flow 60 = .ok (.dup2, 1) := by decide +kernel
theorem dX3_flow_61 : decode cX3_flow 61 = .ok (.iaload, 1) := by decide +kernel
theorem dX3_flow_62 : decode cX3_flow 62 = .ok (.iload_n 3, 1) := by decide +kernel
theorem dX3_flow_63 : decode cX3_flow 63 = .ok (.isub, 1) := by decide +kernel
theorem dX3_flow_64 : decode cX3_flow 64 = .ok (.iastore, 1) := by decide +kernel
theorem dX3_flow_65 : decode cX3_flow 65 = .ok (.iconst 1, 1) := by decide +kernel
theorem dX3_flow_66 : decode cX3_flow 66 = .ok (.istore_n 1, 1) := by decide +kernel
theorem dX3_flow_67 : decode cX3_flow 67 = .ok (.iload_n 3, 1) := by decide +kernel
theorem dX3_flow_68 : decode cX3_flow 68 = .ok (.aload_n 0, 1) := by decide +kernel
theorem dX3_flow_69 : decode cX3_flow 69 = .ok (.getfield 9, 3) := by decide +kernel
theorem dX3_flow_72 : decode cX3_flow 72 = .ok (.iload_n 2, 1) := by decide +kernel
theorem dX3_flow_73 : decode cX3_flow 73 = .ok (.iaload, 1) := by decide +kernel
theorem dX3_flow_74 : decode cX3_flow 74 = .ok (.aload_n 0, 1) := by decide +kernel
theorem dX3_flow_75 : decode cX3_flow 75 = .ok (.getfield 15, 3) := by decide +kernel
theorem dX3_flow_78 : decode cX3_flow 78 = .ok (.iload_n 2, 1) := by decide +kernel
theorem dX3_flow_79 : decode cX3_flow 79 = .ok (.iaload, 1) := by decide +kernel
theorem dX3_flow_80 : decode cX3_flow 80 = .ok (.invokestatic 69, 3) := by decide +kernel
theorem dX3_flow_83 : decode cX3_flow 83 = .ok (.iadd, 1) := by decide +kernel
theorem dX3_flow_84 : decode cX3_flow 84 = .ok (.istore 4, 2) := by decide +kernel
theorem dX3_flow_86 : decode cX3_flow 86 = .ok (.aload_n 0, 1) := by decide +kernel
theorem dX3_flow_87 : decode cX3_flow 87 = .ok (.aload_n 0, 1) := by decide +kernel
theorem dX3_flow_88 : decode cX3_flow 88 = .ok (.getfield 21, 3) := by decide +kernel
theorem dX3_flow_91 : decode cX3_flow 91 = .ok (.iload_n 2, 1) := by decide +kernel
theorem dX3_flow_92 : decode cX3_flow 92 = .ok (.iaload, 1) := by decide +kernel
theorem dX3_flow_93 : decode cX3_flow 93 = .ok (.iload 4, 2) := by decide +kernel
theorem dX3_flow_95 : decode cX3_flow 95 = .ok (.invokevirtual 72, 3) := by decide +kernel
theorem dX3_flow_98 : decode cX3_flow 98 = .ok (.ifCond .ne 25, 3) := by decide +kernel
theorem dX3_flow_101 : decode cX3_flow 101 = .ok (.aload_n 0, 1) := by decide +kernel
theorem dX3_flow_102 : decode cX3_flow 102 = .ok (.sipush 9999, 3) := by decide +kernel
theorem dX3_flow_105 : decode cX3_flow 105 = .ok (.aload_n 0, 1) := by decide +kernel
theorem dX3_flow_106 : decode cX3_flow 106 = .ok (.getfield 40, 3) := by decide +kernel
theorem dX3_flow_109 : decode cX3_flow 109 = .ok (.iload 4, 2) := by decide +kernel
theorem dX3_flow_111 : decode cX3_flow 111 = .ok (.iadd, 1) := by decide +kernel
theorem dX3_flow_112 : decode cX3_flow 112 = .ok (.invokestatic 60, 3) := by decide +kernel
theorem dX3_flow_115 : decode cX3_flow 115 = .ok (.putfield 40, 3) := by decide +kernel
theorem dX3_flow_118 : decode cX3_flow 118 = .ok (.aload_n 0, 1) := by decide +kernel
theorem dX3_flow_119 : decode cX3_flow 119 = .ok (.iconst 1, 1) := by decide +kernel
theorem dX3_flow_120 : decode cX3_flow 120 = .ok (.putfield 56, 3) := by decide +kernel
theorem dX3_flow_123 : decode cX3_flow 123 = .ok (.iinc 2 1, 3) := by decide +kernel
theorem dX3_flow_126 : decode cX3_flow 126 = .ok (.goto (-117), 3) := by decide +kernel
theorem dX3_flow_129 : decode cX3_flow 129 = .ok (.iload_n 1, 1) := by decide +kernel
theorem dX3_flow_130 : decode cX3_flow 130 = .ok (.ireturn, 1) := by decide +kernel
theorem dX3_pass_0 : decode cX3_pass 0 = .ok (.iconst 0, 1) := by decide +kernel
theorem dX3_pass_1 : decode cX3_pass 1 = .ok (.istore_n 2, 1) := by decide +kernel
theorem dX3_pass_2 : decode cX3_pass 2 = .ok (.iload_n 2, 1) := by decide +kernel
theorem dX3_pass_3 : decode cX3_pass 3 = .ok (.iload_n 1, 1) := by decide +kernel
theorem dX3_pass_4 : decode cX3_pass 4 = .ok (.if_icmp .ge 19, 3) := by decide +kernel
theorem dX3_pass_7 : decode cX3_pass 7 = .ok (.aload_n 0, 1) := by decide +kernel
theorem dX3_pass_8 : decode cX3_pass 8 = .ok (.invokevirtual 76, 3) := by decide +kernel
theorem dX3_pass_11 : decode cX3_pass 11 = .ok (.ifCond .ne 6, 3) := by decide +kernel
theorem dX3_pass_14 : decode cX3_pass 14 = .ok (.goto 9, 3) := by decide +kernel
theorem dX3_pass_17 : decode cX3_pass 17 = .ok (.iinc 2 1, 3) := by decide +kernel
theorem dX3_pass_20 : decode cX3_pass 20 = .ok (.goto (-18), 3) := by decide +kernel
theorem dX3_pass_23 : decode cX3_pass 23 = .ok (.aload_n 0, 1) := by decide +kernel
theorem dX3_pass_24 : decode cX3_pass 24 = .ok (.dup, 1) := by decide +kernel
theorem dX3_pass_25 : decode cX3_pass 25 = .ok (.getfield 43, 3) := by decide +kernel
theorem dX3_pass_28 : decode cX3_pass 28 = .ok (.iload_n 1, 1) := by decide +kernel
theorem dX3_pass_29 : decode cX3_pass 29 = .ok (.iadd, 1) := by decide +kernel
theorem dX3_pass_30 : decode cX3_pass 30 = .ok (.putfield 43, 3) := by decide +kernel
theorem dX3_pass_33 : decode cX3_pass 33 = .ok (.return_, 1) := by decide +kernel
theorem dX4_init_0 : decode cX4_init 0 = .ok (.aload_n 0, 1) := by decide +kernel
theorem dX4_init_1 : decode cX4_init 1 = .ok (.invokespecial 3, 3) := by decide +kernel
theorem dX4_init_4 : decode cX4_init 4 = .ok (.aload_n 0, 1) := by decide +kernel
theorem dX4_init_5 : decode cX4_init 5 = .ok (.bipush 8, 2) := by decide +kernel
theorem dX4_init_7 : decode cX4_init 7 = .ok (.anewarray 9, 3) := by decide +kernel
theorem dX4_init_10 : decode cX4_init 10 = .ok (.putfield 11, 3) := by decide +kernel
theorem dX4_init_13 : decode cX4_init 13 = .ok (.iconst 0, 1) := by decide +kernel
theorem dX4_init_14 : decode cX4_init 14 = .ok (.istore_n 1, 1) := by decide +kernel
theorem dX4_init_15 : decode cX4_init 15 = .ok (.iload_n 1, 1) := by decide +kernel
theorem dX4_init_16 : decode cX4_init 16 = .ok (.aload_n 0, 1) := by decide +kernel
theorem dX4_init_17 : decode cX4_init 17 = .ok (.getfield 11, 3) := by decide +kernel
theorem dX4_init_20 : decode cX4_init 20 = .ok (.arraylength, 1) := by decide +kernel
theorem dX4_init_21 : decode cX4_init 21 = .ok (.if_icmp .ge 22, 3) := by decide +kernel
theorem dX4_init_24 : decode cX4_init 24 = .ok (.aload_n 0, 1) := by decide +kernel
theorem dX4_init_25 : decode cX4_init 25 = .ok (.getfield 11, 3) := by decide +kernel
theorem dX4_init_28 : decode cX4_init 28 = .ok (.iload_n 1, 1) := by decide +kernel
theorem dX4_init_29 : decode cX4_init 29 = .ok (.new 9, 3) := by decide +kernel
theorem dX4_init_32 : decode cX4_init 32 = .ok (.dup, 1) := by decide +kernel
theorem dX4_init_33 : decode cX4_init 33 = .ok (.invokespecial 17, 3) := by decide +kernel
theorem dX4_init_36 : decode cX4_init 36 = .ok (.aastore, 1) := by decide +kernel
theorem dX4_init_37 : decode cX4_init 37 = .ok (.iinc 1 1, 3) := by decide +kernel
theorem dX4_init_40 : decode cX4_init 40 = .ok (.goto (-25), 3) := by decide +kernel
theorem dX4_init_43 : decode cX4_init 43 = .ok (.return_, 1) := by decide +kernel
theorem dX4_size_0 : decode cX4_size 0 = .ok (.aload_n 0, 1) := by decide +kernel
theorem dX4_size_1 : decode cX4_size 1 = .ok (.getfield 18, 3) := by decide +kernel
theorem dX4_size_4 : decode cX4_size 4 = .ok (.ireturn, 1) := by decide +kernel
theorem dX4_forget_0 : decode cX4_forget 0 = .ok (.aload_n 0, 1) := by decide +kernel
theorem dX4_forget_1 : decode cX4_forget 1 = .ok (.iconst 0, 1) := by decide +kernel
theorem dX4_forget_2 : decode cX4_forget 2 = .ok (.putfield 18, 3) := by decide +kernel
theorem dX4_forget_5 : decode cX4_forget 5 = .ok (.return_, 1) := by decide +kernel
theorem dX4_keep_0 : decode cX4_keep 0 = .ok (.aload_n 0, 1) := by decide +kernel
theorem dX4_keep_1 : decode cX4_keep 1 = .ok (.aload_n 0, 1) := by decide +kernel
theorem dX4_keep_2 : decode cX4_keep 2 = .ok (.getfield 22, 3) := by decide +kernel
theorem dX4_keep_5 : decode cX4_keep 5 = .ok (.iconst 1, 1) := by decide +kernel
theorem dX4_keep_6 : decode cX4_keep 6 = .ok (.iadd, 1) := by decide +kernel
theorem dX4_keep_7 : decode cX4_keep 7 = .ok (.bipush 8, 2) := by decide +kernel
theorem dX4_keep_9 : decode cX4_keep 9 = .ok (.irem, 1) := by decide +kernel
theorem dX4_keep_10 : decode cX4_keep 10 = .ok (.putfield 22, 3) := by decide +kernel
theorem dX4_keep_13 : decode cX4_keep 13 = .ok (.aload_n 0, 1) := by decide +kernel
theorem dX4_keep_14 : decode cX4_keep 14 = .ok (.bipush 8, 2) := by decide +kernel
theorem dX4_keep_16 : decode cX4_keep 16 = .ok (.aload_n 0, 1) := by decide +kernel
theorem dX4_keep_17 : decode cX4_keep 17 = .ok (.getfield 18, 3) := by decide +kernel
theorem dX4_keep_20 : decode cX4_keep 20 = .ok (.iconst 1, 1) := by decide +kernel
theorem dX4_keep_21 : decode cX4_keep 21 = .ok (.iadd, 1) := by decide +kernel
theorem dX4_keep_22 : decode cX4_keep 22 = .ok (.invokestatic 25, 3) := by decide +kernel
theorem dX4_keep_25 : decode cX4_keep 25 = .ok (.putfield 18, 3) := by decide +kernel
theorem dX4_keep_28 : decode cX4_keep 28 = .ok (.aload_n 0, 1) := by decide +kernel
theorem dX4_keep_29 : decode cX4_keep 29 = .ok (.getfield 11, 3) := by decide +kernel
theorem dX4_keep_32 : decode cX4_keep 32 = .ok (.aload_n 0, 1) := by decide +kernel
theorem dX4_keep_33 : decode cX4_keep 33 = .ok (.getfield 22, 3) := by decide +kernel
theorem dX4_keep_36 : decode cX4_keep 36 = .ok (.aaload, 1) := by decide +kernel
theorem dX4_keep_37 : decode cX4_keep 37 = .ok (.astore_n 2, 1) := by decide +kernel
theorem dX4_keep_38 : decode cX4_keep 38 = .ok (.aload_n 2, 1) := by decide +kernel
theorem dX4_keep_39 : decode cX4_keep 39 = .ok (.ifnull 8, 3) := by decide +kernel
theorem dX4_keep_42 : decode cX4_keep 42 = .ok (.aload_n 2, 1) := by decide +kernel
theorem dX4_keep_43 : decode cX4_keep 43 = .ok (.aload_n 1, 1) := by decide +kernel
theorem dX4_keep_44 : decode cX4_keep 44 = .ok (.invokevirtual 31, 3) := by decide +kernel
theorem dX4_keep_47 : decode cX4_keep 47 = .ok (.return_, 1) := by decide +kernel
theorem dX4_giveLatest_0 : decode cX4_giveLatest 0 = .ok (.aload_n 0, 1) := by decide +kernel
theorem dX4_giveLatest_1 : decode cX4_giveLatest 1 = .ok (.getfield 18, 3) := by decide +kernel
theorem dX4_giveLatest_4 : decode cX4_giveLatest 4 = .ok (.ifCond .eq 7, 3) := by decide +kernel
theorem dX4_giveLatest_7 : decode cX4_giveLatest 7 = .ok (.aload_n 1, 1) := by decide +kernel
theorem dX4_giveLatest_8 : decode cX4_giveLatest 8 = .ok (.ifnonnull 5, 3) := by decide +kernel
theorem dX4_giveLatest_11 : decode cX4_giveLatest 11 = .ok (.iconst 0, 1) := by decide +kernel
theorem dX4_giveLatest_12 : decode cX4_giveLatest 12 = .ok (.ireturn, 1) := by decide +kernel
theorem dX4_giveLatest_13 : decode cX4_giveLatest 13 = .ok (.aload_n 1, 1) := by decide +kernel
theorem dX4_giveLatest_14 : decode cX4_giveLatest 14 = .ok (.aload_n 0, 1) := by decide +kernel
theorem dX4_giveLatest_15 : decode cX4_giveLatest 15 = .ok (.getfield 11, 3) := by decide +kernel
theorem dX4_giveLatest_18 : decode cX4_giveLatest 18 = .ok (.aload_n 0, 1) := by decide +kernel
theorem dX4_giveLatest_19 : decode cX4_giveLatest 19 = .ok (.getfield 22, 3) := by decide +kernel
theorem dX4_giveLatest_22 : decode cX4_giveLatest 22 = .ok (.aaload, 1) := by decide +kernel
theorem dX4_giveLatest_23 : decode cX4_giveLatest 23 = .ok (.invokevirtual 31, 3) := by decide +kernel
theorem dX4_giveLatest_26 : decode cX4_giveLatest 26 = .ok (.aload_n 0, 1) := by decide +kernel
theorem dX4_giveLatest_27 : decode cX4_giveLatest 27 = .ok (.aload_n 0, 1) := by decide +kernel
theorem dX4_giveLatest_28 : decode cX4_giveLatest 28 = .ok (.getfield 22, 3) := by decide +kernel
theorem dX4_giveLatest_31 : decode cX4_giveLatest 31 = .ok (.bipush 8, 2) := by decide +kernel
theorem dX4_giveLatest_33 : decode cX4_giveLatest 33 = .ok (.iadd, 1) := by decide +kernel
theorem dX4_giveLatest_34 : decode cX4_giveLatest 34 = .ok (.iconst 1, 1) := by decide +kernel
theorem dX4_giveLatest_35 : decode cX4_giveLatest 35 = .ok (.isub, 1) := by decide +kernel
theorem dX4_giveLatest_36 : decode cX4_giveLatest 36 = .ok (.bipush 8, 2) := by decide +kernel
theorem dX4_giveLatest_38 : decode cX4_giveLatest 38 = .ok (.irem, 1) := by decide +kernel
theorem dX4_giveLatest_39 : decode cX4_giveLatest 39 = .ok (.putfield 22, 3) := by decide +kernel
theorem dX4_giveLatest_42 : decode cX4_giveLatest 42 = .ok (.aload_n 0, 1) := by decide +kernel
theorem dX4_giveLatest_43 : decode cX4_giveLatest 43 = .ok (.dup, 1) := by decide +kernel
theorem dX4_giveLatest_44 : decode cX4_giveLatest 44 = .ok (.getfield 18, 3) := by decide +kernel
theorem dX4_giveLatest_47 : decode cX4_giveLatest 47 = .ok (.iconst 1, 1) := by decide +kernel
theorem dX4_giveLatest_48 : decode cX4_giveLatest 48 = .ok (.isub, 1) := by decide +kernel
theorem dX4_giveLatest_49 : decode cX4_giveLatest 49 = .ok (.putfield 18, 3) := by decide +kernel
theorem dX4_giveLatest_52 : decode cX4_giveLatest 52 = .ok (.iconst 1, 1) := by decide +kernel
theorem dX4_giveLatest_53 : decode cX4_giveLatest 53 = .ok (.ireturn, 1) := by decide +kernel
theorem dJ6_bitCount_0f7a4_0 : decode cJ6_bitCount_0f7a4 0 = .ok (.iload_n 0, 1) := by decide +kernel
theorem dJ6_bitCount_0f7a4_1 : decode cJ6_bitCount_0f7a4 1 = .ok (.iload_n 0, 1) := by decide +kernel
theorem dJ6_bitCount_0f7a4_2 : decode cJ6_bitCount_0f7a4 2 = .ok (.iconst 1, 1) := by decide +kernel
theorem dJ6_bitCount_0f7a4_3 : decode cJ6_bitCount_0f7a4 3 = .ok (.iushr, 1) := by decide +kernel
theorem dJ6_bitCount_0f7a4_4 : decode cJ6_bitCount_0f7a4 4 = .ok (.ldc_w 265, 3) := by decide +kernel
theorem dJ6_bitCount_0f7a4_7 : decode cJ6_bitCount_0f7a4 7 = .ok (.iand, 1) := by decide +kernel
theorem dJ6_bitCount_0f7a4_8 : decode cJ6_bitCount_0f7a4 8 = .ok (.isub, 1) := by decide +kernel
theorem dJ6_bitCount_0f7a4_9 : decode cJ6_bitCount_0f7a4 9 = .ok (.istore_n 0, 1) := by decide +kernel
theorem dJ6_bitCount_0f7a4_10 : decode cJ6_bitCount_0f7a4 10 = .ok (.iload_n 0, 1) := by decide +kernel
theorem dJ6_bitCount_0f7a4_11 : decode cJ6_bitCount_0f7a4 11 = .ok (.ldc_w 266, 3) := by decide +kernel
theorem dJ6_bitCount_0f7a4_14 : decode cJ6_bitCount_0f7a4 14 = .ok (.iand, 1) := by decide +kernel
theorem dJ6_bitCount_0f7a4_15 : decode cJ6_bitCount_0f7a4 15 = .ok (.iload_n 0, 1) := by decide +kernel
theorem dJ6_bitCount_0f7a4_16 : decode cJ6_bitCount_0f7a4 16 = .ok (.iconst 2, 1) := by decide +kernel
theorem dJ6_bitCount_0f7a4_17 : decode cJ6_bitCount_0f7a4 17 = .ok (.iushr, 1) := by decide +kernel
theorem dJ6_bitCount_0f7a4_18 : decode cJ6_bitCount_0f7a4 18 = .ok (.ldc_w 266, 3) := by decide +kernel
theorem dJ6_bitCount_0f7a4_21 : decode cJ6_bitCount_0f7a4 21 = .ok (.iand, 1) := by decide +kernel
theorem dJ6_bitCount_0f7a4_22 : decode cJ6_bitCount_0f7a4 22 = .ok (.iadd, 1) := by decide +kernel
theorem dJ6_bitCount_0f7a4_23 : decode cJ6_bitCount_0f7a4 23 = .ok (.istore_n 0, 1) := by decide +kernel
theorem dJ6_bitCount_0f7a4_24 : decode cJ6_bitCount_0f7a4 24 = .ok (.iload_n 0, 1) := by decide +kernel
theorem dJ6_bitCount_0f7a4_25 : decode cJ6_bitCount_0f7a4 25 = .ok (.iload_n 0, 1) := by decide +kernel
theorem dJ6_bitCount_0f7a4_26 : decode cJ6_bitCount_0f7a4 26 = .ok (.iconst 4, 1) := by decide +kernel
theorem dJ6_bitCount_0f7a4_27 : decode cJ6_bitCount_0f7a4 27 = .ok (.iushr, 1) := by decide +kernel
theorem dJ6_bitCount_0f7a4_28 : decode cJ6_bitCount_0f7a4 28 = .ok (.iadd, 1) := by decide +kernel
theorem dJ6_bitCount_0f7a4_29 : decode cJ6_bitCount_0f7a4 29 = .ok (.ldc_w 267, 3) := by decide +kernel
theorem dJ6_bitCount_0f7a4_32 : decode cJ6_bitCount_0f7a4 32 = .ok (.iand, 1) := by decide +kernel
theorem dJ6_bitCount_0f7a4_33 : decode cJ6_bitCount_0f7a4 33 = .ok (.istore_n 0, 1) := by decide +kernel
theorem dJ6_bitCount_0f7a4_34 : decode cJ6_bitCount_0f7a4 34 = .ok (.iload_n 0, 1) := by decide +kernel
theorem dJ6_bitCount_0f7a4_35 : decode cJ6_bitCount_0f7a4 35 = .ok (.iload_n 0, 1) := by decide +kernel
theorem dJ6_bitCount_0f7a4_36 : decode cJ6_bitCount_0f7a4 36 = .ok (.bipush 8, 2) := by decide +kernel
theorem dJ6_bitCount_0f7a4_38 : decode cJ6_bitCount_0f7a4 38 = .ok (.iushr, 1) := by decide +kernel
theorem dJ6_bitCount_0f7a4_39 : decode cJ6_bitCount_0f7a4 39 = .ok (.iadd, 1) := by decide +kernel
theorem dJ6_bitCount_0f7a4_40 : decode cJ6_bitCount_0f7a4 40 = .ok (.istore_n 0, 1) := by decide +kernel
theorem dJ6_bitCount_0f7a4_41 : decode cJ6_bitCount_0f7a4 41 = .ok (.iload_n 0, 1) := by decide +kernel
theorem dJ6_bitCount_0f7a4_42 : decode cJ6_bitCount_0f7a4 42 = .ok (.iload_n 0, 1) := by decide +kernel
theorem dJ6_bitCount_0f7a4_43 : decode cJ6_bitCount_0f7a4 43 = .ok (.bipush 16, 2) := by decide +kernel
theorem dJ6_bitCount_0f7a4_45 : decode cJ6_bitCount_0f7a4 45 = .ok (.iushr, 1) := by decide +kernel
theorem dJ6_bitCount_0f7a4_46 : decode cJ6_bitCount_0f7a4 46 = .ok (.iadd, 1) := by decide +kernel
theorem dJ6_bitCount_0f7a4_47 : decode cJ6_bitCount_0f7a4 47 = .ok (.istore_n 0, 1) := by decide +kernel
theorem dJ6_bitCount_0f7a4_48 : decode cJ6_bitCount_0f7a4 48 = .ok (.iload_n 0, 1) := by decide +kernel
theorem dJ6_bitCount_0f7a4_49 : decode cJ6_bitCount_0f7a4 49 = .ok (.bipush 63, 2) := by decide +kernel
theorem dJ6_bitCount_0f7a4_51 : decode cJ6_bitCount_0f7a4 51 = .ok (.iand, 1) := by decide +kernel
theorem dJ6_bitCount_0f7a4_52 : decode cJ6_bitCount_0f7a4 52 = .ok (.ireturn, 1) := by decide +kernel
theorem dJ9_max_7cf53_0 : decode cJ9_max_7cf53 0 = .ok (.iload_n 0, 1) := by decide +kernel
theorem dJ9_max_7cf53_1 : decode cJ9_max_7cf53 1 = .ok (.iload_n 1, 1) := by decide +kernel
theorem dJ9_max_7cf53_2 : decode cJ9_max_7cf53 2 = .ok (.if_icmp .lt 7, 3) := by decide +kernel
theorem dJ9_max_7cf53_5 : decode cJ9_max_7cf53 5 = .ok (.iload_n 0, 1) := by decide +kernel
theorem dJ9_max_7cf53_6 : decode cJ9_max_7cf53 6 = .ok (.goto 4, 3) := by decide +kernel
theorem dJ9_max_7cf53_9 : decode cJ9_max_7cf53 9 = .ok (.iload_n 1, 1) := by decide +kernel
theorem dJ9_max_7cf53_10 : decode cJ9_max_7cf53 10 = .ok (.ireturn, 1) := by decide +kernel
theorem dJ9_min_7cf53_0 : decode cJ9_min_7cf53 0 = .ok (.iload_n 0, 1) := by decide +kernel
theorem dJ9_min_7cf53_1 : decode cJ9_min_7cf53 1 = .ok (.iload_n 1, 1) := by decide +kernel
theorem dJ9_min_7cf53_2 : decode cJ9_min_7cf53 2 = .ok (.if_icmp .gt 7, 3) := by decide +kernel
theorem dJ9_min_7cf53_5 : decode cJ9_min_7cf53 5 = .ok (.iload_n 0, 1) := by decide +kernel
theorem dJ9_min_7cf53_6 : decode cJ9_min_7cf53 6 = .ok (.goto 4, 3) := by decide +kernel
theorem dJ9_min_7cf53_9 : decode cJ9_min_7cf53 9 = .ok (.iload_n 1, 1) := by decide +kernel
theorem dJ9_min_7cf53_10 : decode cJ9_min_7cf53 10 = .ok (.ireturn, 1) := by decide +kernel
