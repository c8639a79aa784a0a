theorem dX5_thrown_0 : decode cX5_thrown 0 = .ok (.aload_n 0, 1) := by decide +kernel
theorem dX5_thrown_1 : decode cX5_thrown 1 = .ok (.getfield 1, 3) := by decide +kernel
theorem dX5_thrown_4 : decode cX5_thrown 4 = .ok (.ireturn, 1) := by decide +kernel
theorem dX5_init_0 : decode cX5_init 0 = .ok (.aload_n 0, 1) := by decide +kernel
theorem dX5_init_1 : decode cX5_init 1 = .ok (.invokespecial 7, 3) := by decide +kernel
theorem dX5_init_4 : decode cX5_init 4 = .ok (.aload_n 0, 1) := by decide +kernel
theorem dX5_init_5 : decode cX5_init 5 = .ok (.sipush 1008, 3) := by decide +kernel
theorem dX5_init_8 : decode cX5_init 8 = .ok (.newarray .int, 2) := by decide +kernel
theorem dX5_init_10 : decode cX5_init 10 = .ok (.putfield 13, 3) := by decide +kernel
theorem dX5_init_13 : decode cX5_init 13 = .ok (.aload_n 0, 1) := by decide +kernel
theorem dX5_init_14 : decode cX5_init 14 = .ok (.bipush 40, 2) := by decide +kernel
theorem dX5_init_16 : decode cX5_init 16 = .ok (.newarray .int, 2) := by decide +kernel
theorem dX5_init_18 : decode cX5_init 18 = .ok (.putfield 17, 3) := by decide +kernel
theorem dX5_init_21 : decode cX5_init 21 = .ok (.aload_n 0, 1) := by decide +kernel
theorem dX5_init_22 : decode cX5_init 22 = .ok (.iconst (-1), 1) := by decide +kernel
theorem dX5_init_23 : decode cX5_init 23 = .ok (.putfield 20, 3) := by decide +kernel
theorem dX5_init_26 : decode cX5_init 26 = .ok (.aload_n 0, 1) := by decide +kernel
theorem dX5_init_27 : decode cX5_init 27 = .ok (.bipush 24, 2) := by decide +kernel
theorem dX5_init_29 : decode cX5_init 29 = .ok (.newarray .int, 2) := by decide +kernel
theorem dX5_init_31 : decode cX5_init 31 = .ok (.putfield 23, 3) := by decide +kernel
theorem dX5_init_34 : decode cX5_init 34 = .ok (.aload_n 0, 1) := by decide +kernel
theorem dX5_init_35 : decode cX5_init 35 = .ok (.bipush 14, 2) := by decide +kernel
theorem dX5_init_37 : decode cX5_init 37 = .ok (.newarray .int, 2) := by decide +kernel
theorem dX5_init_39 : decode cX5_init 39 = .ok (.putfield 26, 3) := by decide +kernel
theorem dX5_init_42 : decode cX5_init 42 = .ok (.aload_n 0, 1) := by decide +kernel
theorem dX5_init_43 : decode cX5_init 43 = .ok (.bipush 14, 2) := by decide +kernel
theorem dX5_init_45 : decode cX5_init 45 = .ok (.newarray .int, 2) := by decide +kernel
theorem dX5_init_47 : decode cX5_init 47 = .ok (.putfield 29, 3) := by decide +kernel
theorem dX5_init_50 : decode cX5_init 50 = .ok (.aload_n 0, 1) := by decide +kernel
theorem dX5_init_51 : decode cX5_init 51 = .ok (.bipush 14, 2) := by decide +kernel
theorem dX5_init_53 : decode cX5_init 53 = .ok (.newarray .int, 2) := by decide +kernel
theorem dX5_init_55 : decode cX5_init 55 = .ok (.putfield 32, 3) := by decide +kernel
theorem dX5_init_58 : decode cX5_init 58 = .ok (.iconst 0, 1) := by decide +kernel
theorem dX5_init_59 : decode cX5_init 59 = .ok (.istore_n 1, 1) := by decide +kernel
theorem dX5_init_60 : decode cX5_init 60 = .ok (.iload_n 1, 1) := by decide +kernel
theorem dX5_init_61 : decode cX5_init 61 = .ok (.bipush 6, 2) := by decide +kernel
theorem dX5_init_63 : decode cX5_init 63 = .ok (.if_icmp .ge 42, 3) := by decide +kernel
theorem dX5_init_66 : decode cX5_init 66 = .ok (.aload_n 0, 1) := by decide +kernel
theorem dX5_init_67 : decode cX5_init 67 = .ok (.getfield 13, 3) := by decide +kernel
theorem dX5_init_70 : decode cX5_init 70 = .ok (.iconst 0, 1) := by decide +kernel
theorem dX5_init_71 : decode cX5_init 71 = .ok (.iload_n 1, 1) := by decide +kernel
theorem dX5_init_72 : decode cX5_init 72 = .ok (.iadd, 1) := by decide +kernel
theorem dX5_init_73 : decode cX5_init 73 = .ok (.bipush 30, 2) := by decide +kernel
theorem dX5_init_75 : decode cX5_init 75 = .ok (.iastore, 1) := by decide +kernel
theorem dX5_init_76 : decode cX5_init 76 = .ok (.aload_n 0, 1) := by decide +kernel
theorem dX5_init_77 : decode cX5_init 77 = .ok (.getfield 13, 3) := by decide +kernel
theorem dX5_init_80 : decode cX5_init 80 = .ok (.bipush 12, 2) := by decide +kernel
theorem dX5_init_82 : decode cX5_init 82 = .ok (.iload_n 1, 1) := by decide +kernel
theorem dX5_init_83 : decode cX5_init 83 = .ok (.iadd, 1) := by decide +kernel
theorem dX5_init_84 : decode cX5_init 84 = .ok (.bipush 10, 2) := by decide +kernel
theorem dX5_init_86 : decode cX5_init 86 = .ok (.iastore, 1) := by decide +kernel
theorem dX5_init_87 : decode cX5_init 87 = .ok (.aload_n 0, 1) := by decide +kernel
theorem dX5_init_88 : decode cX5_init 88 = .ok (.getfield 13, 3) := by decide +kernel
theorem dX5_init_91 : decode cX5_init 91 = .ok (.bipush 18, 2) := by decide +kernel
theorem dX5_init_93 : decode cX5_init 93 = .ok (.iload_n 1, 1) := by decide +kernel
theorem dX5_init_94 : decode cX5_init 94 = .ok (.iadd, 1) := by decide +kernel
theorem dX5_init_95 : decode cX5_init 95 = .ok (.sipush 1023, 3) := by decide +kernel
theorem dX5_init_98 : decode cX5_init 98 = .ok (.iastore, 1) := by decide +kernel
theorem dX5_init_99 : decode cX5_init 99 = .ok (.iinc 1 1, 3) := by decide +kernel
theorem dX5_init_102 : decode cX5_init 102 = .ok (.goto (-42), 3) := by decide +kernel
theorem dX5_init_105 : decode cX5_init 105 = .ok (.iconst 0, 1) := by decide +kernel
theorem dX5_init_106 : decode cX5_init 106 = .ok (.istore_n 1, 1) := by decide +kernel
theorem dX5_init_107 : decode cX5_init 107 = .ok (.iload_n 1, 1) := by decide +kernel
theorem dX5_init_108 : decode cX5_init 108 = .ok (.iconst 3, 1) := by decide +kernel
theorem dX5_init_109 : decode cX5_init 109 = .ok (.if_icmp .ge 19, 3) := by decide +kernel
theorem dX5_init_112 : decode cX5_init 112 = .ok (.aload_n 0, 1) := by decide +kernel
theorem dX5_init_113 : decode cX5_init 113 = .ok (.getfield 13, 3) := by decide +kernel
theorem dX5_init_116 : decode cX5_init 116 = .ok (.bipush 24, 2) := by decide +kernel
theorem dX5_init_118 : decode cX5_init 118 = .ok (.iload_n 1, 1) := by decide +kernel
theorem dX5_init_119 : decode cX5_init 119 = .ok (.iadd, 1) := by decide +kernel
theorem dX5_init_120 : decode cX5_init 120 = .ok (.iconst 1, 1) := by decide +kernel
theorem dX5_init_121 : decode cX5_init 121 = .ok (.iastore, 1) := by decide +kernel
theorem dX5_init_122 : decode cX5_init 122 = .ok (.iinc 1 1, 3) := by decide +kernel
theorem dX5_init_125 : decode cX5_init 125 = .ok (.goto (-18), 3) := by decide +kernel
theorem dX5_init_128 : decode cX5_init 128 = .ok (.return_, 1) := by decide +kernel
theorem dX5_in_0 : decode cX5_in 0 = .ok (.iload_n 0, 1) := by decide +kernel
theorem dX5_in_1 : decode cX5_in 1 = .ok (.iload_n 1, 1) := by decide +kernel
theorem dX5_in_2 : decode cX5_in 2 = .ok (.if_icmp .lt 12, 3) := by decide +kernel
theorem dX5_in_5 : decode cX5_in 5 = .ok (.iload_n 0, 1) := by decide +kernel
theorem dX5_in_6 : decode cX5_in 6 = .ok (.iload_n 2, 1) := by decide +kernel
theorem dX5_in_7 : decode cX5_in 7 = .ok (.if_icmp .gt 7, 3) := by decide +kernel
theorem dX5_in_10 : decode cX5_in 10 = .ok (.iconst 1, 1) := by decide +kernel
theorem dX5_in_11 : decode cX5_in 11 = .ok (.goto 4, 3) := by decide +kernel
theorem dX5_in_14 : decode cX5_in 14 = .ok (.iconst 0, 1) := by decide +kernel
theorem dX5_in_15 : decode cX5_in 15 = .ok (.ireturn, 1) := by decide +kernel
theorem dX5_of_0 : decode cX5_of 0 = .ok (.aload_n 0, 1) := by decide +kernel
theorem dX5_of_1 : decode cX5_of 1 = .ok (.getfield 13, 3) := by decide +kernel
theorem dX5_of_4 : decode cX5_of 4 = .ok (.iload_n 1, 1) := by decide +kernel
theorem dX5_of_5 : decode cX5_of 5 = .ok (.iload_n 2, 1) := by decide +kernel
theorem dX5_of_6 : decode cX5_of 6 = .ok (.iadd, 1) := by decide +kernel
theorem dX5_of_7 : decode cX5_of 7 = .ok (.iaload, 1) := by decide +kernel
theorem dX5_of_8 : decode cX5_of 8 = .ok (.ireturn, 1) := by decide +kernel
theorem dX5_many_0 : decode cX5_many 0 = .ok (.aload_n 0, 1) := by decide +kernel
theorem dX5_many_1 : decode cX5_many 1 = .ok (.getfield 13, 3) := by decide +kernel
theorem dX5_many_4 : decode cX5_many 4 = .ok (.bipush 27, 2) := by decide +kernel
theorem dX5_many_6 : decode cX5_many 6 = .ok (.iaload, 1) := by decide +kernel
theorem dX5_many_7 : decode cX5_many 7 = .ok (.ireturn, 1) := by decide +kernel
theorem dX5_isEvent_0 : decode cX5_isEvent 0 = .ok (.iload_n 1, 1) := by decide +kernel
theorem dX5_isEvent_1 : decode cX5_isEvent 1 = .ok (.iconst 0, 1) := by decide +kernel
theorem dX5_isEvent_2 : decode cX5_isEvent 2 = .ok (.aload_n 0, 1) := by decide +kernel
theorem dX5_isEvent_3 : decode cX5_isEvent 3 = .ok (.invokevirtual 35, 3) := by decide +kernel
theorem dX5_isEvent_6 : decode cX5_isEvent 6 = .ok (.iconst 1, 1) := by decide +kernel
theorem dX5_isEvent_7 : decode cX5_isEvent 7 = .ok (.isub, 1) := by decide +kernel
theorem dX5_isEvent_8 : decode cX5_isEvent 8 = .ok (.invokestatic 39, 3) := by decide +kernel
theorem dX5_isEvent_11 : decode cX5_isEvent 11 = .ok (.ireturn, 1) := by decide +kernel
theorem dX5_copies_0 : decode cX5_copies 0 = .ok (.iconst 0, 1) := by decide +kernel
theorem dX5_copies_1 : decode cX5_copies 1 = .ok (.istore_n 3, 1) := by decide +kernel
theorem dX5_copies_2 : decode cX5_copies 2 = .ok (.iload_n 3, 1) := by decide +kernel
theorem dX5_copies_3 : decode cX5_copies 3 = .ok (.bipush 126, 2) := by decide +kernel
theorem dX5_copies_5 : decode cX5_copies 5 = .ok (.if_icmp .ge 31, 3) := by decide +kernel
theorem dX5_copies_8 : decode cX5_copies 8 = .ok (.aload_n 0, 1) := by decide +kernel
theorem dX5_copies_9 : decode cX5_copies 9 = .ok (.getfield 13, 3) := by decide +kernel
theorem dX5_copies_12 : decode cX5_copies 12 = .ok (.bipush 126, 2) := by decide +kernel
theorem dX5_copies_14 : decode cX5_copies 14 = .ok (.iload_n 2, 1) := by decide +kernel
theorem dX5_copies_15 : decode cX5_copies 15 = .ok (.imul, 1) := by decide +kernel
theorem dX5_copies_16 : decode cX5_copies 16 = .ok (.iload_n 3, 1) := by decide +kernel
theorem dX5_copies_17 : decode cX5_copies 17 = .ok (.iadd, 1) := by decide +kernel
theorem dX5_copies_18 : decode cX5_copies 18 = .ok (.aload_n 0, 1) := by decide +kernel
theorem dX5_copies_19 : decode cX5_copies 19 = .ok (.getfield 13, 3) := by decide +kernel
theorem dX5_copies_22 : decode cX5_copies 22 = .ok (.bipush 126, 2) := by decide +kernel
theorem dX5_copies_24 : decode cX5_copies 24 = .ok (.iload_n 1, 1) := by decide +kernel
theorem dX5_copies_25 : decode cX5_copies 25 = .ok (.imul, 1) := by decide +kernel
theorem dX5_copies_26 : decode cX5_copies 26 = .ok (.iload_n 3, 1) := by decide +kernel
theorem dX5_copies_27 : decode cX5_copies 27 = .ok (.iadd, 1) := by decide +kernel
theorem dX5_copies_28 : decode cX5_copies 28 = .ok (.iaload, 1) := by decide +kernel
theorem dX5_copies_29 : decode cX5_copies 29 = .ok (.iastore, 1) := by decide +kernel
theorem dX5_copies_30 : decode cX5_copies 30 = .ok (.iinc 3 1, 3) := by decide +kernel
theorem dX5_copies_33 : decode cX5_copies 33 = .ok (.goto (-31), 3) := by decide +kernel
theorem dX5_copies_36 : decode cX5_copies 36 = .ok (.return_, 1) := by decide +kernel
theorem dX5_keeps_0 : decode cX5_keeps 0 = .ok (.aload_n 0, 1) := by decide +kernel
theorem dX5_keeps_1 : decode cX5_keeps 1 = .ok (.getfield 43, 3) := by decide +kernel
theorem dX5_keeps_4 : decode cX5_keeps 4 = .ok (.bipush 6, 2) := by decide +kernel
theorem dX5_keeps_6 : decode cX5_keeps 6 = .ok (.if_icmp .ne 35, 3) := by decide +kernel
theorem dX5_keeps_9 : decode cX5_keeps 9 = .ok (.iconst 1, 1) := by decide +kernel
theorem dX5_keeps_10 : decode cX5_keeps 10 = .ok (.istore_n 1, 1) := by decide +kernel
theorem dX5_keeps_11 : decode cX5_keeps 11 = .ok (.iload_n 1, 1) := by decide +kernel
theorem dX5_keeps_12 : decode cX5_keeps 12 = .ok (.bipush 6, 2) := by decide +kernel
theorem dX5_keeps_14 : decode cX5_keeps 14 = .ok (.if_icmp .ge 17, 3) := by decide +kernel
theorem dX5_keeps_17 : decode cX5_keeps 17 = .ok (.aload_n 0, 1) := by decide +kernel
theorem dX5_keeps_18 : decode cX5_keeps 18 = .ok (.iload_n 1, 1) := by decide +kernel
theorem dX5_keeps_19 : decode cX5_keeps 19 = .ok (.iconst 1, 1) := by decide +kernel
theorem dX5_keeps_20 : decode cX5_keeps 20 = .ok (.iadd, 1) := by decide +kernel
theorem dX5_keeps_21 : decode cX5_keeps 21 = .ok (.iload_n 1, 1) := by decide +kernel
theorem dX5_keeps_22 : decode cX5_keeps 22 = .ok (.invokevirtual 46, 3) := by decide +kernel
theorem dX5_keeps_25 : decode cX5_keeps 25 = .ok (.iinc 1 1, 3) := by decide +kernel
theorem dX5_keeps_28 : decode cX5_keeps 28 = .ok (.goto (-17), 3) := by decide +kernel
theorem dX5_keeps_31 : decode cX5_keeps 31 = .ok (.aload_n 0, 1) := by decide +kernel
theorem dX5_keeps_32 : decode cX5_keeps 32 = .ok (.dup, 1) := by decide +kernel
theorem dX5_keeps_33 : decode cX5_keeps 33 = .ok (.getfield 43, 3) := by decide +kernel
theorem dX5_keeps_36 : decode cX5_keeps 36 = .ok (.iconst 1, 1) := by decide +kernel
theorem dX5_keeps_37 : decode cX5_keeps 37 = .ok (.isub, 1) := by decide +kernel
theorem dX5_keeps_38 : decode cX5_keeps 38 = .ok (.putfield 43, 3) := by decide +kernel
theorem dX5_keeps_41 : decode cX5_keeps 41 = .ok (.aload_n 0, 1) := by decide +kernel
theorem dX5_keeps_42 : decode cX5_keeps 42 = .ok (.dup, 1) := by decide +kernel
theorem dX5_keeps_43 : decode cX5_keeps 43 = .ok (.getfield 43, 3) := by decide +kernel
theorem dX5_keeps_46 : decode cX5_keeps 46 = .ok (.iconst 1, 1) := by decide +kernel
theorem dX5_keeps_47 : decode cX5_keeps 47 = .ok (.iadd, 1) := by decide +kernel
theorem dX5_keeps_48 : decode cX5_keeps 48 = .ok (.putfield 43, 3) := by decide +kernel
theorem dX5_keeps_51 : decode cX5_keeps 51 = .ok (.aload_n 0, 1) := by decide +kernel
theorem dX5_keeps_52 : decode cX5_keeps 52 = .ok (.iconst 0, 1) := by decide +kernel
theorem dX5_keeps_53 : decode cX5_keeps 53 = .ok (.aload_n 0, 1) := by decide +kernel
theorem dX5_keeps_54 : decode cX5_keeps 54 = .ok (.getfield 43, 3) := by decide +kernel
theorem dX5_keeps_57 : decode cX5_keeps 57 = .ok (.invokevirtual 46, 3) := by decide +kernel
theorem dX5_keeps_60 : decode cX5_keeps 60 = .ok (.return_, 1) := by decide +kernel
theorem dX5_isLast_0 : decode cX5_isLast 0 = .ok (.iload_n 0, 1) := by decide +kernel
theorem dX5_isLast_1 : decode cX5_isLast 1 = .ok (.iconst 5, 1) := by decide +kernel
theorem dX5_isLast_2 : decode cX5_isLast 2 = .ok (.irem, 1) := by decide +kernel
theorem dX5_isLast_3 : decode cX5_isLast 3 = .ok (.iconst 4, 1) := by decide +kernel
theorem dX5_isLast_4 : decode cX5_isLast 4 = .ok (.if_icmp .ne 7, 3) := by decide +kernel
theorem dX5_isLast_7 : decode cX5_isLast 7 = .ok (.iconst 1, 1) := by decide +kernel
theorem dX5_isLast_8 : decode cX5_isLast 8 = .ok (.goto 4, 3) := by decide +kernel
theorem dX5_isLast_11 : decode cX5_isLast 11 = .ok (.iconst 0, 1) := by decide +kernel
theorem dX5_isLast_12 : decode cX5_isLast 12 = .ok (.ireturn, 1) := by decide +kernel
theorem dX5_slots_0 : decode cX5_slots 0 = .ok (.iconst 1, 1) := by decide +kernel
theorem dX5_slots_1 : decode cX5_slots 1 = .ok (.iload_n 0, 1) := by decide +kernel
theorem dX5_slots_2 : decode cX5_slots 2 = .ok (.ishl, 1) := by decide +kernel
theorem dX5_slots_3 : decode cX5_slots 3 = .ok (.iload_n 1, 1) := by decide +kernel
theorem dX5_slots_4 : decode cX5_slots 4 = .ok (.iconst 2, 1) := by decide +kernel
theorem dX5_slots_5 : decode cX5_slots 5 = .ok (.if_icmp .ne 18, 3) := by decide +kernel
theorem dX5_slots_8 : decode cX5_slots 8 = .ok (.iload_n 0, 1) := by decide +kernel
theorem dX5_slots_9 : decode cX5_slots 9 = .ok (.invokestatic 50, 3) := by decide +kernel
theorem dX5_slots_12 : decode cX5_slots 12 = .ok (.ifCond .ne 11, 3) := by decide +kernel
theorem dX5_slots_15 : decode cX5_slots 15 = .ok (.iconst 1, 1) := by decide +kernel
theorem dX5_slots_16 : decode cX5_slots 16 = .ok (.iload_n 0, 1) := by decide +kernel
theorem dX5_slots_17 : decode cX5_slots 17 = .ok (.iconst 1, 1) := by decide +kernel
theorem dX5_slots_18 : decode cX5_slots 18 = .ok (.iadd, 1) := by decide +kernel
theorem dX5_slots_19 : decode cX5_slots 19 = .ok (.ishl, 1) := by decide +kernel
theorem dX5_slots_20 : decode cX5_slots 20 = .ok (.goto 4, 3) := by decide +kernel
theorem dX5_slots_23 : decode cX5_slots 23 = .ok (.iconst 0, 1) := by decide +kernel
theorem dX5_slots_24 : decode cX5_slots 24 = .ok (.ior, 1) := by decide +kernel
theorem dX5_slots_25 : decode cX5_slots 25 = .ok (.ireturn, 1) := by decide +kernel
theorem dX5_slotsOf_0 : decode cX5_slotsOf 0 = .ok (.aload_n 0, 1) := by decide +kernel
theorem dX5_slotsOf_1 : decode cX5_slotsOf 1 = .ok (.bipush 84, 2) := by decide +kernel
theorem dX5_slotsOf_3 : decode cX5_slotsOf 3 = .ok (.iload_n 1, 1) := by decide +kernel
theorem dX5_slotsOf_4 : decode cX5_slotsOf 4 = .ok (.invokevirtual 54, 3) := by decide +kernel
theorem dX5_slotsOf_7 : decode cX5_slotsOf 7 = .ok (.ifCond .ge 7, 3) := by decide +kernel
theorem dX5_slotsOf_10 : decode cX5_slotsOf 10 = .ok (.iconst 0, 1) := by decide +kernel
theorem dX5_slotsOf_11 : decode cX5_slotsOf 11 = .ok (.goto 23, 3) := by decide +kernel
theorem dX5_slotsOf_14 : decode cX5_slotsOf 14 = .ok (.aload_n 0, 1) := by decide +kernel
theorem dX5_slotsOf_15 : decode cX5_slotsOf 15 = .ok (.bipush 84, 2) := by decide +kernel
theorem dX5_slotsOf_17 : decode cX5_slotsOf 17 = .ok (.iload_n 1, 1) := by decide +kernel
theorem dX5_slotsOf_18 : decode cX5_slotsOf 18 = .ok (.invokevirtual 54, 3) := by decide +kernel
theorem dX5_slotsOf_21 : decode cX5_slotsOf 21 = .ok (.bipush 6, 2) := by decide +kernel
theorem dX5_slotsOf_23 : decode cX5_slotsOf 23 = .ok (.idiv, 1) := by decide +kernel
theorem dX5_slotsOf_24 : decode cX5_slotsOf 24 = .ok (.aload_n 0, 1) := by decide +kernel
theorem dX5_slotsOf_25 : decode cX5_slotsOf 25 = .ok (.bipush 70, 2) := by decide +kernel
theorem dX5_slotsOf_27 : decode cX5_slotsOf 27 = .ok (.iload_n 1, 1) := by decide +kernel
theorem dX5_slotsOf_28 : decode cX5_slotsOf 28 = .ok (.invokevirtual 54, 3) := by decide +kernel
theorem dX5_slotsOf_31 : decode cX5_slotsOf 31 = .ok (.invokestatic 58, 3) := by decide +kernel
theorem dX5_slotsOf_34 : decode cX5_slotsOf 34 = .ok (.ireturn, 1) := by decide +kernel
theorem dX5_sizeOf_0 : decode cX5_sizeOf 0 = .ok (.iconst 0, 1) := by decide +kernel
theorem dX5_sizeOf_1 : decode cX5_sizeOf 1 = .ok (.istore_n 2, 1) := by decide +kernel
theorem dX5_sizeOf_2 : decode cX5_sizeOf 2 = .ok (.iconst 0, 1) := by decide +kernel
theorem dX5_sizeOf_3 : decode cX5_sizeOf 3 = .ok (.istore_n 3, 1) := by decide +kernel
theorem dX5_sizeOf_4 : decode cX5_sizeOf 4 = .ok (.iload_n 3, 1) := by decide +kernel
theorem dX5_sizeOf_5 : decode cX5_sizeOf 5 = .ok (.bipush 6, 2) := by decide +kernel
theorem dX5_sizeOf_7 : decode cX5_sizeOf 7 = .ok (.if_icmp .ge 25, 3) := by decide +kernel
theorem dX5_sizeOf_10 : decode cX5_sizeOf 10 = .ok (.iload_n 2, 1) := by decide +kernel
theorem dX5_sizeOf_11 : decode cX5_sizeOf 11 = .ok (.iload_n 1, 1) := by decide +kernel
theorem dX5_sizeOf_12 : decode cX5_sizeOf 12 = .ok (.iload_n 3, 1) := by decide +kernel
theorem dX5_sizeOf_13 : decode cX5_sizeOf 13 = .ok (.ishr, 1) := by decide +kernel
theorem dX5_sizeOf_14 : decode cX5_sizeOf 14 = .ok (.iconst 1, 1) := by decide +kernel
theorem dX5_sizeOf_15 : decode cX5_sizeOf 15 = .ok (.iand, 1) := by decide +kernel
theorem dX5_sizeOf_16 : decode cX5_sizeOf 16 = .ok (.aload_n 0, 1) := by decide +kernel
theorem dX5_sizeOf_17 : decode cX5_sizeOf 17 = .ok (.bipush 12, 2) := by decide +kernel
theorem dX5_sizeOf_19 : decode cX5_sizeOf 19 = .ok (.iload_n 3, 1) := by decide +kernel
theorem dX5_sizeOf_20 : decode cX5_sizeOf 20 = .ok (.invokevirtual 54, 3) := by decide +kernel
theorem dX5_sizeOf_23 : decode cX5_sizeOf 23 = .ok (.imul, 1) := by decide +kernel
theorem dX5_sizeOf_24 : decode cX5_sizeOf 24 = .ok (.iadd, 1) := by decide +kernel
theorem dX5_sizeOf_25 : decode cX5_sizeOf 25 = .ok (.istore_n 2, 1) := by decide +kernel
theorem dX5_sizeOf_26 : decode cX5_sizeOf 26 = .ok (.iinc 3 1, 3) := by decide +kernel
theorem dX5_sizeOf_29 : decode cX5_sizeOf 29 = .ok (.goto (-25), 3) := by decide +kernel
theorem dX5_sizeOf_32 : decode cX5_sizeOf 32 = .ok (.iload_n 2, 1) := by decide +kernel
theorem dX5_sizeOf_33 : decode cX5_sizeOf 33 = .ok (.ireturn, 1) := by decide +kernel
theorem dX5_isBound_0 : decode cX5_isBound 0 = .ok (.aload_n 0, 1) := by decide +kernel
theorem dX5_isBound_1 : decode cX5_isBound 1 = .ok (.bipush 28, 2) := by decide +kernel
theorem dX5_isBound_3 : decode cX5_isBound 3 = .ok (.iload_n 1, 1) := by decide +kernel
theorem dX5_isBound_4 : decode cX5_isBound 4 = .ok (.invokevirtual 54, 3) := by decide +kernel
theorem dX5_isBound_7 : decode cX5_isBound 7 = .ok (.aload_n 0, 1) := by decide +kernel
theorem dX5_isBound_8 : decode cX5_isBound 8 = .ok (.bipush 28, 2) := by decide +kernel
theorem dX5_isBound_10 : decode cX5_isBound 10 = .ok (.iload_n 2, 1) := by decide +kernel
theorem dX5_isBound_11 : decode cX5_isBound 11 = .ok (.invokevirtual 54, 3) := by decide +kernel
theorem dX5_isBound_14 : decode cX5_isBound 14 = .ok (.if_icmp .eq 21, 3) := by decide +kernel
theorem dX5_isBound_17 : decode cX5_isBound 17 = .ok (.aload_n 0, 1) := by decide +kernel
theorem dX5_isBound_18 : decode cX5_isBound 18 = .ok (.bipush 42, 2) := by decide +kernel
theorem dX5_isBound_20 : decode cX5_isBound 20 = .ok (.iload_n 1, 1) := by decide +kernel
theorem dX5_isBound_21 : decode cX5_isBound 21 = .ok (.invokevirtual 54, 3) := by decide +kernel
theorem dX5_isBound_24 : decode cX5_isBound 24 = .ok (.aload_n 0, 1) := by decide +kernel
theorem dX5_isBound_25 : decode cX5_isBound 25 = .ok (.bipush 42, 2) := by decide +kernel
theorem dX5_isBound_27 : decode cX5_isBound 27 = .ok (.iload_n 2, 1) := by decide +kernel
theorem dX5_isBound_28 : decode cX5_isBound 28 = .ok (.invokevirtual 54, 3) := by decide +kernel
theorem dX5_isBound_31 : decode cX5_isBound 31 = .ok (.iand, 1) := by decide +kernel
theorem dX5_isBound_32 : decode cX5_isBound 32 = .ok (.ifCond .eq 7, 3) := by decide +kernel
theorem dX5_isBound_35 : decode cX5_isBound 35 = .ok (.iconst 1, 1) := by decide +kernel
theorem dX5_isBound_36 : decode cX5_isBound 36 = .ok (.goto 4, 3) := by decide +kernel
theorem dX5_isBound_39 : decode cX5_isBound 39 = .ok (.iconst 0, 1) := by decide +kernel
theorem dX5_isBound_40 : decode cX5_isBound 40 = .ok (.ireturn, 1) := by decide +kernel
theorem dX5_hinders_0 : decode cX5_hinders 0 = .ok (.iload_n 3, 1) := by decide +kernel
theorem dX5_hinders_1 : decode cX5_hinders 1 = .ok (.iload_n 1, 1) := by decide +kernel
theorem dX5_hinders_2 : decode cX5_hinders 2 = .ok (.if_icmp .eq 26, 3) := by decide +kernel
theorem dX5_hinders_5 : decode cX5_hinders 5 = .ok (.aload_n 0, 1) := by decide +kernel
theorem dX5_hinders_6 : decode cX5_hinders 6 = .ok (.iload_n 3, 1) := by decide +kernel
theorem dX5_hinders_7 : decode cX5_hinders 7 = .ok (.invokevirtual 61, 3) := by decide +kernel
theorem dX5_hinders_10 : decode cX5_hinders 10 = .ok (.iload_n 2, 1) := by decide +kernel
theorem dX5_hinders_11 : decode cX5_hinders 11 = .ok (.bipush 6, 2) := by decide +kernel
theorem dX5_hinders_13 : decode cX5_hinders 13 = .ok (.idiv, 1) := by decide +kernel
theorem dX5_hinders_14 : decode cX5_hinders 14 = .ok (.aload_n 0, 1) := by decide +kernel
theorem dX5_hinders_15 : decode cX5_hinders 15 = .ok (.bipush 70, 2) := by decide +kernel
theorem dX5_hinders_17 : decode cX5_hinders 17 = .ok (.iload_n 1, 1) := by decide +kernel
theorem dX5_hinders_18 : decode cX5_hinders 18 = .ok (.invokevirtual 54, 3) := by decide +kernel
theorem dX5_hinders_21 : decode cX5_hinders 21 = .ok (.invokestatic 58, 3) := by decide +kernel
theorem dX5_hinders_24 : decode cX5_hinders 24 = .ok (.iand, 1) := by decide +kernel
theorem dX5_hinders_25 : decode cX5_hinders 25 = .ok (.ifCond .ne 5, 3) := by decide +kernel
theorem dX5_hinders_28 : decode cX5_hinders 28 = .ok (.iconst 0, 1) := by decide +kernel
theorem dX5_hinders_29 : decode cX5_hinders 29 = .ok (.ireturn, 1) := by decide +kernel
theorem dX5_hinders_30 : decode cX5_hinders 30 = .ok (.iload 4, 2) := by decide +kernel
theorem dX5_hinders_32 : decode cX5_hinders 32 = .ok (.iconst 5, 1) := by decide +kernel
theorem dX5_hinders_33 : decode cX5_hinders 33 = .ok (.if_icmp .ne 28, 3) := by decide +kernel
theorem dX5_hinders_36 : decode cX5_hinders 36 = .ok (.aload_n 0, 1) := by decide +kernel
theorem dX5_hinders_37 : decode cX5_hinders 37 = .ok (.bipush 84, 2) := by decide +kernel
theorem dX5_hinders_39 : decode cX5_hinders 39 = .ok (.iload_n 3, 1) := by decide +kernel
theorem dX5_hinders_40 : decode cX5_hinders 40 = .ok (.invokevirtual 54, 3) := by decide +kernel
theorem dX5_hinders_43 : decode cX5_hinders 43 = .ok (.bipush 6, 2) := by decide +kernel
theorem dX5_hinders_45 : decode cX5_hinders 45 = .ok (.irem, 1) := by decide +kernel
theorem dX5_hinders_46 : decode cX5_hinders 46 = .ok (.iload_n 2, 1) := by decide +kernel
theorem dX5_hinders_47 : decode cX5_hinders 47 = .ok (.bipush 6, 2) := by decide +kernel
theorem dX5_hinders_49 : decode cX5_hinders 49 = .ok (.irem, 1) := by decide +kernel
theorem dX5_hinders_50 : decode cX5_hinders 50 = .ok (.if_icmp .ne 7, 3) := by decide +kernel
theorem dX5_hinders_53 : decode cX5_hinders 53 = .ok (.iconst 1, 1) := by decide +kernel
theorem dX5_hinders_54 : decode cX5_hinders 54 = .ok (.goto 62, 3) := by decide +kernel
theorem dX5_hinders_57 : decode cX5_hinders 57 = .ok (.iconst 0, 1) := by decide +kernel
theorem dX5_hinders_58 : decode cX5_hinders 58 = .ok (.goto 58, 3) := by decide +kernel
theorem dX5_hinders_61 : decode cX5_hinders 61 = .ok (.iload 4, 2) := by decide +kernel
theorem dX5_hinders_63 : decode cX5_hinders 63 = .ok (.bipush 6, 2) := by decide +kernel
theorem dX5_hinders_65 : decode cX5_hinders 65 = .ok (.if_icmp .ne 28, 3) := by decide +kernel
theorem dX5_hinders_68 : decode cX5_hinders 68 = .ok (.aload_n 0, 1) := by decide +kernel
theorem dX5_hinders_69 : decode cX5_hinders 69 = .ok (.bipush 28, 2) := by decide +kernel
theorem dX5_hinders_71 : decode cX5_hinders 71 = .ok (.iload_n 3, 1) := by decide +kernel
theorem dX5_hinders_72 : decode cX5_hinders 72 = .ok (.invokevirtual 54, 3) := by decide +kernel
theorem dX5_hinders_75 : decode cX5_hinders 75 = .ok (.aload_n 0, 1) := by decide +kernel
theorem dX5_hinders_76 : decode cX5_hinders 76 = .ok (.bipush 28, 2) := by decide +kernel
theorem dX5_hinders_78 : decode cX5_hinders 78 = .ok (.iload_n 1, 1) := by decide +kernel
theorem dX5_hinders_79 : decode cX5_hinders 79 = .ok (.invokevirtual 54, 3) := by decide +kernel
theorem dX5_hinders_82 : decode cX5_hinders 82 = .ok (.if_icmp .ne 7, 3) := by decide +kernel
theorem dX5_hinders_85 : decode cX5_hinders 85 = .ok (.iconst 1, 1) := by decide +kernel
theorem dX5_hinders_86 : decode cX5_hinders 86 = .ok (.goto 30, 3) := by decide +kernel
theorem dX5_hinders_89 : decode cX5_hinders 89 = .ok (.iconst 0, 1) := by decide +kernel
theorem dX5_hinders_90 : decode cX5_hinders 90 = .ok (.goto 26, 3) := by decide +kernel
theorem dX5_hinders_93 : decode cX5_hinders 93 = .ok (.aload_n 0, 1) := by decide +kernel
theorem dX5_hinders_94 : decode cX5_hinders 94 = .ok (.bipush 42, 2) := by decide +kernel
theorem dX5_hinders_96 : decode cX5_hinders 96 = .ok (.iload_n 3, 1) := by decide +kernel
theorem dX5_hinders_97 : decode cX5_hinders 97 = .ok (.invokevirtual 54, 3) := by decide +kernel
theorem dX5_hinders_100 : decode cX5_hinders 100 = .ok (.aload_n 0, 1) := by decide +kernel
theorem dX5_hinders_101 : decode cX5_hinders 101 = .ok (.bipush 42, 2) := by decide +kernel
theorem dX5_hinders_103 : decode cX5_hinders 103 = .ok (.iload_n 1, 1) := by decide +kernel
theorem dX5_hinders_104 : decode cX5_hinders 104 = .ok (.invokevirtual 54, 3) := by decide +kernel
theorem dX5_hinders_107 : decode cX5_hinders 107 = .ok (.iand, 1) := by decide +kernel
theorem dX5_hinders_108 : decode cX5_hinders 108 = .ok (.ifCond .eq 7, 3) := by decide +kernel
theorem dX5_hinders_111 : decode cX5_hinders 111 = .ok (.iconst 1, 1) := by decide +kernel
theorem dX5_hinders_112 : decode cX5_hinders 112 = .ok (.goto 4, 3) := by decide +kernel
theorem dX5_hinders_115 : decode cX5_hinders 115 = .ok (.iconst 0, 1) := by decide +kernel
theorem dX5_hinders_116 : decode cX5_hinders 116 = .ok (.ireturn, 1) := by decide +kernel
theorem dX5_hinderingOf_0 : decode cX5_hinderingOf 0 = .ok (.iconst 0, 1) := by decide +kernel
theorem dX5_hinderingOf_1 : decode cX5_hinderingOf 1 = .ok (.istore_n 3, 1) := by decide +kernel
theorem dX5_hinderingOf_2 : decode cX5_hinderingOf 2 = .ok (.iconst 0, 1) := by decide +kernel
theorem dX5_hinderingOf_3 : decode cX5_hinderingOf 3 = .ok (.istore 4, 2) := by decide +kernel
theorem dX5_hinderingOf_5 : decode cX5_hinderingOf 5 = .ok (.iload 4, 2) := by decide +kernel
theorem dX5_hinderingOf_7 : decode cX5_hinderingOf 7 = .ok (.aload_n 0, 1) := by decide +kernel
theorem dX5_hinderingOf_8 : decode cX5_hinderingOf 8 = .ok (.invokevirtual 35, 3) := by decide +kernel
theorem dX5_hinderingOf_11 : decode cX5_hinderingOf 11 = .ok (.if_icmp .ge 58, 3) := by decide +kernel
theorem dX5_hinderingOf_14 : decode cX5_hinderingOf 14 = .ok (.iload_n 3, 1) := by decide +kernel
theorem dX5_hinderingOf_15 : decode cX5_hinderingOf 15 = .ok (.aload_n 0, 1) := by decide +kernel
theorem dX5_hinderingOf_16 : decode cX5_hinderingOf 16 = .ok (.iload_n 1, 1) := by decide +kernel
theorem dX5_hinderingOf_17 : decode cX5_hinderingOf 17 = .ok (.iload_n 2, 1) := by decide +kernel
theorem dX5_hinderingOf_18 : decode cX5_hinderingOf 18 = .ok (.iload 4, 2) := by decide +kernel
theorem dX5_hinderingOf_20 : decode cX5_hinderingOf 20 = .ok (.iconst 5, 1) := by decide +kernel
theorem dX5_hinderingOf_21 : decode cX5_hinderingOf 21 = .ok (.invokevirtual 65, 3) := by decide +kernel
theorem dX5_hinderingOf_24 : decode cX5_hinderingOf 24 = .ok (.ifCond .ne 29, 3) := by decide +kernel
theorem dX5_hinderingOf_27 : decode cX5_hinderingOf 27 = .ok (.aload_n 0, 1) := by decide +kernel
theorem dX5_hinderingOf_28 : decode cX5_hinderingOf 28 = .ok (.iload_n 1, 1) := by decide +kernel
theorem dX5_hinderingOf_29 : decode cX5_hinderingOf 29 = .ok (.iload_n 2, 1) := by decide +kernel
theorem dX5_hinderingOf_30 : decode cX5_hinderingOf 30 = .ok (.iload 4, 2) := by decide +kernel
theorem dX5_hinderingOf_32 : decode cX5_hinderingOf 32 = .ok (.bipush 6, 2) := by decide +kernel
theorem dX5_hinderingOf_34 : decode cX5_hinderingOf 34 = .ok (.invokevirtual 65, 3) := by decide +kernel
theorem dX5_hinderingOf_37 : decode cX5_hinderingOf 37 = .ok (.ifCond .ne 16, 3) := by decide +kernel
theorem dX5_hinderingOf_40 : decode cX5_hinderingOf 40 = .ok (.aload_n 0, 1) := by decide +kernel
theorem dX5_hinderingOf_41 : decode cX5_hinderingOf 41 = .ok (.iload_n 1, 1) := by decide +kernel
theorem dX5_hinderingOf_42 : decode cX5_hinderingOf 42 = .ok (.iload_n 2, 1) := by decide +kernel
theorem dX5_hinderingOf_43 : decode cX5_hinderingOf 43 = .ok (.iload 4, 2) := by decide +kernel
theorem dX5_hinderingOf_45 : decode cX5_hinderingOf 45 = .ok (.bipush 7, 2) := by decide +kernel
theorem dX5_hinderingOf_47 : decode cX5_hinderingOf 47 = .ok (.invokevirtual 65, 3) := by decide +kernel
theorem dX5_hinderingOf_50 : decode cX5_hinderingOf 50 = .ok (.ifCond .eq 10, 3) := by decide +kernel
theorem dX5_hinderingOf_53 : decode cX5_hinderingOf 53 = .ok (.iconst 1, 1) := by decide +kernel
theorem dX5_hinderingOf_54 : decode cX5_hinderingOf 54 = .ok (.iload 4, 2) := by decide +kernel
theorem dX5_hinderingOf_56 : decode cX5_hinderingOf 56 = .ok (.ishl, 1) := by decide +kernel
theorem dX5_hinderingOf_57 : decode cX5_hinderingOf 57 = .ok (.goto 4, 3) := by decide +kernel
theorem dX5_hinderingOf_60 : decode cX5_hinderingOf 60 = .ok (.iconst 0, 1) := by decide +kernel
theorem dX5_hinderingOf_61 : decode cX5_hinderingOf 61 = .ok (.ior, 1) := by decide +kernel
theorem dX5_hinderingOf_62 : decode cX5_hinderingOf 62 = .ok (.istore_n 3, 1) := by decide +kernel
theorem dX5_hinderingOf_63 : decode cX5_hinderingOf 63 = .ok (.iinc 4 1, 3) := by decide +kernel
theorem dX5_hinderingOf_66 : decode cX5_hinderingOf 66 = .ok (.goto (-61), 3) := by decide +kernel
theorem dX5_hinderingOf_69 : decode cX5_hinderingOf 69 = .ok (.iload_n 3, 1) := by decide +kernel
theorem dX5_hinderingOf_70 : decode cX5_hinderingOf 70 = .ok (.ireturn, 1) := by decide +kernel
theorem dX5_obstacleOf_0 : decode cX5_obstacleOf 0 = .ok (.iload_n 2, 1) := by decide +kernel
theorem dX5_obstacleOf_1 : decode cX5_obstacleOf 1 = .ok (.bipush 6, 2) := by decide +kernel
theorem dX5_obstacleOf_3 : decode cX5_obstacleOf 3 = .ok (.idiv, 1) := by decide +kernel
theorem dX5_obstacleOf_4 : decode cX5_obstacleOf 4 = .ok (.istore_n 3, 1) := by decide +kernel
theorem dX5_obstacleOf_5 : decode cX5_obstacleOf 5 = .ok (.iload_n 2, 1) := by decide +kernel
theorem dX5_obstacleOf_6 : decode cX5_obstacleOf 6 = .ok (.bipush 6, 2) := by decide +kernel
theorem dX5_obstacleOf_8 : decode cX5_obstacleOf 8 = .ok (.irem, 1) := by decide +kernel
theorem dX5_obstacleOf_9 : decode cX5_obstacleOf 9 = .ok (.istore 4, 2) := by decide +kernel
theorem dX5_obstacleOf_11 : decode cX5_obstacleOf 11 = .ok (.aload_n 0, 1) := by decide +kernel
theorem dX5_obstacleOf_12 : decode cX5_obstacleOf 12 = .ok (.bipush 70, 2) := by decide +kernel
theorem dX5_obstacleOf_14 : decode cX5_obstacleOf 14 = .ok (.iload_n 1, 1) := by decide +kernel
theorem dX5_obstacleOf_15 : decode cX5_obstacleOf 15 = .ok (.invokevirtual 54, 3) := by decide +kernel
theorem dX5_obstacleOf_18 : decode cX5_obstacleOf 18 = .ok (.iconst 2, 1) := by decide +kernel
theorem dX5_obstacleOf_19 : decode cX5_obstacleOf 19 = .ok (.if_icmp .ne 12, 3) := by decide +kernel
theorem dX5_obstacleOf_22 : decode cX5_obstacleOf 22 = .ok (.iload_n 3, 1) := by decide +kernel
theorem dX5_obstacleOf_23 : decode cX5_obstacleOf 23 = .ok (.invokestatic 50, 3) := by decide +kernel
theorem dX5_obstacleOf_26 : decode cX5_obstacleOf 26 = .ok (.ifCond .eq 5, 3) := by decide +kernel
theorem dX5_obstacleOf_29 : decode cX5_obstacleOf 29 = .ok (.iconst 1, 1) := by decide +kernel
theorem dX5_obstacleOf_30 : decode cX5_obstacleOf 30 = .ok (.ireturn, 1) := by decide +kernel
theorem dX5_obstacleOf_31 : decode cX5_obstacleOf 31 = .ok (.iload_n 3, 1) := by decide +kernel
theorem dX5_obstacleOf_32 : decode cX5_obstacleOf 32 = .ok (.aload_n 0, 1) := by decide +kernel
theorem dX5_obstacleOf_33 : decode cX5_obstacleOf 33 = .ok (.bipush 70, 2) := by decide +kernel
theorem dX5_obstacleOf_35 : decode cX5_obstacleOf 35 = .ok (.iload_n 1, 1) := by decide +kernel
theorem dX5_obstacleOf_36 : decode cX5_obstacleOf 36 = .ok (.invokevirtual 54, 3) := by decide +kernel
theorem dX5_obstacleOf_39 : decode cX5_obstacleOf 39 = .ok (.invokestatic 58, 3) := by decide +kernel
theorem dX5_obstacleOf_42 : decode cX5_obstacleOf 42 = .ok (.aload_n 0, 1) := by decide +kernel
theorem dX5_obstacleOf_43 : decode cX5_obstacleOf 43 = .ok (.bipush 18, 2) := by decide +kernel
theorem dX5_obstacleOf_45 : decode cX5_obstacleOf 45 = .ok (.aload_n 0, 1) := by decide +kernel
theorem dX5_obstacleOf_46 : decode cX5_obstacleOf 46 = .ok (.bipush 28, 2) := by decide +kernel
theorem dX5_obstacleOf_48 : decode cX5_obstacleOf 48 = .ok (.iload_n 1, 1) := by decide +kernel
theorem dX5_obstacleOf_49 : decode cX5_obstacleOf 49 = .ok (.invokevirtual 54, 3) := by decide +kernel
theorem dX5_obstacleOf_52 : decode cX5_obstacleOf 52 = .ok (.invokevirtual 54, 3) := by decide +kernel
theorem dX5_obstacleOf_55 : decode cX5_obstacleOf 55 = .ok (.iconst (-1), 1) := by decide +kernel
theorem dX5_obstacleOf_56 : decode cX5_obstacleOf 56 = .ok (.ixor, 1) := by decide +kernel
theorem dX5_obstacleOf_57 : decode cX5_obstacleOf 57 = .ok (.iand, 1) := by decide +kernel
theorem dX5_obstacleOf_58 : decode cX5_obstacleOf 58 = .ok (.ifCond .eq 5, 3) := by decide +kernel
theorem dX5_obstacleOf_61 : decode cX5_obstacleOf 61 = .ok (.iconst 2, 1) := by decide +kernel
theorem dX5_obstacleOf_62 : decode cX5_obstacleOf 62 = .ok (.ireturn, 1) := by decide +kernel
theorem dX5_obstacleOf_63 : decode cX5_obstacleOf 63 = .ok (.aload_n 0, 1) := by decide +kernel
theorem dX5_obstacleOf_64 : decode cX5_obstacleOf 64 = .ok (.iconst 0, 1) := by decide +kernel
theorem dX5_obstacleOf_65 : decode cX5_obstacleOf 65 = .ok (.iload 4, 2) := by decide +kernel
theorem dX5_obstacleOf_67 : decode cX5_obstacleOf 67 = .ok (.invokevirtual 54, 3) := by decide +kernel
theorem dX5_obstacleOf_70 : decode cX5_obstacleOf 70 = .ok (.aload_n 0, 1) := by decide +kernel
theorem dX5_obstacleOf_71 : decode cX5_obstacleOf 71 = .ok (.aload_n 0, 1) := by decide +kernel
theorem dX5_obstacleOf_72 : decode cX5_obstacleOf 72 = .ok (.bipush 42, 2) := by decide +kernel
theorem dX5_obstacleOf_74 : decode cX5_obstacleOf 74 = .ok (.iload_n 1, 1) := by decide +kernel
theorem dX5_obstacleOf_75 : decode cX5_obstacleOf 75 = .ok (.invokevirtual 54, 3) := by decide +kernel
theorem dX5_obstacleOf_78 : decode cX5_obstacleOf 78 = .ok (.invokevirtual 69, 3) := by decide +kernel
theorem dX5_obstacleOf_81 : decode cX5_obstacleOf 81 = .ok (.if_icmp .ge 5, 3) := by decide +kernel
theorem dX5_obstacleOf_84 : decode cX5_obstacleOf 84 = .ok (.iconst 3, 1) := by decide +kernel
theorem dX5_obstacleOf_85 : decode cX5_obstacleOf 85 = .ok (.ireturn, 1) := by decide +kernel
theorem dX5_obstacleOf_86 : decode cX5_obstacleOf 86 = .ok (.aload_n 0, 1) := by decide +kernel
theorem dX5_obstacleOf_87 : decode cX5_obstacleOf 87 = .ok (.bipush 56, 2) := by decide +kernel
theorem dX5_obstacleOf_89 : decode cX5_obstacleOf 89 = .ok (.iload_n 1, 1) := by decide +kernel
theorem dX5_obstacleOf_90 : decode cX5_obstacleOf 90 = .ok (.invokevirtual 54, 3) := by decide +kernel
theorem dX5_obstacleOf_93 : decode cX5_obstacleOf 93 = .ok (.aload_n 0, 1) := by decide +kernel
theorem dX5_obstacleOf_94 : decode cX5_obstacleOf 94 = .ok (.bipush 6, 2) := by decide +kernel
theorem dX5_obstacleOf_96 : decode cX5_obstacleOf 96 = .ok (.iload 4, 2) := by decide +kernel
theorem dX5_obstacleOf_98 : decode cX5_obstacleOf 98 = .ok (.invokevirtual 54, 3) := by decide +kernel
theorem dX5_obstacleOf_101 : decode cX5_obstacleOf 101 = .ok (.iconst (-1), 1) := by decide +kernel
theorem dX5_obstacleOf_102 : decode cX5_obstacleOf 102 = .ok (.ixor, 1) := by decide +kernel
theorem dX5_obstacleOf_103 : decode cX5_obstacleOf 103 = .ok (.iand, 1) := by decide +kernel
theorem dX5_obstacleOf_104 : decode cX5_obstacleOf 104 = .ok (.ifCond .eq 5, 3) := by decide +kernel
theorem dX5_obstacleOf_107 : decode cX5_obstacleOf 107 = .ok (.iconst 4, 1) := by decide +kernel
theorem dX5_obstacleOf_108 : decode cX5_obstacleOf 108 = .ok (.ireturn, 1) := by decide +kernel
theorem dX5_obstacleOf_109 : decode cX5_obstacleOf 109 = .ok (.iconst 5, 1) := by decide +kernel
theorem dX5_obstacleOf_110 : decode cX5_obstacleOf 110 = .ok (.istore 5, 2) := by decide +kernel
theorem dX5_obstacleOf_112 : decode cX5_obstacleOf 112 = .ok (.iload 5, 2) := by decide +kernel
theorem dX5_obstacleOf_114 : decode cX5_obstacleOf 114 = .ok (.bipush 8, 2) := by decide +kernel
theorem dX5_obstacleOf_116 : decode cX5_obstacleOf 116 = .ok (.if_icmp .ge 43, 3) := by decide +kernel
theorem dX5_obstacleOf_119 : decode cX5_obstacleOf 119 = .ok (.iconst 0, 1) := by decide +kernel
theorem dX5_obstacleOf_120 : decode cX5_obstacleOf 120 = .ok (.istore 6, 2) := by decide +kernel
theorem dX5_obstacleOf_122 : decode cX5_obstacleOf 122 = .ok (.iload 6, 2) := by decide +kernel
theorem dX5_obstacleOf_124 : decode cX5_obstacleOf 124 = .ok (.aload_n 0, 1) := by decide +kernel
theorem dX5_obstacleOf_125 : decode cX5_obstacleOf 125 = .ok (.invokevirtual 35, 3) := by decide +kernel
theorem dX5_obstacleOf_128 : decode cX5_obstacleOf 128 = .ok (.if_icmp .ge 25, 3) := by decide +kernel
theorem dX5_obstacleOf_131 : decode cX5_obstacleOf 131 = .ok (.aload_n 0, 1) := by decide +kernel
theorem dX5_obstacleOf_132 : decode cX5_obstacleOf 132 = .ok (.iload_n 1, 1) := by decide +kernel
theorem dX5_obstacleOf_133 : decode cX5_obstacleOf 133 = .ok (.iload_n 2, 1) := by decide +kernel
theorem dX5_obstacleOf_134 : decode cX5_obstacleOf 134 = .ok (.iload 6, 2) := by decide +kernel
theorem dX5_obstacleOf_136 : decode cX5_obstacleOf 136 = .ok (.iload 5, 2) := by decide +kernel
theorem dX5_obstacleOf_138 : decode cX5_obstacleOf 138 = .ok (.invokevirtual 65, 3) := by decide +kernel
theorem dX5_obstacleOf_141 : decode cX5_obstacleOf 141 = .ok (.ifCond .eq 6, 3) := by decide +kernel
theorem dX5_obstacleOf_144 : decode cX5_obstacleOf 144 = .ok (.iload 5, 2) := by decide +kernel
theorem dX5_obstacleOf_146 : decode cX5_obstacleOf 146 = .ok (.ireturn, 1) := by decide +kernel
theorem dX5_obstacleOf_147 : decode cX5_obstacleOf 147 = .ok (.iinc 6 1, 3) := by decide +kernel
theorem dX5_obstacleOf_150 : decode cX5_obstacleOf 150 = .ok (.goto (-28), 3) := by decide +kernel
theorem dX5_obstacleOf_153 : decode cX5_obstacleOf 153 = .ok (.iinc 5 1, 3) := by decide +kernel
theorem dX5_obstacleOf_156 : decode cX5_obstacleOf 156 = .ok (.goto (-44), 3) := by decide +kernel
theorem dX5_obstacleOf_159 : decode cX5_obstacleOf 159 = .ok (.iconst 0, 1) := by decide +kernel
theorem dX5_obstacleOf_160 : decode cX5_obstacleOf 160 = .ok (.ireturn, 1) := by decide +kernel
theorem dX5_isSuitable_0 : decode cX5_isSuitable 0 = .ok (.aload_n 0, 1) := by decide +kernel
theorem dX5_isSuitable_1 : decode cX5_isSuitable 1 = .ok (.iload_n 1, 1) := by decide +kernel
theorem dX5_isSuitable_2 : decode cX5_isSuitable 2 = .ok (.iload_n 2, 1) := by decide +kernel
theorem dX5_isSuitable_3 : decode cX5_isSuitable 3 = .ok (.invokevirtual 72, 3) := by decide +kernel
theorem dX5_isSuitable_6 : decode cX5_isSuitable 6 = .ok (.iconst 1, 1) := by decide +kernel
theorem dX5_isSuitable_7 : decode cX5_isSuitable 7 = .ok (.iconst 4, 1) := by decide +kernel
theorem dX5_isSuitable_8 : decode cX5_isSuitable 8 = .ok (.invokestatic 39, 3) := by decide +kernel
theorem dX5_isSuitable_11 : decode cX5_isSuitable 11 = .ok (.ifCond .ne 7, 3) := by decide +kernel
theorem dX5_isSuitable_14 : decode cX5_isSuitable 14 = .ok (.iconst 1, 1) := by decide +kernel
theorem dX5_isSuitable_15 : decode cX5_isSuitable 15 = .ok (.goto 4, 3) := by decide +kernel
theorem dX5_isSuitable_18 : decode cX5_isSuitable 18 = .ok (.iconst 0, 1) := by decide +kernel
theorem dX5_isSuitable_19 : decode cX5_isSuitable 19 = .ok (.ireturn, 1) := by decide +kernel
theorem dX5_lays_0 : decode cX5_lays 0 = .ok (.aload_n 0, 1) := by decide +kernel
theorem dX5_lays_1 : decode cX5_lays 1 = .ok (.getfield 13, 3) := by decide +kernel
theorem dX5_lays_4 : decode cX5_lays 4 = .ok (.bipush 84, 2) := by decide +kernel
theorem dX5_lays_6 : decode cX5_lays 6 = .ok (.iload_n 1, 1) := by decide +kernel
theorem dX5_lays_7 : decode cX5_lays 7 = .ok (.iadd, 1) := by decide +kernel
theorem dX5_lays_8 : decode cX5_lays 8 = .ok (.iload_n 2, 1) := by decide +kernel
theorem dX5_lays_9 : decode cX5_lays 9 = .ok (.iastore, 1) := by decide +kernel
theorem dX5_lays_10 : decode cX5_lays 10 = .ok (.return_, 1) := by decide +kernel
theorem dX5_lifts_0 : decode cX5_lifts 0 = .ok (.aload_n 0, 1) := by decide +kernel
theorem dX5_lifts_1 : decode cX5_lifts 1 = .ok (.getfield 13, 3) := by decide +kernel
theorem dX5_lifts_4 : decode cX5_lifts 4 = .ok (.bipush 84, 2) := by decide +kernel
theorem dX5_lifts_6 : decode cX5_lifts 6 = .ok (.iload_n 1, 1) := by decide +kernel
theorem dX5_lifts_7 : decode cX5_lifts 7 = .ok (.iadd, 1) := by decide +kernel
theorem dX5_lifts_8 : decode cX5_lifts 8 = .ok (.iconst (-1), 1) := by decide +kernel
theorem dX5_lifts_9 : decode cX5_lifts 9 = .ok (.iastore, 1) := by decide +kernel
theorem dX5_lifts_10 : decode cX5_lifts 10 = .ok (.aload_n 0, 1) := by decide +kernel
theorem dX5_lifts_11 : decode cX5_lifts 11 = .ok (.getfield 13, 3) := by decide +kernel
theorem dX5_lifts_14 : decode cX5_lifts 14 = .ok (.bipush 98, 2) := by decide +kernel
theorem dX5_lifts_16 : decode cX5_lifts 16 = .ok (.iload_n 1, 1) := by decide +kernel
theorem dX5_lifts_17 : decode cX5_lifts 17 = .ok (.iadd, 1) := by decide +kernel
theorem dX5_lifts_18 : decode cX5_lifts 18 = .ok (.iconst 0, 1) := by decide +kernel
theorem dX5_lifts_19 : decode cX5_lifts 19 = .ok (.iastore, 1) := by decide +kernel
theorem dX5_lifts_20 : decode cX5_lifts 20 = .ok (.return_, 1) := by decide +kernel
theorem dX5_clears_0 : decode cX5_clears 0 = .ok (.iconst 0, 1) := by decide +kernel
theorem dX5_clears_1 : decode cX5_clears 1 = .ok (.istore_n 1, 1) := by decide +kernel
theorem dX5_clears_2 : decode cX5_clears 2 = .ok (.iconst 0, 1) := by decide +kernel
theorem dX5_clears_3 : decode cX5_clears 3 = .ok (.istore_n 2, 1) := by decide +kernel
theorem dX5_clears_4 : decode cX5_clears 4 = .ok (.iload_n 2, 1) := by decide +kernel
theorem dX5_clears_5 : decode cX5_clears 5 = .ok (.aload_n 0, 1) := by decide +kernel
theorem dX5_clears_6 : decode cX5_clears 6 = .ok (.invokevirtual 35, 3) := by decide +kernel
theorem dX5_clears_9 : decode cX5_clears 9 = .ok (.if_icmp .ge 45, 3) := by decide +kernel
theorem dX5_clears_12 : decode cX5_clears 12 = .ok (.aload_n 0, 1) := by decide +kernel
theorem dX5_clears_13 : decode cX5_clears 13 = .ok (.bipush 84, 2) := by decide +kernel
theorem dX5_clears_15 : decode cX5_clears 15 = .ok (.iload_n 2, 1) := by decide +kernel
theorem dX5_clears_16 : decode cX5_clears 16 = .ok (.invokevirtual 54, 3) := by decide +kernel
theorem dX5_clears_19 : decode cX5_clears 19 = .ok (.ifCond .lt 29, 3) := by decide +kernel
theorem dX5_clears_22 : decode cX5_clears 22 = .ok (.aload_n 0, 1) := by decide +kernel
theorem dX5_clears_23 : decode cX5_clears 23 = .ok (.iload_n 2, 1) := by decide +kernel
theorem dX5_clears_24 : decode cX5_clears 24 = .ok (.aload_n 0, 1) := by decide +kernel
theorem dX5_clears_25 : decode cX5_clears 25 = .ok (.bipush 84, 2) := by decide +kernel
theorem dX5_clears_27 : decode cX5_clears 27 = .ok (.iload_n 2, 1) := by decide +kernel
theorem dX5_clears_28 : decode cX5_clears 28 = .ok (.invokevirtual 54, 3) := by decide +kernel
theorem dX5_clears_31 : decode cX5_clears 31 = .ok (.invokevirtual 75, 3) := by decide +kernel
theorem dX5_clears_34 : decode cX5_clears 34 = .ok (.ifCond .eq 6, 3) := by decide +kernel
theorem dX5_clears_37 : decode cX5_clears 37 = .ok (.goto 11, 3) := by decide +kernel
theorem dX5_clears_40 : decode cX5_clears 40 = .ok (.aload_n 0, 1) := by decide +kernel
theorem dX5_clears_41 : decode cX5_clears 41 = .ok (.iload_n 2, 1) := by decide +kernel
theorem dX5_clears_42 : decode cX5_clears 42 = .ok (.invokevirtual 79, 3) := by decide +kernel
theorem dX5_clears_45 : decode cX5_clears 45 = .ok (.iinc 1 1, 3) := by decide +kernel
theorem dX5_clears_48 : decode cX5_clears 48 = .ok (.iinc 2 1, 3) := by decide +kernel
theorem dX5_clears_51 : decode cX5_clears 51 = .ok (.goto (-47), 3) := by decide +kernel
theorem dX5_clears_54 : decode cX5_clears 54 = .ok (.iload_n 1, 1) := by decide +kernel
theorem dX5_clears_55 : decode cX5_clears 55 = .ok (.ireturn, 1) := by decide +kernel
theorem dX5_setRoom_0 : decode cX5_setRoom 0 = .ok (.aload_n 0, 1) := by decide +kernel
theorem dX5_setRoom_1 : decode cX5_setRoom 1 = .ok (.iload_n 1, 1) := by decide +kernel
theorem dX5_setRoom_2 : decode cX5_setRoom 2 = .ok (.iconst 0, 1) := by decide +kernel
theorem dX5_setRoom_3 : decode cX5_setRoom 3 = .ok (.iconst 5, 1) := by decide +kernel
theorem dX5_setRoom_4 : decode cX5_setRoom 4 = .ok (.invokestatic 39, 3) := by decide +kernel
theorem dX5_setRoom_7 : decode cX5_setRoom 7 = .ok (.ifCond .ne 7, 3) := by decide +kernel
theorem dX5_setRoom_10 : decode cX5_setRoom 10 = .ok (.iconst 1, 1) := by decide +kernel
theorem dX5_setRoom_11 : decode cX5_setRoom 11 = .ok (.goto 28, 3) := by decide +kernel
theorem dX5_setRoom_14 : decode cX5_setRoom 14 = .ok (.iload_n 2, 1) := by decide +kernel
theorem dX5_setRoom_15 : decode cX5_setRoom 15 = .ok (.iconst 0, 1) := by decide +kernel
theorem dX5_setRoom_16 : decode cX5_setRoom 16 = .ok (.bipush 99, 2) := by decide +kernel
theorem dX5_setRoom_18 : decode cX5_setRoom 18 = .ok (.invokestatic 39, 3) := by decide +kernel
theorem dX5_setRoom_21 : decode cX5_setRoom 21 = .ok (.ifCond .eq 13, 3) := by decide +kernel
theorem dX5_setRoom_24 : decode cX5_setRoom 24 = .ok (.iload_n 3, 1) := by decide +kernel
theorem dX5_setRoom_25 : decode cX5_setRoom 25 = .ok (.iconst 0, 1) := by decide +kernel
theorem dX5_setRoom_26 : decode cX5_setRoom 26 = .ok (.bipush 15, 2) := by decide +kernel
theorem dX5_setRoom_28 : decode cX5_setRoom 28 = .ok (.invokestatic 39, 3) := by decide +kernel
theorem dX5_setRoom_31 : decode cX5_setRoom 31 = .ok (.ifCond .ne 7, 3) := by decide +kernel
theorem dX5_setRoom_34 : decode cX5_setRoom 34 = .ok (.iconst 2, 1) := by decide +kernel
theorem dX5_setRoom_35 : decode cX5_setRoom 35 = .ok (.goto 4, 3) := by decide +kernel
theorem dX5_setRoom_38 : decode cX5_setRoom 38 = .ok (.iconst 0, 1) := by decide +kernel
theorem dX5_setRoom_39 : decode cX5_setRoom 39 = .ok (.putfield 1, 3) := by decide +kernel
theorem dX5_setRoom_42 : decode cX5_setRoom 42 = .ok (.aload_n 0, 1) := by decide +kernel
theorem dX5_setRoom_43 : decode cX5_setRoom 43 = .ok (.getfield 1, 3) := by decide +kernel
theorem dX5_setRoom_46 : decode cX5_setRoom 46 = .ok (.ifCond .eq 5, 3) := by decide +kernel
theorem dX5_setRoom_49 : decode cX5_setRoom 49 = .ok (.iconst 0, 1) := by decide +kernel
theorem dX5_setRoom_50 : decode cX5_setRoom 50 = .ok (.ireturn, 1) := by decide +kernel
theorem dX5_setRoom_51 : decode cX5_setRoom 51 = .ok (.aload_n 0, 1) := by decide +kernel
theorem dX5_setRoom_52 : decode cX5_setRoom 52 = .ok (.invokevirtual 83, 3) := by decide +kernel
theorem dX5_setRoom_55 : decode cX5_setRoom 55 = .ok (.aload_n 0, 1) := by decide +kernel
theorem dX5_setRoom_56 : decode cX5_setRoom 56 = .ok (.getfield 13, 3) := by decide +kernel
theorem dX5_setRoom_59 : decode cX5_setRoom 59 = .ok (.iconst 0, 1) := by decide +kernel
theorem dX5_setRoom_60 : decode cX5_setRoom 60 = .ok (.iload_n 1, 1) := by decide +kernel
theorem dX5_setRoom_61 : decode cX5_setRoom 61 = .ok (.iadd, 1) := by decide +kernel
theorem dX5_setRoom_62 : decode cX5_setRoom 62 = .ok (.iload_n 2, 1) := by decide +kernel
theorem dX5_setRoom_63 : decode cX5_setRoom 63 = .ok (.iastore, 1) := by decide +kernel
theorem dX5_setRoom_64 : decode cX5_setRoom 64 = .ok (.aload_n 0, 1) := by decide +kernel
theorem dX5_setRoom_65 : decode cX5_setRoom 65 = .ok (.getfield 13, 3) := by decide +kernel
theorem dX5_setRoom_68 : decode cX5_setRoom 68 = .ok (.bipush 6, 2) := by decide +kernel
theorem dX5_setRoom_70 : decode cX5_setRoom 70 = .ok (.iload_n 1, 1) := by decide +kernel
theorem dX5_setRoom_71 : decode cX5_setRoom 71 = .ok (.iadd, 1) := by decide +kernel
theorem dX5_setRoom_72 : decode cX5_setRoom 72 = .ok (.iload_n 3, 1) := by decide +kernel
theorem dX5_setRoom_73 : decode cX5_setRoom 73 = .ok (.iastore, 1) := by decide +kernel
theorem dX5_setRoom_74 : decode cX5_setRoom 74 = .ok (.aload_n 0, 1) := by decide +kernel
theorem dX5_setRoom_75 : decode cX5_setRoom 75 = .ok (.invokevirtual 86, 3) := by decide +kernel
theorem dX5_setRoom_78 : decode cX5_setRoom 78 = .ok (.ireturn, 1) := by decide +kernel
theorem dX5_setGroup_0 : decode cX5_setGroup 0 = .ok (.aload_n 0, 1) := by decide +kernel
theorem dX5_setGroup_1 : decode cX5_setGroup 1 = .ok (.iload_n 1, 1) := by decide +kernel
theorem dX5_setGroup_2 : decode cX5_setGroup 2 = .ok (.iconst 0, 1) := by decide +kernel
theorem dX5_setGroup_3 : decode cX5_setGroup 3 = .ok (.iconst 5, 1) := by decide +kernel
theorem dX5_setGroup_4 : decode cX5_setGroup 4 = .ok (.invokestatic 39, 3) := by decide +kernel
theorem dX5_setGroup_7 : decode cX5_setGroup 7 = .ok (.ifCond .ne 7, 3) := by decide +kernel
theorem dX5_setGroup_10 : decode cX5_setGroup 10 = .ok (.iconst 1, 1) := by decide +kernel
theorem dX5_setGroup_11 : decode cX5_setGroup 11 = .ok (.goto 18, 3) := by decide +kernel
theorem dX5_setGroup_14 : decode cX5_setGroup 14 = .ok (.iload_n 2, 1) := by decide +kernel
theorem dX5_setGroup_15 : decode cX5_setGroup 15 = .ok (.iconst 0, 1) := by decide +kernel
theorem dX5_setGroup_16 : decode cX5_setGroup 16 = .ok (.bipush 40, 2) := by decide +kernel
theorem dX5_setGroup_18 : decode cX5_setGroup 18 = .ok (.invokestatic 39, 3) := by decide +kernel
theorem dX5_setGroup_21 : decode cX5_setGroup 21 = .ok (.ifCond .ne 7, 3) := by decide +kernel
theorem dX5_setGroup_24 : decode cX5_setGroup 24 = .ok (.iconst 2, 1) := by decide +kernel
theorem dX5_setGroup_25 : decode cX5_setGroup 25 = .ok (.goto 4, 3) := by decide +kernel
theorem dX5_setGroup_28 : decode cX5_setGroup 28 = .ok (.iconst 0, 1) := by decide +kernel
theorem dX5_setGroup_29 : decode cX5_setGroup 29 = .ok (.putfield 1, 3) := by decide +kernel
theorem dX5_setGroup_32 : decode cX5_setGroup 32 = .ok (.aload_n 0, 1) := by decide +kernel
theorem dX5_setGroup_33 : decode cX5_setGroup 33 = .ok (.getfield 1, 3) := by decide +kernel
theorem dX5_setGroup_36 : decode cX5_setGroup 36 = .ok (.ifCond .eq 5, 3) := by decide +kernel
theorem dX5_setGroup_39 : decode cX5_setGroup 39 = .ok (.iconst 0, 1) := by decide +kernel
theorem dX5_setGroup_40 : decode cX5_setGroup 40 = .ok (.ireturn, 1) := by decide +kernel
theorem dX5_setGroup_41 : decode cX5_setGroup 41 = .ok (.aload_n 0, 1) := by decide +kernel
theorem dX5_setGroup_42 : decode cX5_setGroup 42 = .ok (.invokevirtual 83, 3) := by decide +kernel
theorem dX5_setGroup_45 : decode cX5_setGroup 45 = .ok (.aload_n 0, 1) := by decide +kernel
theorem dX5_setGroup_46 : decode cX5_setGroup 46 = .ok (.getfield 13, 3) := by decide +kernel
theorem dX5_setGroup_49 : decode cX5_setGroup 49 = .ok (.bipush 12, 2) := by decide +kernel
theorem dX5_setGroup_51 : decode cX5_setGroup 51 = .ok (.iload_n 1, 1) := by decide +kernel
theorem dX5_setGroup_52 : decode cX5_setGroup 52 = .ok (.iadd, 1) := by decide +kernel
theorem dX5_setGroup_53 : decode cX5_setGroup 53 = .ok (.iload_n 2, 1) := by decide +kernel
theorem dX5_setGroup_54 : decode cX5_setGroup 54 = .ok (.iastore, 1) := by decide +kernel
theorem dX5_setGroup_55 : decode cX5_setGroup 55 = .ok (.aload_n 0, 1) := by decide +kernel
theorem dX5_setGroup_56 : decode cX5_setGroup 56 = .ok (.invokevirtual 86, 3) := by decide +kernel
theorem dX5_setGroup_59 : decode cX5_setGroup 59 = .ok (.ireturn, 1) := by decide +kernel
theorem dX5_setTeacher_0 : decode cX5_setTeacher 0 = .ok (.aload_n 0, 1) := by decide +kernel
theorem dX5_setTeacher_1 : decode cX5_setTeacher 1 = .ok (.iload_n 1, 1) := by decide +kernel
theorem dX5_setTeacher_2 : decode cX5_setTeacher 2 = .ok (.iconst 0, 1) := by decide +kernel
theorem dX5_setTeacher_3 : decode cX5_setTeacher 3 = .ok (.iconst 5, 1) := by decide +kernel
theorem dX5_setTeacher_4 : decode cX5_setTeacher 4 = .ok (.invokestatic 39, 3) := by decide +kernel
theorem dX5_setTeacher_7 : decode cX5_setTeacher 7 = .ok (.ifCond .ne 7, 3) := by decide +kernel
theorem dX5_setTeacher_10 : decode cX5_setTeacher 10 = .ok (.iconst 1, 1) := by decide +kernel
theorem dX5_setTeacher_11 : decode cX5_setTeacher 11 = .ok (.goto 19, 3) := by decide +kernel
theorem dX5_setTeacher_14 : decode cX5_setTeacher 14 = .ok (.iload_n 2, 1) := by decide +kernel
theorem dX5_setTeacher_15 : decode cX5_setTeacher 15 = .ok (.iconst 0, 1) := by decide +kernel
theorem dX5_setTeacher_16 : decode cX5_setTeacher 16 = .ok (.sipush 1023, 3) := by decide +kernel
theorem dX5_setTeacher_19 : decode cX5_setTeacher 19 = .ok (.invokestatic 39, 3) := by decide +kernel
theorem dX5_setTeacher_22 : decode cX5_setTeacher 22 = .ok (.ifCond .ne 7, 3) := by decide +kernel
theorem dX5_setTeacher_25 : decode cX5_setTeacher 25 = .ok (.iconst 2, 1) := by decide +kernel
theorem dX5_setTeacher_26 : decode cX5_setTeacher 26 = .ok (.goto 4, 3) := by decide +kernel
theorem dX5_setTeacher_29 : decode cX5_setTeacher 29 = .ok (.iconst 0, 1) := by decide +kernel
theorem dX5_setTeacher_30 : decode cX5_setTeacher 30 = .ok (.putfield 1, 3) := by decide +kernel
theorem dX5_setTeacher_33 : decode cX5_setTeacher 33 = .ok (.aload_n 0, 1) := by decide +kernel
theorem dX5_setTeacher_34 : decode cX5_setTeacher 34 = .ok (.getfield 1, 3) := by decide +kernel
theorem dX5_setTeacher_37 : decode cX5_setTeacher 37 = .ok (.ifCond .eq 5, 3) := by decide +kernel
theorem dX5_setTeacher_40 : decode cX5_setTeacher 40 = .ok (.iconst 0, 1) := by decide +kernel
theorem dX5_setTeacher_41 : decode cX5_setTeacher 41 = .ok (.ireturn, 1) := by decide +kernel
theorem dX5_setTeacher_42 : decode cX5_setTeacher 42 = .ok (.aload_n 0, 1) := by decide +kernel
theorem dX5_setTeacher_43 : decode cX5_setTeacher 43 = .ok (.invokevirtual 83, 3) := by decide +kernel
theorem dX5_setTeacher_46 : decode cX5_setTeacher 46 = .ok (.aload_n 0, 1) := by decide +kernel
theorem dX5_setTeacher_47 : decode cX5_setTeacher 47 = .ok (.getfield 13, 3) := by decide +kernel
theorem dX5_setTeacher_50 : decode cX5_setTeacher 50 = .ok (.bipush 18, 2) := by decide +kernel
theorem dX5_setTeacher_52 : decode cX5_setTeacher 52 = .ok (.iload_n 1, 1) := by decide +kernel
theorem dX5_setTeacher_53 : decode cX5_setTeacher 53 = .ok (.iadd, 1) := by decide +kernel
theorem dX5_setTeacher_54 : decode cX5_setTeacher 54 = .ok (.iload_n 2, 1) := by decide +kernel
theorem dX5_setTeacher_55 : decode cX5_setTeacher 55 = .ok (.iastore, 1) := by decide +kernel
theorem dX5_setTeacher_56 : decode cX5_setTeacher 56 = .ok (.aload_n 0, 1) := by decide +kernel
theorem dX5_setTeacher_57 : decode cX5_setTeacher 57 = .ok (.invokevirtual 86, 3) := by decide +kernel
theorem dX5_setTeacher_60 : decode cX5_setTeacher 60 = .ok (.ireturn, 1) := by decide +kernel
theorem dX5_setWeight_0 : decode cX5_setWeight 0 = .ok (.aload_n 0, 1) := by decide +kernel
theorem dX5_setWeight_1 : decode cX5_setWeight 1 = .ok (.iload_n 1, 1) := by decide +kernel
theorem dX5_setWeight_2 : decode cX5_setWeight 2 = .ok (.iconst 0, 1) := by decide +kernel
theorem dX5_setWeight_3 : decode cX5_setWeight 3 = .ok (.iconst 2, 1) := by decide +kernel
theorem dX5_setWeight_4 : decode cX5_setWeight 4 = .ok (.invokestatic 39, 3) := by decide +kernel
theorem dX5_setWeight_7 : decode cX5_setWeight 7 = .ok (.ifCond .ne 7, 3) := by decide +kernel
theorem dX5_setWeight_10 : decode cX5_setWeight 10 = .ok (.iconst 1, 1) := by decide +kernel
theorem dX5_setWeight_11 : decode cX5_setWeight 11 = .ok (.goto 18, 3) := by decide +kernel
theorem dX5_setWeight_14 : decode cX5_setWeight 14 = .ok (.iload_n 2, 1) := by decide +kernel
theorem dX5_setWeight_15 : decode cX5_setWeight 15 = .ok (.iconst 0, 1) := by decide +kernel
theorem dX5_setWeight_16 : decode cX5_setWeight 16 = .ok (.bipush 9, 2) := by decide +kernel
theorem dX5_setWeight_18 : decode cX5_setWeight 18 = .ok (.invokestatic 39, 3) := by decide +kernel
theorem dX5_setWeight_21 : decode cX5_setWeight 21 = .ok (.ifCond .ne 7, 3) := by decide +kernel
theorem dX5_setWeight_24 : decode cX5_setWeight 24 = .ok (.iconst 2, 1) := by decide +kernel
theorem dX5_setWeight_25 : decode cX5_setWeight 25 = .ok (.goto 4, 3) := by decide +kernel
theorem dX5_setWeight_28 : decode cX5_setWeight 28 = .ok (.iconst 0, 1) := by decide +kernel
theorem dX5_setWeight_29 : decode cX5_setWeight 29 = .ok (.putfield 1, 3) := by decide +kernel
theorem dX5_setWeight_32 : decode cX5_setWeight 32 = .ok (.aload_n 0, 1) := by decide +kernel
theorem dX5_setWeight_33 : decode cX5_setWeight 33 = .ok (.getfield 1, 3) := by decide +kernel
theorem dX5_setWeight_36 : decode cX5_setWeight 36 = .ok (.ifCond .eq 5, 3) := by decide +kernel
theorem dX5_setWeight_39 : decode cX5_setWeight 39 = .ok (.iconst 0, 1) := by decide +kernel
theorem dX5_setWeight_40 : decode cX5_setWeight 40 = .ok (.ireturn, 1) := by decide +kernel
theorem dX5_setWeight_41 : decode cX5_setWeight 41 = .ok (.aload_n 0, 1) := by decide +kernel
theorem dX5_setWeight_42 : decode cX5_setWeight 42 = .ok (.invokevirtual 83, 3) := by decide +kernel
theorem dX5_setWeight_45 : decode cX5_setWeight 45 = .ok (.aload_n 0, 1) := by decide +kernel
theorem dX5_setWeight_46 : decode cX5_setWeight 46 = .ok (.getfield 13, 3) := by decide +kernel
theorem dX5_setWeight_49 : decode cX5_setWeight 49 = .ok (.bipush 24, 2) := by decide +kernel
theorem dX5_setWeight_51 : decode cX5_setWeight 51 = .ok (.iload_n 1, 1) := by decide +kernel
theorem dX5_setWeight_52 : decode cX5_setWeight 52 = .ok (.iadd, 1) := by decide +kernel
theorem dX5_setWeight_53 : decode cX5_setWeight 53 = .ok (.iaload, 1) := by decide +kernel
theorem dX5_setWeight_54 : decode cX5_setWeight 54 = .ok (.istore_n 3, 1) := by decide +kernel
theorem dX5_setWeight_55 : decode cX5_setWeight 55 = .ok (.aload_n 0, 1) := by decide +kernel
theorem dX5_setWeight_56 : decode cX5_setWeight 56 = .ok (.getfield 13, 3) := by decide +kernel
theorem dX5_setWeight_59 : decode cX5_setWeight 59 = .ok (.bipush 24, 2) := by decide +kernel
theorem dX5_setWeight_61 : decode cX5_setWeight 61 = .ok (.iload_n 1, 1) := by decide +kernel
theorem dX5_setWeight_62 : decode cX5_setWeight 62 = .ok (.iadd, 1) := by decide +kernel
theorem dX5_setWeight_63 : decode cX5_setWeight 63 = .ok (.iload_n 2, 1) := by decide +kernel
theorem dX5_setWeight_64 : decode cX5_setWeight 64 = .ok (.iastore, 1) := by decide +kernel
theorem dX5_setWeight_65 : decode cX5_setWeight 65 = .ok (.iload_n 3, 1) := by decide +kernel
theorem dX5_setWeight_66 : decode cX5_setWeight 66 = .ok (.ireturn, 1) := by decide +kernel
theorem dX5_setting_0 : decode cX5_setting 0 = .ok (.aload_n 0, 1) := by decide +kernel
theorem dX5_setting_1 : decode cX5_setting 1 = .ok (.iload_n 1, 1) := by decide +kernel
theorem dX5_setting_2 : decode cX5_setting 2 = .ok (.iconst 0, 1) := by decide +kernel
theorem dX5_setting_3 : decode cX5_setting 3 = .ok (.iconst 3, 1) := by decide +kernel
theorem dX5_setting_4 : decode cX5_setting 4 = .ok (.invokestatic 39, 3) := by decide +kernel
theorem dX5_setting_7 : decode cX5_setting 7 = .ok (.ifCond .ne 7, 3) := by decide +kernel
theorem dX5_setting_10 : decode cX5_setting 10 = .ok (.iconst 1, 1) := by decide +kernel
theorem dX5_setting_11 : decode cX5_setting 11 = .ok (.goto 17, 3) := by decide +kernel
theorem dX5_setting_14 : decode cX5_setting 14 = .ok (.iload_n 2, 1) := by decide +kernel
theorem dX5_setting_15 : decode cX5_setting 15 = .ok (.iconst 0, 1) := by decide +kernel
theorem dX5_setting_16 : decode cX5_setting 16 = .ok (.iconst 5, 1) := by decide +kernel
theorem dX5_setting_17 : decode cX5_setting 17 = .ok (.invokestatic 39, 3) := by decide +kernel
theorem dX5_setting_20 : decode cX5_setting 20 = .ok (.ifCond .ne 7, 3) := by decide +kernel
theorem dX5_setting_23 : decode cX5_setting 23 = .ok (.iconst 2, 1) := by decide +kernel
theorem dX5_setting_24 : decode cX5_setting 24 = .ok (.goto 4, 3) := by decide +kernel
theorem dX5_setting_27 : decode cX5_setting 27 = .ok (.iconst 0, 1) := by decide +kernel
theorem dX5_setting_28 : decode cX5_setting 28 = .ok (.putfield 1, 3) := by decide +kernel
theorem dX5_setting_31 : decode cX5_setting 31 = .ok (.aload_n 0, 1) := by decide +kernel
theorem dX5_setting_32 : decode cX5_setting 32 = .ok (.getfield 1, 3) := by decide +kernel
theorem dX5_setting_35 : decode cX5_setting 35 = .ok (.ifCond .ne 17, 3) := by decide +kernel
theorem dX5_setting_38 : decode cX5_setting 38 = .ok (.aload_n 0, 1) := by decide +kernel
theorem dX5_setting_39 : decode cX5_setting 39 = .ok (.getfield 13, 3) := by decide +kernel
theorem dX5_setting_42 : decode cX5_setting 42 = .ok (.bipush 6, 2) := by decide +kernel
theorem dX5_setting_44 : decode cX5_setting 44 = .ok (.iload_n 1, 1) := by decide +kernel
theorem dX5_setting_45 : decode cX5_setting 45 = .ok (.imul, 1) := by decide +kernel
theorem dX5_setting_46 : decode cX5_setting 46 = .ok (.iload_n 2, 1) := by decide +kernel
theorem dX5_setting_47 : decode cX5_setting 47 = .ok (.iadd, 1) := by decide +kernel
theorem dX5_setting_48 : decode cX5_setting 48 = .ok (.iaload, 1) := by decide +kernel
theorem dX5_setting_49 : decode cX5_setting 49 = .ok (.goto 4, 3) := by decide +kernel
theorem dX5_setting_52 : decode cX5_setting 52 = .ok (.iconst 0, 1) := by decide +kernel
theorem dX5_setting_53 : decode cX5_setting 53 = .ok (.ireturn, 1) := by decide +kernel
theorem dX5_append_0 : decode cX5_append 0 = .ok (.aload_n 0, 1) := by decide +kernel
theorem dX5_append_1 : decode cX5_append 1 = .ok (.iconst 0, 1) := by decide +kernel
theorem dX5_append_2 : decode cX5_append 2 = .ok (.putfield 1, 3) := by decide +kernel
theorem dX5_append_5 : decode cX5_append 5 = .ok (.iconst 0, 1) := by decide +kernel
theorem dX5_append_6 : decode cX5_append 6 = .ok (.istore_n 2, 1) := by decide +kernel
theorem dX5_append_7 : decode cX5_append 7 = .ok (.bipush 24, 2) := by decide +kernel
theorem dX5_append_9 : decode cX5_append 9 = .ok (.istore_n 3, 1) := by decide +kernel
theorem dX5_append_10 : decode cX5_append 10 = .ok (.iload_n 3, 1) := by decide +kernel
theorem dX5_append_11 : decode cX5_append 11 = .ok (.ifCond .lt 60, 3) := by decide +kernel
theorem dX5_append_14 : decode cX5_append 14 = .ok (.iload_n 1, 1) := by decide +kernel
theorem dX5_append_15 : decode cX5_append 15 = .ok (.iload_n 3, 1) := by decide +kernel
theorem dX5_append_16 : decode cX5_append 16 = .ok (.ishr, 1) := by decide +kernel
theorem dX5_append_17 : decode cX5_append 17 = .ok (.sipush 255, 3) := by decide +kernel
theorem dX5_append_20 : decode cX5_append 20 = .ok (.iand, 1) := by decide +kernel
theorem dX5_append_21 : decode cX5_append 21 = .ok (.istore 4, 2) := by decide +kernel
theorem dX5_append_23 : decode cX5_append 23 = .ok (.iload_n 2, 1) := by decide +kernel
theorem dX5_append_24 : decode cX5_append 24 = .ok (.iload 4, 2) := by decide +kernel
theorem dX5_append_26 : decode cX5_append 26 = .ok (.ifCond .ne 7, 3) := by decide +kernel
theorem dX5_append_29 : decode cX5_append 29 = .ok (.iconst 0, 1) := by decide +kernel
theorem dX5_append_30 : decode cX5_append 30 = .ok (.goto 4, 3) := by decide +kernel
theorem dX5_append_33 : decode cX5_append 33 = .ok (.iconst 1, 1) := by decide +kernel
theorem dX5_append_34 : decode cX5_append 34 = .ok (.iadd, 1) := by decide +kernel
theorem dX5_append_35 : decode cX5_append 35 = .ok (.istore_n 2, 1) := by decide +kernel
theorem dX5_append_36 : decode cX5_append 36 = .ok (.aload_n 0, 1) := by decide +kernel
theorem dX5_append_37 : decode cX5_append 37 = .ok (.iload 4, 2) := by decide +kernel
theorem dX5_append_39 : decode cX5_append 39 = .ok (.ifCond .eq 19, 3) := by decide +kernel
theorem dX5_append_42 : decode cX5_append 42 = .ok (.iload 4, 2) := by decide +kernel
theorem dX5_append_44 : decode cX5_append 44 = .ok (.bipush 33, 2) := by decide +kernel
theorem dX5_append_46 : decode cX5_append 46 = .ok (.bipush 126, 2) := by decide +kernel
theorem dX5_append_48 : decode cX5_append 48 = .ok (.invokestatic 39, 3) := by decide +kernel
theorem dX5_append_51 : decode cX5_append 51 = .ok (.ifCond .ne 7, 3) := by decide +kernel
theorem dX5_append_54 : decode cX5_append 54 = .ok (.iconst 1, 1) := by decide +kernel
theorem dX5_append_55 : decode cX5_append 55 = .ok (.goto 7, 3) := by decide +kernel
theorem dX5_append_58 : decode cX5_append 58 = .ok (.aload_n 0, 1) := by decide +kernel
theorem dX5_append_59 : decode cX5_append 59 = .ok (.getfield 1, 3) := by decide +kernel
theorem dX5_append_62 : decode cX5_append 62 = .ok (.putfield 1, 3) := by decide +kernel
theorem dX5_append_65 : decode cX5_append 65 = .ok (.iinc 3 (-8), 3) := by decide +kernel
theorem dX5_append_68 : decode cX5_append 68 = .ok (.goto (-58), 3) := by decide +kernel
theorem dX5_append_71 : decode cX5_append 71 = .ok (.aload_n 0, 1) := by decide +kernel
theorem dX5_append_72 : decode cX5_append 72 = .ok (.aload_n 0, 1) := by decide +kernel
theorem dX5_append_73 : decode cX5_append 73 = .ok (.getfield 1, 3) := by decide +kernel
theorem dX5_append_76 : decode cX5_append 76 = .ok (.ifCond .ne 18, 3) := by decide +kernel
theorem dX5_append_79 : decode cX5_append 79 = .ok (.aload_n 0, 1) := by decide +kernel
theorem dX5_append_80 : decode cX5_append 80 = .ok (.getfield 89, 3) := by decide +kernel
theorem dX5_append_83 : decode cX5_append 83 = .ok (.iload_n 2, 1) := by decide +kernel
theorem dX5_append_84 : decode cX5_append 84 = .ok (.iadd, 1) := by decide +kernel
theorem dX5_append_85 : decode cX5_append 85 = .ok (.bipush 40, 2) := by decide +kernel
theorem dX5_append_87 : decode cX5_append 87 = .ok (.if_icmp .le 7, 3) := by decide +kernel
theorem dX5_append_90 : decode cX5_append 90 = .ok (.iconst 2, 1) := by decide +kernel
theorem dX5_append_91 : decode cX5_append 91 = .ok (.goto 7, 3) := by decide +kernel
theorem dX5_append_94 : decode cX5_append 94 = .ok (.aload_n 0, 1) := by decide +kernel
theorem dX5_append_95 : decode cX5_append 95 = .ok (.getfield 1, 3) := by decide +kernel
theorem dX5_append_98 : decode cX5_append 98 = .ok (.putfield 1, 3) := by decide +kernel
theorem dX5_append_101 : decode cX5_append 101 = .ok (.aload_n 0, 1) := by decide +kernel
theorem dX5_append_102 : decode cX5_append 102 = .ok (.getfield 1, 3) := by decide +kernel
theorem dX5_append_105 : decode cX5_append 105 = .ok (.ifCond .eq 5, 3) := by decide +kernel
theorem dX5_append_108 : decode cX5_append 108 = .ok (.iconst 0, 1) := by decide +kernel
theorem dX5_append_109 : decode cX5_append 109 = .ok (.ireturn, 1) := by decide +kernel
theorem dX5_append_110 : decode cX5_append 110 = .ok (.bipush 24, 2) := by decide +kernel
theorem dX5_append_112 : decode cX5_append 112 = .ok (.istore_n 3, 1) := by decide +kernel
theorem dX5_append_113 : decode cX5_append 113 = .ok (.iload_n 3, 1) := by decide +kernel
theorem dX5_append_114 : decode cX5_append 114 = .ok (.ifCond .lt 47, 3) := by decide +kernel
theorem dX5_append_117 : decode cX5_append 117 = .ok (.iload_n 1, 1) := by decide +kernel
theorem dX5_append_118 : decode cX5_append 118 = .ok (.iload_n 3, 1) := by decide +kernel
theorem dX5_append_119 : decode cX5_append 119 = .ok (.ishr, 1) := by decide +kernel
theorem dX5_append_120 : decode cX5_append 120 = .ok (.sipush 255, 3) := by decide +kernel
theorem dX5_append_123 : decode cX5_append 123 = .ok (.iand, 1) := by decide +kernel
theorem dX5_append_124 : decode cX5_append 124 = .ok (.istore 4, 2) := by decide +kernel
theorem dX5_append_126 : decode cX5_append 126 = .ok (.iload 4, 2) := by decide +kernel
theorem dX5_append_128 : decode cX5_append 128 = .ok (.ifCond .ne 6, 3) := by decide +kernel
theorem dX5_append_131 : decode cX5_append 131 = .ok (.goto 24, 3) := by decide +kernel
theorem dX5_append_134 : decode cX5_append 134 = .ok (.aload_n 0, 1) := by decide +kernel
theorem dX5_append_135 : decode cX5_append 135 = .ok (.getfield 17, 3) := by decide +kernel
theorem dX5_append_138 : decode cX5_append 138 = .ok (.aload_n 0, 1) := by decide +kernel
theorem dX5_append_139 : decode cX5_append 139 = .ok (.getfield 89, 3) := by decide +kernel
theorem dX5_append_142 : decode cX5_append 142 = .ok (.iload 4, 2) := by decide +kernel
theorem dX5_append_144 : decode cX5_append 144 = .ok (.iastore, 1) := by decide +kernel
theorem dX5_append_145 : decode cX5_append 145 = .ok (.aload_n 0, 1) := by decide +kernel
theorem dX5_append_146 : decode cX5_append 146 = .ok (.dup, 1) := by decide +kernel
theorem dX5_append_147 : decode cX5_append 147 = .ok (.getfield 89, 3) := by decide +kernel
theorem dX5_append_150 : decode cX5_append 150 = .ok (.iconst 1, 1) := by decide +kernel
theorem dX5_append_151 : decode cX5_append 151 = .ok (.iadd, 1) := by decide +kernel
theorem dX5_append_152 : decode cX5_append 152 = .ok (.putfield 89, 3) := by decide +kernel
theorem dX5_append_155 : decode cX5_append 155 = .ok (.iinc 3 (-8), 3) := by decide +kernel
theorem dX5_append_158 : decode cX5_append 158 = .ok (.goto (-45), 3) := by decide +kernel
theorem dX5_append_161 : decode cX5_append 161 = .ok (.aload_n 0, 1) := by decide +kernel
theorem dX5_append_162 : decode cX5_append 162 = .ok (.getfield 89, 3) := by decide +kernel
theorem dX5_append_165 : decode cX5_append 165 = .ok (.ireturn, 1) := by decide +kernel
theorem dX5_here_0 : decode cX5_here 0 = .ok (.aload_n 0, 1) := by decide +kernel
theorem dX5_here_1 : decode cX5_here 1 = .ok (.getfield 92, 3) := by decide +kernel
theorem dX5_here_4 : decode cX5_here 4 = .ok (.aload_n 0, 1) := by decide +kernel
theorem dX5_here_5 : decode cX5_here 5 = .ok (.getfield 89, 3) := by decide +kernel
theorem dX5_here_8 : decode cX5_here 8 = .ok (.if_icmp .ge 15, 3) := by decide +kernel
theorem dX5_here_11 : decode cX5_here 11 = .ok (.aload_n 0, 1) := by decide +kernel
theorem dX5_here_12 : decode cX5_here 12 = .ok (.getfield 17, 3) := by decide +kernel
theorem dX5_here_15 : decode cX5_here 15 = .ok (.aload_n 0, 1) := by decide +kernel
theorem dX5_here_16 : decode cX5_here 16 = .ok (.getfield 92, 3) := by decide +kernel
theorem dX5_here_19 : decode cX5_here 19 = .ok (.iaload, 1) := by decide +kernel
theorem dX5_here_20 : decode cX5_here 20 = .ok (.goto 4, 3) := by decide +kernel
theorem dX5_here_23 : decode cX5_here 23 = .ok (.iconst (-1), 1) := by decide +kernel
theorem dX5_here_24 : decode cX5_here 24 = .ok (.ireturn, 1) := by decide +kernel
theorem dX5_digit_0 : decode cX5_digit 0 = .ok (.aload_n 0, 1) := by decide +kernel
theorem dX5_digit_1 : decode cX5_digit 1 = .ok (.getfield 20, 3) := by decide +kernel
theorem dX5_digit_4 : decode cX5_digit 4 = .ok (.ifCond .ge 29, 3) := by decide +kernel
theorem dX5_digit_7 : decode cX5_digit 7 = .ok (.aload_n 0, 1) := by decide +kernel
theorem dX5_digit_8 : decode cX5_digit 8 = .ok (.invokevirtual 95, 3) := by decide +kernel
theorem dX5_digit_11 : decode cX5_digit 11 = .ok (.bipush 48, 2) := by decide +kernel
theorem dX5_digit_13 : decode cX5_digit 13 = .ok (.iload_n 1, 1) := by decide +kernel
theorem dX5_digit_14 : decode cX5_digit 14 = .ok (.iadd, 1) := by decide +kernel
theorem dX5_digit_15 : decode cX5_digit 15 = .ok (.bipush 48, 2) := by decide +kernel
theorem dX5_digit_17 : decode cX5_digit 17 = .ok (.iload_n 2, 1) := by decide +kernel
theorem dX5_digit_18 : decode cX5_digit 18 = .ok (.iadd, 1) := by decide +kernel
theorem dX5_digit_19 : decode cX5_digit 19 = .ok (.invokestatic 39, 3) := by decide +kernel
theorem dX5_digit_22 : decode cX5_digit 22 = .ok (.ifCond .ne 11, 3) := by decide +kernel
theorem dX5_digit_25 : decode cX5_digit 25 = .ok (.aload_n 0, 1) := by decide +kernel
theorem dX5_digit_26 : decode cX5_digit 26 = .ok (.aload_n 0, 1) := by decide +kernel
theorem dX5_digit_27 : decode cX5_digit 27 = .ok (.getfield 92, 3) := by decide +kernel
theorem dX5_digit_30 : decode cX5_digit 30 = .ok (.putfield 20, 3) := by decide +kernel
theorem dX5_digit_33 : decode cX5_digit 33 = .ok (.aload_n 0, 1) := by decide +kernel
theorem dX5_digit_34 : decode cX5_digit 34 = .ok (.getfield 20, 3) := by decide +kernel
theorem dX5_digit_37 : decode cX5_digit 37 = .ok (.ifCond .lt 5, 3) := by decide +kernel
theorem dX5_digit_40 : decode cX5_digit 40 = .ok (.iconst 0, 1) := by decide +kernel
theorem dX5_digit_41 : decode cX5_digit 41 = .ok (.ireturn, 1) := by decide +kernel
theorem dX5_digit_42 : decode cX5_digit 42 = .ok (.aload_n 0, 1) := by decide +kernel
theorem dX5_digit_43 : decode cX5_digit 43 = .ok (.dup, 1) := by decide +kernel
theorem dX5_digit_44 : decode cX5_digit 44 = .ok (.getfield 92, 3) := by decide +kernel
theorem dX5_digit_47 : decode cX5_digit 47 = .ok (.iconst 1, 1) := by decide +kernel
theorem dX5_digit_48 : decode cX5_digit 48 = .ok (.iadd, 1) := by decide +kernel
theorem dX5_digit_49 : decode cX5_digit 49 = .ok (.putfield 92, 3) := by decide +kernel
theorem dX5_digit_52 : decode cX5_digit 52 = .ok (.aload_n 0, 1) := by decide +kernel
theorem dX5_digit_53 : decode cX5_digit 53 = .ok (.getfield 17, 3) := by decide +kernel
theorem dX5_digit_56 : decode cX5_digit 56 = .ok (.aload_n 0, 1) := by decide +kernel
theorem dX5_digit_57 : decode cX5_digit 57 = .ok (.getfield 92, 3) := by decide +kernel
theorem dX5_digit_60 : decode cX5_digit 60 = .ok (.iconst 1, 1) := by decide +kernel
theorem dX5_digit_61 : decode cX5_digit 61 = .ok (.isub, 1) := by decide +kernel
theorem dX5_digit_62 : decode cX5_digit 62 = .ok (.iaload, 1) := by decide +kernel
theorem dX5_digit_63 : decode cX5_digit 63 = .ok (.bipush 48, 2) := by decide +kernel
theorem dX5_digit_65 : decode cX5_digit 65 = .ok (.isub, 1) := by decide +kernel
theorem dX5_digit_66 : decode cX5_digit 66 = .ok (.ireturn, 1) := by decide +kernel
theorem dX5_reads_0 : decode cX5_reads 0 = .ok (.aload_n 0, 1) := by decide +kernel
theorem dX5_reads_1 : decode cX5_reads 1 = .ok (.iconst 0, 1) := by decide +kernel
theorem dX5_reads_2 : decode cX5_reads 2 = .ok (.putfield 92, 3) := by decide +kernel
theorem dX5_reads_5 : decode cX5_reads 5 = .ok (.aload_n 0, 1) := by decide +kernel
theorem dX5_reads_6 : decode cX5_reads 6 = .ok (.iconst (-1), 1) := by decide +kernel
theorem dX5_reads_7 : decode cX5_reads 7 = .ok (.putfield 20, 3) := by decide +kernel
theorem dX5_reads_10 : decode cX5_reads 10 = .ok (.aload_n 0, 1) := by decide +kernel
theorem dX5_reads_11 : decode cX5_reads 11 = .ok (.iconst 0, 1) := by decide +kernel
theorem dX5_reads_12 : decode cX5_reads 12 = .ok (.putfield 98, 3) := by decide +kernel
theorem dX5_reads_15 : decode cX5_reads 15 = .ok (.aload_n 0, 1) := by decide +kernel
theorem dX5_reads_16 : decode cX5_reads 16 = .ok (.iconst 1, 1) := by decide +kernel
theorem dX5_reads_17 : decode cX5_reads 17 = .ok (.putfield 101, 3) := by decide +kernel
theorem dX5_reads_20 : decode cX5_reads 20 = .ok (.aload_n 0, 1) := by decide +kernel
theorem dX5_reads_21 : decode cX5_reads 21 = .ok (.aload_n 0, 1) := by decide +kernel
theorem dX5_reads_22 : decode cX5_reads 22 = .ok (.iconst 0, 1) := by decide +kernel
theorem dX5_reads_23 : decode cX5_reads 23 = .ok (.iconst 5, 1) := by decide +kernel
theorem dX5_reads_24 : decode cX5_reads 24 = .ok (.invokevirtual 104, 3) := by decide +kernel
theorem dX5_reads_27 : decode cX5_reads 27 = .ok (.putfield 107, 3) := by decide +kernel
theorem dX5_reads_30 : decode cX5_reads 30 = .ok (.aload_n 0, 1) := by decide +kernel
theorem dX5_reads_31 : decode cX5_reads 31 = .ok (.getfield 20, 3) := by decide +kernel
theorem dX5_reads_34 : decode cX5_reads 34 = .ok (.ifCond .ge 20, 3) := by decide +kernel
theorem dX5_reads_37 : decode cX5_reads 37 = .ok (.aload_n 0, 1) := by decide +kernel
theorem dX5_reads_38 : decode cX5_reads 38 = .ok (.invokevirtual 95, 3) := by decide +kernel
theorem dX5_reads_41 : decode cX5_reads 41 = .ok (.bipush 58, 2) := by decide +kernel
theorem dX5_reads_43 : decode cX5_reads 43 = .ok (.if_icmp .eq 11, 3) := by decide +kernel
theorem dX5_reads_46 : decode cX5_reads 46 = .ok (.aload_n 0, 1) := by decide +kernel
theorem dX5_reads_47 : decode cX5_reads 47 = .ok (.aload_n 0, 1) := by decide +kernel
theorem dX5_reads_48 : decode cX5_reads 48 = .ok (.getfield 92, 3) := by decide +kernel
theorem dX5_reads_51 : decode cX5_reads 51 = .ok (.putfield 20, 3) := by decide +kernel
theorem dX5_reads_54 : decode cX5_reads 54 = .ok (.aload_n 0, 1) := by decide +kernel
theorem dX5_reads_55 : decode cX5_reads 55 = .ok (.dup, 1) := by decide +kernel
theorem dX5_reads_56 : decode cX5_reads 56 = .ok (.getfield 92, 3) := by decide +kernel
theorem dX5_reads_59 : decode cX5_reads 59 = .ok (.iconst 1, 1) := by decide +kernel
theorem dX5_reads_60 : decode cX5_reads 60 = .ok (.iadd, 1) := by decide +kernel
theorem dX5_reads_61 : decode cX5_reads 61 = .ok (.putfield 92, 3) := by decide +kernel
theorem dX5_reads_64 : decode cX5_reads 64 = .ok (.aload_n 0, 1) := by decide +kernel
theorem dX5_reads_65 : decode cX5_reads 65 = .ok (.iconst 0, 1) := by decide +kernel
theorem dX5_reads_66 : decode cX5_reads 66 = .ok (.iconst 5, 1) := by decide +kernel
theorem dX5_reads_67 : decode cX5_reads 67 = .ok (.invokevirtual 104, 3) := by decide +kernel
theorem dX5_reads_70 : decode cX5_reads 70 = .ok (.istore_n 1, 1) := by decide +kernel
theorem dX5_reads_71 : decode cX5_reads 71 = .ok (.aload_n 0, 1) := by decide +kernel
theorem dX5_reads_72 : decode cX5_reads 72 = .ok (.iconst 1, 1) := by decide +kernel
theorem dX5_reads_73 : decode cX5_reads 73 = .ok (.iload_n 1, 1) := by decide +kernel
theorem dX5_reads_74 : decode cX5_reads 74 = .ok (.ishl, 1) := by decide +kernel
theorem dX5_reads_75 : decode cX5_reads 75 = .ok (.putfield 110, 3) := by decide +kernel
theorem dX5_reads_78 : decode cX5_reads 78 = .ok (.aload_n 0, 1) := by decide +kernel
theorem dX5_reads_79 : decode cX5_reads 79 = .ok (.getfield 20, 3) := by decide +kernel
theorem dX5_reads_82 : decode cX5_reads 82 = .ok (.ifCond .ge 46, 3) := by decide +kernel
theorem dX5_reads_85 : decode cX5_reads 85 = .ok (.aload_n 0, 1) := by decide +kernel
theorem dX5_reads_86 : decode cX5_reads 86 = .ok (.invokevirtual 95, 3) := by decide +kernel
theorem dX5_reads_89 : decode cX5_reads 89 = .ok (.bipush 44, 2) := by decide +kernel
theorem dX5_reads_91 : decode cX5_reads 91 = .ok (.if_icmp .ne 37, 3) := by decide +kernel
theorem dX5_reads_94 : decode cX5_reads 94 = .ok (.aload_n 0, 1) := by decide +kernel
theorem dX5_reads_95 : decode cX5_reads 95 = .ok (.dup, 1) := by decide +kernel
theorem dX5_reads_96 : decode cX5_reads 96 = .ok (.getfield 92, 3) := by decide +kernel
theorem dX5_reads_99 : decode cX5_reads 99 = .ok (.iconst 1, 1) := by decide +kernel
theorem dX5_reads_100 : decode cX5_reads 100 = .ok (.iadd, 1) := by decide +kernel
theorem dX5_reads_101 : decode cX5_reads 101 = .ok (.putfield 92, 3) := by decide +kernel
theorem dX5_reads_104 : decode cX5_reads 104 = .ok (.aload_n 0, 1) := by decide +kernel
theorem dX5_reads_105 : decode cX5_reads 105 = .ok (.iload_n 1, 1) := by decide +kernel
theorem dX5_reads_106 : decode cX5_reads 106 = .ok (.iconst 1, 1) := by decide +kernel
theorem dX5_reads_107 : decode cX5_reads 107 = .ok (.iadd, 1) := by decide +kernel
theorem dX5_reads_108 : decode cX5_reads 108 = .ok (.iconst 5, 1) := by decide +kernel
theorem dX5_reads_109 : decode cX5_reads 109 = .ok (.invokevirtual 104, 3) := by decide +kernel
theorem dX5_reads_112 : decode cX5_reads 112 = .ok (.istore_n 1, 1) := by decide +kernel
theorem dX5_reads_113 : decode cX5_reads 113 = .ok (.aload_n 0, 1) := by decide +kernel
theorem dX5_reads_114 : decode cX5_reads 114 = .ok (.dup, 1) := by decide +kernel
theorem dX5_reads_115 : decode cX5_reads 115 = .ok (.getfield 110, 3) := by decide +kernel
theorem dX5_reads_118 : decode cX5_reads 118 = .ok (.iconst 1, 1) := by decide +kernel
theorem dX5_reads_119 : decode cX5_reads 119 = .ok (.iload_n 1, 1) := by decide +kernel
theorem dX5_reads_120 : decode cX5_reads 120 = .ok (.ishl, 1) := by decide +kernel
theorem dX5_reads_121 : decode cX5_reads 121 = .ok (.ior, 1) := by decide +kernel
theorem dX5_reads_122 : decode cX5_reads 122 = .ok (.putfield 110, 3) := by decide +kernel
theorem dX5_reads_125 : decode cX5_reads 125 = .ok (.goto (-47), 3) := by decide +kernel
theorem dX5_reads_128 : decode cX5_reads 128 = .ok (.aload_n 0, 1) := by decide +kernel
theorem dX5_reads_129 : decode cX5_reads 129 = .ok (.getfield 20, 3) := by decide +kernel
theorem dX5_reads_132 : decode cX5_reads 132 = .ok (.ifCond .ge 106, 3) := by decide +kernel
theorem dX5_reads_135 : decode cX5_reads 135 = .ok (.aload_n 0, 1) := by decide +kernel
theorem dX5_reads_136 : decode cX5_reads 136 = .ok (.invokevirtual 95, 3) := by decide +kernel
theorem dX5_reads_139 : decode cX5_reads 139 = .ok (.bipush 47, 2) := by decide +kernel
theorem dX5_reads_141 : decode cX5_reads 141 = .ok (.if_icmp .ne 97, 3) := by decide +kernel
theorem dX5_reads_144 : decode cX5_reads 144 = .ok (.aload_n 0, 1) := by decide +kernel
theorem dX5_reads_145 : decode cX5_reads 145 = .ok (.dup, 1) := by decide +kernel
theorem dX5_reads_146 : decode cX5_reads 146 = .ok (.getfield 92, 3) := by decide +kernel
theorem dX5_reads_149 : decode cX5_reads 149 = .ok (.iconst 1, 1) := by decide +kernel
theorem dX5_reads_150 : decode cX5_reads 150 = .ok (.iadd, 1) := by decide +kernel
theorem dX5_reads_151 : decode cX5_reads 151 = .ok (.putfield 92, 3) := by decide +kernel
theorem dX5_reads_154 : decode cX5_reads 154 = .ok (.aload_n 0, 1) := by decide +kernel
theorem dX5_reads_155 : decode cX5_reads 155 = .ok (.getfield 92, 3) := by decide +kernel
theorem dX5_reads_158 : decode cX5_reads 158 = .ok (.istore_n 2, 1) := by decide +kernel
theorem dX5_reads_159 : decode cX5_reads 159 = .ok (.aload_n 0, 1) := by decide +kernel
theorem dX5_reads_160 : decode cX5_reads 160 = .ok (.aload_n 0, 1) := by decide +kernel
theorem dX5_reads_161 : decode cX5_reads 161 = .ok (.iconst 0, 1) := by decide +kernel
theorem dX5_reads_162 : decode cX5_reads 162 = .ok (.bipush 9, 2) := by decide +kernel
theorem dX5_reads_164 : decode cX5_reads 164 = .ok (.invokevirtual 104, 3) := by decide +kernel
theorem dX5_reads_167 : decode cX5_reads 167 = .ok (.putfield 98, 3) := by decide +kernel
theorem dX5_reads_170 : decode cX5_reads 170 = .ok (.aload_n 0, 1) := by decide +kernel
theorem dX5_reads_171 : decode cX5_reads 171 = .ok (.getfield 20, 3) := by decide +kernel
theorem dX5_reads_174 : decode cX5_reads 174 = .ok (.ifCond .ge 43, 3) := by decide +kernel
theorem dX5_reads_177 : decode cX5_reads 177 = .ok (.aload_n 0, 1) := by decide +kernel
theorem dX5_reads_178 : decode cX5_reads 178 = .ok (.getfield 98, 3) := by decide +kernel
theorem dX5_reads_181 : decode cX5_reads 181 = .ok (.ifCond .eq 36, 3) := by decide +kernel
theorem dX5_reads_184 : decode cX5_reads 184 = .ok (.aload_n 0, 1) := by decide +kernel
theorem dX5_reads_185 : decode cX5_reads 185 = .ok (.invokevirtual 95, 3) := by decide +kernel
theorem dX5_reads_188 : decode cX5_reads 188 = .ok (.bipush 48, 2) := by decide +kernel
theorem dX5_reads_190 : decode cX5_reads 190 = .ok (.bipush 57, 2) := by decide +kernel
theorem dX5_reads_192 : decode cX5_reads 192 = .ok (.invokestatic 39, 3) := by decide +kernel
theorem dX5_reads_195 : decode cX5_reads 195 = .ok (.ifCond .eq 22, 3) := by decide +kernel
theorem dX5_reads_198 : decode cX5_reads 198 = .ok (.aload_n 0, 1) := by decide +kernel
theorem dX5_reads_199 : decode cX5_reads 199 = .ok (.bipush 10, 2) := by decide +kernel
theorem dX5_reads_201 : decode cX5_reads 201 = .ok (.aload_n 0, 1) := by decide +kernel
theorem dX5_reads_202 : decode cX5_reads 202 = .ok (.getfield 98, 3) := by decide +kernel
theorem dX5_reads_205 : decode cX5_reads 205 = .ok (.imul, 1) := by decide +kernel
theorem dX5_reads_206 : decode cX5_reads 206 = .ok (.aload_n 0, 1) := by decide +kernel
theorem dX5_reads_207 : decode cX5_reads 207 = .ok (.iconst 0, 1) := by decide +kernel
theorem dX5_reads_208 : decode cX5_reads 208 = .ok (.bipush 9, 2) := by decide +kernel
theorem dX5_reads_210 : decode cX5_reads 210 = .ok (.invokevirtual 104, 3) := by decide +kernel
theorem dX5_reads_213 : decode cX5_reads 213 = .ok (.iadd, 1) := by decide +kernel
theorem dX5_reads_214 : decode cX5_reads 214 = .ok (.putfield 98, 3) := by decide +kernel
theorem dX5_reads_217 : decode cX5_reads 217 = .ok (.aload_n 0, 1) := by decide +kernel
theorem dX5_reads_218 : decode cX5_reads 218 = .ok (.getfield 20, 3) := by decide +kernel
theorem dX5_reads_221 : decode cX5_reads 221 = .ok (.ifCond .ge 17, 3) := by decide +kernel
theorem dX5_reads_224 : decode cX5_reads 224 = .ok (.aload_n 0, 1) := by decide +kernel
theorem dX5_reads_225 : decode cX5_reads 225 = .ok (.getfield 98, 3) := by decide +kernel
theorem dX5_reads_228 : decode cX5_reads 228 = .ok (.bipush 15, 2) := by decide +kernel
theorem dX5_reads_230 : decode cX5_reads 230 = .ok (.if_icmp .le 8, 3) := by decide +kernel
theorem dX5_reads_233 : decode cX5_reads 233 = .ok (.aload_n 0, 1) := by decide +kernel
theorem dX5_reads_234 : decode cX5_reads 234 = .ok (.iload_n 2, 1) := by decide +kernel
theorem dX5_reads_235 : decode cX5_reads 235 = .ok (.putfield 20, 3) := by decide +kernel
theorem dX5_reads_238 : decode cX5_reads 238 = .ok (.aload_n 0, 1) := by decide +kernel
theorem dX5_reads_239 : decode cX5_reads 239 = .ok (.getfield 20, 3) := by decide +kernel
theorem dX5_reads_242 : decode cX5_reads 242 = .ok (.ifCond .ge 32, 3) := by decide +kernel
theorem dX5_reads_245 : decode cX5_reads 245 = .ok (.aload_n 0, 1) := by decide +kernel
theorem dX5_reads_246 : decode cX5_reads 246 = .ok (.invokevirtual 95, 3) := by decide +kernel
theorem dX5_reads_249 : decode cX5_reads 249 = .ok (.bipush 42, 2) := by decide +kernel
theorem dX5_reads_251 : decode cX5_reads 251 = .ok (.if_icmp .ne 23, 3) := by decide +kernel
theorem dX5_reads_254 : decode cX5_reads 254 = .ok (.aload_n 0, 1) := by decide +kernel
theorem dX5_reads_255 : decode cX5_reads 255 = .ok (.dup, 1) := by decide +kernel
theorem dX5_reads_256 : decode cX5_reads 256 = .ok (.getfield 92, 3) := by decide +kernel
theorem dX5_reads_259 : decode cX5_reads 259 = .ok (.iconst 1, 1) := by decide +kernel
theorem dX5_reads_260 : decode cX5_reads 260 = .ok (.iadd, 1) := by decide +kernel
theorem dX5_reads_261 : decode cX5_reads 261 = .ok (.putfield 92, 3) := by decide +kernel
theorem dX5_reads_264 : decode cX5_reads 264 = .ok (.aload_n 0, 1) := by decide +kernel
theorem dX5_reads_265 : decode cX5_reads 265 = .ok (.aload_n 0, 1) := by decide +kernel
theorem dX5_reads_266 : decode cX5_reads 266 = .ok (.iconst 1, 1) := by decide +kernel
theorem dX5_reads_267 : decode cX5_reads 267 = .ok (.iconst 2, 1) := by decide +kernel
theorem dX5_reads_268 : decode cX5_reads 268 = .ok (.invokevirtual 104, 3) := by decide +kernel
theorem dX5_reads_271 : decode cX5_reads 271 = .ok (.putfield 101, 3) := by decide +kernel
theorem dX5_reads_274 : decode cX5_reads 274 = .ok (.aload_n 0, 1) := by decide +kernel
theorem dX5_reads_275 : decode cX5_reads 275 = .ok (.getfield 20, 3) := by decide +kernel
theorem dX5_reads_278 : decode cX5_reads 278 = .ok (.ifCond .ge 22, 3) := by decide +kernel
theorem dX5_reads_281 : decode cX5_reads 281 = .ok (.aload_n 0, 1) := by decide +kernel
theorem dX5_reads_282 : decode cX5_reads 282 = .ok (.getfield 92, 3) := by decide +kernel
theorem dX5_reads_285 : decode cX5_reads 285 = .ok (.aload_n 0, 1) := by decide +kernel
theorem dX5_reads_286 : decode cX5_reads 286 = .ok (.getfield 89, 3) := by decide +kernel
theorem dX5_reads_289 : decode cX5_reads 289 = .ok (.if_icmp .ge 11, 3) := by decide +kernel
theorem dX5_reads_292 : decode cX5_reads 292 = .ok (.aload_n 0, 1) := by decide +kernel
theorem dX5_reads_293 : decode cX5_reads 293 = .ok (.aload_n 0, 1) := by decide +kernel
theorem dX5_reads_294 : decode cX5_reads 294 = .ok (.getfield 92, 3) := by decide +kernel
theorem dX5_reads_297 : decode cX5_reads 297 = .ok (.putfield 20, 3) := by decide +kernel
theorem dX5_reads_300 : decode cX5_reads 300 = .ok (.return_, 1) := by decide +kernel
theorem dX5_opens_0 : decode cX5_opens 0 = .ok (.aload_n 0, 1) := by decide +kernel
theorem dX5_opens_1 : decode cX5_opens 1 = .ok (.getfield 13, 3) := by decide +kernel
theorem dX5_opens_4 : decode cX5_opens 4 = .ok (.bipush 27, 2) := by decide +kernel
theorem dX5_opens_6 : decode cX5_opens 6 = .ok (.iaload, 1) := by decide +kernel
theorem dX5_opens_7 : decode cX5_opens 7 = .ok (.istore 5, 2) := by decide +kernel
theorem dX5_opens_9 : decode cX5_opens 9 = .ok (.aload_n 0, 1) := by decide +kernel
theorem dX5_opens_10 : decode cX5_opens 10 = .ok (.getfield 13, 3) := by decide +kernel
theorem dX5_opens_13 : decode cX5_opens 13 = .ok (.bipush 27, 2) := by decide +kernel
theorem dX5_opens_15 : decode cX5_opens 15 = .ok (.dup2, 1) := by decide +kernel
theorem dX5_opens_16 : decode cX5_opens 16 = .ok (.iaload, 1) := by decide +kernel
theorem dX5_opens_17 : decode cX5_opens 17 = .ok (.iconst 1, 1) := by decide +kernel
theorem dX5_opens_18 : decode cX5_opens 18 = .ok (.iadd, 1) := by decide +kernel
theorem dX5_opens_19 : decode cX5_opens 19 = .ok (.iastore, 1) := by decide +kernel
theorem dX5_opens_20 : decode cX5_opens 20 = .ok (.aload_n 0, 1) := by decide +kernel
theorem dX5_opens_21 : decode cX5_opens 21 = .ok (.getfield 13, 3) := by decide +kernel
theorem dX5_opens_24 : decode cX5_opens 24 = .ok (.bipush 28, 2) := by decide +kernel
theorem dX5_opens_26 : decode cX5_opens 26 = .ok (.iload 5, 2) := by decide +kernel
theorem dX5_opens_28 : decode cX5_opens 28 = .ok (.iadd, 1) := by decide +kernel
theorem dX5_opens_29 : decode cX5_opens 29 = .ok (.iload_n 1, 1) := by decide +kernel
theorem dX5_opens_30 : decode cX5_opens 30 = .ok (.iastore, 1) := by decide +kernel
theorem dX5_opens_31 : decode cX5_opens 31 = .ok (.aload_n 0, 1) := by decide +kernel
theorem dX5_opens_32 : decode cX5_opens 32 = .ok (.getfield 13, 3) := by decide +kernel
theorem dX5_opens_35 : decode cX5_opens 35 = .ok (.bipush 42, 2) := by decide +kernel
theorem dX5_opens_37 : decode cX5_opens 37 = .ok (.iload 5, 2) := by decide +kernel
theorem dX5_opens_39 : decode cX5_opens 39 = .ok (.iadd, 1) := by decide +kernel
theorem dX5_opens_40 : decode cX5_opens 40 = .ok (.iload_n 2, 1) := by decide +kernel
theorem dX5_opens_41 : decode cX5_opens 41 = .ok (.iastore, 1) := by decide +kernel
theorem dX5_opens_42 : decode cX5_opens 42 = .ok (.aload_n 0, 1) := by decide +kernel
theorem dX5_opens_43 : decode cX5_opens 43 = .ok (.getfield 13, 3) := by decide +kernel
theorem dX5_opens_46 : decode cX5_opens 46 = .ok (.bipush 56, 2) := by decide +kernel
theorem dX5_opens_48 : decode cX5_opens 48 = .ok (.iload 5, 2) := by decide +kernel
theorem dX5_opens_50 : decode cX5_opens 50 = .ok (.iadd, 1) := by decide +kernel
theorem dX5_opens_51 : decode cX5_opens 51 = .ok (.iload_n 3, 1) := by decide +kernel
theorem dX5_opens_52 : decode cX5_opens 52 = .ok (.iastore, 1) := by decide +kernel
theorem dX5_opens_53 : decode cX5_opens 53 = .ok (.aload_n 0, 1) := by decide +kernel
theorem dX5_opens_54 : decode cX5_opens 54 = .ok (.getfield 13, 3) := by decide +kernel
theorem dX5_opens_57 : decode cX5_opens 57 = .ok (.bipush 70, 2) := by decide +kernel
theorem dX5_opens_59 : decode cX5_opens 59 = .ok (.iload 5, 2) := by decide +kernel
theorem dX5_opens_61 : decode cX5_opens 61 = .ok (.iadd, 1) := by decide +kernel
theorem dX5_opens_62 : decode cX5_opens 62 = .ok (.iload 4, 2) := by decide +kernel
theorem dX5_opens_64 : decode cX5_opens 64 = .ok (.iastore, 1) := by decide +kernel
theorem dX5_opens_65 : decode cX5_opens 65 = .ok (.aload_n 0, 1) := by decide +kernel
theorem dX5_opens_66 : decode cX5_opens 66 = .ok (.getfield 13, 3) := by decide +kernel
theorem dX5_opens_69 : decode cX5_opens 69 = .ok (.bipush 84, 2) := by decide +kernel
theorem dX5_opens_71 : decode cX5_opens 71 = .ok (.iload 5, 2) := by decide +kernel
theorem dX5_opens_73 : decode cX5_opens 73 = .ok (.iadd, 1) := by decide +kernel
theorem dX5_opens_74 : decode cX5_opens 74 = .ok (.iconst (-1), 1) := by decide +kernel
theorem dX5_opens_75 : decode cX5_opens 75 = .ok (.iastore, 1) := by decide +kernel
theorem dX5_opens_76 : decode cX5_opens 76 = .ok (.aload_n 0, 1) := by decide +kernel
theorem dX5_opens_77 : decode cX5_opens 77 = .ok (.getfield 13, 3) := by decide +kernel
theorem dX5_opens_80 : decode cX5_opens 80 = .ok (.bipush 98, 2) := by decide +kernel
theorem dX5_opens_82 : decode cX5_opens 82 = .ok (.iload 5, 2) := by decide +kernel
theorem dX5_opens_84 : decode cX5_opens 84 = .ok (.iadd, 1) := by decide +kernel
theorem dX5_opens_85 : decode cX5_opens 85 = .ok (.iconst 0, 1) := by decide +kernel
theorem dX5_opens_86 : decode cX5_opens 86 = .ok (.iastore, 1) := by decide +kernel
theorem dX5_opens_87 : decode cX5_opens 87 = .ok (.aload_n 0, 1) := by decide +kernel
theorem dX5_opens_88 : decode cX5_opens 88 = .ok (.getfield 13, 3) := by decide +kernel
theorem dX5_opens_91 : decode cX5_opens 91 = .ok (.bipush 112, 2) := by decide +kernel
theorem dX5_opens_93 : decode cX5_opens 93 = .ok (.iload 5, 2) := by decide +kernel
theorem dX5_opens_95 : decode cX5_opens 95 = .ok (.iadd, 1) := by decide +kernel
theorem dX5_opens_96 : decode cX5_opens 96 = .ok (.iconst (-1), 1) := by decide +kernel
theorem dX5_opens_97 : decode cX5_opens 97 = .ok (.iastore, 1) := by decide +kernel
theorem dX5_opens_98 : decode cX5_opens 98 = .ok (.iload 5, 2) := by decide +kernel
theorem dX5_opens_100 : decode cX5_opens 100 = .ok (.ireturn, 1) := by decide +kernel
theorem dX5_addEvent_0 : decode cX5_addEvent 0 = .ok (.aload_n 0, 1) := by decide +kernel
theorem dX5_addEvent_1 : decode cX5_addEvent 1 = .ok (.invokevirtual 113, 3) := by decide +kernel
theorem dX5_addEvent_4 : decode cX5_addEvent 4 = .ok (.aload_n 0, 1) := by decide +kernel
theorem dX5_addEvent_5 : decode cX5_addEvent 5 = .ok (.iconst 0, 1) := by decide +kernel
theorem dX5_addEvent_6 : decode cX5_addEvent 6 = .ok (.putfield 89, 3) := by decide +kernel
theorem dX5_addEvent_9 : decode cX5_addEvent 9 = .ok (.aload_n 0, 1) := by decide +kernel
theorem dX5_addEvent_10 : decode cX5_addEvent 10 = .ok (.aload_n 0, 1) := by decide +kernel
theorem dX5_addEvent_11 : decode cX5_addEvent 11 = .ok (.getfield 20, 3) := by decide +kernel
theorem dX5_addEvent_14 : decode cX5_addEvent 14 = .ok (.ifCond .lt 7, 3) := by decide +kernel
theorem dX5_addEvent_17 : decode cX5_addEvent 17 = .ok (.iconst 1, 1) := by decide +kernel
theorem dX5_addEvent_18 : decode cX5_addEvent 18 = .ok (.goto 17, 3) := by decide +kernel
theorem dX5_addEvent_21 : decode cX5_addEvent 21 = .ok (.aload_n 0, 1) := by decide +kernel
theorem dX5_addEvent_22 : decode cX5_addEvent 22 = .ok (.invokevirtual 35, 3) := by decide +kernel
theorem dX5_addEvent_25 : decode cX5_addEvent 25 = .ok (.bipush 14, 2) := by decide +kernel
theorem dX5_addEvent_27 : decode cX5_addEvent 27 = .ok (.if_icmp .ne 7, 3) := by decide +kernel
theorem dX5_addEvent_30 : decode cX5_addEvent 30 = .ok (.iconst 2, 1) := by decide +kernel
theorem dX5_addEvent_31 : decode cX5_addEvent 31 = .ok (.goto 4, 3) := by decide +kernel
theorem dX5_addEvent_34 : decode cX5_addEvent 34 = .ok (.iconst 0, 1) := by decide +kernel
theorem dX5_addEvent_35 : decode cX5_addEvent 35 = .ok (.putfield 1, 3) := by decide +kernel
theorem dX5_addEvent_38 : decode cX5_addEvent 38 = .ok (.aload_n 0, 1) := by decide +kernel
theorem dX5_addEvent_39 : decode cX5_addEvent 39 = .ok (.getfield 1, 3) := by decide +kernel
theorem dX5_addEvent_42 : decode cX5_addEvent 42 = .ok (.ifCond .eq 5, 3) := by decide +kernel
theorem dX5_addEvent_45 : decode cX5_addEvent 45 = .ok (.iconst 0, 1) := by decide +kernel
theorem dX5_addEvent_46 : decode cX5_addEvent 46 = .ok (.ireturn, 1) := by decide +kernel
theorem dX5_addEvent_47 : decode cX5_addEvent 47 = .ok (.aload_n 0, 1) := by decide +kernel
theorem dX5_addEvent_48 : decode cX5_addEvent 48 = .ok (.invokevirtual 83, 3) := by decide +kernel
theorem dX5_addEvent_51 : decode cX5_addEvent 51 = .ok (.aload_n 0, 1) := by decide +kernel
theorem dX5_addEvent_52 : decode cX5_addEvent 52 = .ok (.aload_n 0, 1) := by decide +kernel
theorem dX5_addEvent_53 : decode cX5_addEvent 53 = .ok (.getfield 107, 3) := by decide +kernel
theorem dX5_addEvent_56 : decode cX5_addEvent 56 = .ok (.aload_n 0, 1) := by decide +kernel
theorem dX5_addEvent_57 : decode cX5_addEvent 57 = .ok (.getfield 110, 3) := by decide +kernel
theorem dX5_addEvent_60 : decode cX5_addEvent 60 = .ok (.aload_n 0, 1) := by decide +kernel
theorem dX5_addEvent_61 : decode cX5_addEvent 61 = .ok (.getfield 98, 3) := by decide +kernel
theorem dX5_addEvent_64 : decode cX5_addEvent 64 = .ok (.aload_n 0, 1) := by decide +kernel
theorem dX5_addEvent_65 : decode cX5_addEvent 65 = .ok (.getfield 101, 3) := by decide +kernel
theorem dX5_addEvent_68 : decode cX5_addEvent 68 = .ok (.invokevirtual 116, 3) := by decide +kernel
theorem dX5_addEvent_71 : decode cX5_addEvent 71 = .ok (.ireturn, 1) := by decide +kernel
theorem dX5_errorPosition_0 : decode cX5_errorPosition 0 = .ok (.aload_n 0, 1) := by decide +kernel
theorem dX5_errorPosition_1 : decode cX5_errorPosition 1 = .ok (.iconst 0, 1) := by decide +kernel
theorem dX5_errorPosition_2 : decode cX5_errorPosition 2 = .ok (.putfield 1, 3) := by decide +kernel
theorem dX5_errorPosition_5 : decode cX5_errorPosition 5 = .ok (.aload_n 0, 1) := by decide +kernel
theorem dX5_errorPosition_6 : decode cX5_errorPosition 6 = .ok (.getfield 20, 3) := by decide +kernel
theorem dX5_errorPosition_9 : decode cX5_errorPosition 9 = .ok (.ireturn, 1) := by decide +kernel
theorem dX5_removeEvent_0 : decode cX5_removeEvent 0 = .ok (.aload_n 0, 1) := by decide +kernel
theorem dX5_removeEvent_1 : decode cX5_removeEvent 1 = .ok (.aload_n 0, 1) := by decide +kernel
theorem dX5_removeEvent_2 : decode cX5_removeEvent 2 = .ok (.iload_n 1, 1) := by decide +kernel
theorem dX5_removeEvent_3 : decode cX5_removeEvent 3 = .ok (.invokevirtual 120, 3) := by decide +kernel
theorem dX5_removeEvent_6 : decode cX5_removeEvent 6 = .ok (.ifCond .eq 7, 3) := by decide +kernel
theorem dX5_removeEvent_9 : decode cX5_removeEvent 9 = .ok (.iconst 0, 1) := by decide +kernel
theorem dX5_removeEvent_10 : decode cX5_removeEvent 10 = .ok (.goto 4, 3) := by decide +kernel
theorem dX5_removeEvent_13 : decode cX5_removeEvent 13 = .ok (.iconst 1, 1) := by decide +kernel
theorem dX5_removeEvent_14 : decode cX5_removeEvent 14 = .ok (.putfield 1, 3) := by decide +kernel
theorem dX5_removeEvent_17 : decode cX5_removeEvent 17 = .ok (.aload_n 0, 1) := by decide +kernel
theorem dX5_removeEvent_18 : decode cX5_removeEvent 18 = .ok (.getfield 1, 3) := by decide +kernel
theorem dX5_removeEvent_21 : decode cX5_removeEvent 21 = .ok (.ifCond .eq 5, 3) := by decide +kernel
theorem dX5_removeEvent_24 : decode cX5_removeEvent 24 = .ok (.iconst 0, 1) := by decide +kernel
theorem dX5_removeEvent_25 : decode cX5_removeEvent 25 = .ok (.ireturn, 1) := by decide +kernel
theorem dX5_removeEvent_26 : decode cX5_removeEvent 26 = .ok (.aload_n 0, 1) := by decide +kernel
theorem dX5_removeEvent_27 : decode cX5_removeEvent 27 = .ok (.invokevirtual 83, 3) := by decide +kernel
theorem dX5_removeEvent_30 : decode cX5_removeEvent 30 = .ok (.iload_n 1, 1) := by decide +kernel
theorem dX5_removeEvent_31 : decode cX5_removeEvent 31 = .ok (.istore_n 2, 1) := by decide +kernel
theorem dX5_removeEvent_32 : decode cX5_removeEvent 32 = .ok (.iload_n 2, 1) := by decide +kernel
theorem dX5_removeEvent_33 : decode cX5_removeEvent 33 = .ok (.aload_n 0, 1) := by decide +kernel
theorem dX5_removeEvent_34 : decode cX5_removeEvent 34 = .ok (.invokevirtual 35, 3) := by decide +kernel
theorem dX5_removeEvent_37 : decode cX5_removeEvent 37 = .ok (.iconst 1, 1) := by decide +kernel
theorem dX5_removeEvent_38 : decode cX5_removeEvent 38 = .ok (.isub, 1) := by decide +kernel
theorem dX5_removeEvent_39 : decode cX5_removeEvent 39 = .ok (.if_icmp .ge 42, 3) := by decide +kernel
theorem dX5_removeEvent_42 : decode cX5_removeEvent 42 = .ok (.bipush 28, 2) := by decide +kernel
theorem dX5_removeEvent_44 : decode cX5_removeEvent 44 = .ok (.istore_n 3, 1) := by decide +kernel
theorem dX5_removeEvent_45 : decode cX5_removeEvent 45 = .ok (.iload_n 3, 1) := by decide +kernel
theorem dX5_removeEvent_46 : decode cX5_removeEvent 46 = .ok (.bipush 112, 2) := by decide +kernel
theorem dX5_removeEvent_48 : decode cX5_removeEvent 48 = .ok (.if_icmp .gt 27, 3) := by decide +kernel
theorem dX5_removeEvent_51 : decode cX5_removeEvent 51 = .ok (.aload_n 0, 1) := by decide +kernel
theorem dX5_removeEvent_52 : decode cX5_removeEvent 52 = .ok (.getfield 13, 3) := by decide +kernel
theorem dX5_removeEvent_55 : decode cX5_removeEvent 55 = .ok (.iload_n 3, 1) := by decide +kernel
theorem dX5_removeEvent_56 : decode cX5_removeEvent 56 = .ok (.iload_n 2, 1) := by decide +kernel
theorem dX5_removeEvent_57 : decode cX5_removeEvent 57 = .ok (.iadd, 1) := by decide +kernel
theorem dX5_removeEvent_58 : decode cX5_removeEvent 58 = .ok (.aload_n 0, 1) := by decide +kernel
theorem dX5_removeEvent_59 : decode cX5_removeEvent 59 = .ok (.getfield 13, 3) := by decide +kernel
theorem dX5_removeEvent_62 : decode cX5_removeEvent 62 = .ok (.iload_n 3, 1) := by decide +kernel
theorem dX5_removeEvent_63 : decode cX5_removeEvent 63 = .ok (.iload_n 2, 1) := by decide +kernel
theorem dX5_removeEvent_64 : decode cX5_removeEvent 64 = .ok (.iadd, 1) := by decide +kernel
theorem dX5_removeEvent_65 : decode cX5_removeEvent 65 = .ok (.iconst 1, 1) := by decide +kernel
theorem dX5_removeEvent_66 : decode cX5_removeEvent 66 = .ok (.iadd, 1) := by decide +kernel
theorem dX5_removeEvent_67 : decode cX5_removeEvent 67 = .ok (.iaload, 1) := by decide +kernel
theorem dX5_removeEvent_68 : decode cX5_removeEvent 68 = .ok (.iastore, 1) := by decide +kernel
theorem dX5_removeEvent_69 : decode cX5_removeEvent 69 = .ok (.iinc 3 14, 3) := by decide +kernel
theorem dX5_removeEvent_72 : decode cX5_removeEvent 72 = .ok (.goto (-27), 3) := by decide +kernel
theorem dX5_removeEvent_75 : decode cX5_removeEvent 75 = .ok (.iinc 2 1, 3) := by decide +kernel
theorem dX5_removeEvent_78 : decode cX5_removeEvent 78 = .ok (.goto (-46), 3) := by decide +kernel
theorem dX5_removeEvent_81 : decode cX5_removeEvent 81 = .ok (.aload_n 0, 1) := by decide +kernel
theorem dX5_removeEvent_82 : decode cX5_removeEvent 82 = .ok (.getfield 13, 3) := by decide +kernel
theorem dX5_removeEvent_85 : decode cX5_removeEvent 85 = .ok (.bipush 27, 2) := by decide +kernel
theorem dX5_removeEvent_87 : decode cX5_removeEvent 87 = .ok (.dup2, 1) := by decide +kernel
theorem dX5_removeEvent_88 : decode cX5_removeEvent 88 = .ok (.iaload, 1) := by decide +kernel
theorem dX5_removeEvent_89 : decode cX5_removeEvent 89 = .ok (.iconst 1, 1) := by decide +kernel
theorem dX5_removeEvent_90 : decode cX5_removeEvent 90 = .ok (.isub, 1) := by decide +kernel
theorem dX5_removeEvent_91 : decode cX5_removeEvent 91 = .ok (.iastore, 1) := by decide +kernel
theorem dX5_removeEvent_92 : decode cX5_removeEvent 92 = .ok (.aload_n 0, 1) := by decide +kernel
theorem dX5_removeEvent_93 : decode cX5_removeEvent 93 = .ok (.invokevirtual 35, 3) := by decide +kernel
theorem dX5_removeEvent_96 : decode cX5_removeEvent 96 = .ok (.ireturn, 1) := by decide +kernel
theorem dX5_split_0 : decode cX5_split 0 = .ok (.aload_n 0, 1) := by decide +kernel
theorem dX5_split_1 : decode cX5_split 1 = .ok (.aload_n 0, 1) := by decide +kernel
theorem dX5_split_2 : decode cX5_split 2 = .ok (.iload_n 1, 1) := by decide +kernel
theorem dX5_split_3 : decode cX5_split 3 = .ok (.invokevirtual 120, 3) := by decide +kernel
theorem dX5_split_6 : decode cX5_split 6 = .ok (.ifCond .ne 7, 3) := by decide +kernel
theorem dX5_split_9 : decode cX5_split 9 = .ok (.iconst 1, 1) := by decide +kernel
theorem dX5_split_10 : decode cX5_split 10 = .ok (.goto 50, 3) := by decide +kernel
theorem dX5_split_13 : decode cX5_split 13 = .ok (.iload_n 2, 1) := by decide +kernel
theorem dX5_split_14 : decode cX5_split 14 = .ok (.ifCond .eq 28, 3) := by decide +kernel
theorem dX5_split_17 : decode cX5_split 17 = .ok (.iload_n 2, 1) := by decide +kernel
theorem dX5_split_18 : decode cX5_split 18 = .ok (.aload_n 0, 1) := by decide +kernel
theorem dX5_split_19 : decode cX5_split 19 = .ok (.bipush 42, 2) := by decide +kernel
theorem dX5_split_21 : decode cX5_split 21 = .ok (.iload_n 1, 1) := by decide +kernel
theorem dX5_split_22 : decode cX5_split 22 = .ok (.invokevirtual 54, 3) := by decide +kernel
theorem dX5_split_25 : decode cX5_split 25 = .ok (.iconst (-1), 1) := by decide +kernel
theorem dX5_split_26 : decode cX5_split 26 = .ok (.ixor, 1) := by decide +kernel
theorem dX5_split_27 : decode cX5_split 27 = .ok (.iand, 1) := by decide +kernel
theorem dX5_split_28 : decode cX5_split 28 = .ok (.ifCond .ne 14, 3) := by decide +kernel
theorem dX5_split_31 : decode cX5_split 31 = .ok (.iload_n 2, 1) := by decide +kernel
theorem dX5_split_32 : decode cX5_split 32 = .ok (.aload_n 0, 1) := by decide +kernel
theorem dX5_split_33 : decode cX5_split 33 = .ok (.bipush 42, 2) := by decide +kernel
theorem dX5_split_35 : decode cX5_split 35 = .ok (.iload_n 1, 1) := by decide +kernel
theorem dX5_split_36 : decode cX5_split 36 = .ok (.invokevirtual 54, 3) := by decide +kernel
theorem dX5_split_39 : decode cX5_split 39 = .ok (.if_icmp .ne 7, 3) := by decide +kernel
theorem dX5_split_42 : decode cX5_split 42 = .ok (.iconst 2, 1) := by decide +kernel
theorem dX5_split_43 : decode cX5_split 43 = .ok (.goto 17, 3) := by decide +kernel
theorem dX5_split_46 : decode cX5_split 46 = .ok (.aload_n 0, 1) := by decide +kernel
theorem dX5_split_47 : decode cX5_split 47 = .ok (.invokevirtual 35, 3) := by decide +kernel
theorem dX5_split_50 : decode cX5_split 50 = .ok (.bipush 14, 2) := by decide +kernel
theorem dX5_split_52 : decode cX5_split 52 = .ok (.if_icmp .ne 7, 3) := by decide +kernel
theorem dX5_split_55 : decode cX5_split 55 = .ok (.iconst 3, 1) := by decide +kernel
theorem dX5_split_56 : decode cX5_split 56 = .ok (.goto 4, 3) := by decide +kernel
theorem dX5_split_59 : decode cX5_split 59 = .ok (.iconst 0, 1) := by decide +kernel
theorem dX5_split_60 : decode cX5_split 60 = .ok (.putfield 1, 3) := by decide +kernel
theorem dX5_split_63 : decode cX5_split 63 = .ok (.aload_n 0, 1) := by decide +kernel
theorem dX5_split_64 : decode cX5_split 64 = .ok (.getfield 1, 3) := by decide +kernel
theorem dX5_split_67 : decode cX5_split 67 = .ok (.ifCond .eq 5, 3) := by decide +kernel
theorem dX5_split_70 : decode cX5_split 70 = .ok (.iconst 0, 1) := by decide +kernel
theorem dX5_split_71 : decode cX5_split 71 = .ok (.ireturn, 1) := by decide +kernel
theorem dX5_split_72 : decode cX5_split 72 = .ok (.aload_n 0, 1) := by decide +kernel
theorem dX5_split_73 : decode cX5_split 73 = .ok (.invokevirtual 83, 3) := by decide +kernel
theorem dX5_split_76 : decode cX5_split 76 = .ok (.aload_n 0, 1) := by decide +kernel
theorem dX5_split_77 : decode cX5_split 77 = .ok (.getfield 13, 3) := by decide +kernel
theorem dX5_split_80 : decode cX5_split 80 = .ok (.bipush 42, 2) := by decide +kernel
theorem dX5_split_82 : decode cX5_split 82 = .ok (.iload_n 1, 1) := by decide +kernel
theorem dX5_split_83 : decode cX5_split 83 = .ok (.iadd, 1) := by decide +kernel
theorem dX5_split_84 : decode cX5_split 84 = .ok (.dup2, 1) := by decide +kernel
theorem dX5_split_85 : decode cX5_split 85 = .ok (.iaload, 1) := by decide +kernel
theorem dX5_split_86 : decode cX5_split 86 = .ok (.iload_n 2, 1) := by decide +kernel
theorem dX5_split_87 : decode cX5_split 87 = .ok (.iconst (-1), 1) := by decide +kernel
theorem dX5_split_88 : decode cX5_split 88 = .ok (.ixor, 1) := by decide +kernel
theorem dX5_split_89 : decode cX5_split 89 = .ok (.iand, 1) := by decide +kernel
theorem dX5_split_90 : decode cX5_split 90 = .ok (.iastore, 1) := by decide +kernel
theorem dX5_split_91 : decode cX5_split 91 = .ok (.aload_n 0, 1) := by decide +kernel
theorem dX5_split_92 : decode cX5_split 92 = .ok (.aload_n 0, 1) := by decide +kernel
theorem dX5_split_93 : decode cX5_split 93 = .ok (.bipush 28, 2) := by decide +kernel
theorem dX5_split_95 : decode cX5_split 95 = .ok (.iload_n 1, 1) := by decide +kernel
theorem dX5_split_96 : decode cX5_split 96 = .ok (.invokevirtual 54, 3) := by decide +kernel
theorem dX5_split_99 : decode cX5_split 99 = .ok (.iload_n 2, 1) := by decide +kernel
theorem dX5_split_100 : decode cX5_split 100 = .ok (.aload_n 0, 1) := by decide +kernel
theorem dX5_split_101 : decode cX5_split 101 = .ok (.bipush 56, 2) := by decide +kernel
theorem dX5_split_103 : decode cX5_split 103 = .ok (.iload_n 1, 1) := by decide +kernel
theorem dX5_split_104 : decode cX5_split 104 = .ok (.invokevirtual 54, 3) := by decide +kernel
theorem dX5_split_107 : decode cX5_split 107 = .ok (.aload_n 0, 1) := by decide +kernel
theorem dX5_split_108 : decode cX5_split 108 = .ok (.bipush 70, 2) := by decide +kernel
theorem dX5_split_110 : decode cX5_split 110 = .ok (.iload_n 1, 1) := by decide +kernel
theorem dX5_split_111 : decode cX5_split 111 = .ok (.invokevirtual 54, 3) := by decide +kernel
theorem dX5_split_114 : decode cX5_split 114 = .ok (.invokevirtual 116, 3) := by decide +kernel
theorem dX5_split_117 : decode cX5_split 117 = .ok (.ireturn, 1) := by decide +kernel
theorem dX5_event_0 : decode cX5_event 0 = .ok (.aload_n 0, 1) := by decide +kernel
theorem dX5_event_1 : decode cX5_event 1 = .ok (.aload_n 0, 1) := by decide +kernel
theorem dX5_event_2 : decode cX5_event 2 = .ok (.iload_n 1, 1) := by decide +kernel
theorem dX5_event_3 : decode cX5_event 3 = .ok (.invokevirtual 120, 3) := by decide +kernel
theorem dX5_event_6 : decode cX5_event 6 = .ok (.ifCond .ne 7, 3) := by decide +kernel
theorem dX5_event_9 : decode cX5_event 9 = .ok (.iconst 1, 1) := by decide +kernel
theorem dX5_event_10 : decode cX5_event 10 = .ok (.goto 18, 3) := by decide +kernel
theorem dX5_event_13 : decode cX5_event 13 = .ok (.iload_n 2, 1) := by decide +kernel
theorem dX5_event_14 : decode cX5_event 14 = .ok (.iconst 0, 1) := by decide +kernel
theorem dX5_event_15 : decode cX5_event 15 = .ok (.bipush 6, 2) := by decide +kernel
theorem dX5_event_17 : decode cX5_event 17 = .ok (.invokestatic 39, 3) := by decide +kernel
theorem dX5_event_20 : decode cX5_event 20 = .ok (.ifCond .eq 7, 3) := by decide +kernel
theorem dX5_event_23 : decode cX5_event 23 = .ok (.iconst 0, 1) := by decide +kernel
theorem dX5_event_24 : decode cX5_event 24 = .ok (.goto 4, 3) := by decide +kernel
theorem dX5_event_27 : decode cX5_event 27 = .ok (.iconst 2, 1) := by decide +kernel
theorem dX5_event_28 : decode cX5_event 28 = .ok (.putfield 1, 3) := by decide +kernel
theorem dX5_event_31 : decode cX5_event 31 = .ok (.aload_n 0, 1) := by decide +kernel
theorem dX5_event_32 : decode cX5_event 32 = .ok (.getfield 1, 3) := by decide +kernel
theorem dX5_event_35 : decode cX5_event 35 = .ok (.ifCond .eq 5, 3) := by decide +kernel
theorem dX5_event_38 : decode cX5_event 38 = .ok (.iconst 0, 1) := by decide +kernel
theorem dX5_event_39 : decode cX5_event 39 = .ok (.ireturn, 1) := by decide +kernel
theorem dX5_event_40 : decode cX5_event 40 = .ok (.iload_n 2, 1) := by decide +kernel
theorem dX5_event_41 : decode cX5_event 41 = .ok (.tableswitch 91 0 5 #[39, 47, 55, 63, 71, 83], 39) := by decide +kernel
theorem dX5_event_80 : decode cX5_event 80 = .ok (.aload_n 0, 1) := by decide +kernel
theorem dX5_event_81 : decode cX5_event 81 = .ok (.bipush 28, 2) := by decide +kernel
theorem dX5_event_83 : decode cX5_event 83 = .ok (.iload_n 1, 1) := by decide +kernel
theorem dX5_event_84 : decode cX5_event 84 = .ok (.invokevirtual 54, 3) := by decide +kernel
theorem dX5_event_87 : decode cX5_event 87 = .ok (.ireturn, 1) := by decide +kernel
theorem dX5_event_88 : decode cX5_event 88 = .ok (.aload_n 0, 1) := by decide +kernel
theorem dX5_event_89 : decode cX5_event 89 = .ok (.bipush 42, 2) := by decide +kernel
theorem dX5_event_91 : decode cX5_event 91 = .ok (.iload_n 1, 1) := by decide +kernel
theorem dX5_event_92 : decode cX5_event 92 = .ok (.invokevirtual 54, 3) := by decide +kernel
theorem dX5_event_95 : decode cX5_event 95 = .ok (.ireturn, 1) := by decide +kernel
theorem dX5_event_96 : decode cX5_event 96 = .ok (.aload_n 0, 1) := by decide +kernel
theorem dX5_event_97 : decode cX5_event 97 = .ok (.bipush 56, 2) := by decide +kernel
theorem dX5_event_99 : decode cX5_event 99 = .ok (.iload_n 1, 1) := by decide +kernel
theorem dX5_event_100 : decode cX5_event 100 = .ok (.invokevirtual 54, 3) := by decide +kernel
theorem dX5_event_103 : decode cX5_event 103 = .ok (.ireturn, 1) := by decide +kernel
theorem dX5_event_104 : decode cX5_event 104 = .ok (.aload_n 0, 1) := by decide +kernel
theorem dX5_event_105 : decode cX5_event 105 = .ok (.bipush 70, 2) := by decide +kernel
theorem dX5_event_107 : decode cX5_event 107 = .ok (.iload_n 1, 1) := by decide +kernel
theorem dX5_event_108 : decode cX5_event 108 = .ok (.invokevirtual 54, 3) := by decide +kernel
theorem dX5_event_111 : decode cX5_event 111 = .ok (.ireturn, 1) := by decide +kernel
theorem dX5_event_112 : decode cX5_event 112 = .ok (.aload_n 0, 1) := by decide +kernel
theorem dX5_event_113 : decode cX5_event 113 = .ok (.aload_n 0, 1) := by decide +kernel
theorem dX5_event_114 : decode cX5_event 114 = .ok (.bipush 42, 2) := by decide +kernel
theorem dX5_event_116 : decode cX5_event 116 = .ok (.iload_n 1, 1) := by decide +kernel
theorem dX5_event_117 : decode cX5_event 117 = .ok (.invokevirtual 54, 3) := by decide +kernel
theorem dX5_event_120 : decode cX5_event 120 = .ok (.invokevirtual 69, 3) := by decide +kernel
theorem dX5_event_123 : decode cX5_event 123 = .ok (.ireturn, 1) := by decide +kernel
theorem dX5_event_124 : decode cX5_event 124 = .ok (.aload_n 0, 1) := by decide +kernel
theorem dX5_event_125 : decode cX5_event 125 = .ok (.bipush 84, 2) := by decide +kernel
theorem dX5_event_127 : decode cX5_event 127 = .ok (.iload_n 1, 1) := by decide +kernel
theorem dX5_event_128 : decode cX5_event 128 = .ok (.invokevirtual 54, 3) := by decide +kernel
theorem dX5_event_131 : decode cX5_event 131 = .ok (.ireturn, 1) := by decide +kernel
theorem dX5_event_132 : decode cX5_event 132 = .ok (.aload_n 0, 1) := by decide +kernel
theorem dX5_event_133 : decode cX5_event 133 = .ok (.bipush 98, 2) := by decide +kernel
theorem dX5_event_135 : decode cX5_event 135 = .ok (.iload_n 1, 1) := by decide +kernel
theorem dX5_event_136 : decode cX5_event 136 = .ok (.invokevirtual 54, 3) := by decide +kernel
theorem dX5_event_139 : decode cX5_event 139 = .ok (.ireturn, 1) := by decide +kernel
theorem dX5_writes_0 : decode cX5_writes 0 = .ok (.aload_n 0, 1) := by decide +kernel
theorem dX5_writes_1 : decode cX5_writes 1 = .ok (.getfield 23, 3) := by decide +kernel
theorem dX5_writes_4 : decode cX5_writes 4 = .ok (.aload_n 0, 1) := by decide +kernel
theorem dX5_writes_5 : decode cX5_writes 5 = .ok (.getfield 123, 3) := by decide +kernel
theorem dX5_writes_8 : decode cX5_writes 8 = .ok (.iload_n 1, 1) := by decide +kernel
theorem dX5_writes_9 : decode cX5_writes 9 = .ok (.iastore, 1) := by decide +kernel
theorem dX5_writes_10 : decode cX5_writes 10 = .ok (.aload_n 0, 1) := by decide +kernel
theorem dX5_writes_11 : decode cX5_writes 11 = .ok (.dup, 1) := by decide +kernel
theorem dX5_writes_12 : decode cX5_writes 12 = .ok (.getfield 123, 3) := by decide +kernel
theorem dX5_writes_15 : decode cX5_writes 15 = .ok (.iconst 1, 1) := by decide +kernel
theorem dX5_writes_16 : decode cX5_writes 16 = .ok (.iadd, 1) := by decide +kernel
theorem dX5_writes_17 : decode cX5_writes 17 = .ok (.putfield 123, 3) := by decide +kernel
theorem dX5_writes_20 : decode cX5_writes 20 = .ok (.return_, 1) := by decide +kernel
theorem dX5_describe_0 : decode cX5_describe 0 = .ok (.aload_n 0, 1) := by decide +kernel
theorem dX5_describe_1 : decode cX5_describe 1 = .ok (.aload_n 0, 1) := by decide +kernel
theorem dX5_describe_2 : decode cX5_describe 2 = .ok (.iload_n 1, 1) := by decide +kernel
theorem dX5_describe_3 : decode cX5_describe 3 = .ok (.invokevirtual 120, 3) := by decide +kernel
theorem dX5_describe_6 : decode cX5_describe 6 = .ok (.ifCond .eq 7, 3) := by decide +kernel
theorem dX5_describe_9 : decode cX5_describe 9 = .ok (.iconst 0, 1) := by decide +kernel
theorem dX5_describe_10 : decode cX5_describe 10 = .ok (.goto 4, 3) := by decide +kernel
theorem dX5_describe_13 : decode cX5_describe 13 = .ok (.iconst 1, 1) := by decide +kernel
theorem dX5_describe_14 : decode cX5_describe 14 = .ok (.putfield 1, 3) := by decide +kernel
theorem dX5_describe_17 : decode cX5_describe 17 = .ok (.aload_n 0, 1) := by decide +kernel
theorem dX5_describe_18 : decode cX5_describe 18 = .ok (.getfield 1, 3) := by decide +kernel
theorem dX5_describe_21 : decode cX5_describe 21 = .ok (.ifCond .eq 5, 3) := by decide +kernel
theorem dX5_describe_24 : decode cX5_describe 24 = .ok (.iconst 0, 1) := by decide +kernel
theorem dX5_describe_25 : decode cX5_describe 25 = .ok (.ireturn, 1) := by decide +kernel
theorem dX5_describe_26 : decode cX5_describe 26 = .ok (.aload_n 0, 1) := by decide +kernel
theorem dX5_describe_27 : decode cX5_describe 27 = .ok (.iconst 0, 1) := by decide +kernel
theorem dX5_describe_28 : decode cX5_describe 28 = .ok (.putfield 123, 3) := by decide +kernel
theorem dX5_describe_31 : decode cX5_describe 31 = .ok (.aload_n 0, 1) := by decide +kernel
theorem dX5_describe_32 : decode cX5_describe 32 = .ok (.bipush 48, 2) := by decide +kernel
theorem dX5_describe_34 : decode cX5_describe 34 = .ok (.aload_n 0, 1) := by decide +kernel
theorem dX5_describe_35 : decode cX5_describe 35 = .ok (.bipush 28, 2) := by decide +kernel
theorem dX5_describe_37 : decode cX5_describe 37 = .ok (.iload_n 1, 1) := by decide +kernel
theorem dX5_describe_38 : decode cX5_describe 38 = .ok (.invokevirtual 54, 3) := by decide +kernel
theorem dX5_describe_41 : decode cX5_describe 41 = .ok (.iadd, 1) := by decide +kernel
theorem dX5_describe_42 : decode cX5_describe 42 = .ok (.invokevirtual 126, 3) := by decide +kernel
theorem dX5_describe_45 : decode cX5_describe 45 = .ok (.iconst 0, 1) := by decide +kernel
theorem dX5_describe_46 : decode cX5_describe 46 = .ok (.istore_n 3, 1) := by decide +kernel
theorem dX5_describe_47 : decode cX5_describe 47 = .ok (.iload_n 3, 1) := by decide +kernel
theorem dX5_describe_48 : decode cX5_describe 48 = .ok (.bipush 6, 2) := by decide +kernel
theorem dX5_describe_50 : decode cX5_describe 50 = .ok (.if_icmp .ge 53, 3) := by decide +kernel
theorem dX5_describe_53 : decode cX5_describe 53 = .ok (.aload_n 0, 1) := by decide +kernel
theorem dX5_describe_54 : decode cX5_describe 54 = .ok (.bipush 42, 2) := by decide +kernel
theorem dX5_describe_56 : decode cX5_describe 56 = .ok (.iload_n 1, 1) := by decide +kernel
theorem dX5_describe_57 : decode cX5_describe 57 = .ok (.invokevirtual 54, 3) := by decide +kernel
theorem dX5_describe_60 : decode cX5_describe 60 = .ok (.iload_n 3, 1) := by decide +kernel
theorem dX5_describe_61 : decode cX5_describe 61 = .ok (.ishr, 1) := by decide +kernel
theorem dX5_describe_62 : decode cX5_describe 62 = .ok (.iconst 1, 1) := by decide +kernel
theorem dX5_describe_63 : decode cX5_describe 63 = .ok (.iand, 1) := by decide +kernel
theorem dX5_describe_64 : decode cX5_describe 64 = .ok (.ifCond .ne 6, 3) := by decide +kernel
theorem dX5_describe_67 : decode cX5_describe 67 = .ok (.goto 30, 3) := by decide +kernel
theorem dX5_describe_70 : decode cX5_describe 70 = .ok (.aload_n 0, 1) := by decide +kernel
theorem dX5_describe_71 : decode cX5_describe 71 = .ok (.aload_n 0, 1) := by decide +kernel
theorem dX5_describe_72 : decode cX5_describe 72 = .ok (.getfield 123, 3) := by decide +kernel
theorem dX5_describe_75 : decode cX5_describe 75 = .ok (.iconst 1, 1) := by decide +kernel
theorem dX5_describe_76 : decode cX5_describe 76 = .ok (.if_icmp .ne 8, 3) := by decide +kernel
theorem dX5_describe_79 : decode cX5_describe 79 = .ok (.bipush 58, 2) := by decide +kernel
theorem dX5_describe_81 : decode cX5_describe 81 = .ok (.goto 5, 3) := by decide +kernel
theorem dX5_describe_84 : decode cX5_describe 84 = .ok (.bipush 44, 2) := by decide +kernel
theorem dX5_describe_86 : decode cX5_describe 86 = .ok (.invokevirtual 126, 3) := by decide +kernel
theorem dX5_describe_89 : decode cX5_describe 89 = .ok (.aload_n 0, 1) := by decide +kernel
theorem dX5_describe_90 : decode cX5_describe 90 = .ok (.bipush 48, 2) := by decide +kernel
theorem dX5_describe_92 : decode cX5_describe 92 = .ok (.iload_n 3, 1) := by decide +kernel
theorem dX5_describe_93 : decode cX5_describe 93 = .ok (.iadd, 1) := by decide +kernel
theorem dX5_describe_94 : decode cX5_describe 94 = .ok (.invokevirtual 126, 3) := by decide +kernel
theorem dX5_describe_97 : decode cX5_describe 97 = .ok (.iinc 3 1, 3) := by decide +kernel
theorem dX5_describe_100 : decode cX5_describe 100 = .ok (.goto (-53), 3) := by decide +kernel
theorem dX5_describe_103 : decode cX5_describe 103 = .ok (.aload_n 0, 1) := by decide +kernel
theorem dX5_describe_104 : decode cX5_describe 104 = .ok (.bipush 56, 2) := by decide +kernel
theorem dX5_describe_106 : decode cX5_describe 106 = .ok (.iload_n 1, 1) := by decide +kernel
theorem dX5_describe_107 : decode cX5_describe 107 = .ok (.invokevirtual 54, 3) := by decide +kernel
theorem dX5_describe_110 : decode cX5_describe 110 = .ok (.istore_n 3, 1) := by decide +kernel
theorem dX5_describe_111 : decode cX5_describe 111 = .ok (.iload_n 3, 1) := by decide +kernel
theorem dX5_describe_112 : decode cX5_describe 112 = .ok (.ifCond .le 32, 3) := by decide +kernel
theorem dX5_describe_115 : decode cX5_describe 115 = .ok (.aload_n 0, 1) := by decide +kernel
theorem dX5_describe_116 : decode cX5_describe 116 = .ok (.bipush 47, 2) := by decide +kernel
theorem dX5_describe_118 : decode cX5_describe 118 = .ok (.invokevirtual 126, 3) := by decide +kernel
theorem dX5_describe_121 : decode cX5_describe 121 = .ok (.iload_n 3, 1) := by decide +kernel
theorem dX5_describe_122 : decode cX5_describe 122 = .ok (.bipush 9, 2) := by decide +kernel
theorem dX5_describe_124 : decode cX5_describe 124 = .ok (.if_icmp .le 9, 3) := by decide +kernel
theorem dX5_describe_127 : decode cX5_describe 127 = .ok (.aload_n 0, 1) := by decide +kernel
theorem dX5_describe_128 : decode cX5_describe 128 = .ok (.bipush 49, 2) := by decide +kernel
theorem dX5_describe_130 : decode cX5_describe 130 = .ok (.invokevirtual 126, 3) := by decide +kernel
theorem dX5_describe_133 : decode cX5_describe 133 = .ok (.aload_n 0, 1) := by decide +kernel
theorem dX5_describe_134 : decode cX5_describe 134 = .ok (.bipush 48, 2) := by decide +kernel
theorem dX5_describe_136 : decode cX5_describe 136 = .ok (.iload_n 3, 1) := by decide +kernel
theorem dX5_describe_137 : decode cX5_describe 137 = .ok (.bipush 10, 2) := by decide +kernel
theorem dX5_describe_139 : decode cX5_describe 139 = .ok (.irem, 1) := by decide +kernel
theorem dX5_describe_140 : decode cX5_describe 140 = .ok (.iadd, 1) := by decide +kernel
theorem dX5_describe_141 : decode cX5_describe 141 = .ok (.invokevirtual 126, 3) := by decide +kernel
theorem dX5_describe_144 : decode cX5_describe 144 = .ok (.aload_n 0, 1) := by decide +kernel
theorem dX5_describe_145 : decode cX5_describe 145 = .ok (.bipush 70, 2) := by decide +kernel
theorem dX5_describe_147 : decode cX5_describe 147 = .ok (.iload_n 1, 1) := by decide +kernel
theorem dX5_describe_148 : decode cX5_describe 148 = .ok (.invokevirtual 54, 3) := by decide +kernel
theorem dX5_describe_151 : decode cX5_describe 151 = .ok (.iconst 2, 1) := by decide +kernel
theorem dX5_describe_152 : decode cX5_describe 152 = .ok (.if_icmp .ne 15, 3) := by decide +kernel
theorem dX5_describe_155 : decode cX5_describe 155 = .ok (.aload_n 0, 1) := by decide +kernel
theorem dX5_describe_156 : decode cX5_describe 156 = .ok (.bipush 42, 2) := by decide +kernel
theorem dX5_describe_158 : decode cX5_describe 158 = .ok (.invokevirtual 126, 3) := by decide +kernel
theorem dX5_describe_161 : decode cX5_describe 161 = .ok (.aload_n 0, 1) := by decide +kernel
theorem dX5_describe_162 : decode cX5_describe 162 = .ok (.bipush 50, 2) := by decide +kernel
theorem dX5_describe_164 : decode cX5_describe 164 = .ok (.invokevirtual 126, 3) := by decide +kernel
theorem dX5_describe_167 : decode cX5_describe 167 = .ok (.aload_n 0, 1) := by decide +kernel
theorem dX5_describe_168 : decode cX5_describe 168 = .ok (.iload_n 2, 1) := by decide +kernel
theorem dX5_describe_169 : decode cX5_describe 169 = .ok (.iconst (-1), 1) := by decide +kernel
theorem dX5_describe_170 : decode cX5_describe 170 = .ok (.aload_n 0, 1) := by decide +kernel
theorem dX5_describe_171 : decode cX5_describe 171 = .ok (.getfield 123, 3) := by decide +kernel
theorem dX5_describe_174 : decode cX5_describe 174 = .ok (.iconst 1, 1) := by decide +kernel
theorem dX5_describe_175 : decode cX5_describe 175 = .ok (.isub, 1) := by decide +kernel
theorem dX5_describe_176 : decode cX5_describe 176 = .ok (.invokestatic 39, 3) := by decide +kernel
theorem dX5_describe_179 : decode cX5_describe 179 = .ok (.ifCond .eq 7, 3) := by decide +kernel
theorem dX5_describe_182 : decode cX5_describe 182 = .ok (.iconst 0, 1) := by decide +kernel
theorem dX5_describe_183 : decode cX5_describe 183 = .ok (.goto 4, 3) := by decide +kernel
theorem dX5_describe_186 : decode cX5_describe 186 = .ok (.iconst 1, 1) := by decide +kernel
theorem dX5_describe_187 : decode cX5_describe 187 = .ok (.putfield 1, 3) := by decide +kernel
theorem dX5_describe_190 : decode cX5_describe 190 = .ok (.aload_n 0, 1) := by decide +kernel
theorem dX5_describe_191 : decode cX5_describe 191 = .ok (.getfield 1, 3) := by decide +kernel
theorem dX5_describe_194 : decode cX5_describe 194 = .ok (.ifCond .eq 7, 3) := by decide +kernel
theorem dX5_describe_197 : decode cX5_describe 197 = .ok (.iconst 0, 1) := by decide +kernel
theorem dX5_describe_198 : decode cX5_describe 198 = .ok (.goto 20, 3) := by decide +kernel
theorem dX5_describe_201 : decode cX5_describe 201 = .ok (.iload_n 2, 1) := by decide +kernel
theorem dX5_describe_202 : decode cX5_describe 202 = .ok (.ifCond .ge 10, 3) := by decide +kernel
theorem dX5_describe_205 : decode cX5_describe 205 = .ok (.aload_n 0, 1) := by decide +kernel
theorem dX5_describe_206 : decode cX5_describe 206 = .ok (.getfield 123, 3) := by decide +kernel
theorem dX5_describe_209 : decode cX5_describe 209 = .ok (.goto 9, 3) := by decide +kernel
theorem dX5_describe_212 : decode cX5_describe 212 = .ok (.aload_n 0, 1) := by decide +kernel
theorem dX5_describe_213 : decode cX5_describe 213 = .ok (.getfield 23, 3) := by decide +kernel
theorem dX5_describe_216 : decode cX5_describe 216 = .ok (.iload_n 2, 1) := by decide +kernel
theorem dX5_describe_217 : decode cX5_describe 217 = .ok (.iaload, 1) := by decide +kernel
theorem dX5_describe_218 : decode cX5_describe 218 = .ok (.ireturn, 1) := by decide +kernel
theorem dX5_isPlace_0 : decode cX5_isPlace 0 = .ok (.iload_n 0, 1) := by decide +kernel
theorem dX5_isPlace_1 : decode cX5_isPlace 1 = .ok (.iconst 0, 1) := by decide +kernel
theorem dX5_isPlace_2 : decode cX5_isPlace 2 = .ok (.bipush 59, 2) := by decide +kernel
theorem dX5_isPlace_4 : decode cX5_isPlace 4 = .ok (.invokestatic 39, 3) := by decide +kernel
theorem dX5_isPlace_7 : decode cX5_isPlace 7 = .ok (.ireturn, 1) := by decide +kernel
theorem dX5_place_0 : decode cX5_place 0 = .ok (.aload_n 0, 1) := by decide +kernel
theorem dX5_place_1 : decode cX5_place 1 = .ok (.aload_n 0, 1) := by decide +kernel
theorem dX5_place_2 : decode cX5_place 2 = .ok (.iload_n 1, 1) := by decide +kernel
theorem dX5_place_3 : decode cX5_place 3 = .ok (.invokevirtual 120, 3) := by decide +kernel
theorem dX5_place_6 : decode cX5_place 6 = .ok (.ifCond .eq 10, 3) := by decide +kernel
theorem dX5_place_9 : decode cX5_place 9 = .ok (.iload_n 2, 1) := by decide +kernel
theorem dX5_place_10 : decode cX5_place 10 = .ok (.invokestatic 129, 3) := by decide +kernel
theorem dX5_place_13 : decode cX5_place 13 = .ok (.ifCond .ne 7, 3) := by decide +kernel
theorem dX5_place_16 : decode cX5_place 16 = .ok (.iconst 1, 1) := by decide +kernel
theorem dX5_place_17 : decode cX5_place 17 = .ok (.goto 32, 3) := by decide +kernel
theorem dX5_place_20 : decode cX5_place 20 = .ok (.aload_n 0, 1) := by decide +kernel
theorem dX5_place_21 : decode cX5_place 21 = .ok (.bipush 98, 2) := by decide +kernel
theorem dX5_place_23 : decode cX5_place 23 = .ok (.iload_n 1, 1) := by decide +kernel
theorem dX5_place_24 : decode cX5_place 24 = .ok (.invokevirtual 54, 3) := by decide +kernel
theorem dX5_place_27 : decode cX5_place 27 = .ok (.iconst 1, 1) := by decide +kernel
theorem dX5_place_28 : decode cX5_place 28 = .ok (.if_icmp .ne 7, 3) := by decide +kernel
theorem dX5_place_31 : decode cX5_place 31 = .ok (.iconst 2, 1) := by decide +kernel
theorem dX5_place_32 : decode cX5_place 32 = .ok (.goto 17, 3) := by decide +kernel
theorem dX5_place_35 : decode cX5_place 35 = .ok (.aload_n 0, 1) := by decide +kernel
theorem dX5_place_36 : decode cX5_place 36 = .ok (.iload_n 1, 1) := by decide +kernel
theorem dX5_place_37 : decode cX5_place 37 = .ok (.iload_n 2, 1) := by decide +kernel
theorem dX5_place_38 : decode cX5_place 38 = .ok (.invokevirtual 72, 3) := by decide +kernel
theorem dX5_place_41 : decode cX5_place 41 = .ok (.ifCond .eq 7, 3) := by decide +kernel
theorem dX5_place_44 : decode cX5_place 44 = .ok (.iconst 3, 1) := by decide +kernel
theorem dX5_place_45 : decode cX5_place 45 = .ok (.goto 4, 3) := by decide +kernel
theorem dX5_place_48 : decode cX5_place 48 = .ok (.iconst 0, 1) := by decide +kernel
theorem dX5_place_49 : decode cX5_place 49 = .ok (.putfield 1, 3) := by decide +kernel
theorem dX5_place_52 : decode cX5_place 52 = .ok (.aload_n 0, 1) := by decide +kernel
theorem dX5_place_53 : decode cX5_place 53 = .ok (.getfield 1, 3) := by decide +kernel
theorem dX5_place_56 : decode cX5_place 56 = .ok (.ifCond .eq 5, 3) := by decide +kernel
theorem dX5_place_59 : decode cX5_place 59 = .ok (.iconst 0, 1) := by decide +kernel
theorem dX5_place_60 : decode cX5_place 60 = .ok (.ireturn, 1) := by decide +kernel
theorem dX5_place_61 : decode cX5_place 61 = .ok (.aload_n 0, 1) := by decide +kernel
theorem dX5_place_62 : decode cX5_place 62 = .ok (.invokevirtual 83, 3) := by decide +kernel
theorem dX5_place_65 : decode cX5_place 65 = .ok (.aload_n 0, 1) := by decide +kernel
theorem dX5_place_66 : decode cX5_place 66 = .ok (.bipush 84, 2) := by decide +kernel
theorem dX5_place_68 : decode cX5_place 68 = .ok (.iload_n 1, 1) := by decide +kernel
theorem dX5_place_69 : decode cX5_place 69 = .ok (.invokevirtual 54, 3) := by decide +kernel
theorem dX5_place_72 : decode cX5_place 72 = .ok (.istore_n 3, 1) := by decide +kernel
theorem dX5_place_73 : decode cX5_place 73 = .ok (.aload_n 0, 1) := by decide +kernel
theorem dX5_place_74 : decode cX5_place 74 = .ok (.iload_n 1, 1) := by decide +kernel
theorem dX5_place_75 : decode cX5_place 75 = .ok (.iload_n 2, 1) := by decide +kernel
theorem dX5_place_76 : decode cX5_place 76 = .ok (.invokevirtual 132, 3) := by decide +kernel
theorem dX5_place_79 : decode cX5_place 79 = .ok (.iload_n 3, 1) := by decide +kernel
theorem dX5_place_80 : decode cX5_place 80 = .ok (.ireturn, 1) := by decide +kernel
theorem dX5_unplace_0 : decode cX5_unplace 0 = .ok (.aload_n 0, 1) := by decide +kernel
theorem dX5_unplace_1 : decode cX5_unplace 1 = .ok (.aload_n 0, 1) := by decide +kernel
theorem dX5_unplace_2 : decode cX5_unplace 2 = .ok (.iload_n 1, 1) := by decide +kernel
theorem dX5_unplace_3 : decode cX5_unplace 3 = .ok (.invokevirtual 120, 3) := by decide +kernel
theorem dX5_unplace_6 : decode cX5_unplace 6 = .ok (.ifCond .ne 7, 3) := by decide +kernel
theorem dX5_unplace_9 : decode cX5_unplace 9 = .ok (.iconst 1, 1) := by decide +kernel
theorem dX5_unplace_10 : decode cX5_unplace 10 = .ok (.goto 18, 3) := by decide +kernel
theorem dX5_unplace_13 : decode cX5_unplace 13 = .ok (.aload_n 0, 1) := by decide +kernel
theorem dX5_unplace_14 : decode cX5_unplace 14 = .ok (.bipush 84, 2) := by decide +kernel
theorem dX5_unplace_16 : decode cX5_unplace 16 = .ok (.iload_n 1, 1) := by decide +kernel
theorem dX5_unplace_17 : decode cX5_unplace 17 = .ok (.invokevirtual 54, 3) := by decide +kernel
theorem dX5_unplace_20 : decode cX5_unplace 20 = .ok (.ifCond .ge 7, 3) := by decide +kernel
theorem dX5_unplace_23 : decode cX5_unplace 23 = .ok (.iconst 2, 1) := by decide +kernel
theorem dX5_unplace_24 : decode cX5_unplace 24 = .ok (.goto 4, 3) := by decide +kernel
theorem dX5_unplace_27 : decode cX5_unplace 27 = .ok (.iconst 0, 1) := by decide +kernel
theorem dX5_unplace_28 : decode cX5_unplace 28 = .ok (.putfield 1, 3) := by decide +kernel
theorem dX5_unplace_31 : decode cX5_unplace 31 = .ok (.aload_n 0, 1) := by decide +kernel
theorem dX5_unplace_32 : decode cX5_unplace 32 = .ok (.getfield 1, 3) := by decide +kernel
theorem dX5_unplace_35 : decode cX5_unplace 35 = .ok (.ifCond .eq 5, 3) := by decide +kernel
theorem dX5_unplace_38 : decode cX5_unplace 38 = .ok (.iconst 0, 1) := by decide +kernel
theorem dX5_unplace_39 : decode cX5_unplace 39 = .ok (.ireturn, 1) := by decide +kernel
theorem dX5_unplace_40 : decode cX5_unplace 40 = .ok (.aload_n 0, 1) := by decide +kernel
theorem dX5_unplace_41 : decode cX5_unplace 41 = .ok (.invokevirtual 83, 3) := by decide +kernel
theorem dX5_unplace_44 : decode cX5_unplace 44 = .ok (.aload_n 0, 1) := by decide +kernel
theorem dX5_unplace_45 : decode cX5_unplace 45 = .ok (.bipush 84, 2) := by decide +kernel
theorem dX5_unplace_47 : decode cX5_unplace 47 = .ok (.iload_n 1, 1) := by decide +kernel
theorem dX5_unplace_48 : decode cX5_unplace 48 = .ok (.invokevirtual 54, 3) := by decide +kernel
theorem dX5_unplace_51 : decode cX5_unplace 51 = .ok (.istore_n 2, 1) := by decide +kernel
theorem dX5_unplace_52 : decode cX5_unplace 52 = .ok (.aload_n 0, 1) := by decide +kernel
theorem dX5_unplace_53 : decode cX5_unplace 53 = .ok (.iload_n 1, 1) := by decide +kernel
theorem dX5_unplace_54 : decode cX5_unplace 54 = .ok (.invokevirtual 79, 3) := by decide +kernel
theorem dX5_unplace_57 : decode cX5_unplace 57 = .ok (.iload_n 2, 1) := by decide +kernel
theorem dX5_unplace_58 : decode cX5_unplace 58 = .ok (.ireturn, 1) := by decide +kernel
theorem dX5_fix_0 : decode cX5_fix 0 = .ok (.aload_n 0, 1) := by decide +kernel
theorem dX5_fix_1 : decode cX5_fix 1 = .ok (.aload_n 0, 1) := by decide +kernel
theorem dX5_fix_2 : decode cX5_fix 2 = .ok (.iload_n 1, 1) := by decide +kernel
theorem dX5_fix_3 : decode cX5_fix 3 = .ok (.invokevirtual 120, 3) := by decide +kernel
theorem dX5_fix_6 : decode cX5_fix 6 = .ok (.ifCond .ne 7, 3) := by decide +kernel
theorem dX5_fix_9 : decode cX5_fix 9 = .ok (.iconst 1, 1) := by decide +kernel
theorem dX5_fix_10 : decode cX5_fix 10 = .ok (.goto 18, 3) := by decide +kernel
theorem dX5_fix_13 : decode cX5_fix 13 = .ok (.aload_n 0, 1) := by decide +kernel
theorem dX5_fix_14 : decode cX5_fix 14 = .ok (.bipush 84, 2) := by decide +kernel
theorem dX5_fix_16 : decode cX5_fix 16 = .ok (.iload_n 1, 1) := by decide +kernel
theorem dX5_fix_17 : decode cX5_fix 17 = .ok (.invokevirtual 54, 3) := by decide +kernel
theorem dX5_fix_20 : decode cX5_fix 20 = .ok (.ifCond .ge 7, 3) := by decide +kernel
theorem dX5_fix_23 : decode cX5_fix 23 = .ok (.iconst 2, 1) := by decide +kernel
theorem dX5_fix_24 : decode cX5_fix 24 = .ok (.goto 4, 3) := by decide +kernel
theorem dX5_fix_27 : decode cX5_fix 27 = .ok (.iconst 0, 1) := by decide +kernel
theorem dX5_fix_28 : decode cX5_fix 28 = .ok (.putfield 1, 3) := by decide +kernel
theorem dX5_fix_31 : decode cX5_fix 31 = .ok (.aload_n 0, 1) := by decide +kernel
theorem dX5_fix_32 : decode cX5_fix 32 = .ok (.getfield 1, 3) := by decide +kernel
theorem dX5_fix_35 : decode cX5_fix 35 = .ok (.ifCond .eq 5, 3) := by decide +kernel
theorem dX5_fix_38 : decode cX5_fix 38 = .ok (.iconst 0, 1) := by decide +kernel
theorem dX5_fix_39 : decode cX5_fix 39 = .ok (.ireturn, 1) := by decide +kernel
theorem dX5_fix_40 : decode cX5_fix 40 = .ok (.aload_n 0, 1) := by decide +kernel
theorem dX5_fix_41 : decode cX5_fix 41 = .ok (.invokevirtual 83, 3) := by decide +kernel
theorem dX5_fix_44 : decode cX5_fix 44 = .ok (.aload_n 0, 1) := by decide +kernel
theorem dX5_fix_45 : decode cX5_fix 45 = .ok (.bipush 98, 2) := by decide +kernel
theorem dX5_fix_47 : decode cX5_fix 47 = .ok (.iload_n 1, 1) := by decide +kernel
theorem dX5_fix_48 : decode cX5_fix 48 = .ok (.invokevirtual 54, 3) := by decide +kernel
theorem dX5_fix_51 : decode cX5_fix 51 = .ok (.iconst 1, 1) := by decide +kernel
theorem dX5_fix_52 : decode cX5_fix 52 = .ok (.if_icmp .ne 7, 3) := by decide +kernel
theorem dX5_fix_55 : decode cX5_fix 55 = .ok (.iconst 1, 1) := by decide +kernel
theorem dX5_fix_56 : decode cX5_fix 56 = .ok (.goto 4, 3) := by decide +kernel
theorem dX5_fix_59 : decode cX5_fix 59 = .ok (.iconst 0, 1) := by decide +kernel
theorem dX5_fix_60 : decode cX5_fix 60 = .ok (.istore_n 3, 1) := by decide +kernel
theorem dX5_fix_61 : decode cX5_fix 61 = .ok (.aload_n 0, 1) := by decide +kernel
theorem dX5_fix_62 : decode cX5_fix 62 = .ok (.getfield 13, 3) := by decide +kernel
theorem dX5_fix_65 : decode cX5_fix 65 = .ok (.bipush 98, 2) := by decide +kernel
theorem dX5_fix_67 : decode cX5_fix 67 = .ok (.iload_n 1, 1) := by decide +kernel
theorem dX5_fix_68 : decode cX5_fix 68 = .ok (.iadd, 1) := by decide +kernel
theorem dX5_fix_69 : decode cX5_fix 69 = .ok (.iload_n 2, 1) := by decide +kernel
theorem dX5_fix_70 : decode cX5_fix 70 = .ok (.ifCond .eq 7, 3) := by decide +kernel
theorem dX5_fix_73 : decode cX5_fix 73 = .ok (.iconst 1, 1) := by decide +kernel
theorem dX5_fix_74 : decode cX5_fix 74 = .ok (.goto 4, 3) := by decide +kernel
theorem dX5_fix_77 : decode cX5_fix 77 = .ok (.iconst 0, 1) := by decide +kernel
theorem dX5_fix_78 : decode cX5_fix 78 = .ok (.iastore, 1) := by decide +kernel
theorem dX5_fix_79 : decode cX5_fix 79 = .ok (.iload_n 3, 1) := by decide +kernel
theorem dX5_fix_80 : decode cX5_fix 80 = .ok (.ireturn, 1) := by decide +kernel
theorem dX5_obstacle_0 : decode cX5_obstacle 0 = .ok (.aload_n 0, 1) := by decide +kernel
theorem dX5_obstacle_1 : decode cX5_obstacle 1 = .ok (.aload_n 0, 1) := by decide +kernel
theorem dX5_obstacle_2 : decode cX5_obstacle 2 = .ok (.iload_n 1, 1) := by decide +kernel
theorem dX5_obstacle_3 : decode cX5_obstacle 3 = .ok (.invokevirtual 120, 3) := by decide +kernel
theorem dX5_obstacle_6 : decode cX5_obstacle 6 = .ok (.ifCond .eq 14, 3) := by decide +kernel
theorem dX5_obstacle_9 : decode cX5_obstacle 9 = .ok (.iload_n 2, 1) := by decide +kernel
theorem dX5_obstacle_10 : decode cX5_obstacle 10 = .ok (.invokestatic 129, 3) := by decide +kernel
theorem dX5_obstacle_13 : decode cX5_obstacle 13 = .ok (.ifCond .eq 7, 3) := by decide +kernel
theorem dX5_obstacle_16 : decode cX5_obstacle 16 = .ok (.iconst 0, 1) := by decide +kernel
theorem dX5_obstacle_17 : decode cX5_obstacle 17 = .ok (.goto 4, 3) := by decide +kernel
theorem dX5_obstacle_20 : decode cX5_obstacle 20 = .ok (.iconst 1, 1) := by decide +kernel
theorem dX5_obstacle_21 : decode cX5_obstacle 21 = .ok (.putfield 1, 3) := by decide +kernel
theorem dX5_obstacle_24 : decode cX5_obstacle 24 = .ok (.aload_n 0, 1) := by decide +kernel
theorem dX5_obstacle_25 : decode cX5_obstacle 25 = .ok (.getfield 1, 3) := by decide +kernel
theorem dX5_obstacle_28 : decode cX5_obstacle 28 = .ok (.ifCond .ne 12, 3) := by decide +kernel
theorem dX5_obstacle_31 : decode cX5_obstacle 31 = .ok (.aload_n 0, 1) := by decide +kernel
theorem dX5_obstacle_32 : decode cX5_obstacle 32 = .ok (.iload_n 1, 1) := by decide +kernel
theorem dX5_obstacle_33 : decode cX5_obstacle 33 = .ok (.iload_n 2, 1) := by decide +kernel
theorem dX5_obstacle_34 : decode cX5_obstacle 34 = .ok (.invokevirtual 72, 3) := by decide +kernel
theorem dX5_obstacle_37 : decode cX5_obstacle 37 = .ok (.goto 4, 3) := by decide +kernel
theorem dX5_obstacle_40 : decode cX5_obstacle 40 = .ok (.iconst 0, 1) := by decide +kernel
theorem dX5_obstacle_41 : decode cX5_obstacle 41 = .ok (.ireturn, 1) := by decide +kernel
theorem dX5_placesOf_0 : decode cX5_placesOf 0 = .ok (.iconst 0, 1) := by decide +kernel
theorem dX5_placesOf_1 : decode cX5_placesOf 1 = .ok (.istore 4, 2) := by decide +kernel
theorem dX5_placesOf_3 : decode cX5_placesOf 3 = .ok (.iconst 0, 1) := by decide +kernel
theorem dX5_placesOf_4 : decode cX5_placesOf 4 = .ok (.istore 5, 2) := by decide +kernel
theorem dX5_placesOf_6 : decode cX5_placesOf 6 = .ok (.iload 5, 2) := by decide +kernel
theorem dX5_placesOf_8 : decode cX5_placesOf 8 = .ok (.bipush 60, 2) := by decide +kernel
theorem dX5_placesOf_10 : decode cX5_placesOf 10 = .ok (.if_icmp .ge 34, 3) := by decide +kernel
theorem dX5_placesOf_13 : decode cX5_placesOf 13 = .ok (.iload 4, 2) := by decide +kernel
theorem dX5_placesOf_15 : decode cX5_placesOf 15 = .ok (.aload_n 0, 1) := by decide +kernel
theorem dX5_placesOf_16 : decode cX5_placesOf 16 = .ok (.iload_n 1, 1) := by decide +kernel
theorem dX5_placesOf_17 : decode cX5_placesOf 17 = .ok (.iload 5, 2) := by decide +kernel
theorem dX5_placesOf_19 : decode cX5_placesOf 19 = .ok (.invokevirtual 72, 3) := by decide +kernel
theorem dX5_placesOf_22 : decode cX5_placesOf 22 = .ok (.iload_n 2, 1) := by decide +kernel
theorem dX5_placesOf_23 : decode cX5_placesOf 23 = .ok (.iload_n 3, 1) := by decide +kernel
theorem dX5_placesOf_24 : decode cX5_placesOf 24 = .ok (.invokestatic 39, 3) := by decide +kernel
theorem dX5_placesOf_27 : decode cX5_placesOf 27 = .ok (.ifCond .eq 7, 3) := by decide +kernel
theorem dX5_placesOf_30 : decode cX5_placesOf 30 = .ok (.iconst 1, 1) := by decide +kernel
theorem dX5_placesOf_31 : decode cX5_placesOf 31 = .ok (.goto 4, 3) := by decide +kernel
theorem dX5_placesOf_34 : decode cX5_placesOf 34 = .ok (.iconst 0, 1) := by decide +kernel
theorem dX5_placesOf_35 : decode cX5_placesOf 35 = .ok (.iadd, 1) := by decide +kernel
theorem dX5_placesOf_36 : decode cX5_placesOf 36 = .ok (.istore 4, 2) := by decide +kernel
theorem dX5_placesOf_38 : decode cX5_placesOf 38 = .ok (.iinc 5 1, 3) := by decide +kernel
theorem dX5_placesOf_41 : decode cX5_placesOf 41 = .ok (.goto (-35), 3) := by decide +kernel
theorem dX5_placesOf_44 : decode cX5_placesOf 44 = .ok (.iload 4, 2) := by decide +kernel
theorem dX5_placesOf_46 : decode cX5_placesOf 46 = .ok (.ireturn, 1) := by decide +kernel
theorem dX5_places_0 : decode cX5_places 0 = .ok (.aload_n 0, 1) := by decide +kernel
theorem dX5_places_1 : decode cX5_places 1 = .ok (.aload_n 0, 1) := by decide +kernel
theorem dX5_places_2 : decode cX5_places 2 = .ok (.iload_n 1, 1) := by decide +kernel
theorem dX5_places_3 : decode cX5_places 3 = .ok (.invokevirtual 120, 3) := by decide +kernel
theorem dX5_places_6 : decode cX5_places 6 = .ok (.ifCond .ne 7, 3) := by decide +kernel
theorem dX5_places_9 : decode cX5_places 9 = .ok (.iconst 1, 1) := by decide +kernel
theorem dX5_places_10 : decode cX5_places 10 = .ok (.goto 18, 3) := by decide +kernel
theorem dX5_places_13 : decode cX5_places 13 = .ok (.iload_n 2, 1) := by decide +kernel
theorem dX5_places_14 : decode cX5_places 14 = .ok (.iconst 0, 1) := by decide +kernel
theorem dX5_places_15 : decode cX5_places 15 = .ok (.bipush 7, 2) := by decide +kernel
theorem dX5_places_17 : decode cX5_places 17 = .ok (.invokestatic 39, 3) := by decide +kernel
theorem dX5_places_20 : decode cX5_places 20 = .ok (.ifCond .eq 7, 3) := by decide +kernel
theorem dX5_places_23 : decode cX5_places 23 = .ok (.iconst 0, 1) := by decide +kernel
theorem dX5_places_24 : decode cX5_places 24 = .ok (.goto 4, 3) := by decide +kernel
theorem dX5_places_27 : decode cX5_places 27 = .ok (.iconst 2, 1) := by decide +kernel
theorem dX5_places_28 : decode cX5_places 28 = .ok (.putfield 1, 3) := by decide +kernel
theorem dX5_places_31 : decode cX5_places 31 = .ok (.aload_n 0, 1) := by decide +kernel
theorem dX5_places_32 : decode cX5_places 32 = .ok (.getfield 1, 3) := by decide +kernel
theorem dX5_places_35 : decode cX5_places 35 = .ok (.ifCond .ne 13, 3) := by decide +kernel
theorem dX5_places_38 : decode cX5_places 38 = .ok (.aload_n 0, 1) := by decide +kernel
theorem dX5_places_39 : decode cX5_places 39 = .ok (.iload_n 1, 1) := by decide +kernel
theorem dX5_places_40 : decode cX5_places 40 = .ok (.iload_n 2, 1) := by decide +kernel
theorem dX5_places_41 : decode cX5_places 41 = .ok (.iload_n 2, 1) := by decide +kernel
theorem dX5_places_42 : decode cX5_places 42 = .ok (.invokevirtual 135, 3) := by decide +kernel
theorem dX5_places_45 : decode cX5_places 45 = .ok (.goto 4, 3) := by decide +kernel
theorem dX5_places_48 : decode cX5_places 48 = .ok (.iconst 0, 1) := by decide +kernel
theorem dX5_places_49 : decode cX5_places 49 = .ok (.ireturn, 1) := by decide +kernel
theorem dX5_free_0 : decode cX5_free 0 = .ok (.aload_n 0, 1) := by decide +kernel
theorem dX5_free_1 : decode cX5_free 1 = .ok (.aload_n 0, 1) := by decide +kernel
theorem dX5_free_2 : decode cX5_free 2 = .ok (.iload_n 1, 1) := by decide +kernel
theorem dX5_free_3 : decode cX5_free 3 = .ok (.invokevirtual 120, 3) := by decide +kernel
theorem dX5_free_6 : decode cX5_free 6 = .ok (.ifCond .ne 7, 3) := by decide +kernel
theorem dX5_free_9 : decode cX5_free 9 = .ok (.iconst 1, 1) := by decide +kernel
theorem dX5_free_10 : decode cX5_free 10 = .ok (.goto 12, 3) := by decide +kernel
theorem dX5_free_13 : decode cX5_free 13 = .ok (.iload_n 2, 1) := by decide +kernel
theorem dX5_free_14 : decode cX5_free 14 = .ok (.ifCond .ge 7, 3) := by decide +kernel
theorem dX5_free_17 : decode cX5_free 17 = .ok (.iconst 2, 1) := by decide +kernel
theorem dX5_free_18 : decode cX5_free 18 = .ok (.goto 4, 3) := by decide +kernel
theorem dX5_free_21 : decode cX5_free 21 = .ok (.iconst 0, 1) := by decide +kernel
theorem dX5_free_22 : decode cX5_free 22 = .ok (.putfield 1, 3) := by decide +kernel
theorem dX5_free_25 : decode cX5_free 25 = .ok (.aload_n 0, 1) := by decide +kernel
theorem dX5_free_26 : decode cX5_free 26 = .ok (.getfield 1, 3) := by decide +kernel
theorem dX5_free_29 : decode cX5_free 29 = .ok (.ifCond .eq 5, 3) := by decide +kernel
theorem dX5_free_32 : decode cX5_free 32 = .ok (.iconst 0, 1) := by decide +kernel
theorem dX5_free_33 : decode cX5_free 33 = .ok (.ireturn, 1) := by decide +kernel
theorem dX5_free_34 : decode cX5_free 34 = .ok (.iconst 0, 1) := by decide +kernel
theorem dX5_free_35 : decode cX5_free 35 = .ok (.istore_n 3, 1) := by decide +kernel
theorem dX5_free_36 : decode cX5_free 36 = .ok (.iconst 0, 1) := by decide +kernel
theorem dX5_free_37 : decode cX5_free 37 = .ok (.istore 4, 2) := by decide +kernel
theorem dX5_free_39 : decode cX5_free 39 = .ok (.iload 4, 2) := by decide +kernel
theorem dX5_free_41 : decode cX5_free 41 = .ok (.bipush 60, 2) := by decide +kernel
theorem dX5_free_43 : decode cX5_free 43 = .ok (.if_icmp .ge 33, 3) := by decide +kernel
theorem dX5_free_46 : decode cX5_free 46 = .ok (.aload_n 0, 1) := by decide +kernel
theorem dX5_free_47 : decode cX5_free 47 = .ok (.iload_n 1, 1) := by decide +kernel
theorem dX5_free_48 : decode cX5_free 48 = .ok (.iload 4, 2) := by decide +kernel
theorem dX5_free_50 : decode cX5_free 50 = .ok (.invokevirtual 72, 3) := by decide +kernel
theorem dX5_free_53 : decode cX5_free 53 = .ok (.ifCond .eq 6, 3) := by decide +kernel
theorem dX5_free_56 : decode cX5_free 56 = .ok (.goto 14, 3) := by decide +kernel
theorem dX5_free_59 : decode cX5_free 59 = .ok (.iload_n 3, 1) := by decide +kernel
theorem dX5_free_60 : decode cX5_free 60 = .ok (.iload_n 2, 1) := by decide +kernel
theorem dX5_free_61 : decode cX5_free 61 = .ok (.if_icmp .ne 6, 3) := by decide +kernel
theorem dX5_free_64 : decode cX5_free 64 = .ok (.iload 4, 2) := by decide +kernel
theorem dX5_free_66 : decode cX5_free 66 = .ok (.ireturn, 1) := by decide +kernel
theorem dX5_free_67 : decode cX5_free 67 = .ok (.iinc 3 1, 3) := by decide +kernel
theorem dX5_free_70 : decode cX5_free 70 = .ok (.iinc 4 1, 3) := by decide +kernel
theorem dX5_free_73 : decode cX5_free 73 = .ok (.goto (-34), 3) := by decide +kernel
theorem dX5_free_76 : decode cX5_free 76 = .ok (.aload_n 0, 1) := by decide +kernel
theorem dX5_free_77 : decode cX5_free 77 = .ok (.iconst 2, 1) := by decide +kernel
theorem dX5_free_78 : decode cX5_free 78 = .ok (.putfield 1, 3) := by decide +kernel
theorem dX5_free_81 : decode cX5_free 81 = .ok (.iconst 0, 1) := by decide +kernel
theorem dX5_free_82 : decode cX5_free 82 = .ok (.ireturn, 1) := by decide +kernel
theorem dX5_hindering_0 : decode cX5_hindering 0 = .ok (.aload_n 0, 1) := by decide +kernel
theorem dX5_hindering_1 : decode cX5_hindering 1 = .ok (.aload_n 0, 1) := by decide +kernel
theorem dX5_hindering_2 : decode cX5_hindering 2 = .ok (.iload_n 1, 1) := by decide +kernel
theorem dX5_hindering_3 : decode cX5_hindering 3 = .ok (.invokevirtual 120, 3) := by decide +kernel
theorem dX5_hindering_6 : decode cX5_hindering 6 = .ok (.ifCond .eq 14, 3) := by decide +kernel
theorem dX5_hindering_9 : decode cX5_hindering 9 = .ok (.iload_n 2, 1) := by decide +kernel
theorem dX5_hindering_10 : decode cX5_hindering 10 = .ok (.invokestatic 129, 3) := by decide +kernel
theorem dX5_hindering_13 : decode cX5_hindering 13 = .ok (.ifCond .eq 7, 3) := by decide +kernel
theorem dX5_hindering_16 : decode cX5_hindering 16 = .ok (.iconst 0, 1) := by decide +kernel
theorem dX5_hindering_17 : decode cX5_hindering 17 = .ok (.goto 4, 3) := by decide +kernel
theorem dX5_hindering_20 : decode cX5_hindering 20 = .ok (.iconst 1, 1) := by decide +kernel
theorem dX5_hindering_21 : decode cX5_hindering 21 = .ok (.putfield 1, 3) := by decide +kernel
theorem dX5_hindering_24 : decode cX5_hindering 24 = .ok (.aload_n 0, 1) := by decide +kernel
theorem dX5_hindering_25 : decode cX5_hindering 25 = .ok (.getfield 1, 3) := by decide +kernel
theorem dX5_hindering_28 : decode cX5_hindering 28 = .ok (.ifCond .ne 12, 3) := by decide +kernel
theorem dX5_hindering_31 : decode cX5_hindering 31 = .ok (.aload_n 0, 1) := by decide +kernel
theorem dX5_hindering_32 : decode cX5_hindering 32 = .ok (.iload_n 1, 1) := by decide +kernel
theorem dX5_hindering_33 : decode cX5_hindering 33 = .ok (.iload_n 2, 1) := by decide +kernel
theorem dX5_hindering_34 : decode cX5_hindering 34 = .ok (.invokevirtual 139, 3) := by decide +kernel
theorem dX5_hindering_37 : decode cX5_hindering 37 = .ok (.goto 4, 3) := by decide +kernel
theorem dX5_hindering_40 : decode cX5_hindering 40 = .ok (.iconst 0, 1) := by decide +kernel
theorem dX5_hindering_41 : decode cX5_hindering 41 = .ok (.ireturn, 1) := by decide +kernel
theorem dX5_at_0 : decode cX5_at 0 = .ok (.aload_n 0, 1) := by decide +kernel
theorem dX5_at_1 : decode cX5_at 1 = .ok (.iload_n 1, 1) := by decide +kernel
theorem dX5_at_2 : decode cX5_at 2 = .ok (.iconst 0, 1) := by decide +kernel
theorem dX5_at_3 : decode cX5_at 3 = .ok (.bipush 9, 2) := by decide +kernel
theorem dX5_at_5 : decode cX5_at 5 = .ok (.invokestatic 39, 3) := by decide +kernel
theorem dX5_at_8 : decode cX5_at 8 = .ok (.ifCond .eq 16, 3) := by decide +kernel
theorem dX5_at_11 : decode cX5_at 11 = .ok (.iload_n 2, 1) := by decide +kernel
theorem dX5_at_12 : decode cX5_at 12 = .ok (.iconst 0, 1) := by decide +kernel
theorem dX5_at_13 : decode cX5_at 13 = .ok (.iconst 5, 1) := by decide +kernel
theorem dX5_at_14 : decode cX5_at 14 = .ok (.invokestatic 39, 3) := by decide +kernel
theorem dX5_at_17 : decode cX5_at 17 = .ok (.ifCond .eq 7, 3) := by decide +kernel
theorem dX5_at_20 : decode cX5_at 20 = .ok (.iconst 0, 1) := by decide +kernel
theorem dX5_at_21 : decode cX5_at 21 = .ok (.goto 4, 3) := by decide +kernel
theorem dX5_at_24 : decode cX5_at 24 = .ok (.iconst 1, 1) := by decide +kernel
theorem dX5_at_25 : decode cX5_at 25 = .ok (.putfield 1, 3) := by decide +kernel
theorem dX5_at_28 : decode cX5_at 28 = .ok (.aload_n 0, 1) := by decide +kernel
theorem dX5_at_29 : decode cX5_at 29 = .ok (.getfield 1, 3) := by decide +kernel
theorem dX5_at_32 : decode cX5_at 32 = .ok (.ifCond .eq 5, 3) := by decide +kernel
theorem dX5_at_35 : decode cX5_at 35 = .ok (.iconst 0, 1) := by decide +kernel
theorem dX5_at_36 : decode cX5_at 36 = .ok (.ireturn, 1) := by decide +kernel
theorem dX5_at_37 : decode cX5_at 37 = .ok (.iconst 0, 1) := by decide +kernel
theorem dX5_at_38 : decode cX5_at 38 = .ok (.istore_n 3, 1) := by decide +kernel
theorem dX5_at_39 : decode cX5_at 39 = .ok (.iload_n 3, 1) := by decide +kernel
theorem dX5_at_40 : decode cX5_at 40 = .ok (.aload_n 0, 1) := by decide +kernel
theorem dX5_at_41 : decode cX5_at 41 = .ok (.invokevirtual 35, 3) := by decide +kernel
theorem dX5_at_44 : decode cX5_at 44 = .ok (.if_icmp .ge 38, 3) := by decide +kernel
theorem dX5_at_47 : decode cX5_at 47 = .ok (.aload_n 0, 1) := by decide +kernel
theorem dX5_at_48 : decode cX5_at 48 = .ok (.iload_n 3, 1) := by decide +kernel
theorem dX5_at_49 : decode cX5_at 49 = .ok (.invokevirtual 61, 3) := by decide +kernel
theorem dX5_at_52 : decode cX5_at 52 = .ok (.iload_n 1, 1) := by decide +kernel
theorem dX5_at_53 : decode cX5_at 53 = .ok (.ishr, 1) := by decide +kernel
theorem dX5_at_54 : decode cX5_at 54 = .ok (.iconst 1, 1) := by decide +kernel
theorem dX5_at_55 : decode cX5_at 55 = .ok (.iand, 1) := by decide +kernel
theorem dX5_at_56 : decode cX5_at 56 = .ok (.iconst 1, 1) := by decide +kernel
theorem dX5_at_57 : decode cX5_at 57 = .ok (.if_icmp .ne 19, 3) := by decide +kernel
theorem dX5_at_60 : decode cX5_at 60 = .ok (.aload_n 0, 1) := by decide +kernel
theorem dX5_at_61 : decode cX5_at 61 = .ok (.bipush 84, 2) := by decide +kernel
theorem dX5_at_63 : decode cX5_at 63 = .ok (.iload_n 3, 1) := by decide +kernel
theorem dX5_at_64 : decode cX5_at 64 = .ok (.invokevirtual 54, 3) := by decide +kernel
theorem dX5_at_67 : decode cX5_at 67 = .ok (.bipush 6, 2) := by decide +kernel
theorem dX5_at_69 : decode cX5_at 69 = .ok (.irem, 1) := by decide +kernel
theorem dX5_at_70 : decode cX5_at 70 = .ok (.iload_n 2, 1) := by decide +kernel
theorem dX5_at_71 : decode cX5_at 71 = .ok (.if_icmp .ne 5, 3) := by decide +kernel
theorem dX5_at_74 : decode cX5_at 74 = .ok (.iload_n 3, 1) := by decide +kernel
theorem dX5_at_75 : decode cX5_at 75 = .ok (.ireturn, 1) := by decide +kernel
theorem dX5_at_76 : decode cX5_at 76 = .ok (.iinc 3 1, 3) := by decide +kernel
theorem dX5_at_79 : decode cX5_at 79 = .ok (.goto (-40), 3) := by decide +kernel
theorem dX5_at_82 : decode cX5_at 82 = .ok (.aload_n 0, 1) := by decide +kernel
theorem dX5_at_83 : decode cX5_at 83 = .ok (.iconst 2, 1) := by decide +kernel
theorem dX5_at_84 : decode cX5_at 84 = .ok (.putfield 1, 3) := by decide +kernel
theorem dX5_at_87 : decode cX5_at 87 = .ok (.iconst 0, 1) := by decide +kernel
theorem dX5_at_88 : decode cX5_at 88 = .ok (.ireturn, 1) := by decide +kernel
theorem dX5_taken_0 : decode cX5_taken 0 = .ok (.aload_n 0, 1) := by decide +kernel
theorem dX5_taken_1 : decode cX5_taken 1 = .ok (.iload_n 1, 1) := by decide +kernel
theorem dX5_taken_2 : decode cX5_taken 2 = .ok (.iconst 0, 1) := by decide +kernel
theorem dX5_taken_3 : decode cX5_taken 3 = .ok (.iconst 2, 1) := by decide +kernel
theorem dX5_taken_4 : decode cX5_taken 4 = .ok (.invokestatic 39, 3) := by decide +kernel
theorem dX5_taken_7 : decode cX5_taken 7 = .ok (.ifCond .ne 7, 3) := by decide +kernel
theorem dX5_taken_10 : decode cX5_taken 10 = .ok (.iconst 1, 1) := by decide +kernel
theorem dX5_taken_11 : decode cX5_taken 11 = .ok (.goto 17, 3) := by decide +kernel
theorem dX5_taken_14 : decode cX5_taken 14 = .ok (.iload_n 2, 1) := by decide +kernel
theorem dX5_taken_15 : decode cX5_taken 15 = .ok (.iconst 0, 1) := by decide +kernel
theorem dX5_taken_16 : decode cX5_taken 16 = .ok (.iconst 5, 1) := by decide +kernel
theorem dX5_taken_17 : decode cX5_taken 17 = .ok (.invokestatic 39, 3) := by decide +kernel
theorem dX5_taken_20 : decode cX5_taken 20 = .ok (.ifCond .ne 7, 3) := by decide +kernel
theorem dX5_taken_23 : decode cX5_taken 23 = .ok (.iconst 2, 1) := by decide +kernel
theorem dX5_taken_24 : decode cX5_taken 24 = .ok (.goto 4, 3) := by decide +kernel
theorem dX5_taken_27 : decode cX5_taken 27 = .ok (.iconst 0, 1) := by decide +kernel
theorem dX5_taken_28 : decode cX5_taken 28 = .ok (.putfield 1, 3) := by decide +kernel
theorem dX5_taken_31 : decode cX5_taken 31 = .ok (.aload_n 0, 1) := by decide +kernel
theorem dX5_taken_32 : decode cX5_taken 32 = .ok (.getfield 1, 3) := by decide +kernel
theorem dX5_taken_35 : decode cX5_taken 35 = .ok (.ifCond .eq 5, 3) := by decide +kernel
theorem dX5_taken_38 : decode cX5_taken 38 = .ok (.iconst 0, 1) := by decide +kernel
theorem dX5_taken_39 : decode cX5_taken 39 = .ok (.ireturn, 1) := by decide +kernel
theorem dX5_taken_40 : decode cX5_taken 40 = .ok (.iconst 0, 1) := by decide +kernel
theorem dX5_taken_41 : decode cX5_taken 41 = .ok (.istore_n 3, 1) := by decide +kernel
theorem dX5_taken_42 : decode cX5_taken 42 = .ok (.iconst 0, 1) := by decide +kernel
theorem dX5_taken_43 : decode cX5_taken 43 = .ok (.istore 4, 2) := by decide +kernel
theorem dX5_taken_45 : decode cX5_taken 45 = .ok (.iload 4, 2) := by decide +kernel
theorem dX5_taken_47 : decode cX5_taken 47 = .ok (.aload_n 0, 1) := by decide +kernel
theorem dX5_taken_48 : decode cX5_taken 48 = .ok (.invokevirtual 35, 3) := by decide +kernel
theorem dX5_taken_51 : decode cX5_taken 51 = .ok (.if_icmp .ge 113, 3) := by decide +kernel
theorem dX5_taken_54 : decode cX5_taken 54 = .ok (.iload_n 1, 1) := by decide +kernel
theorem dX5_taken_55 : decode cX5_taken 55 = .ok (.ifCond .ne 23, 3) := by decide +kernel
theorem dX5_taken_58 : decode cX5_taken 58 = .ok (.aload_n 0, 1) := by decide +kernel
theorem dX5_taken_59 : decode cX5_taken 59 = .ok (.bipush 28, 2) := by decide +kernel
theorem dX5_taken_61 : decode cX5_taken 61 = .ok (.iload 4, 2) := by decide +kernel
theorem dX5_taken_63 : decode cX5_taken 63 = .ok (.invokevirtual 54, 3) := by decide +kernel
theorem dX5_taken_66 : decode cX5_taken 66 = .ok (.iload_n 2, 1) := by decide +kernel
theorem dX5_taken_67 : decode cX5_taken 67 = .ok (.if_icmp .ne 7, 3) := by decide +kernel
theorem dX5_taken_70 : decode cX5_taken 70 = .ok (.iconst 1, 1) := by decide +kernel
theorem dX5_taken_71 : decode cX5_taken 71 = .ok (.goto 67, 3) := by decide +kernel
theorem dX5_taken_74 : decode cX5_taken 74 = .ok (.iconst 0, 1) := by decide +kernel
theorem dX5_taken_75 : decode cX5_taken 75 = .ok (.goto 63, 3) := by decide +kernel
theorem dX5_taken_78 : decode cX5_taken 78 = .ok (.iload_n 1, 1) := by decide +kernel
theorem dX5_taken_79 : decode cX5_taken 79 = .ok (.iconst 1, 1) := by decide +kernel
theorem dX5_taken_80 : decode cX5_taken 80 = .ok (.if_icmp .ne 27, 3) := by decide +kernel
theorem dX5_taken_83 : decode cX5_taken 83 = .ok (.aload_n 0, 1) := by decide +kernel
theorem dX5_taken_84 : decode cX5_taken 84 = .ok (.bipush 42, 2) := by decide +kernel
theorem dX5_taken_86 : decode cX5_taken 86 = .ok (.iload 4, 2) := by decide +kernel
theorem dX5_taken_88 : decode cX5_taken 88 = .ok (.invokevirtual 54, 3) := by decide +kernel
theorem dX5_taken_91 : decode cX5_taken 91 = .ok (.iload_n 2, 1) := by decide +kernel
theorem dX5_taken_92 : decode cX5_taken 92 = .ok (.ishr, 1) := by decide +kernel
theorem dX5_taken_93 : decode cX5_taken 93 = .ok (.iconst 1, 1) := by decide +kernel
theorem dX5_taken_94 : decode cX5_taken 94 = .ok (.iand, 1) := by decide +kernel
theorem dX5_taken_95 : decode cX5_taken 95 = .ok (.iconst 1, 1) := by decide +kernel
theorem dX5_taken_96 : decode cX5_taken 96 = .ok (.if_icmp .ne 7, 3) := by decide +kernel
theorem dX5_taken_99 : decode cX5_taken 99 = .ok (.iconst 1, 1) := by decide +kernel
theorem dX5_taken_100 : decode cX5_taken 100 = .ok (.goto 38, 3) := by decide +kernel
theorem dX5_taken_103 : decode cX5_taken 103 = .ok (.iconst 0, 1) := by decide +kernel
theorem dX5_taken_104 : decode cX5_taken 104 = .ok (.goto 34, 3) := by decide +kernel
theorem dX5_taken_107 : decode cX5_taken 107 = .ok (.aload_n 0, 1) := by decide +kernel
theorem dX5_taken_108 : decode cX5_taken 108 = .ok (.bipush 84, 2) := by decide +kernel
theorem dX5_taken_110 : decode cX5_taken 110 = .ok (.iload 4, 2) := by decide +kernel
theorem dX5_taken_112 : decode cX5_taken 112 = .ok (.invokevirtual 54, 3) := by decide +kernel
theorem dX5_taken_115 : decode cX5_taken 115 = .ok (.ifCond .lt 22, 3) := by decide +kernel
theorem dX5_taken_118 : decode cX5_taken 118 = .ok (.aload_n 0, 1) := by decide +kernel
theorem dX5_taken_119 : decode cX5_taken 119 = .ok (.bipush 84, 2) := by decide +kernel
theorem dX5_taken_121 : decode cX5_taken 121 = .ok (.iload 4, 2) := by decide +kernel
theorem dX5_taken_123 : decode cX5_taken 123 = .ok (.invokevirtual 54, 3) := by decide +kernel
theorem dX5_taken_126 : decode cX5_taken 126 = .ok (.bipush 6, 2) := by decide +kernel
theorem dX5_taken_128 : decode cX5_taken 128 = .ok (.irem, 1) := by decide +kernel
theorem dX5_taken_129 : decode cX5_taken 129 = .ok (.iload_n 2, 1) := by decide +kernel
theorem dX5_taken_130 : decode cX5_taken 130 = .ok (.if_icmp .ne 7, 3) := by decide +kernel
theorem dX5_taken_133 : decode cX5_taken 133 = .ok (.iconst 1, 1) := by decide +kernel
theorem dX5_taken_134 : decode cX5_taken 134 = .ok (.goto 4, 3) := by decide +kernel
theorem dX5_taken_137 : decode cX5_taken 137 = .ok (.iconst 0, 1) := by decide +kernel
theorem dX5_taken_138 : decode cX5_taken 138 = .ok (.istore 5, 2) := by decide +kernel
theorem dX5_taken_140 : decode cX5_taken 140 = .ok (.iload_n 3, 1) := by decide +kernel
theorem dX5_taken_141 : decode cX5_taken 141 = .ok (.iload 5, 2) := by decide +kernel
theorem dX5_taken_143 : decode cX5_taken 143 = .ok (.ifCond .eq 12, 3) := by decide +kernel
theorem dX5_taken_146 : decode cX5_taken 146 = .ok (.aload_n 0, 1) := by decide +kernel
theorem dX5_taken_147 : decode cX5_taken 147 = .ok (.iload 4, 2) := by decide +kernel
theorem dX5_taken_149 : decode cX5_taken 149 = .ok (.invokevirtual 61, 3) := by decide +kernel
theorem dX5_taken_152 : decode cX5_taken 152 = .ok (.goto 4, 3) := by decide +kernel
theorem dX5_taken_155 : decode cX5_taken 155 = .ok (.iconst 0, 1) := by decide +kernel
theorem dX5_taken_156 : decode cX5_taken 156 = .ok (.ior, 1) := by decide +kernel
theorem dX5_taken_157 : decode cX5_taken 157 = .ok (.istore_n 3, 1) := by decide +kernel
theorem dX5_taken_158 : decode cX5_taken 158 = .ok (.iinc 4 1, 3) := by decide +kernel
theorem dX5_taken_161 : decode cX5_taken 161 = .ok (.goto (-116), 3) := by decide +kernel
theorem dX5_taken_164 : decode cX5_taken 164 = .ok (.iload_n 3, 1) := by decide +kernel
theorem dX5_taken_165 : decode cX5_taken 165 = .ok (.ireturn, 1) := by decide +kernel
theorem dX5_bits_0 : decode cX5_bits 0 = .ok (.iconst 0, 1) := by decide +kernel
theorem dX5_bits_1 : decode cX5_bits 1 = .ok (.istore_n 1, 1) := by decide +kernel
theorem dX5_bits_2 : decode cX5_bits 2 = .ok (.iconst 0, 1) := by decide +kernel
theorem dX5_bits_3 : decode cX5_bits 3 = .ok (.istore_n 2, 1) := by decide +kernel
theorem dX5_bits_4 : decode cX5_bits 4 = .ok (.iload_n 2, 1) := by decide +kernel
theorem dX5_bits_5 : decode cX5_bits 5 = .ok (.bipush 16, 2) := by decide +kernel
theorem dX5_bits_7 : decode cX5_bits 7 = .ok (.if_icmp .ge 17, 3) := by decide +kernel
theorem dX5_bits_10 : decode cX5_bits 10 = .ok (.iload_n 1, 1) := by decide +kernel
theorem dX5_bits_11 : decode cX5_bits 11 = .ok (.iload_n 0, 1) := by decide +kernel
theorem dX5_bits_12 : decode cX5_bits 12 = .ok (.iload_n 2, 1) := by decide +kernel
theorem dX5_bits_13 : decode cX5_bits 13 = .ok (.ishr, 1) := by decide +kernel
theorem dX5_bits_14 : decode cX5_bits 14 = .ok (.iconst 1, 1) := by decide +kernel
theorem dX5_bits_15 : decode cX5_bits 15 = .ok (.iand, 1) := by decide +kernel
theorem dX5_bits_16 : decode cX5_bits 16 = .ok (.iadd, 1) := by decide +kernel
theorem dX5_bits_17 : decode cX5_bits 17 = .ok (.istore_n 1, 1) := by decide +kernel
theorem dX5_bits_18 : decode cX5_bits 18 = .ok (.iinc 2 1, 3) := by decide +kernel
theorem dX5_bits_21 : decode cX5_bits 21 = .ok (.goto (-17), 3) := by decide +kernel
theorem dX5_bits_24 : decode cX5_bits 24 = .ok (.iload_n 1, 1) := by decide +kernel
theorem dX5_bits_25 : decode cX5_bits 25 = .ok (.ireturn, 1) := by decide +kernel
theorem dX5_lowest_0 : decode cX5_lowest 0 = .ok (.iconst 0, 1) := by decide +kernel
theorem dX5_lowest_1 : decode cX5_lowest 1 = .ok (.istore_n 1, 1) := by decide +kernel
theorem dX5_lowest_2 : decode cX5_lowest 2 = .ok (.iload_n 0, 1) := by decide +kernel
theorem dX5_lowest_3 : decode cX5_lowest 3 = .ok (.iload_n 1, 1) := by decide +kernel
theorem dX5_lowest_4 : decode cX5_lowest 4 = .ok (.ishr, 1) := by decide +kernel
theorem dX5_lowest_5 : decode cX5_lowest 5 = .ok (.iconst 1, 1) := by decide +kernel
theorem dX5_lowest_6 : decode cX5_lowest 6 = .ok (.iand, 1) := by decide +kernel
theorem dX5_lowest_7 : decode cX5_lowest 7 = .ok (.ifCond .ne 9, 3) := by decide +kernel
theorem dX5_lowest_10 : decode cX5_lowest 10 = .ok (.iinc 1 1, 3) := by decide +kernel
theorem dX5_lowest_13 : decode cX5_lowest 13 = .ok (.goto (-11), 3) := by decide +kernel
theorem dX5_lowest_16 : decode cX5_lowest 16 = .ok (.iload_n 1, 1) := by decide +kernel
theorem dX5_lowest_17 : decode cX5_lowest 17 = .ok (.ireturn, 1) := by decide +kernel
theorem dX5_hasFixed_0 : decode cX5_hasFixed 0 = .ok (.iconst 0, 1) := by decide +kernel
theorem dX5_hasFixed_1 : decode cX5_hasFixed 1 = .ok (.istore_n 2, 1) := by decide +kernel
theorem dX5_hasFixed_2 : decode cX5_hasFixed 2 = .ok (.iload_n 2, 1) := by decide +kernel
theorem dX5_hasFixed_3 : decode cX5_hasFixed 3 = .ok (.aload_n 0, 1) := by decide +kernel
theorem dX5_hasFixed_4 : decode cX5_hasFixed 4 = .ok (.invokevirtual 35, 3) := by decide +kernel
theorem dX5_hasFixed_7 : decode cX5_hasFixed 7 = .ok (.if_icmp .ge 31, 3) := by decide +kernel
theorem dX5_hasFixed_10 : decode cX5_hasFixed 10 = .ok (.iload_n 1, 1) := by decide +kernel
theorem dX5_hasFixed_11 : decode cX5_hasFixed 11 = .ok (.iload_n 2, 1) := by decide +kernel
theorem dX5_hasFixed_12 : decode cX5_hasFixed 12 = .ok (.ishr, 1) := by decide +kernel
theorem dX5_hasFixed_13 : decode cX5_hasFixed 13 = .ok (.iconst 1, 1) := by decide +kernel
theorem dX5_hasFixed_14 : decode cX5_hasFixed 14 = .ok (.iand, 1) := by decide +kernel
theorem dX5_hasFixed_15 : decode cX5_hasFixed 15 = .ok (.iconst 1, 1) := by decide +kernel
theorem dX5_hasFixed_16 : decode cX5_hasFixed 16 = .ok (.if_icmp .ne 16, 3) := by decide +kernel
theorem dX5_hasFixed_19 : decode cX5_hasFixed 19 = .ok (.aload_n 0, 1) := by decide +kernel
theorem dX5_hasFixed_20 : decode cX5_hasFixed 20 = .ok (.bipush 98, 2) := by decide +kernel
theorem dX5_hasFixed_22 : decode cX5_hasFixed 22 = .ok (.iload_n 2, 1) := by decide +kernel
theorem dX5_hasFixed_23 : decode cX5_hasFixed 23 = .ok (.invokevirtual 54, 3) := by decide +kernel
theorem dX5_hasFixed_26 : decode cX5_hasFixed 26 = .ok (.iconst 1, 1) := by decide +kernel
theorem dX5_hasFixed_27 : decode cX5_hasFixed 27 = .ok (.if_icmp .ne 5, 3) := by decide +kernel
theorem dX5_hasFixed_30 : decode cX5_hasFixed 30 = .ok (.iconst 1, 1) := by decide +kernel
theorem dX5_hasFixed_31 : decode cX5_hasFixed 31 = .ok (.ireturn, 1) := by decide +kernel
theorem dX5_hasFixed_32 : decode cX5_hasFixed 32 = .ok (.iinc 2 1, 3) := by decide +kernel
theorem dX5_hasFixed_35 : decode cX5_hasFixed 35 = .ok (.goto (-33), 3) := by decide +kernel
theorem dX5_hasFixed_38 : decode cX5_hasFixed 38 = .ok (.iconst 0, 1) := by decide +kernel
theorem dX5_hasFixed_39 : decode cX5_hasFixed 39 = .ok (.ireturn, 1) := by decide +kernel
theorem dX5_spreads_0 : decode cX5_spreads 0 = .ok (.iload_n 1, 1) := by decide +kernel
theorem dX5_spreads_1 : decode cX5_spreads 1 = .ok (.ifCond .ne 5, 3) := by decide +kernel
theorem dX5_spreads_4 : decode cX5_spreads 4 = .ok (.iconst 1, 1) := by decide +kernel
theorem dX5_spreads_5 : decode cX5_spreads 5 = .ok (.ireturn, 1) := by decide +kernel
theorem dX5_spreads_6 : decode cX5_spreads 6 = .ok (.iload_n 1, 1) := by decide +kernel
theorem dX5_spreads_7 : decode cX5_spreads 7 = .ok (.invokestatic 142, 3) := by decide +kernel
theorem dX5_spreads_10 : decode cX5_spreads 10 = .ok (.istore_n 2, 1) := by decide +kernel
theorem dX5_spreads_11 : decode cX5_spreads 11 = .ok (.iconst 0, 1) := by decide +kernel
theorem dX5_spreads_12 : decode cX5_spreads 12 = .ok (.istore_n 3, 1) := by decide +kernel
theorem dX5_spreads_13 : decode cX5_spreads 13 = .ok (.iload_n 3, 1) := by decide +kernel
theorem dX5_spreads_14 : decode cX5_spreads 14 = .ok (.bipush 60, 2) := by decide +kernel
theorem dX5_spreads_16 : decode cX5_spreads 16 = .ok (.if_icmp .ge 59, 3) := by decide +kernel
theorem dX5_spreads_19 : decode cX5_spreads 19 = .ok (.iload_n 3, 1) := by decide +kernel
theorem dX5_spreads_20 : decode cX5_spreads 20 = .ok (.aload_n 0, 1) := by decide +kernel
theorem dX5_spreads_21 : decode cX5_spreads 21 = .ok (.getfield 26, 3) := by decide +kernel
theorem dX5_spreads_24 : decode cX5_spreads 24 = .ok (.iload_n 2, 1) := by decide +kernel
theorem dX5_spreads_25 : decode cX5_spreads 25 = .ok (.iaload, 1) := by decide +kernel
theorem dX5_spreads_26 : decode cX5_spreads 26 = .ok (.if_icmp .eq 43, 3) := by decide +kernel
theorem dX5_spreads_29 : decode cX5_spreads 29 = .ok (.aload_n 0, 1) := by decide +kernel
theorem dX5_spreads_30 : decode cX5_spreads 30 = .ok (.iload_n 2, 1) := by decide +kernel
theorem dX5_spreads_31 : decode cX5_spreads 31 = .ok (.iload_n 3, 1) := by decide +kernel
theorem dX5_spreads_32 : decode cX5_spreads 32 = .ok (.invokevirtual 72, 3) := by decide +kernel
theorem dX5_spreads_35 : decode cX5_spreads 35 = .ok (.ifCond .eq 6, 3) := by decide +kernel
theorem dX5_spreads_38 : decode cX5_spreads 38 = .ok (.goto 31, 3) := by decide +kernel
theorem dX5_spreads_41 : decode cX5_spreads 41 = .ok (.aload_n 0, 1) := by decide +kernel
theorem dX5_spreads_42 : decode cX5_spreads 42 = .ok (.iload_n 2, 1) := by decide +kernel
theorem dX5_spreads_43 : decode cX5_spreads 43 = .ok (.iload_n 3, 1) := by decide +kernel
theorem dX5_spreads_44 : decode cX5_spreads 44 = .ok (.invokevirtual 132, 3) := by decide +kernel
theorem dX5_spreads_47 : decode cX5_spreads 47 = .ok (.aload_n 0, 1) := by decide +kernel
theorem dX5_spreads_48 : decode cX5_spreads 48 = .ok (.iload_n 1, 1) := by decide +kernel
theorem dX5_spreads_49 : decode cX5_spreads 49 = .ok (.iconst 1, 1) := by decide +kernel
theorem dX5_spreads_50 : decode cX5_spreads 50 = .ok (.iload_n 2, 1) := by decide +kernel
theorem dX5_spreads_51 : decode cX5_spreads 51 = .ok (.ishl, 1) := by decide +kernel
theorem dX5_spreads_52 : decode cX5_spreads 52 = .ok (.iconst (-1), 1) := by decide +kernel
theorem dX5_spreads_53 : decode cX5_spreads 53 = .ok (.ixor, 1) := by decide +kernel
theorem dX5_spreads_54 : decode cX5_spreads 54 = .ok (.iand, 1) := by decide +kernel
theorem dX5_spreads_55 : decode cX5_spreads 55 = .ok (.invokevirtual 145, 3) := by decide +kernel
theorem dX5_spreads_58 : decode cX5_spreads 58 = .ok (.ifCond .eq 5, 3) := by decide +kernel
theorem dX5_spreads_61 : decode cX5_spreads 61 = .ok (.iconst 1, 1) := by decide +kernel
theorem dX5_spreads_62 : decode cX5_spreads 62 = .ok (.ireturn, 1) := by decide +kernel
theorem dX5_spreads_63 : decode cX5_spreads 63 = .ok (.aload_n 0, 1) := by decide +kernel
theorem dX5_spreads_64 : decode cX5_spreads 64 = .ok (.iload_n 2, 1) := by decide +kernel
theorem dX5_spreads_65 : decode cX5_spreads 65 = .ok (.iconst (-1), 1) := by decide +kernel
theorem dX5_spreads_66 : decode cX5_spreads 66 = .ok (.invokevirtual 132, 3) := by decide +kernel
theorem dX5_spreads_69 : decode cX5_spreads 69 = .ok (.iinc 3 1, 3) := by decide +kernel
theorem dX5_spreads_72 : decode cX5_spreads 72 = .ok (.goto (-59), 3) := by decide +kernel
theorem dX5_spreads_75 : decode cX5_spreads 75 = .ok (.iconst 0, 1) := by decide +kernel
theorem dX5_spreads_76 : decode cX5_spreads 76 = .ok (.ireturn, 1) := by decide +kernel
theorem dX5_insertsAt_0 : decode cX5_insertsAt 0 = .ok (.iconst 0, 1) := by decide +kernel
theorem dX5_insertsAt_1 : decode cX5_insertsAt 1 = .ok (.istore 4, 2) := by decide +kernel
theorem dX5_insertsAt_3 : decode cX5_insertsAt 3 = .ok (.iload 4, 2) := by decide +kernel
theorem dX5_insertsAt_5 : decode cX5_insertsAt 5 = .ok (.aload_n 0, 1) := by decide +kernel
theorem dX5_insertsAt_6 : decode cX5_insertsAt 6 = .ok (.invokevirtual 35, 3) := by decide +kernel
theorem dX5_insertsAt_9 : decode cX5_insertsAt 9 = .ok (.if_icmp .ge 43, 3) := by decide +kernel
theorem dX5_insertsAt_12 : decode cX5_insertsAt 12 = .ok (.iload_n 3, 1) := by decide +kernel
theorem dX5_insertsAt_13 : decode cX5_insertsAt 13 = .ok (.iload 4, 2) := by decide +kernel
theorem dX5_insertsAt_15 : decode cX5_insertsAt 15 = .ok (.ishr, 1) := by decide +kernel
theorem dX5_insertsAt_16 : decode cX5_insertsAt 16 = .ok (.iconst 1, 1) := by decide +kernel
theorem dX5_insertsAt_17 : decode cX5_insertsAt 17 = .ok (.iand, 1) := by decide +kernel
theorem dX5_insertsAt_18 : decode cX5_insertsAt 18 = .ok (.ifCond .ne 6, 3) := by decide +kernel
theorem dX5_insertsAt_21 : decode cX5_insertsAt 21 = .ok (.goto 25, 3) := by decide +kernel
theorem dX5_insertsAt_24 : decode cX5_insertsAt 24 = .ok (.aload_n 0, 1) := by decide +kernel
theorem dX5_insertsAt_25 : decode cX5_insertsAt 25 = .ok (.getfield 26, 3) := by decide +kernel
theorem dX5_insertsAt_28 : decode cX5_insertsAt 28 = .ok (.iload 4, 2) := by decide +kernel
theorem dX5_insertsAt_30 : decode cX5_insertsAt 30 = .ok (.aload_n 0, 1) := by decide +kernel
theorem dX5_insertsAt_31 : decode cX5_insertsAt 31 = .ok (.bipush 84, 2) := by decide +kernel
theorem dX5_insertsAt_33 : decode cX5_insertsAt 33 = .ok (.iload 4, 2) := by decide +kernel
theorem dX5_insertsAt_35 : decode cX5_insertsAt 35 = .ok (.invokevirtual 54, 3) := by decide +kernel
theorem dX5_insertsAt_38 : decode cX5_insertsAt 38 = .ok (.iastore, 1) := by decide +kernel
theorem dX5_insertsAt_39 : decode cX5_insertsAt 39 = .ok (.aload_n 0, 1) := by decide +kernel
theorem dX5_insertsAt_40 : decode cX5_insertsAt 40 = .ok (.iload 4, 2) := by decide +kernel
theorem dX5_insertsAt_42 : decode cX5_insertsAt 42 = .ok (.iconst (-1), 1) := by decide +kernel
theorem dX5_insertsAt_43 : decode cX5_insertsAt 43 = .ok (.invokevirtual 132, 3) := by decide +kernel
theorem dX5_insertsAt_46 : decode cX5_insertsAt 46 = .ok (.iinc 4 1, 3) := by decide +kernel
theorem dX5_insertsAt_49 : decode cX5_insertsAt 49 = .ok (.goto (-46), 3) := by decide +kernel
theorem dX5_insertsAt_52 : decode cX5_insertsAt 52 = .ok (.aload_n 0, 1) := by decide +kernel
theorem dX5_insertsAt_53 : decode cX5_insertsAt 53 = .ok (.iload_n 1, 1) := by decide +kernel
theorem dX5_insertsAt_54 : decode cX5_insertsAt 54 = .ok (.iload_n 2, 1) := by decide +kernel
theorem dX5_insertsAt_55 : decode cX5_insertsAt 55 = .ok (.invokevirtual 132, 3) := by decide +kernel
theorem dX5_insertsAt_58 : decode cX5_insertsAt 58 = .ok (.aload_n 0, 1) := by decide +kernel
theorem dX5_insertsAt_59 : decode cX5_insertsAt 59 = .ok (.iload_n 3, 1) := by decide +kernel
theorem dX5_insertsAt_60 : decode cX5_insertsAt 60 = .ok (.invokevirtual 145, 3) := by decide +kernel
theorem dX5_insertsAt_63 : decode cX5_insertsAt 63 = .ok (.ifCond .eq 5, 3) := by decide +kernel
theorem dX5_insertsAt_66 : decode cX5_insertsAt 66 = .ok (.iconst 1, 1) := by decide +kernel
theorem dX5_insertsAt_67 : decode cX5_insertsAt 67 = .ok (.ireturn, 1) := by decide +kernel
theorem dX5_insertsAt_68 : decode cX5_insertsAt 68 = .ok (.aload_n 0, 1) := by decide +kernel
theorem dX5_insertsAt_69 : decode cX5_insertsAt 69 = .ok (.iload_n 1, 1) := by decide +kernel
theorem dX5_insertsAt_70 : decode cX5_insertsAt 70 = .ok (.iconst (-1), 1) := by decide +kernel
theorem dX5_insertsAt_71 : decode cX5_insertsAt 71 = .ok (.invokevirtual 132, 3) := by decide +kernel
theorem dX5_insertsAt_74 : decode cX5_insertsAt 74 = .ok (.iconst 0, 1) := by decide +kernel
theorem dX5_insertsAt_75 : decode cX5_insertsAt 75 = .ok (.istore 4, 2) := by decide +kernel
theorem dX5_insertsAt_77 : decode cX5_insertsAt 77 = .ok (.iload 4, 2) := by decide +kernel
theorem dX5_insertsAt_79 : decode cX5_insertsAt 79 = .ok (.aload_n 0, 1) := by decide +kernel
theorem dX5_insertsAt_80 : decode cX5_insertsAt 80 = .ok (.invokevirtual 35, 3) := by decide +kernel
theorem dX5_insertsAt_83 : decode cX5_insertsAt 83 = .ok (.if_icmp .ge 32, 3) := by decide +kernel
theorem dX5_insertsAt_86 : decode cX5_insertsAt 86 = .ok (.iload_n 3, 1) := by decide +kernel
theorem dX5_insertsAt_87 : decode cX5_insertsAt 87 = .ok (.iload 4, 2) := by decide +kernel
theorem dX5_insertsAt_89 : decode cX5_insertsAt 89 = .ok (.ishr, 1) := by decide +kernel
theorem dX5_insertsAt_90 : decode cX5_insertsAt 90 = .ok (.iconst 1, 1) := by decide +kernel
theorem dX5_insertsAt_91 : decode cX5_insertsAt 91 = .ok (.iand, 1) := by decide +kernel
theorem dX5_insertsAt_92 : decode cX5_insertsAt 92 = .ok (.iconst 1, 1) := by decide +kernel
theorem dX5_insertsAt_93 : decode cX5_insertsAt 93 = .ok (.if_icmp .ne 16, 3) := by decide +kernel
theorem dX5_insertsAt_96 : decode cX5_insertsAt 96 = .ok (.aload_n 0, 1) := by decide +kernel
theorem dX5_insertsAt_97 : decode cX5_insertsAt 97 = .ok (.iload 4, 2) := by decide +kernel
theorem dX5_insertsAt_99 : decode cX5_insertsAt 99 = .ok (.aload_n 0, 1) := by decide +kernel
theorem dX5_insertsAt_100 : decode cX5_insertsAt 100 = .ok (.getfield 26, 3) := by decide +kernel
theorem dX5_insertsAt_103 : decode cX5_insertsAt 103 = .ok (.iload 4, 2) := by decide +kernel
theorem dX5_insertsAt_105 : decode cX5_insertsAt 105 = .ok (.iaload, 1) := by decide +kernel
theorem dX5_insertsAt_106 : decode cX5_insertsAt 106 = .ok (.invokevirtual 132, 3) := by decide +kernel
theorem dX5_insertsAt_109 : decode cX5_insertsAt 109 = .ok (.iinc 4 1, 3) := by decide +kernel
theorem dX5_insertsAt_112 : decode cX5_insertsAt 112 = .ok (.goto (-35), 3) := by decide +kernel
theorem dX5_insertsAt_115 : decode cX5_insertsAt 115 = .ok (.iconst 0, 1) := by decide +kernel
theorem dX5_insertsAt_116 : decode cX5_insertsAt 116 = .ok (.ireturn, 1) := by decide +kernel
theorem dX5_inserts_0 : decode cX5_inserts 0 = .ok (.iconst 0, 1) := by decide +kernel
theorem dX5_inserts_1 : decode cX5_inserts 1 = .ok (.istore_n 2, 1) := by decide +kernel
theorem dX5_inserts_2 : decode cX5_inserts 2 = .ok (.iload_n 2, 1) := by decide +kernel
theorem dX5_inserts_3 : decode cX5_inserts 3 = .ok (.iconst 3, 1) := by decide +kernel
theorem dX5_inserts_4 : decode cX5_inserts 4 = .ok (.if_icmp .ge 74, 3) := by decide +kernel
theorem dX5_inserts_7 : decode cX5_inserts 7 = .ok (.iconst 0, 1) := by decide +kernel
theorem dX5_inserts_8 : decode cX5_inserts 8 = .ok (.istore_n 3, 1) := by decide +kernel
theorem dX5_inserts_9 : decode cX5_inserts 9 = .ok (.iload_n 3, 1) := by decide +kernel
theorem dX5_inserts_10 : decode cX5_inserts 10 = .ok (.bipush 60, 2) := by decide +kernel
theorem dX5_inserts_12 : decode cX5_inserts 12 = .ok (.if_icmp .ge 60, 3) := by decide +kernel
theorem dX5_inserts_15 : decode cX5_inserts 15 = .ok (.aload_n 0, 1) := by decide +kernel
theorem dX5_inserts_16 : decode cX5_inserts 16 = .ok (.iload_n 1, 1) := by decide +kernel
theorem dX5_inserts_17 : decode cX5_inserts 17 = .ok (.iload_n 3, 1) := by decide +kernel
theorem dX5_inserts_18 : decode cX5_inserts 18 = .ok (.invokevirtual 75, 3) := by decide +kernel
theorem dX5_inserts_21 : decode cX5_inserts 21 = .ok (.ifCond .ne 6, 3) := by decide +kernel
theorem dX5_inserts_24 : decode cX5_inserts 24 = .ok (.goto 42, 3) := by decide +kernel
theorem dX5_inserts_27 : decode cX5_inserts 27 = .ok (.aload_n 0, 1) := by decide +kernel
theorem dX5_inserts_28 : decode cX5_inserts 28 = .ok (.iload_n 1, 1) := by decide +kernel
theorem dX5_inserts_29 : decode cX5_inserts 29 = .ok (.iload_n 3, 1) := by decide +kernel
theorem dX5_inserts_30 : decode cX5_inserts 30 = .ok (.invokevirtual 139, 3) := by decide +kernel
theorem dX5_inserts_33 : decode cX5_inserts 33 = .ok (.istore 4, 2) := by decide +kernel
theorem dX5_inserts_35 : decode cX5_inserts 35 = .ok (.iload 4, 2) := by decide +kernel
theorem dX5_inserts_37 : decode cX5_inserts 37 = .ok (.invokestatic 148, 3) := by decide +kernel
theorem dX5_inserts_40 : decode cX5_inserts 40 = .ok (.iload_n 2, 1) := by decide +kernel
theorem dX5_inserts_41 : decode cX5_inserts 41 = .ok (.if_icmp .ne 25, 3) := by decide +kernel
theorem dX5_inserts_44 : decode cX5_inserts 44 = .ok (.aload_n 0, 1) := by decide +kernel
theorem dX5_inserts_45 : decode cX5_inserts 45 = .ok (.iload 4, 2) := by decide +kernel
theorem dX5_inserts_47 : decode cX5_inserts 47 = .ok (.invokevirtual 151, 3) := by decide +kernel
theorem dX5_inserts_50 : decode cX5_inserts 50 = .ok (.ifCond .ne 16, 3) := by decide +kernel
theorem dX5_inserts_53 : decode cX5_inserts 53 = .ok (.aload_n 0, 1) := by decide +kernel
theorem dX5_inserts_54 : decode cX5_inserts 54 = .ok (.iload_n 1, 1) := by decide +kernel
theorem dX5_inserts_55 : decode cX5_inserts 55 = .ok (.iload_n 3, 1) := by decide +kernel
theorem dX5_inserts_56 : decode cX5_inserts 56 = .ok (.iload 4, 2) := by decide +kernel
theorem dX5_inserts_58 : decode cX5_inserts 58 = .ok (.invokevirtual 154, 3) := by decide +kernel
theorem dX5_inserts_61 : decode cX5_inserts 61 = .ok (.ifCond .eq 5, 3) := by decide +kernel
theorem dX5_inserts_64 : decode cX5_inserts 64 = .ok (.iload_n 2, 1) := by decide +kernel
theorem dX5_inserts_65 : decode cX5_inserts 65 = .ok (.ireturn, 1) := by decide +kernel
theorem dX5_inserts_66 : decode cX5_inserts 66 = .ok (.iinc 3 1, 3) := by decide +kernel
theorem dX5_inserts_69 : decode cX5_inserts 69 = .ok (.goto (-60), 3) := by decide +kernel
theorem dX5_inserts_72 : decode cX5_inserts 72 = .ok (.iinc 2 1, 3) := by decide +kernel
theorem dX5_inserts_75 : decode cX5_inserts 75 = .ok (.goto (-73), 3) := by decide +kernel
theorem dX5_inserts_78 : decode cX5_inserts 78 = .ok (.iconst (-1), 1) := by decide +kernel
theorem dX5_inserts_79 : decode cX5_inserts 79 = .ok (.ireturn, 1) := by decide +kernel
theorem dX5_insert_0 : decode cX5_insert 0 = .ok (.aload_n 0, 1) := by decide +kernel
theorem dX5_insert_1 : decode cX5_insert 1 = .ok (.aload_n 0, 1) := by decide +kernel
theorem dX5_insert_2 : decode cX5_insert 2 = .ok (.iload_n 1, 1) := by decide +kernel
theorem dX5_insert_3 : decode cX5_insert 3 = .ok (.invokevirtual 120, 3) := by decide +kernel
theorem dX5_insert_6 : decode cX5_insert 6 = .ok (.ifCond .ne 7, 3) := by decide +kernel
theorem dX5_insert_9 : decode cX5_insert 9 = .ok (.iconst 1, 1) := by decide +kernel
theorem dX5_insert_10 : decode cX5_insert 10 = .ok (.goto 18, 3) := by decide +kernel
theorem dX5_insert_13 : decode cX5_insert 13 = .ok (.aload_n 0, 1) := by decide +kernel
theorem dX5_insert_14 : decode cX5_insert 14 = .ok (.bipush 84, 2) := by decide +kernel
theorem dX5_insert_16 : decode cX5_insert 16 = .ok (.iload_n 1, 1) := by decide +kernel
theorem dX5_insert_17 : decode cX5_insert 17 = .ok (.invokevirtual 54, 3) := by decide +kernel
theorem dX5_insert_20 : decode cX5_insert 20 = .ok (.ifCond .lt 7, 3) := by decide +kernel
theorem dX5_insert_23 : decode cX5_insert 23 = .ok (.iconst 2, 1) := by decide +kernel
theorem dX5_insert_24 : decode cX5_insert 24 = .ok (.goto 4, 3) := by decide +kernel
theorem dX5_insert_27 : decode cX5_insert 27 = .ok (.iconst 0, 1) := by decide +kernel
theorem dX5_insert_28 : decode cX5_insert 28 = .ok (.putfield 1, 3) := by decide +kernel
theorem dX5_insert_31 : decode cX5_insert 31 = .ok (.aload_n 0, 1) := by decide +kernel
theorem dX5_insert_32 : decode cX5_insert 32 = .ok (.getfield 1, 3) := by decide +kernel
theorem dX5_insert_35 : decode cX5_insert 35 = .ok (.ifCond .eq 5, 3) := by decide +kernel
theorem dX5_insert_38 : decode cX5_insert 38 = .ok (.iconst 0, 1) := by decide +kernel
theorem dX5_insert_39 : decode cX5_insert 39 = .ok (.ireturn, 1) := by decide +kernel
theorem dX5_insert_40 : decode cX5_insert 40 = .ok (.iconst 0, 1) := by decide +kernel
theorem dX5_insert_41 : decode cX5_insert 41 = .ok (.istore_n 2, 1) := by decide +kernel
theorem dX5_insert_42 : decode cX5_insert 42 = .ok (.iload_n 2, 1) := by decide +kernel
theorem dX5_insert_43 : decode cX5_insert 43 = .ok (.aload_n 0, 1) := by decide +kernel
theorem dX5_insert_44 : decode cX5_insert 44 = .ok (.invokevirtual 35, 3) := by decide +kernel
theorem dX5_insert_47 : decode cX5_insert 47 = .ok (.if_icmp .ge 22, 3) := by decide +kernel
theorem dX5_insert_50 : decode cX5_insert 50 = .ok (.aload_n 0, 1) := by decide +kernel
theorem dX5_insert_51 : decode cX5_insert 51 = .ok (.getfield 29, 3) := by decide +kernel
theorem dX5_insert_54 : decode cX5_insert 54 = .ok (.iload_n 2, 1) := by decide +kernel
theorem dX5_insert_55 : decode cX5_insert 55 = .ok (.aload_n 0, 1) := by decide +kernel
theorem dX5_insert_56 : decode cX5_insert 56 = .ok (.bipush 84, 2) := by decide +kernel
theorem dX5_insert_58 : decode cX5_insert 58 = .ok (.iload_n 2, 1) := by decide +kernel
theorem dX5_insert_59 : decode cX5_insert 59 = .ok (.invokevirtual 54, 3) := by decide +kernel
theorem dX5_insert_62 : decode cX5_insert 62 = .ok (.iastore, 1) := by decide +kernel
theorem dX5_insert_63 : decode cX5_insert 63 = .ok (.iinc 2 1, 3) := by decide +kernel
theorem dX5_insert_66 : decode cX5_insert 66 = .ok (.goto (-24), 3) := by decide +kernel
theorem dX5_insert_69 : decode cX5_insert 69 = .ok (.aload_n 0, 1) := by decide +kernel
theorem dX5_insert_70 : decode cX5_insert 70 = .ok (.iload_n 1, 1) := by decide +kernel
theorem dX5_insert_71 : decode cX5_insert 71 = .ok (.invokevirtual 157, 3) := by decide +kernel
theorem dX5_insert_74 : decode cX5_insert 74 = .ok (.istore_n 2, 1) := by decide +kernel
theorem dX5_insert_75 : decode cX5_insert 75 = .ok (.iconst 0, 1) := by decide +kernel
theorem dX5_insert_76 : decode cX5_insert 76 = .ok (.istore_n 3, 1) := by decide +kernel
theorem dX5_insert_77 : decode cX5_insert 77 = .ok (.iload_n 3, 1) := by decide +kernel
theorem dX5_insert_78 : decode cX5_insert 78 = .ok (.aload_n 0, 1) := by decide +kernel
theorem dX5_insert_79 : decode cX5_insert 79 = .ok (.invokevirtual 35, 3) := by decide +kernel
theorem dX5_insert_82 : decode cX5_insert 82 = .ok (.if_icmp .ge 37, 3) := by decide +kernel
theorem dX5_insert_85 : decode cX5_insert 85 = .ok (.aload_n 0, 1) := by decide +kernel
theorem dX5_insert_86 : decode cX5_insert 86 = .ok (.bipush 84, 2) := by decide +kernel
theorem dX5_insert_88 : decode cX5_insert 88 = .ok (.iload_n 3, 1) := by decide +kernel
theorem dX5_insert_89 : decode cX5_insert 89 = .ok (.invokevirtual 54, 3) := by decide +kernel
theorem dX5_insert_92 : decode cX5_insert 92 = .ok (.istore 4, 2) := by decide +kernel
theorem dX5_insert_94 : decode cX5_insert 94 = .ok (.aload_n 0, 1) := by decide +kernel
theorem dX5_insert_95 : decode cX5_insert 95 = .ok (.iload_n 3, 1) := by decide +kernel
theorem dX5_insert_96 : decode cX5_insert 96 = .ok (.aload_n 0, 1) := by decide +kernel
theorem dX5_insert_97 : decode cX5_insert 97 = .ok (.getfield 29, 3) := by decide +kernel
theorem dX5_insert_100 : decode cX5_insert 100 = .ok (.iload_n 3, 1) := by decide +kernel
theorem dX5_insert_101 : decode cX5_insert 101 = .ok (.iaload, 1) := by decide +kernel
theorem dX5_insert_102 : decode cX5_insert 102 = .ok (.invokevirtual 132, 3) := by decide +kernel
theorem dX5_insert_105 : decode cX5_insert 105 = .ok (.aload_n 0, 1) := by decide +kernel
theorem dX5_insert_106 : decode cX5_insert 106 = .ok (.getfield 29, 3) := by decide +kernel
theorem dX5_insert_109 : decode cX5_insert 109 = .ok (.iload_n 3, 1) := by decide +kernel
theorem dX5_insert_110 : decode cX5_insert 110 = .ok (.iload 4, 2) := by decide +kernel
theorem dX5_insert_112 : decode cX5_insert 112 = .ok (.iastore, 1) := by decide +kernel
theorem dX5_insert_113 : decode cX5_insert 113 = .ok (.iinc 3 1, 3) := by decide +kernel
theorem dX5_insert_116 : decode cX5_insert 116 = .ok (.goto (-39), 3) := by decide +kernel
theorem dX5_insert_119 : decode cX5_insert 119 = .ok (.iload_n 2, 1) := by decide +kernel
theorem dX5_insert_120 : decode cX5_insert 120 = .ok (.ifCond .ge 10, 3) := by decide +kernel
theorem dX5_insert_123 : decode cX5_insert 123 = .ok (.aload_n 0, 1) := by decide +kernel
theorem dX5_insert_124 : decode cX5_insert 124 = .ok (.iconst 3, 1) := by decide +kernel
theorem dX5_insert_125 : decode cX5_insert 125 = .ok (.putfield 1, 3) := by decide +kernel
theorem dX5_insert_128 : decode cX5_insert 128 = .ok (.iconst 0, 1) := by decide +kernel
theorem dX5_insert_129 : decode cX5_insert 129 = .ok (.ireturn, 1) := by decide +kernel
theorem dX5_insert_130 : decode cX5_insert 130 = .ok (.aload_n 0, 1) := by decide +kernel
theorem dX5_insert_131 : decode cX5_insert 131 = .ok (.invokevirtual 83, 3) := by decide +kernel
theorem dX5_insert_134 : decode cX5_insert 134 = .ok (.iconst 0, 1) := by decide +kernel
theorem dX5_insert_135 : decode cX5_insert 135 = .ok (.istore_n 3, 1) := by decide +kernel
theorem dX5_insert_136 : decode cX5_insert 136 = .ok (.iload_n 3, 1) := by decide +kernel
theorem dX5_insert_137 : decode cX5_insert 137 = .ok (.aload_n 0, 1) := by decide +kernel
theorem dX5_insert_138 : decode cX5_insert 138 = .ok (.invokevirtual 35, 3) := by decide +kernel
theorem dX5_insert_141 : decode cX5_insert 141 = .ok (.if_icmp .ge 20, 3) := by decide +kernel
theorem dX5_insert_144 : decode cX5_insert 144 = .ok (.aload_n 0, 1) := by decide +kernel
theorem dX5_insert_145 : decode cX5_insert 145 = .ok (.iload_n 3, 1) := by decide +kernel
theorem dX5_insert_146 : decode cX5_insert 146 = .ok (.aload_n 0, 1) := by decide +kernel
theorem dX5_insert_147 : decode cX5_insert 147 = .ok (.getfield 29, 3) := by decide +kernel
theorem dX5_insert_150 : decode cX5_insert 150 = .ok (.iload_n 3, 1) := by decide +kernel
theorem dX5_insert_151 : decode cX5_insert 151 = .ok (.iaload, 1) := by decide +kernel
theorem dX5_insert_152 : decode cX5_insert 152 = .ok (.invokevirtual 132, 3) := by decide +kernel
theorem dX5_insert_155 : decode cX5_insert 155 = .ok (.iinc 3 1, 3) := by decide +kernel
theorem dX5_insert_158 : decode cX5_insert 158 = .ok (.goto (-22), 3) := by decide +kernel
theorem dX5_insert_161 : decode cX5_insert 161 = .ok (.iload_n 2, 1) := by decide +kernel
theorem dX5_insert_162 : decode cX5_insert 162 = .ok (.ireturn, 1) := by decide +kernel
theorem dX5_isAhead_0 : decode cX5_isAhead 0 = .ok (.iload_n 3, 1) := by decide +kernel
theorem dX5_isAhead_1 : decode cX5_isAhead 1 = .ok (.iload 4, 2) := by decide +kernel
theorem dX5_isAhead_3 : decode cX5_isAhead 3 = .ok (.if_icmp .eq 15, 3) := by decide +kernel
theorem dX5_isAhead_6 : decode cX5_isAhead 6 = .ok (.iload_n 3, 1) := by decide +kernel
theorem dX5_isAhead_7 : decode cX5_isAhead 7 = .ok (.iload 4, 2) := by decide +kernel
theorem dX5_isAhead_9 : decode cX5_isAhead 9 = .ok (.if_icmp .ge 7, 3) := by decide +kernel
theorem dX5_isAhead_12 : decode cX5_isAhead 12 = .ok (.iconst 1, 1) := by decide +kernel
theorem dX5_isAhead_13 : decode cX5_isAhead 13 = .ok (.goto 4, 3) := by decide +kernel
theorem dX5_isAhead_16 : decode cX5_isAhead 16 = .ok (.iconst 0, 1) := by decide +kernel
theorem dX5_isAhead_17 : decode cX5_isAhead 17 = .ok (.ireturn, 1) := by decide +kernel
theorem dX5_isAhead_18 : decode cX5_isAhead 18 = .ok (.aload_n 0, 1) := by decide +kernel
theorem dX5_isAhead_19 : decode cX5_isAhead 19 = .ok (.bipush 42, 2) := by decide +kernel
theorem dX5_isAhead_21 : decode cX5_isAhead 21 = .ok (.iload_n 1, 1) := by decide +kernel
theorem dX5_isAhead_22 : decode cX5_isAhead 22 = .ok (.invokevirtual 54, 3) := by decide +kernel
theorem dX5_isAhead_25 : decode cX5_isAhead 25 = .ok (.invokestatic 148, 3) := by decide +kernel
theorem dX5_isAhead_28 : decode cX5_isAhead 28 = .ok (.istore 5, 2) := by decide +kernel
theorem dX5_isAhead_30 : decode cX5_isAhead 30 = .ok (.aload_n 0, 1) := by decide +kernel
theorem dX5_isAhead_31 : decode cX5_isAhead 31 = .ok (.bipush 42, 2) := by decide +kernel
theorem dX5_isAhead_33 : decode cX5_isAhead 33 = .ok (.iload_n 2, 1) := by decide +kernel
theorem dX5_isAhead_34 : decode cX5_isAhead 34 = .ok (.invokevirtual 54, 3) := by decide +kernel
theorem dX5_isAhead_37 : decode cX5_isAhead 37 = .ok (.invokestatic 148, 3) := by decide +kernel
theorem dX5_isAhead_40 : decode cX5_isAhead 40 = .ok (.istore 6, 2) := by decide +kernel
theorem dX5_isAhead_42 : decode cX5_isAhead 42 = .ok (.iload 5, 2) := by decide +kernel
theorem dX5_isAhead_44 : decode cX5_isAhead 44 = .ok (.iload 6, 2) := by decide +kernel
theorem dX5_isAhead_46 : decode cX5_isAhead 46 = .ok (.if_icmp .eq 18, 3) := by decide +kernel
theorem dX5_isAhead_49 : decode cX5_isAhead 49 = .ok (.iload 5, 2) := by decide +kernel
theorem dX5_isAhead_51 : decode cX5_isAhead 51 = .ok (.iload 6, 2) := by decide +kernel
theorem dX5_isAhead_53 : decode cX5_isAhead 53 = .ok (.if_icmp .le 7, 3) := by decide +kernel
theorem dX5_isAhead_56 : decode cX5_isAhead 56 = .ok (.iconst 1, 1) := by decide +kernel
theorem dX5_isAhead_57 : decode cX5_isAhead 57 = .ok (.goto 17, 3) := by decide +kernel
theorem dX5_isAhead_60 : decode cX5_isAhead 60 = .ok (.iconst 0, 1) := by decide +kernel
theorem dX5_isAhead_61 : decode cX5_isAhead 61 = .ok (.goto 13, 3) := by decide +kernel
theorem dX5_isAhead_64 : decode cX5_isAhead 64 = .ok (.iload_n 1, 1) := by decide +kernel
theorem dX5_isAhead_65 : decode cX5_isAhead 65 = .ok (.iload_n 2, 1) := by decide +kernel
theorem dX5_isAhead_66 : decode cX5_isAhead 66 = .ok (.if_icmp .ge 7, 3) := by decide +kernel
theorem dX5_isAhead_69 : decode cX5_isAhead 69 = .ok (.iconst 1, 1) := by decide +kernel
theorem dX5_isAhead_70 : decode cX5_isAhead 70 = .ok (.goto 4, 3) := by decide +kernel
theorem dX5_isAhead_73 : decode cX5_isAhead 73 = .ok (.iconst 0, 1) := by decide +kernel
theorem dX5_isAhead_74 : decode cX5_isAhead 74 = .ok (.ireturn, 1) := by decide +kernel
theorem dX5_build_0 : decode cX5_build 0 = .ok (.aload_n 0, 1) := by decide +kernel
theorem dX5_build_1 : decode cX5_build 1 = .ok (.iconst 0, 1) := by decide +kernel
theorem dX5_build_2 : decode cX5_build 2 = .ok (.putfield 1, 3) := by decide +kernel
theorem dX5_build_5 : decode cX5_build 5 = .ok (.aload_n 0, 1) := by decide +kernel
theorem dX5_build_6 : decode cX5_build 6 = .ok (.invokevirtual 83, 3) := by decide +kernel
theorem dX5_build_9 : decode cX5_build 9 = .ok (.iconst 0, 1) := by decide +kernel
theorem dX5_build_10 : decode cX5_build 10 = .ok (.istore_n 1, 1) := by decide +kernel
theorem dX5_build_11 : decode cX5_build 11 = .ok (.iconst 0, 1) := by decide +kernel
theorem dX5_build_12 : decode cX5_build 12 = .ok (.istore_n 2, 1) := by decide +kernel
theorem dX5_build_13 : decode cX5_build 13 = .ok (.iload_n 2, 1) := by decide +kernel
theorem dX5_build_14 : decode cX5_build 14 = .ok (.aload_n 0, 1) := by decide +kernel
theorem dX5_build_15 : decode cX5_build 15 = .ok (.invokevirtual 35, 3) := by decide +kernel
theorem dX5_build_18 : decode cX5_build 18 = .ok (.if_icmp .ge 100, 3) := by decide +kernel
theorem dX5_build_21 : decode cX5_build 21 = .ok (.aload_n 0, 1) := by decide +kernel
theorem dX5_build_22 : decode cX5_build 22 = .ok (.bipush 84, 2) := by decide +kernel
theorem dX5_build_24 : decode cX5_build 24 = .ok (.iload_n 2, 1) := by decide +kernel
theorem dX5_build_25 : decode cX5_build 25 = .ok (.invokevirtual 54, 3) := by decide +kernel
theorem dX5_build_28 : decode cX5_build 28 = .ok (.ifCond .lt 6, 3) := by decide +kernel
theorem dX5_build_31 : decode cX5_build 31 = .ok (.goto 81, 3) := by decide +kernel
theorem dX5_build_34 : decode cX5_build 34 = .ok (.aload_n 0, 1) := by decide +kernel
theorem dX5_build_35 : decode cX5_build 35 = .ok (.iload_n 2, 1) := by decide +kernel
theorem dX5_build_36 : decode cX5_build 36 = .ok (.invokevirtual 160, 3) := by decide +kernel
theorem dX5_build_39 : decode cX5_build 39 = .ok (.istore_n 3, 1) := by decide +kernel
theorem dX5_build_40 : decode cX5_build 40 = .ok (.iload_n 1, 1) := by decide +kernel
theorem dX5_build_41 : decode cX5_build 41 = .ok (.istore 4, 2) := by decide +kernel
theorem dX5_build_43 : decode cX5_build 43 = .ok (.iload 4, 2) := by decide +kernel
theorem dX5_build_45 : decode cX5_build 45 = .ok (.ifCond .le 56, 3) := by decide +kernel
theorem dX5_build_48 : decode cX5_build 48 = .ok (.aload_n 0, 1) := by decide +kernel
theorem dX5_build_49 : decode cX5_build 49 = .ok (.iload_n 2, 1) := by decide +kernel
theorem dX5_build_50 : decode cX5_build 50 = .ok (.aload_n 0, 1) := by decide +kernel
theorem dX5_build_51 : decode cX5_build 51 = .ok (.getfield 32, 3) := by decide +kernel
theorem dX5_build_54 : decode cX5_build 54 = .ok (.iload 4, 2) := by decide +kernel
theorem dX5_build_56 : decode cX5_build 56 = .ok (.iconst 1, 1) := by decide +kernel
theorem dX5_build_57 : decode cX5_build 57 = .ok (.isub, 1) := by decide +kernel
theorem dX5_build_58 : decode cX5_build 58 = .ok (.iaload, 1) := by decide +kernel
theorem dX5_build_59 : decode cX5_build 59 = .ok (.iload_n 3, 1) := by decide +kernel
theorem dX5_build_60 : decode cX5_build 60 = .ok (.aload_n 0, 1) := by decide +kernel
theorem dX5_build_61 : decode cX5_build 61 = .ok (.aload_n 0, 1) := by decide +kernel
theorem dX5_build_62 : decode cX5_build 62 = .ok (.getfield 32, 3) := by decide +kernel
theorem dX5_build_65 : decode cX5_build 65 = .ok (.iload 4, 2) := by decide +kernel
theorem dX5_build_67 : decode cX5_build 67 = .ok (.iconst 1, 1) := by decide +kernel
theorem dX5_build_68 : decode cX5_build 68 = .ok (.isub, 1) := by decide +kernel
theorem dX5_build_69 : decode cX5_build 69 = .ok (.iaload, 1) := by decide +kernel
theorem dX5_build_70 : decode cX5_build 70 = .ok (.invokevirtual 160, 3) := by decide +kernel
theorem dX5_build_73 : decode cX5_build 73 = .ok (.invokevirtual 163, 3) := by decide +kernel
theorem dX5_build_76 : decode cX5_build 76 = .ok (.ifCond .eq 25, 3) := by decide +kernel
theorem dX5_build_79 : decode cX5_build 79 = .ok (.aload_n 0, 1) := by decide +kernel
theorem dX5_build_80 : decode cX5_build 80 = .ok (.getfield 32, 3) := by decide +kernel
theorem dX5_build_83 : decode cX5_build 83 = .ok (.iload 4, 2) := by decide +kernel
theorem dX5_build_85 : decode cX5_build 85 = .ok (.aload_n 0, 1) := by decide +kernel
theorem dX5_build_86 : decode cX5_build 86 = .ok (.getfield 32, 3) := by decide +kernel
theorem dX5_build_89 : decode cX5_build 89 = .ok (.iload 4, 2) := by decide +kernel
theorem dX5_build_91 : decode cX5_build 91 = .ok (.iconst 1, 1) := by decide +kernel
theorem dX5_build_92 : decode cX5_build 92 = .ok (.isub, 1) := by decide +kernel
theorem dX5_build_93 : decode cX5_build 93 = .ok (.iaload, 1) := by decide +kernel
theorem dX5_build_94 : decode cX5_build 94 = .ok (.iastore, 1) := by decide +kernel
theorem dX5_build_95 : decode cX5_build 95 = .ok (.iinc 4 (-1), 3) := by decide +kernel
theorem dX5_build_98 : decode cX5_build 98 = .ok (.goto (-55), 3) := by decide +kernel
theorem dX5_build_101 : decode cX5_build 101 = .ok (.aload_n 0, 1) := by decide +kernel
theorem dX5_build_102 : decode cX5_build 102 = .ok (.getfield 32, 3) := by decide +kernel
theorem dX5_build_105 : decode cX5_build 105 = .ok (.iload 4, 2) := by decide +kernel
theorem dX5_build_107 : decode cX5_build 107 = .ok (.iload_n 2, 1) := by decide +kernel
theorem dX5_build_108 : decode cX5_build 108 = .ok (.iastore, 1) := by decide +kernel
theorem dX5_build_109 : decode cX5_build 109 = .ok (.iinc 1 1, 3) := by decide +kernel
theorem dX5_build_112 : decode cX5_build 112 = .ok (.iinc 2 1, 3) := by decide +kernel
theorem dX5_build_115 : decode cX5_build 115 = .ok (.goto (-102), 3) := by decide +kernel
theorem dX5_build_118 : decode cX5_build 118 = .ok (.iconst 0, 1) := by decide +kernel
theorem dX5_build_119 : decode cX5_build 119 = .ok (.istore_n 2, 1) := by decide +kernel
theorem dX5_build_120 : decode cX5_build 120 = .ok (.iconst 0, 1) := by decide +kernel
theorem dX5_build_121 : decode cX5_build 121 = .ok (.istore_n 3, 1) := by decide +kernel
theorem dX5_build_122 : decode cX5_build 122 = .ok (.iload_n 3, 1) := by decide +kernel
theorem dX5_build_123 : decode cX5_build 123 = .ok (.iload_n 1, 1) := by decide +kernel
theorem dX5_build_124 : decode cX5_build 124 = .ok (.if_icmp .ge 30, 3) := by decide +kernel
theorem dX5_build_127 : decode cX5_build 127 = .ok (.iload_n 2, 1) := by decide +kernel
theorem dX5_build_128 : decode cX5_build 128 = .ok (.aload_n 0, 1) := by decide +kernel
theorem dX5_build_129 : decode cX5_build 129 = .ok (.aload_n 0, 1) := by decide +kernel
theorem dX5_build_130 : decode cX5_build 130 = .ok (.getfield 32, 3) := by decide +kernel
theorem dX5_build_133 : decode cX5_build 133 = .ok (.iload_n 3, 1) := by decide +kernel
theorem dX5_build_134 : decode cX5_build 134 = .ok (.iaload, 1) := by decide +kernel
theorem dX5_build_135 : decode cX5_build 135 = .ok (.invokevirtual 157, 3) := by decide +kernel
theorem dX5_build_138 : decode cX5_build 138 = .ok (.ifCond .ge 7, 3) := by decide +kernel
theorem dX5_build_141 : decode cX5_build 141 = .ok (.iconst 1, 1) := by decide +kernel
theorem dX5_build_142 : decode cX5_build 142 = .ok (.goto 4, 3) := by decide +kernel
theorem dX5_build_145 : decode cX5_build 145 = .ok (.iconst 0, 1) := by decide +kernel
theorem dX5_build_146 : decode cX5_build 146 = .ok (.iadd, 1) := by decide +kernel
theorem dX5_build_147 : decode cX5_build 147 = .ok (.istore_n 2, 1) := by decide +kernel
theorem dX5_build_148 : decode cX5_build 148 = .ok (.iinc 3 1, 3) := by decide +kernel
theorem dX5_build_151 : decode cX5_build 151 = .ok (.goto (-29), 3) := by decide +kernel
theorem dX5_build_154 : decode cX5_build 154 = .ok (.iload_n 2, 1) := by decide +kernel
theorem dX5_build_155 : decode cX5_build 155 = .ok (.ireturn, 1) := by decide +kernel
theorem dX5_suitables_0 : decode cX5_suitables 0 = .ok (.iconst 0, 1) := by decide +kernel
theorem dX5_suitables_1 : decode cX5_suitables 1 = .ok (.istore_n 2, 1) := by decide +kernel
theorem dX5_suitables_2 : decode cX5_suitables 2 = .ok (.iconst 0, 1) := by decide +kernel
theorem dX5_suitables_3 : decode cX5_suitables 3 = .ok (.istore_n 3, 1) := by decide +kernel
theorem dX5_suitables_4 : decode cX5_suitables 4 = .ok (.iload_n 3, 1) := by decide +kernel
theorem dX5_suitables_5 : decode cX5_suitables 5 = .ok (.bipush 60, 2) := by decide +kernel
theorem dX5_suitables_7 : decode cX5_suitables 7 = .ok (.if_icmp .ge 26, 3) := by decide +kernel
theorem dX5_suitables_10 : decode cX5_suitables 10 = .ok (.iload_n 2, 1) := by decide +kernel
theorem dX5_suitables_11 : decode cX5_suitables 11 = .ok (.aload_n 0, 1) := by decide +kernel
theorem dX5_suitables_12 : decode cX5_suitables 12 = .ok (.iload_n 1, 1) := by decide +kernel
theorem dX5_suitables_13 : decode cX5_suitables 13 = .ok (.iload_n 3, 1) := by decide +kernel
theorem dX5_suitables_14 : decode cX5_suitables 14 = .ok (.invokevirtual 75, 3) := by decide +kernel
theorem dX5_suitables_17 : decode cX5_suitables 17 = .ok (.ifCond .eq 7, 3) := by decide +kernel
theorem dX5_suitables_20 : decode cX5_suitables 20 = .ok (.iconst 1, 1) := by decide +kernel
theorem dX5_suitables_21 : decode cX5_suitables 21 = .ok (.goto 4, 3) := by decide +kernel
theorem dX5_suitables_24 : decode cX5_suitables 24 = .ok (.iconst 0, 1) := by decide +kernel
theorem dX5_suitables_25 : decode cX5_suitables 25 = .ok (.iadd, 1) := by decide +kernel
theorem dX5_suitables_26 : decode cX5_suitables 26 = .ok (.istore_n 2, 1) := by decide +kernel
theorem dX5_suitables_27 : decode cX5_suitables 27 = .ok (.iinc 3 1, 3) := by decide +kernel
theorem dX5_suitables_30 : decode cX5_suitables 30 = .ok (.goto (-26), 3) := by decide +kernel
theorem dX5_suitables_33 : decode cX5_suitables 33 = .ok (.iload_n 2, 1) := by decide +kernel
theorem dX5_suitables_34 : decode cX5_suitables 34 = .ok (.ireturn, 1) := by decide +kernel
theorem dX5_chainThrown_0 : decode cX5_chainThrown 0 = .ok (.aload_n 0, 1) := by decide +kernel
theorem dX5_chainThrown_1 : decode cX5_chainThrown 1 = .ok (.iload_n 1, 1) := by decide +kernel
theorem dX5_chainThrown_2 : decode cX5_chainThrown 2 = .ok (.invokevirtual 120, 3) := by decide +kernel
theorem dX5_chainThrown_5 : decode cX5_chainThrown 5 = .ok (.ifCond .eq 13, 3) := by decide +kernel
theorem dX5_chainThrown_8 : decode cX5_chainThrown 8 = .ok (.iload_n 2, 1) := by decide +kernel
theorem dX5_chainThrown_9 : decode cX5_chainThrown 9 = .ok (.iconst 0, 1) := by decide +kernel
theorem dX5_chainThrown_10 : decode cX5_chainThrown 10 = .ok (.bipush 9, 2) := by decide +kernel
theorem dX5_chainThrown_12 : decode cX5_chainThrown 12 = .ok (.invokestatic 39, 3) := by decide +kernel
theorem dX5_chainThrown_15 : decode cX5_chainThrown 15 = .ok (.ifCond .ne 5, 3) := by decide +kernel
theorem dX5_chainThrown_18 : decode cX5_chainThrown 18 = .ok (.iconst 1, 1) := by decide +kernel
theorem dX5_chainThrown_19 : decode cX5_chainThrown 19 = .ok (.ireturn, 1) := by decide +kernel
theorem dX5_chainThrown_20 : decode cX5_chainThrown 20 = .ok (.aload_n 0, 1) := by decide +kernel
theorem dX5_chainThrown_21 : decode cX5_chainThrown 21 = .ok (.bipush 84, 2) := by decide +kernel
theorem dX5_chainThrown_23 : decode cX5_chainThrown 23 = .ok (.iload_n 1, 1) := by decide +kernel
theorem dX5_chainThrown_24 : decode cX5_chainThrown 24 = .ok (.invokevirtual 54, 3) := by decide +kernel
theorem dX5_chainThrown_27 : decode cX5_chainThrown 27 = .ok (.ifCond .lt 28, 3) := by decide +kernel
theorem dX5_chainThrown_30 : decode cX5_chainThrown 30 = .ok (.aload_n 0, 1) := by decide +kernel
theorem dX5_chainThrown_31 : decode cX5_chainThrown 31 = .ok (.bipush 70, 2) := by decide +kernel
theorem dX5_chainThrown_33 : decode cX5_chainThrown 33 = .ok (.iload_n 1, 1) := by decide +kernel
theorem dX5_chainThrown_34 : decode cX5_chainThrown 34 = .ok (.invokevirtual 54, 3) := by decide +kernel
theorem dX5_chainThrown_37 : decode cX5_chainThrown 37 = .ok (.iconst 2, 1) := by decide +kernel
theorem dX5_chainThrown_38 : decode cX5_chainThrown 38 = .ok (.if_icmp .eq 17, 3) := by decide +kernel
theorem dX5_chainThrown_41 : decode cX5_chainThrown 41 = .ok (.aload_n 0, 1) := by decide +kernel
theorem dX5_chainThrown_42 : decode cX5_chainThrown 42 = .ok (.bipush 84, 2) := by decide +kernel
theorem dX5_chainThrown_44 : decode cX5_chainThrown 44 = .ok (.iload_n 1, 1) := by decide +kernel
theorem dX5_chainThrown_45 : decode cX5_chainThrown 45 = .ok (.invokevirtual 54, 3) := by decide +kernel
theorem dX5_chainThrown_48 : decode cX5_chainThrown 48 = .ok (.bipush 6, 2) := by decide +kernel
theorem dX5_chainThrown_50 : decode cX5_chainThrown 50 = .ok (.idiv, 1) := by decide +kernel
theorem dX5_chainThrown_51 : decode cX5_chainThrown 51 = .ok (.iload_n 2, 1) := by decide +kernel
theorem dX5_chainThrown_52 : decode cX5_chainThrown 52 = .ok (.if_icmp .ne 7, 3) := by decide +kernel
theorem dX5_chainThrown_55 : decode cX5_chainThrown 55 = .ok (.iconst 2, 1) := by decide +kernel
theorem dX5_chainThrown_56 : decode cX5_chainThrown 56 = .ok (.goto 4, 3) := by decide +kernel
theorem dX5_chainThrown_59 : decode cX5_chainThrown 59 = .ok (.iconst 0, 1) := by decide +kernel
theorem dX5_chainThrown_60 : decode cX5_chainThrown 60 = .ok (.ireturn, 1) := by decide +kernel
theorem dX5_chainOf_0 : decode cX5_chainOf 0 = .ok (.iconst 1, 1) := by decide +kernel
theorem dX5_chainOf_1 : decode cX5_chainOf 1 = .ok (.iload_n 2, 1) := by decide +kernel
theorem dX5_chainOf_2 : decode cX5_chainOf 2 = .ok (.ishl, 1) := by decide +kernel
theorem dX5_chainOf_3 : decode cX5_chainOf 3 = .ok (.iconst 1, 1) := by decide +kernel
theorem dX5_chainOf_4 : decode cX5_chainOf 4 = .ok (.aload_n 0, 1) := by decide +kernel
theorem dX5_chainOf_5 : decode cX5_chainOf 5 = .ok (.bipush 84, 2) := by decide +kernel
theorem dX5_chainOf_7 : decode cX5_chainOf 7 = .ok (.iload_n 1, 1) := by decide +kernel
theorem dX5_chainOf_8 : decode cX5_chainOf 8 = .ok (.invokevirtual 54, 3) := by decide +kernel
theorem dX5_chainOf_11 : decode cX5_chainOf 11 = .ok (.bipush 6, 2) := by decide +kernel
theorem dX5_chainOf_13 : decode cX5_chainOf 13 = .ok (.idiv, 1) := by decide +kernel
theorem dX5_chainOf_14 : decode cX5_chainOf 14 = .ok (.ishl, 1) := by decide +kernel
theorem dX5_chainOf_15 : decode cX5_chainOf 15 = .ok (.ior, 1) := by decide +kernel
theorem dX5_chainOf_16 : decode cX5_chainOf 16 = .ok (.istore_n 3, 1) := by decide +kernel
theorem dX5_chainOf_17 : decode cX5_chainOf 17 = .ok (.iconst 1, 1) := by decide +kernel
theorem dX5_chainOf_18 : decode cX5_chainOf 18 = .ok (.iload_n 1, 1) := by decide +kernel
theorem dX5_chainOf_19 : decode cX5_chainOf 19 = .ok (.ishl, 1) := by decide +kernel
theorem dX5_chainOf_20 : decode cX5_chainOf 20 = .ok (.istore 4, 2) := by decide +kernel
theorem dX5_chainOf_22 : decode cX5_chainOf 22 = .ok (.iconst 0, 1) := by decide +kernel
theorem dX5_chainOf_23 : decode cX5_chainOf 23 = .ok (.istore 5, 2) := by decide +kernel
theorem dX5_chainOf_25 : decode cX5_chainOf 25 = .ok (.iload 5, 2) := by decide +kernel
theorem dX5_chainOf_27 : decode cX5_chainOf 27 = .ok (.bipush 14, 2) := by decide +kernel
theorem dX5_chainOf_29 : decode cX5_chainOf 29 = .ok (.if_icmp .ge 91, 3) := by decide +kernel
theorem dX5_chainOf_32 : decode cX5_chainOf 32 = .ok (.iconst 0, 1) := by decide +kernel
theorem dX5_chainOf_33 : decode cX5_chainOf 33 = .ok (.istore 6, 2) := by decide +kernel
theorem dX5_chainOf_35 : decode cX5_chainOf 35 = .ok (.iload 6, 2) := by decide +kernel
theorem dX5_chainOf_37 : decode cX5_chainOf 37 = .ok (.aload_n 0, 1) := by decide +kernel
theorem dX5_chainOf_38 : decode cX5_chainOf 38 = .ok (.invokevirtual 35, 3) := by decide +kernel
theorem dX5_chainOf_41 : decode cX5_chainOf 41 = .ok (.if_icmp .ge 73, 3) := by decide +kernel
theorem dX5_chainOf_44 : decode cX5_chainOf 44 = .ok (.iconst 0, 1) := by decide +kernel
theorem dX5_chainOf_45 : decode cX5_chainOf 45 = .ok (.istore 7, 2) := by decide +kernel
theorem dX5_chainOf_47 : decode cX5_chainOf 47 = .ok (.iload 7, 2) := by decide +kernel
theorem dX5_chainOf_49 : decode cX5_chainOf 49 = .ok (.aload_n 0, 1) := by decide +kernel
theorem dX5_chainOf_50 : decode cX5_chainOf 50 = .ok (.invokevirtual 35, 3) := by decide +kernel
theorem dX5_chainOf_53 : decode cX5_chainOf 53 = .ok (.if_icmp .ge 55, 3) := by decide +kernel
theorem dX5_chainOf_56 : decode cX5_chainOf 56 = .ok (.iload 4, 2) := by decide +kernel
theorem dX5_chainOf_58 : decode cX5_chainOf 58 = .ok (.iload 4, 2) := by decide +kernel
theorem dX5_chainOf_60 : decode cX5_chainOf 60 = .ok (.iload 6, 2) := by decide +kernel
theorem dX5_chainOf_62 : decode cX5_chainOf 62 = .ok (.ishr, 1) := by decide +kernel
theorem dX5_chainOf_63 : decode cX5_chainOf 63 = .ok (.iconst 1, 1) := by decide +kernel
theorem dX5_chainOf_64 : decode cX5_chainOf 64 = .ok (.iand, 1) := by decide +kernel
theorem dX5_chainOf_65 : decode cX5_chainOf 65 = .ok (.iconst 1, 1) := by decide +kernel
theorem dX5_chainOf_66 : decode cX5_chainOf 66 = .ok (.if_icmp .ne 32, 3) := by decide +kernel
theorem dX5_chainOf_69 : decode cX5_chainOf 69 = .ok (.aload_n 0, 1) := by decide +kernel
theorem dX5_chainOf_70 : decode cX5_chainOf 70 = .ok (.iload 7, 2) := by decide +kernel
theorem dX5_chainOf_72 : decode cX5_chainOf 72 = .ok (.invokevirtual 61, 3) := by decide +kernel
theorem dX5_chainOf_75 : decode cX5_chainOf 75 = .ok (.iload_n 3, 1) := by decide +kernel
theorem dX5_chainOf_76 : decode cX5_chainOf 76 = .ok (.iand, 1) := by decide +kernel
theorem dX5_chainOf_77 : decode cX5_chainOf 77 = .ok (.ifCond .eq 21, 3) := by decide +kernel
theorem dX5_chainOf_80 : decode cX5_chainOf 80 = .ok (.aload_n 0, 1) := by decide +kernel
theorem dX5_chainOf_81 : decode cX5_chainOf 81 = .ok (.iload 6, 2) := by decide +kernel
theorem dX5_chainOf_83 : decode cX5_chainOf 83 = .ok (.iload 7, 2) := by decide +kernel
theorem dX5_chainOf_85 : decode cX5_chainOf 85 = .ok (.invokevirtual 166, 3) := by decide +kernel
theorem dX5_chainOf_88 : decode cX5_chainOf 88 = .ok (.ifCond .eq 10, 3) := by decide +kernel
theorem dX5_chainOf_91 : decode cX5_chainOf 91 = .ok (.iconst 1, 1) := by decide +kernel
theorem dX5_chainOf_92 : decode cX5_chainOf 92 = .ok (.iload 7, 2) := by decide +kernel
theorem dX5_chainOf_94 : decode cX5_chainOf 94 = .ok (.ishl, 1) := by decide +kernel
theorem dX5_chainOf_95 : decode cX5_chainOf 95 = .ok (.goto 4, 3) := by decide +kernel
theorem dX5_chainOf_98 : decode cX5_chainOf 98 = .ok (.iconst 0, 1) := by decide +kernel
theorem dX5_chainOf_99 : decode cX5_chainOf 99 = .ok (.ior, 1) := by decide +kernel
theorem dX5_chainOf_100 : decode cX5_chainOf 100 = .ok (.istore 4, 2) := by decide +kernel
theorem dX5_chainOf_102 : decode cX5_chainOf 102 = .ok (.iinc 7 1, 3) := by decide +kernel
theorem dX5_chainOf_105 : decode cX5_chainOf 105 = .ok (.goto (-58), 3) := by decide +kernel
theorem dX5_chainOf_108 : decode cX5_chainOf 108 = .ok (.iinc 6 1, 3) := by decide +kernel
theorem dX5_chainOf_111 : decode cX5_chainOf 111 = .ok (.goto (-76), 3) := by decide +kernel
theorem dX5_chainOf_114 : decode cX5_chainOf 114 = .ok (.iinc 5 1, 3) := by decide +kernel
theorem dX5_chainOf_117 : decode cX5_chainOf 117 = .ok (.goto (-92), 3) := by decide +kernel
theorem dX5_chainOf_120 : decode cX5_chainOf 120 = .ok (.iload 4, 2) := by decide +kernel
theorem dX5_chainOf_122 : decode cX5_chainOf 122 = .ok (.ireturn, 1) := by decide +kernel
theorem dX5_chain_0 : decode cX5_chain 0 = .ok (.aload_n 0, 1) := by decide +kernel
theorem dX5_chain_1 : decode cX5_chain 1 = .ok (.aload_n 0, 1) := by decide +kernel
theorem dX5_chain_2 : decode cX5_chain 2 = .ok (.iload_n 1, 1) := by decide +kernel
theorem dX5_chain_3 : decode cX5_chain 3 = .ok (.iload_n 2, 1) := by decide +kernel
theorem dX5_chain_4 : decode cX5_chain 4 = .ok (.invokevirtual 169, 3) := by decide +kernel
theorem dX5_chain_7 : decode cX5_chain 7 = .ok (.putfield 1, 3) := by decide +kernel
theorem dX5_chain_10 : decode cX5_chain 10 = .ok (.aload_n 0, 1) := by decide +kernel
theorem dX5_chain_11 : decode cX5_chain 11 = .ok (.getfield 1, 3) := by decide +kernel
theorem dX5_chain_14 : decode cX5_chain 14 = .ok (.ifCond .ne 12, 3) := by decide +kernel
theorem dX5_chain_17 : decode cX5_chain 17 = .ok (.aload_n 0, 1) := by decide +kernel
theorem dX5_chain_18 : decode cX5_chain 18 = .ok (.iload_n 1, 1) := by decide +kernel
theorem dX5_chain_19 : decode cX5_chain 19 = .ok (.iload_n 2, 1) := by decide +kernel
theorem dX5_chain_20 : decode cX5_chain 20 = .ok (.invokevirtual 172, 3) := by decide +kernel
theorem dX5_chain_23 : decode cX5_chain 23 = .ok (.goto 4, 3) := by decide +kernel
theorem dX5_chain_26 : decode cX5_chain 26 = .ok (.iconst 0, 1) := by decide +kernel
theorem dX5_chain_27 : decode cX5_chain 27 = .ok (.ireturn, 1) := by decide +kernel
theorem dX5_canMove_0 : decode cX5_canMove 0 = .ok (.iconst 0, 1) := by decide +kernel
theorem dX5_canMove_1 : decode cX5_canMove 1 = .ok (.istore 4, 2) := by decide +kernel
theorem dX5_canMove_3 : decode cX5_canMove 3 = .ok (.iload 4, 2) := by decide +kernel
theorem dX5_canMove_5 : decode cX5_canMove 5 = .ok (.aload_n 0, 1) := by decide +kernel
theorem dX5_canMove_6 : decode cX5_canMove 6 = .ok (.invokevirtual 35, 3) := by decide +kernel
theorem dX5_canMove_9 : decode cX5_canMove 9 = .ok (.if_icmp .ge 91, 3) := by decide +kernel
theorem dX5_canMove_12 : decode cX5_canMove 12 = .ok (.iload_n 1, 1) := by decide +kernel
theorem dX5_canMove_13 : decode cX5_canMove 13 = .ok (.iload 4, 2) := by decide +kernel
theorem dX5_canMove_15 : decode cX5_canMove 15 = .ok (.ishr, 1) := by decide +kernel
theorem dX5_canMove_16 : decode cX5_canMove 16 = .ok (.iconst 1, 1) := by decide +kernel
theorem dX5_canMove_17 : decode cX5_canMove 17 = .ok (.iand, 1) := by decide +kernel
theorem dX5_canMove_18 : decode cX5_canMove 18 = .ok (.ifCond .ne 6, 3) := by decide +kernel
theorem dX5_canMove_21 : decode cX5_canMove 21 = .ok (.goto 73, 3) := by decide +kernel
theorem dX5_canMove_24 : decode cX5_canMove 24 = .ok (.aload_n 0, 1) := by decide +kernel
theorem dX5_canMove_25 : decode cX5_canMove 25 = .ok (.bipush 84, 2) := by decide +kernel
theorem dX5_canMove_27 : decode cX5_canMove 27 = .ok (.iload 4, 2) := by decide +kernel
theorem dX5_canMove_29 : decode cX5_canMove 29 = .ok (.invokevirtual 54, 3) := by decide +kernel
theorem dX5_canMove_32 : decode cX5_canMove 32 = .ok (.bipush 6, 2) := by decide +kernel
theorem dX5_canMove_34 : decode cX5_canMove 34 = .ok (.idiv, 1) := by decide +kernel
theorem dX5_canMove_35 : decode cX5_canMove 35 = .ok (.iload_n 2, 1) := by decide +kernel
theorem dX5_canMove_36 : decode cX5_canMove 36 = .ok (.if_icmp .ne 7, 3) := by decide +kernel
theorem dX5_canMove_39 : decode cX5_canMove 39 = .ok (.iload_n 3, 1) := by decide +kernel
theorem dX5_canMove_40 : decode cX5_canMove 40 = .ok (.goto 4, 3) := by decide +kernel
theorem dX5_canMove_43 : decode cX5_canMove 43 = .ok (.iload_n 2, 1) := by decide +kernel
theorem dX5_canMove_44 : decode cX5_canMove 44 = .ok (.istore 5, 2) := by decide +kernel
theorem dX5_canMove_46 : decode cX5_canMove 46 = .ok (.aload_n 0, 1) := by decide +kernel
theorem dX5_canMove_47 : decode cX5_canMove 47 = .ok (.bipush 70, 2) := by decide +kernel
theorem dX5_canMove_49 : decode cX5_canMove 49 = .ok (.iload 4, 2) := by decide +kernel
theorem dX5_canMove_51 : decode cX5_canMove 51 = .ok (.invokevirtual 54, 3) := by decide +kernel
theorem dX5_canMove_54 : decode cX5_canMove 54 = .ok (.iconst 2, 1) := by decide +kernel
theorem dX5_canMove_55 : decode cX5_canMove 55 = .ok (.if_icmp .eq 37, 3) := by decide +kernel
theorem dX5_canMove_58 : decode cX5_canMove 58 = .ok (.aload_n 0, 1) := by decide +kernel
theorem dX5_canMove_59 : decode cX5_canMove 59 = .ok (.bipush 98, 2) := by decide +kernel
theorem dX5_canMove_61 : decode cX5_canMove 61 = .ok (.iload 4, 2) := by decide +kernel
theorem dX5_canMove_63 : decode cX5_canMove 63 = .ok (.invokevirtual 54, 3) := by decide +kernel
theorem dX5_canMove_66 : decode cX5_canMove 66 = .ok (.iconst 1, 1) := by decide +kernel
theorem dX5_canMove_67 : decode cX5_canMove 67 = .ok (.if_icmp .eq 25, 3) := by decide +kernel
theorem dX5_canMove_70 : decode cX5_canMove 70 = .ok (.aload_n 0, 1) := by decide +kernel
theorem dX5_canMove_71 : decode cX5_canMove 71 = .ok (.bipush 18, 2) := by decide +kernel
theorem dX5_canMove_73 : decode cX5_canMove 73 = .ok (.aload_n 0, 1) := by decide +kernel
theorem dX5_canMove_74 : decode cX5_canMove 74 = .ok (.bipush 28, 2) := by decide +kernel
theorem dX5_canMove_76 : decode cX5_canMove 76 = .ok (.iload 4, 2) := by decide +kernel
theorem dX5_canMove_78 : decode cX5_canMove 78 = .ok (.invokevirtual 54, 3) := by decide +kernel
theorem dX5_canMove_81 : decode cX5_canMove 81 = .ok (.invokevirtual 54, 3) := by decide +kernel
theorem dX5_canMove_84 : decode cX5_canMove 84 = .ok (.iload 5, 2) := by decide +kernel
theorem dX5_canMove_86 : decode cX5_canMove 86 = .ok (.ishr, 1) := by decide +kernel
theorem dX5_canMove_87 : decode cX5_canMove 87 = .ok (.iconst 1, 1) := by decide +kernel
theorem dX5_canMove_88 : decode cX5_canMove 88 = .ok (.iand, 1) := by decide +kernel
theorem dX5_canMove_89 : decode cX5_canMove 89 = .ok (.ifCond .ne 5, 3) := by decide +kernel
theorem dX5_canMove_92 : decode cX5_canMove 92 = .ok (.iconst 0, 1) := by decide +kernel
theorem dX5_canMove_93 : decode cX5_canMove 93 = .ok (.ireturn, 1) := by decide +kernel
theorem dX5_canMove_94 : decode cX5_canMove 94 = .ok (.iinc 4 1, 3) := by decide +kernel
theorem dX5_canMove_97 : decode cX5_canMove 97 = .ok (.goto (-94), 3) := by decide +kernel
theorem dX5_canMove_100 : decode cX5_canMove 100 = .ok (.iconst 1, 1) := by decide +kernel
theorem dX5_canMove_101 : decode cX5_canMove 101 = .ok (.ireturn, 1) := by decide +kernel
theorem dX5_roomsIn_0 : decode cX5_roomsIn 0 = .ok (.iconst 0, 1) := by decide +kernel
theorem dX5_roomsIn_1 : decode cX5_roomsIn 1 = .ok (.istore_n 2, 1) := by decide +kernel
theorem dX5_roomsIn_2 : decode cX5_roomsIn 2 = .ok (.iconst 0, 1) := by decide +kernel
theorem dX5_roomsIn_3 : decode cX5_roomsIn 3 = .ok (.istore_n 3, 1) := by decide +kernel
theorem dX5_roomsIn_4 : decode cX5_roomsIn 4 = .ok (.iload_n 3, 1) := by decide +kernel
theorem dX5_roomsIn_5 : decode cX5_roomsIn 5 = .ok (.aload_n 0, 1) := by decide +kernel
theorem dX5_roomsIn_6 : decode cX5_roomsIn 6 = .ok (.invokevirtual 35, 3) := by decide +kernel
theorem dX5_roomsIn_9 : decode cX5_roomsIn 9 = .ok (.if_icmp .ge 41, 3) := by decide +kernel
theorem dX5_roomsIn_12 : decode cX5_roomsIn 12 = .ok (.iload_n 2, 1) := by decide +kernel
theorem dX5_roomsIn_13 : decode cX5_roomsIn 13 = .ok (.aload_n 0, 1) := by decide +kernel
theorem dX5_roomsIn_14 : decode cX5_roomsIn 14 = .ok (.iload_n 3, 1) := by decide +kernel
theorem dX5_roomsIn_15 : decode cX5_roomsIn 15 = .ok (.invokevirtual 61, 3) := by decide +kernel
theorem dX5_roomsIn_18 : decode cX5_roomsIn 18 = .ok (.iload_n 1, 1) := by decide +kernel
theorem dX5_roomsIn_19 : decode cX5_roomsIn 19 = .ok (.ishr, 1) := by decide +kernel
theorem dX5_roomsIn_20 : decode cX5_roomsIn 20 = .ok (.iconst 1, 1) := by decide +kernel
theorem dX5_roomsIn_21 : decode cX5_roomsIn 21 = .ok (.iand, 1) := by decide +kernel
theorem dX5_roomsIn_22 : decode cX5_roomsIn 22 = .ok (.iconst 1, 1) := by decide +kernel
theorem dX5_roomsIn_23 : decode cX5_roomsIn 23 = .ok (.if_icmp .ne 18, 3) := by decide +kernel
theorem dX5_roomsIn_26 : decode cX5_roomsIn 26 = .ok (.iconst 1, 1) := by decide +kernel
theorem dX5_roomsIn_27 : decode cX5_roomsIn 27 = .ok (.aload_n 0, 1) := by decide +kernel
theorem dX5_roomsIn_28 : decode cX5_roomsIn 28 = .ok (.bipush 84, 2) := by decide +kernel
theorem dX5_roomsIn_30 : decode cX5_roomsIn 30 = .ok (.iload_n 3, 1) := by decide +kernel
theorem dX5_roomsIn_31 : decode cX5_roomsIn 31 = .ok (.invokevirtual 54, 3) := by decide +kernel
theorem dX5_roomsIn_34 : decode cX5_roomsIn 34 = .ok (.bipush 6, 2) := by decide +kernel
theorem dX5_roomsIn_36 : decode cX5_roomsIn 36 = .ok (.irem, 1) := by decide +kernel
theorem dX5_roomsIn_37 : decode cX5_roomsIn 37 = .ok (.ishl, 1) := by decide +kernel
theorem dX5_roomsIn_38 : decode cX5_roomsIn 38 = .ok (.goto 4, 3) := by decide +kernel
theorem dX5_roomsIn_41 : decode cX5_roomsIn 41 = .ok (.iconst 0, 1) := by decide +kernel
theorem dX5_roomsIn_42 : decode cX5_roomsIn 42 = .ok (.ior, 1) := by decide +kernel
theorem dX5_roomsIn_43 : decode cX5_roomsIn 43 = .ok (.istore_n 2, 1) := by decide +kernel
theorem dX5_roomsIn_44 : decode cX5_roomsIn 44 = .ok (.iinc 3 1, 3) := by decide +kernel
theorem dX5_roomsIn_47 : decode cX5_roomsIn 47 = .ok (.goto (-43), 3) := by decide +kernel
theorem dX5_roomsIn_50 : decode cX5_roomsIn 50 = .ok (.iload_n 2, 1) := by decide +kernel
theorem dX5_roomsIn_51 : decode cX5_roomsIn 51 = .ok (.ireturn, 1) := by decide +kernel
theorem dX5_settles_0 : decode cX5_settles 0 = .ok (.iload_n 1, 1) := by decide +kernel
theorem dX5_settles_1 : decode cX5_settles 1 = .ok (.ifCond .ne 5, 3) := by decide +kernel
theorem dX5_settles_4 : decode cX5_settles 4 = .ok (.iconst 1, 1) := by decide +kernel
theorem dX5_settles_5 : decode cX5_settles 5 = .ok (.ireturn, 1) := by decide +kernel
theorem dX5_settles_6 : decode cX5_settles 6 = .ok (.iload_n 1, 1) := by decide +kernel
theorem dX5_settles_7 : decode cX5_settles 7 = .ok (.invokestatic 142, 3) := by decide +kernel
theorem dX5_settles_10 : decode cX5_settles 10 = .ok (.istore_n 3, 1) := by decide +kernel
theorem dX5_settles_11 : decode cX5_settles 11 = .ok (.iconst 0, 1) := by decide +kernel
theorem dX5_settles_12 : decode cX5_settles 12 = .ok (.istore 4, 2) := by decide +kernel
theorem dX5_settles_14 : decode cX5_settles 14 = .ok (.iload 4, 2) := by decide +kernel
theorem dX5_settles_16 : decode cX5_settles 16 = .ok (.bipush 6, 2) := by decide +kernel
theorem dX5_settles_18 : decode cX5_settles 18 = .ok (.if_icmp .ge 103, 3) := by decide +kernel
theorem dX5_settles_21 : decode cX5_settles 21 = .ok (.aload_n 0, 1) := by decide +kernel
theorem dX5_settles_22 : decode cX5_settles 22 = .ok (.iload_n 2, 1) := by decide +kernel
theorem dX5_settles_23 : decode cX5_settles 23 = .ok (.invokevirtual 175, 3) := by decide +kernel
theorem dX5_settles_26 : decode cX5_settles 26 = .ok (.iload 4, 2) := by decide +kernel
theorem dX5_settles_28 : decode cX5_settles 28 = .ok (.ishr, 1) := by decide +kernel
theorem dX5_settles_29 : decode cX5_settles 29 = .ok (.iconst 1, 1) := by decide +kernel
theorem dX5_settles_30 : decode cX5_settles 30 = .ok (.iand, 1) := by decide +kernel
theorem dX5_settles_31 : decode cX5_settles 31 = .ok (.iconst 1, 1) := by decide +kernel
theorem dX5_settles_32 : decode cX5_settles 32 = .ok (.if_icmp .eq 83, 3) := by decide +kernel
theorem dX5_settles_35 : decode cX5_settles 35 = .ok (.aload_n 0, 1) := by decide +kernel
theorem dX5_settles_36 : decode cX5_settles 36 = .ok (.iconst 0, 1) := by decide +kernel
theorem dX5_settles_37 : decode cX5_settles 37 = .ok (.iload 4, 2) := by decide +kernel
theorem dX5_settles_39 : decode cX5_settles 39 = .ok (.invokevirtual 54, 3) := by decide +kernel
theorem dX5_settles_42 : decode cX5_settles 42 = .ok (.aload_n 0, 1) := by decide +kernel
theorem dX5_settles_43 : decode cX5_settles 43 = .ok (.aload_n 0, 1) := by decide +kernel
theorem dX5_settles_44 : decode cX5_settles 44 = .ok (.bipush 42, 2) := by decide +kernel
theorem dX5_settles_46 : decode cX5_settles 46 = .ok (.iload_n 3, 1) := by decide +kernel
theorem dX5_settles_47 : decode cX5_settles 47 = .ok (.invokevirtual 54, 3) := by decide +kernel
theorem dX5_settles_50 : decode cX5_settles 50 = .ok (.invokevirtual 69, 3) := by decide +kernel
theorem dX5_settles_53 : decode cX5_settles 53 = .ok (.if_icmp .lt 62, 3) := by decide +kernel
theorem dX5_settles_56 : decode cX5_settles 56 = .ok (.aload_n 0, 1) := by decide +kernel
theorem dX5_settles_57 : decode cX5_settles 57 = .ok (.bipush 56, 2) := by decide +kernel
theorem dX5_settles_59 : decode cX5_settles 59 = .ok (.iload_n 3, 1) := by decide +kernel
theorem dX5_settles_60 : decode cX5_settles 60 = .ok (.invokevirtual 54, 3) := by decide +kernel
theorem dX5_settles_63 : decode cX5_settles 63 = .ok (.aload_n 0, 1) := by decide +kernel
theorem dX5_settles_64 : decode cX5_settles 64 = .ok (.bipush 6, 2) := by decide +kernel
theorem dX5_settles_66 : decode cX5_settles 66 = .ok (.iload 4, 2) := by decide +kernel
theorem dX5_settles_68 : decode cX5_settles 68 = .ok (.invokevirtual 54, 3) := by decide +kernel
theorem dX5_settles_71 : decode cX5_settles 71 = .ok (.iconst (-1), 1) := by decide +kernel
theorem dX5_settles_72 : decode cX5_settles 72 = .ok (.ixor, 1) := by decide +kernel
theorem dX5_settles_73 : decode cX5_settles 73 = .ok (.iand, 1) := by decide +kernel
theorem dX5_settles_74 : decode cX5_settles 74 = .ok (.ifCond .eq 6, 3) := by decide +kernel
theorem dX5_settles_77 : decode cX5_settles 77 = .ok (.goto 38, 3) := by decide +kernel
theorem dX5_settles_80 : decode cX5_settles 80 = .ok (.aload_n 0, 1) := by decide +kernel
theorem dX5_settles_81 : decode cX5_settles 81 = .ok (.iload_n 3, 1) := by decide +kernel
theorem dX5_settles_82 : decode cX5_settles 82 = .ok (.bipush 6, 2) := by decide +kernel
theorem dX5_settles_84 : decode cX5_settles 84 = .ok (.iload_n 2, 1) := by decide +kernel
theorem dX5_settles_85 : decode cX5_settles 85 = .ok (.imul, 1) := by decide +kernel
theorem dX5_settles_86 : decode cX5_settles 86 = .ok (.iload 4, 2) := by decide +kernel
theorem dX5_settles_88 : decode cX5_settles 88 = .ok (.iadd, 1) := by decide +kernel
theorem dX5_settles_89 : decode cX5_settles 89 = .ok (.invokevirtual 132, 3) := by decide +kernel
theorem dX5_settles_92 : decode cX5_settles 92 = .ok (.aload_n 0, 1) := by decide +kernel
theorem dX5_settles_93 : decode cX5_settles 93 = .ok (.iload_n 1, 1) := by decide +kernel
theorem dX5_settles_94 : decode cX5_settles 94 = .ok (.iconst 1, 1) := by decide +kernel
theorem dX5_settles_95 : decode cX5_settles 95 = .ok (.iload_n 3, 1) := by decide +kernel
theorem dX5_settles_96 : decode cX5_settles 96 = .ok (.ishl, 1) := by decide +kernel
theorem dX5_settles_97 : decode cX5_settles 97 = .ok (.iconst (-1), 1) := by decide +kernel
theorem dX5_settles_98 : decode cX5_settles 98 = .ok (.ixor, 1) := by decide +kernel
theorem dX5_settles_99 : decode cX5_settles 99 = .ok (.iand, 1) := by decide +kernel
theorem dX5_settles_100 : decode cX5_settles 100 = .ok (.iload_n 2, 1) := by decide +kernel
theorem dX5_settles_101 : decode cX5_settles 101 = .ok (.invokevirtual 178, 3) := by decide +kernel
theorem dX5_settles_104 : decode cX5_settles 104 = .ok (.ifCond .eq 5, 3) := by decide +kernel
theorem dX5_settles_107 : decode cX5_settles 107 = .ok (.iconst 1, 1) := by decide +kernel
theorem dX5_settles_108 : decode cX5_settles 108 = .ok (.ireturn, 1) := by decide +kernel
theorem dX5_settles_109 : decode cX5_settles 109 = .ok (.aload_n 0, 1) := by decide +kernel
theorem dX5_settles_110 : decode cX5_settles 110 = .ok (.iload_n 3, 1) := by decide +kernel
theorem dX5_settles_111 : decode cX5_settles 111 = .ok (.iconst (-1), 1) := by decide +kernel
theorem dX5_settles_112 : decode cX5_settles 112 = .ok (.invokevirtual 132, 3) := by decide +kernel
theorem dX5_settles_115 : decode cX5_settles 115 = .ok (.iinc 4 1, 3) := by decide +kernel
theorem dX5_settles_118 : decode cX5_settles 118 = .ok (.goto (-104), 3) := by decide +kernel
theorem dX5_settles_121 : decode cX5_settles 121 = .ok (.iconst 0, 1) := by decide +kernel
theorem dX5_settles_122 : decode cX5_settles 122 = .ok (.ireturn, 1) := by decide +kernel
theorem dX5_exchange_0 : decode cX5_exchange 0 = .ok (.aload_n 0, 1) := by decide +kernel
theorem dX5_exchange_1 : decode cX5_exchange 1 = .ok (.aload_n 0, 1) := by decide +kernel
theorem dX5_exchange_2 : decode cX5_exchange 2 = .ok (.iload_n 1, 1) := by decide +kernel
theorem dX5_exchange_3 : decode cX5_exchange 3 = .ok (.iload_n 2, 1) := by decide +kernel
theorem dX5_exchange_4 : decode cX5_exchange 4 = .ok (.invokevirtual 169, 3) := by decide +kernel
theorem dX5_exchange_7 : decode cX5_exchange 7 = .ok (.putfield 1, 3) := by decide +kernel
theorem dX5_exchange_10 : decode cX5_exchange 10 = .ok (.aload_n 0, 1) := by decide +kernel
theorem dX5_exchange_11 : decode cX5_exchange 11 = .ok (.getfield 1, 3) := by decide +kernel
theorem dX5_exchange_14 : decode cX5_exchange 14 = .ok (.ifCond .eq 5, 3) := by decide +kernel
theorem dX5_exchange_17 : decode cX5_exchange 17 = .ok (.iconst 0, 1) := by decide +kernel
theorem dX5_exchange_18 : decode cX5_exchange 18 = .ok (.ireturn, 1) := by decide +kernel
theorem dX5_exchange_19 : decode cX5_exchange 19 = .ok (.aload_n 0, 1) := by decide +kernel
theorem dX5_exchange_20 : decode cX5_exchange 20 = .ok (.bipush 84, 2) := by decide +kernel
theorem dX5_exchange_22 : decode cX5_exchange 22 = .ok (.iload_n 1, 1) := by decide +kernel
theorem dX5_exchange_23 : decode cX5_exchange 23 = .ok (.invokevirtual 54, 3) := by decide +kernel
theorem dX5_exchange_26 : decode cX5_exchange 26 = .ok (.bipush 6, 2) := by decide +kernel
theorem dX5_exchange_28 : decode cX5_exchange 28 = .ok (.idiv, 1) := by decide +kernel
theorem dX5_exchange_29 : decode cX5_exchange 29 = .ok (.istore_n 3, 1) := by decide +kernel
theorem dX5_exchange_30 : decode cX5_exchange 30 = .ok (.aload_n 0, 1) := by decide +kernel
theorem dX5_exchange_31 : decode cX5_exchange 31 = .ok (.iload_n 1, 1) := by decide +kernel
theorem dX5_exchange_32 : decode cX5_exchange 32 = .ok (.iload_n 2, 1) := by decide +kernel
theorem dX5_exchange_33 : decode cX5_exchange 33 = .ok (.invokevirtual 172, 3) := by decide +kernel
theorem dX5_exchange_36 : decode cX5_exchange 36 = .ok (.istore 4, 2) := by decide +kernel
theorem dX5_exchange_38 : decode cX5_exchange 38 = .ok (.aload_n 0, 1) := by decide +kernel
theorem dX5_exchange_39 : decode cX5_exchange 39 = .ok (.iload 4, 2) := by decide +kernel
theorem dX5_exchange_41 : decode cX5_exchange 41 = .ok (.iload_n 3, 1) := by decide +kernel
theorem dX5_exchange_42 : decode cX5_exchange 42 = .ok (.iload_n 2, 1) := by decide +kernel
theorem dX5_exchange_43 : decode cX5_exchange 43 = .ok (.invokevirtual 181, 3) := by decide +kernel
theorem dX5_exchange_46 : decode cX5_exchange 46 = .ok (.ifCond .ne 10, 3) := by decide +kernel
theorem dX5_exchange_49 : decode cX5_exchange 49 = .ok (.aload_n 0, 1) := by decide +kernel
theorem dX5_exchange_50 : decode cX5_exchange 50 = .ok (.iconst 3, 1) := by decide +kernel
theorem dX5_exchange_51 : decode cX5_exchange 51 = .ok (.putfield 1, 3) := by decide +kernel
theorem dX5_exchange_54 : decode cX5_exchange 54 = .ok (.iconst 0, 1) := by decide +kernel
theorem dX5_exchange_55 : decode cX5_exchange 55 = .ok (.ireturn, 1) := by decide +kernel
theorem dX5_exchange_56 : decode cX5_exchange 56 = .ok (.iconst 0, 1) := by decide +kernel
theorem dX5_exchange_57 : decode cX5_exchange 57 = .ok (.istore 5, 2) := by decide +kernel
theorem dX5_exchange_59 : decode cX5_exchange 59 = .ok (.iconst 0, 1) := by decide +kernel
theorem dX5_exchange_60 : decode cX5_exchange 60 = .ok (.istore 6, 2) := by decide +kernel
theorem dX5_exchange_62 : decode cX5_exchange 62 = .ok (.iload 6, 2) := by decide +kernel
theorem dX5_exchange_64 : decode cX5_exchange 64 = .ok (.aload_n 0, 1) := by decide +kernel
theorem dX5_exchange_65 : decode cX5_exchange 65 = .ok (.invokevirtual 35, 3) := by decide +kernel
theorem dX5_exchange_68 : decode cX5_exchange 68 = .ok (.if_icmp .ge 65, 3) := by decide +kernel
theorem dX5_exchange_71 : decode cX5_exchange 71 = .ok (.aload_n 0, 1) := by decide +kernel
theorem dX5_exchange_72 : decode cX5_exchange 72 = .ok (.getfield 26, 3) := by decide +kernel
theorem dX5_exchange_75 : decode cX5_exchange 75 = .ok (.iload 6, 2) := by decide +kernel
theorem dX5_exchange_77 : decode cX5_exchange 77 = .ok (.aload_n 0, 1) := by decide +kernel
theorem dX5_exchange_78 : decode cX5_exchange 78 = .ok (.bipush 84, 2) := by decide +kernel
theorem dX5_exchange_80 : decode cX5_exchange 80 = .ok (.iload 6, 2) := by decide +kernel
theorem dX5_exchange_82 : decode cX5_exchange 82 = .ok (.invokevirtual 54, 3) := by decide +kernel
theorem dX5_exchange_85 : decode cX5_exchange 85 = .ok (.iastore, 1) := by decide +kernel
theorem dX5_exchange_86 : decode cX5_exchange 86 = .ok (.iload 4, 2) := by decide +kernel
theorem dX5_exchange_88 : decode cX5_exchange 88 = .ok (.iload 6, 2) := by decide +kernel
theorem dX5_exchange_90 : decode cX5_exchange 90 = .ok (.ishr, 1) := by decide +kernel
theorem dX5_exchange_91 : decode cX5_exchange 91 = .ok (.iconst 1, 1) := by decide +kernel
theorem dX5_exchange_92 : decode cX5_exchange 92 = .ok (.iand, 1) := by decide +kernel
theorem dX5_exchange_93 : decode cX5_exchange 93 = .ok (.ifCond .ne 6, 3) := by decide +kernel
theorem dX5_exchange_96 : decode cX5_exchange 96 = .ok (.goto 31, 3) := by decide +kernel
theorem dX5_exchange_99 : decode cX5_exchange 99 = .ok (.iload 5, 2) := by decide +kernel
theorem dX5_exchange_101 : decode cX5_exchange 101 = .ok (.aload_n 0, 1) := by decide +kernel
theorem dX5_exchange_102 : decode cX5_exchange 102 = .ok (.bipush 84, 2) := by decide +kernel
theorem dX5_exchange_104 : decode cX5_exchange 104 = .ok (.iload 6, 2) := by decide +kernel
theorem dX5_exchange_106 : decode cX5_exchange 106 = .ok (.invokevirtual 54, 3) := by decide +kernel
theorem dX5_exchange_109 : decode cX5_exchange 109 = .ok (.bipush 6, 2) := by decide +kernel
theorem dX5_exchange_111 : decode cX5_exchange 111 = .ok (.idiv, 1) := by decide +kernel
theorem dX5_exchange_112 : decode cX5_exchange 112 = .ok (.iload_n 2, 1) := by decide +kernel
theorem dX5_exchange_113 : decode cX5_exchange 113 = .ok (.if_icmp .ne 10, 3) := by decide +kernel
theorem dX5_exchange_116 : decode cX5_exchange 116 = .ok (.iconst 1, 1) := by decide +kernel
theorem dX5_exchange_117 : decode cX5_exchange 117 = .ok (.iload 6, 2) := by decide +kernel
theorem dX5_exchange_119 : decode cX5_exchange 119 = .ok (.ishl, 1) := by decide +kernel
theorem dX5_exchange_120 : decode cX5_exchange 120 = .ok (.goto 4, 3) := by decide +kernel
theorem dX5_exchange_123 : decode cX5_exchange 123 = .ok (.iconst 0, 1) := by decide +kernel
theorem dX5_exchange_124 : decode cX5_exchange 124 = .ok (.ior, 1) := by decide +kernel
theorem dX5_exchange_125 : decode cX5_exchange 125 = .ok (.istore 5, 2) := by decide +kernel
theorem dX5_exchange_127 : decode cX5_exchange 127 = .ok (.iinc 6 1, 3) := by decide +kernel
theorem dX5_exchange_130 : decode cX5_exchange 130 = .ok (.goto (-68), 3) := by decide +kernel
theorem dX5_exchange_133 : decode cX5_exchange 133 = .ok (.aload_n 0, 1) := by decide +kernel
theorem dX5_exchange_134 : decode cX5_exchange 134 = .ok (.iload 4, 2) := by decide +kernel
theorem dX5_exchange_136 : decode cX5_exchange 136 = .ok (.iload 5, 2) := by decide +kernel
theorem dX5_exchange_138 : decode cX5_exchange 138 = .ok (.iload_n 3, 1) := by decide +kernel
theorem dX5_exchange_139 : decode cX5_exchange 139 = .ok (.iload_n 2, 1) := by decide +kernel
theorem dX5_exchange_140 : decode cX5_exchange 140 = .ok (.invokevirtual 184, 3) := by decide +kernel
theorem dX5_exchange_143 : decode cX5_exchange 143 = .ok (.istore 6, 2) := by decide +kernel
theorem dX5_exchange_145 : decode cX5_exchange 145 = .ok (.iconst 0, 1) := by decide +kernel
theorem dX5_exchange_146 : decode cX5_exchange 146 = .ok (.istore 7, 2) := by decide +kernel
theorem dX5_exchange_148 : decode cX5_exchange 148 = .ok (.iload 7, 2) := by decide +kernel
theorem dX5_exchange_150 : decode cX5_exchange 150 = .ok (.aload_n 0, 1) := by decide +kernel
theorem dX5_exchange_151 : decode cX5_exchange 151 = .ok (.invokevirtual 35, 3) := by decide +kernel
theorem dX5_exchange_154 : decode cX5_exchange 154 = .ok (.if_icmp .ge 24, 3) := by decide +kernel
theorem dX5_exchange_157 : decode cX5_exchange 157 = .ok (.aload_n 0, 1) := by decide +kernel
theorem dX5_exchange_158 : decode cX5_exchange 158 = .ok (.getfield 29, 3) := by decide +kernel
theorem dX5_exchange_161 : decode cX5_exchange 161 = .ok (.iload 7, 2) := by decide +kernel
theorem dX5_exchange_163 : decode cX5_exchange 163 = .ok (.aload_n 0, 1) := by decide +kernel
theorem dX5_exchange_164 : decode cX5_exchange 164 = .ok (.bipush 84, 2) := by decide +kernel
theorem dX5_exchange_166 : decode cX5_exchange 166 = .ok (.iload 7, 2) := by decide +kernel
theorem dX5_exchange_168 : decode cX5_exchange 168 = .ok (.invokevirtual 54, 3) := by decide +kernel
theorem dX5_exchange_171 : decode cX5_exchange 171 = .ok (.iastore, 1) := by decide +kernel
theorem dX5_exchange_172 : decode cX5_exchange 172 = .ok (.iinc 7 1, 3) := by decide +kernel
theorem dX5_exchange_175 : decode cX5_exchange 175 = .ok (.goto (-27), 3) := by decide +kernel
theorem dX5_exchange_178 : decode cX5_exchange 178 = .ok (.iconst 0, 1) := by decide +kernel
theorem dX5_exchange_179 : decode cX5_exchange 179 = .ok (.istore 7, 2) := by decide +kernel
theorem dX5_exchange_181 : decode cX5_exchange 181 = .ok (.iload 7, 2) := by decide +kernel
theorem dX5_exchange_183 : decode cX5_exchange 183 = .ok (.aload_n 0, 1) := by decide +kernel
theorem dX5_exchange_184 : decode cX5_exchange 184 = .ok (.invokevirtual 35, 3) := by decide +kernel
theorem dX5_exchange_187 : decode cX5_exchange 187 = .ok (.if_icmp .ge 22, 3) := by decide +kernel
theorem dX5_exchange_190 : decode cX5_exchange 190 = .ok (.aload_n 0, 1) := by decide +kernel
theorem dX5_exchange_191 : decode cX5_exchange 191 = .ok (.iload 7, 2) := by decide +kernel
theorem dX5_exchange_193 : decode cX5_exchange 193 = .ok (.aload_n 0, 1) := by decide +kernel
theorem dX5_exchange_194 : decode cX5_exchange 194 = .ok (.getfield 26, 3) := by decide +kernel
theorem dX5_exchange_197 : decode cX5_exchange 197 = .ok (.iload 7, 2) := by decide +kernel
theorem dX5_exchange_199 : decode cX5_exchange 199 = .ok (.iaload, 1) := by decide +kernel
theorem dX5_exchange_200 : decode cX5_exchange 200 = .ok (.invokevirtual 132, 3) := by decide +kernel
theorem dX5_exchange_203 : decode cX5_exchange 203 = .ok (.iinc 7 1, 3) := by decide +kernel
theorem dX5_exchange_206 : decode cX5_exchange 206 = .ok (.goto (-25), 3) := by decide +kernel
theorem dX5_exchange_209 : decode cX5_exchange 209 = .ok (.iload 6, 2) := by decide +kernel
theorem dX5_exchange_211 : decode cX5_exchange 211 = .ok (.ifCond .ne 10, 3) := by decide +kernel
theorem dX5_exchange_214 : decode cX5_exchange 214 = .ok (.aload_n 0, 1) := by decide +kernel
theorem dX5_exchange_215 : decode cX5_exchange 215 = .ok (.iconst 3, 1) := by decide +kernel
theorem dX5_exchange_216 : decode cX5_exchange 216 = .ok (.putfield 1, 3) := by decide +kernel
theorem dX5_exchange_219 : decode cX5_exchange 219 = .ok (.iconst 0, 1) := by decide +kernel
theorem dX5_exchange_220 : decode cX5_exchange 220 = .ok (.ireturn, 1) := by decide +kernel
theorem dX5_exchange_221 : decode cX5_exchange 221 = .ok (.aload_n 0, 1) := by decide +kernel
theorem dX5_exchange_222 : decode cX5_exchange 222 = .ok (.invokevirtual 83, 3) := by decide +kernel
theorem dX5_exchange_225 : decode cX5_exchange 225 = .ok (.iconst 0, 1) := by decide +kernel
theorem dX5_exchange_226 : decode cX5_exchange 226 = .ok (.istore 7, 2) := by decide +kernel
theorem dX5_exchange_228 : decode cX5_exchange 228 = .ok (.iload 7, 2) := by decide +kernel
theorem dX5_exchange_230 : decode cX5_exchange 230 = .ok (.aload_n 0, 1) := by decide +kernel
theorem dX5_exchange_231 : decode cX5_exchange 231 = .ok (.invokevirtual 35, 3) := by decide +kernel
theorem dX5_exchange_234 : decode cX5_exchange 234 = .ok (.if_icmp .ge 22, 3) := by decide +kernel
theorem dX5_exchange_237 : decode cX5_exchange 237 = .ok (.aload_n 0, 1) := by decide +kernel
theorem dX5_exchange_238 : decode cX5_exchange 238 = .ok (.iload 7, 2) := by decide +kernel
theorem dX5_exchange_240 : decode cX5_exchange 240 = .ok (.aload_n 0, 1) := by decide +kernel
theorem dX5_exchange_241 : decode cX5_exchange 241 = .ok (.getfield 29, 3) := by decide +kernel
theorem dX5_exchange_244 : decode cX5_exchange 244 = .ok (.iload 7, 2) := by decide +kernel
theorem dX5_exchange_246 : decode cX5_exchange 246 = .ok (.iaload, 1) := by decide +kernel
theorem dX5_exchange_247 : decode cX5_exchange 247 = .ok (.invokevirtual 132, 3) := by decide +kernel
theorem dX5_exchange_250 : decode cX5_exchange 250 = .ok (.iinc 7 1, 3) := by decide +kernel
theorem dX5_exchange_253 : decode cX5_exchange 253 = .ok (.goto (-25), 3) := by decide +kernel
theorem dX5_exchange_256 : decode cX5_exchange 256 = .ok (.iload 4, 2) := by decide +kernel
theorem dX5_exchange_258 : decode cX5_exchange 258 = .ok (.invokestatic 148, 3) := by decide +kernel
theorem dX5_exchange_261 : decode cX5_exchange 261 = .ok (.ireturn, 1) := by decide +kernel
theorem dX5_settlesBoth_0 : decode cX5_settlesBoth 0 = .ok (.iconst 0, 1) := by decide +kernel
theorem dX5_settlesBoth_1 : decode cX5_settlesBoth 1 = .ok (.istore 5, 2) := by decide +kernel
theorem dX5_settlesBoth_3 : decode cX5_settlesBoth 3 = .ok (.iload 5, 2) := by decide +kernel
theorem dX5_settlesBoth_5 : decode cX5_settlesBoth 5 = .ok (.aload_n 0, 1) := by decide +kernel
theorem dX5_settlesBoth_6 : decode cX5_settlesBoth 6 = .ok (.invokevirtual 35, 3) := by decide +kernel
theorem dX5_settlesBoth_9 : decode cX5_settlesBoth 9 = .ok (.if_icmp .ge 26, 3) := by decide +kernel
theorem dX5_settlesBoth_12 : decode cX5_settlesBoth 12 = .ok (.iload_n 1, 1) := by decide +kernel
theorem dX5_settlesBoth_13 : decode cX5_settlesBoth 13 = .ok (.iload 5, 2) := by decide +kernel
theorem dX5_settlesBoth_15 : decode cX5_settlesBoth 15 = .ok (.ishr, 1) := by decide +kernel
theorem dX5_settlesBoth_16 : decode cX5_settlesBoth 16 = .ok (.iconst 1, 1) := by decide +kernel
theorem dX5_settlesBoth_17 : decode cX5_settlesBoth 17 = .ok (.iand, 1) := by decide +kernel
theorem dX5_settlesBoth_18 : decode cX5_settlesBoth 18 = .ok (.iconst 1, 1) := by decide +kernel
theorem dX5_settlesBoth_19 : decode cX5_settlesBoth 19 = .ok (.if_icmp .ne 10, 3) := by decide +kernel
theorem dX5_settlesBoth_22 : decode cX5_settlesBoth 22 = .ok (.aload_n 0, 1) := by decide +kernel
theorem dX5_settlesBoth_23 : decode cX5_settlesBoth 23 = .ok (.iload 5, 2) := by decide +kernel
theorem dX5_settlesBoth_25 : decode cX5_settlesBoth 25 = .ok (.iconst (-1), 1) := by decide +kernel
theorem dX5_settlesBoth_26 : decode cX5_settlesBoth 26 = .ok (.invokevirtual 132, 3) := by decide +kernel
theorem dX5_settlesBoth_29 : decode cX5_settlesBoth 29 = .ok (.iinc 5 1, 3) := by decide +kernel
theorem dX5_settlesBoth_32 : decode cX5_settlesBoth 32 = .ok (.goto (-29), 3) := by decide +kernel
theorem dX5_settlesBoth_35 : decode cX5_settlesBoth 35 = .ok (.aload_n 0, 1) := by decide +kernel
theorem dX5_settlesBoth_36 : decode cX5_settlesBoth 36 = .ok (.iload_n 2, 1) := by decide +kernel
theorem dX5_settlesBoth_37 : decode cX5_settlesBoth 37 = .ok (.iload_n 3, 1) := by decide +kernel
theorem dX5_settlesBoth_38 : decode cX5_settlesBoth 38 = .ok (.invokevirtual 178, 3) := by decide +kernel
theorem dX5_settlesBoth_41 : decode cX5_settlesBoth 41 = .ok (.ifCond .eq 21, 3) := by decide +kernel
theorem dX5_settlesBoth_44 : decode cX5_settlesBoth 44 = .ok (.aload_n 0, 1) := by decide +kernel
theorem dX5_settlesBoth_45 : decode cX5_settlesBoth 45 = .ok (.iload_n 1, 1) := by decide +kernel
theorem dX5_settlesBoth_46 : decode cX5_settlesBoth 46 = .ok (.iload_n 2, 1) := by decide +kernel
theorem dX5_settlesBoth_47 : decode cX5_settlesBoth 47 = .ok (.iconst (-1), 1) := by decide +kernel
theorem dX5_settlesBoth_48 : decode cX5_settlesBoth 48 = .ok (.ixor, 1) := by decide +kernel
theorem dX5_settlesBoth_49 : decode cX5_settlesBoth 49 = .ok (.iand, 1) := by decide +kernel
theorem dX5_settlesBoth_50 : decode cX5_settlesBoth 50 = .ok (.iload 4, 2) := by decide +kernel
theorem dX5_settlesBoth_52 : decode cX5_settlesBoth 52 = .ok (.invokevirtual 178, 3) := by decide +kernel
theorem dX5_settlesBoth_55 : decode cX5_settlesBoth 55 = .ok (.ifCond .eq 7, 3) := by decide +kernel
theorem dX5_settlesBoth_58 : decode cX5_settlesBoth 58 = .ok (.iconst 1, 1) := by decide +kernel
theorem dX5_settlesBoth_59 : decode cX5_settlesBoth 59 = .ok (.goto 4, 3) := by decide +kernel
theorem dX5_settlesBoth_62 : decode cX5_settlesBoth 62 = .ok (.iconst 0, 1) := by decide +kernel
theorem dX5_settlesBoth_63 : decode cX5_settlesBoth 63 = .ok (.ireturn, 1) := by decide +kernel
theorem dX5_gaps_0 : decode cX5_gaps 0 = .ok (.iconst 0, 1) := by decide +kernel
theorem dX5_gaps_1 : decode cX5_gaps 1 = .ok (.istore_n 1, 1) := by decide +kernel
theorem dX5_gaps_2 : decode cX5_gaps 2 = .ok (.iconst 0, 1) := by decide +kernel
theorem dX5_gaps_3 : decode cX5_gaps 3 = .ok (.istore_n 2, 1) := by decide +kernel
theorem dX5_gaps_4 : decode cX5_gaps 4 = .ok (.iload_n 2, 1) := by decide +kernel
theorem dX5_gaps_5 : decode cX5_gaps 5 = .ok (.bipush 6, 2) := by decide +kernel
theorem dX5_gaps_7 : decode cX5_gaps 7 = .ok (.if_icmp .ge 142, 3) := by decide +kernel
theorem dX5_gaps_10 : decode cX5_gaps 10 = .ok (.iconst 0, 1) := by decide +kernel
theorem dX5_gaps_11 : decode cX5_gaps 11 = .ok (.istore_n 3, 1) := by decide +kernel
theorem dX5_gaps_12 : decode cX5_gaps 12 = .ok (.iconst 0, 1) := by decide +kernel
theorem dX5_gaps_13 : decode cX5_gaps 13 = .ok (.istore 4, 2) := by decide +kernel
theorem dX5_gaps_15 : decode cX5_gaps 15 = .ok (.iload 4, 2) := by decide +kernel
theorem dX5_gaps_17 : decode cX5_gaps 17 = .ok (.aload_n 0, 1) := by decide +kernel
theorem dX5_gaps_18 : decode cX5_gaps 18 = .ok (.invokevirtual 35, 3) := by decide +kernel
theorem dX5_gaps_21 : decode cX5_gaps 21 = .ok (.if_icmp .ge 38, 3) := by decide +kernel
theorem dX5_gaps_24 : decode cX5_gaps 24 = .ok (.iload_n 3, 1) := by decide +kernel
theorem dX5_gaps_25 : decode cX5_gaps 25 = .ok (.aload_n 0, 1) := by decide +kernel
theorem dX5_gaps_26 : decode cX5_gaps 26 = .ok (.bipush 42, 2) := by decide +kernel
theorem dX5_gaps_28 : decode cX5_gaps 28 = .ok (.iload 4, 2) := by decide +kernel
theorem dX5_gaps_30 : decode cX5_gaps 30 = .ok (.invokevirtual 54, 3) := by decide +kernel
theorem dX5_gaps_33 : decode cX5_gaps 33 = .ok (.iload_n 2, 1) := by decide +kernel
theorem dX5_gaps_34 : decode cX5_gaps 34 = .ok (.ishr, 1) := by decide +kernel
theorem dX5_gaps_35 : decode cX5_gaps 35 = .ok (.iconst 1, 1) := by decide +kernel
theorem dX5_gaps_36 : decode cX5_gaps 36 = .ok (.iand, 1) := by decide +kernel
theorem dX5_gaps_37 : decode cX5_gaps 37 = .ok (.iconst 1, 1) := by decide +kernel
theorem dX5_gaps_38 : decode cX5_gaps 38 = .ok (.if_icmp .ne 12, 3) := by decide +kernel
theorem dX5_gaps_41 : decode cX5_gaps 41 = .ok (.aload_n 0, 1) := by decide +kernel
theorem dX5_gaps_42 : decode cX5_gaps 42 = .ok (.iload 4, 2) := by decide +kernel
theorem dX5_gaps_44 : decode cX5_gaps 44 = .ok (.invokevirtual 61, 3) := by decide +kernel
theorem dX5_gaps_47 : decode cX5_gaps 47 = .ok (.goto 4, 3) := by decide +kernel
theorem dX5_gaps_50 : decode cX5_gaps 50 = .ok (.iconst 0, 1) := by decide +kernel
theorem dX5_gaps_51 : decode cX5_gaps 51 = .ok (.ior, 1) := by decide +kernel
theorem dX5_gaps_52 : decode cX5_gaps 52 = .ok (.istore_n 3, 1) := by decide +kernel
theorem dX5_gaps_53 : decode cX5_gaps 53 = .ok (.iinc 4 1, 3) := by decide +kernel
theorem dX5_gaps_56 : decode cX5_gaps 56 = .ok (.goto (-41), 3) := by decide +kernel
theorem dX5_gaps_59 : decode cX5_gaps 59 = .ok (.iconst 0, 1) := by decide +kernel
theorem dX5_gaps_60 : decode cX5_gaps 60 = .ok (.istore 4, 2) := by decide +kernel
theorem dX5_gaps_62 : decode cX5_gaps 62 = .ok (.iload 4, 2) := by decide +kernel
theorem dX5_gaps_64 : decode cX5_gaps 64 = .ok (.bipush 10, 2) := by decide +kernel
theorem dX5_gaps_66 : decode cX5_gaps 66 = .ok (.if_icmp .ge 77, 3) := by decide +kernel
theorem dX5_gaps_69 : decode cX5_gaps 69 = .ok (.bipush 31, 2) := by decide +kernel
theorem dX5_gaps_71 : decode cX5_gaps 71 = .ok (.iload 4, 2) := by decide +kernel
theorem dX5_gaps_73 : decode cX5_gaps 73 = .ok (.iconst 5, 1) := by decide +kernel
theorem dX5_gaps_74 : decode cX5_gaps 74 = .ok (.idiv, 1) := by decide +kernel
theorem dX5_gaps_75 : decode cX5_gaps 75 = .ok (.iconst 5, 1) := by decide +kernel
theorem dX5_gaps_76 : decode cX5_gaps 76 = .ok (.imul, 1) := by decide +kernel
theorem dX5_gaps_77 : decode cX5_gaps 77 = .ok (.ishl, 1) := by decide +kernel
theorem dX5_gaps_78 : decode cX5_gaps 78 = .ok (.istore 5, 2) := by decide +kernel
theorem dX5_gaps_80 : decode cX5_gaps 80 = .ok (.iload_n 3, 1) := by decide +kernel
theorem dX5_gaps_81 : decode cX5_gaps 81 = .ok (.iload 5, 2) := by decide +kernel
theorem dX5_gaps_83 : decode cX5_gaps 83 = .ok (.iand, 1) := by decide +kernel
theorem dX5_gaps_84 : decode cX5_gaps 84 = .ok (.iconst 1, 1) := by decide +kernel
theorem dX5_gaps_85 : decode cX5_gaps 85 = .ok (.iload 4, 2) := by decide +kernel
theorem dX5_gaps_87 : decode cX5_gaps 87 = .ok (.ishl, 1) := by decide +kernel
theorem dX5_gaps_88 : decode cX5_gaps 88 = .ok (.iconst 1, 1) := by decide +kernel
theorem dX5_gaps_89 : decode cX5_gaps 89 = .ok (.isub, 1) := by decide +kernel
theorem dX5_gaps_90 : decode cX5_gaps 90 = .ok (.iand, 1) := by decide +kernel
theorem dX5_gaps_91 : decode cX5_gaps 91 = .ok (.istore 6, 2) := by decide +kernel
theorem dX5_gaps_93 : decode cX5_gaps 93 = .ok (.iload_n 3, 1) := by decide +kernel
theorem dX5_gaps_94 : decode cX5_gaps 94 = .ok (.iload 5, 2) := by decide +kernel
theorem dX5_gaps_96 : decode cX5_gaps 96 = .ok (.iand, 1) := by decide +kernel
theorem dX5_gaps_97 : decode cX5_gaps 97 = .ok (.iconst 1, 1) := by decide +kernel
theorem dX5_gaps_98 : decode cX5_gaps 98 = .ok (.iload 4, 2) := by decide +kernel
theorem dX5_gaps_100 : decode cX5_gaps 100 = .ok (.iconst 1, 1) := by decide +kernel
theorem dX5_gaps_101 : decode cX5_gaps 101 = .ok (.iadd, 1) := by decide +kernel
theorem dX5_gaps_102 : decode cX5_gaps 102 = .ok (.ishl, 1) := by decide +kernel
theorem dX5_gaps_103 : decode cX5_gaps 103 = .ok (.iconst 1, 1) := by decide +kernel
theorem dX5_gaps_104 : decode cX5_gaps 104 = .ok (.isub, 1) := by decide +kernel
theorem dX5_gaps_105 : decode cX5_gaps 105 = .ok (.iconst (-1), 1) := by decide +kernel
theorem dX5_gaps_106 : decode cX5_gaps 106 = .ok (.ixor, 1) := by decide +kernel
theorem dX5_gaps_107 : decode cX5_gaps 107 = .ok (.iand, 1) := by decide +kernel
theorem dX5_gaps_108 : decode cX5_gaps 108 = .ok (.istore 7, 2) := by decide +kernel
theorem dX5_gaps_110 : decode cX5_gaps 110 = .ok (.iload_n 1, 1) := by decide +kernel
theorem dX5_gaps_111 : decode cX5_gaps 111 = .ok (.iload_n 3, 1) := by decide +kernel
theorem dX5_gaps_112 : decode cX5_gaps 112 = .ok (.iload 4, 2) := by decide +kernel
theorem dX5_gaps_114 : decode cX5_gaps 114 = .ok (.ishr, 1) := by decide +kernel
theorem dX5_gaps_115 : decode cX5_gaps 115 = .ok (.iconst 1, 1) := by decide +kernel
theorem dX5_gaps_116 : decode cX5_gaps 116 = .ok (.iand, 1) := by decide +kernel
theorem dX5_gaps_117 : decode cX5_gaps 117 = .ok (.ifCond .ne 17, 3) := by decide +kernel
theorem dX5_gaps_120 : decode cX5_gaps 120 = .ok (.iload 6, 2) := by decide +kernel
theorem dX5_gaps_122 : decode cX5_gaps 122 = .ok (.ifCond .eq 12, 3) := by decide +kernel
theorem dX5_gaps_125 : decode cX5_gaps 125 = .ok (.iload 7, 2) := by decide +kernel
theorem dX5_gaps_127 : decode cX5_gaps 127 = .ok (.ifCond .eq 7, 3) := by decide +kernel
theorem dX5_gaps_130 : decode cX5_gaps 130 = .ok (.iconst 1, 1) := by decide +kernel
theorem dX5_gaps_131 : decode cX5_gaps 131 = .ok (.goto 4, 3) := by decide +kernel
theorem dX5_gaps_134 : decode cX5_gaps 134 = .ok (.iconst 0, 1) := by decide +kernel
theorem dX5_gaps_135 : decode cX5_gaps 135 = .ok (.iadd, 1) := by decide +kernel
theorem dX5_gaps_136 : decode cX5_gaps 136 = .ok (.istore_n 1, 1) := by decide +kernel
theorem dX5_gaps_137 : decode cX5_gaps 137 = .ok (.iinc 4 1, 3) := by decide +kernel
theorem dX5_gaps_140 : decode cX5_gaps 140 = .ok (.goto (-78), 3) := by decide +kernel
theorem dX5_gaps_143 : decode cX5_gaps 143 = .ok (.iinc 2 1, 3) := by decide +kernel
theorem dX5_gaps_146 : decode cX5_gaps 146 = .ok (.goto (-142), 3) := by decide +kernel
theorem dX5_gaps_149 : decode cX5_gaps 149 = .ok (.iload_n 1, 1) := by decide +kernel
theorem dX5_gaps_150 : decode cX5_gaps 150 = .ok (.ireturn, 1) := by decide +kernel
theorem dX5_lates_0 : decode cX5_lates 0 = .ok (.iconst 0, 1) := by decide +kernel
theorem dX5_lates_1 : decode cX5_lates 1 = .ok (.istore_n 1, 1) := by decide +kernel
theorem dX5_lates_2 : decode cX5_lates 2 = .ok (.iconst 0, 1) := by decide +kernel
theorem dX5_lates_3 : decode cX5_lates 3 = .ok (.istore_n 2, 1) := by decide +kernel
theorem dX5_lates_4 : decode cX5_lates 4 = .ok (.iload_n 2, 1) := by decide +kernel
theorem dX5_lates_5 : decode cX5_lates 5 = .ok (.aload_n 0, 1) := by decide +kernel
theorem dX5_lates_6 : decode cX5_lates 6 = .ok (.invokevirtual 35, 3) := by decide +kernel
theorem dX5_lates_9 : decode cX5_lates 9 = .ok (.if_icmp .ge 29, 3) := by decide +kernel
theorem dX5_lates_12 : decode cX5_lates 12 = .ok (.iload_n 1, 1) := by decide +kernel
theorem dX5_lates_13 : decode cX5_lates 13 = .ok (.aload_n 0, 1) := by decide +kernel
theorem dX5_lates_14 : decode cX5_lates 14 = .ok (.iload_n 2, 1) := by decide +kernel
theorem dX5_lates_15 : decode cX5_lates 15 = .ok (.invokevirtual 61, 3) := by decide +kernel
theorem dX5_lates_18 : decode cX5_lates 18 = .ok (.sipush 528, 3) := by decide +kernel
theorem dX5_lates_21 : decode cX5_lates 21 = .ok (.iand, 1) := by decide +kernel
theorem dX5_lates_22 : decode cX5_lates 22 = .ok (.ifCond .eq 7, 3) := by decide +kernel
theorem dX5_lates_25 : decode cX5_lates 25 = .ok (.iconst 1, 1) := by decide +kernel
theorem dX5_lates_26 : decode cX5_lates 26 = .ok (.goto 4, 3) := by decide +kernel
theorem dX5_lates_29 : decode cX5_lates 29 = .ok (.iconst 0, 1) := by decide +kernel
theorem dX5_lates_30 : decode cX5_lates 30 = .ok (.iadd, 1) := by decide +kernel
theorem dX5_lates_31 : decode cX5_lates 31 = .ok (.istore_n 1, 1) := by decide +kernel
theorem dX5_lates_32 : decode cX5_lates 32 = .ok (.iinc 2 1, 3) := by decide +kernel
theorem dX5_lates_35 : decode cX5_lates 35 = .ok (.goto (-31), 3) := by decide +kernel
theorem dX5_lates_38 : decode cX5_lates 38 = .ok (.iload_n 1, 1) := by decide +kernel
theorem dX5_lates_39 : decode cX5_lates 39 = .ok (.ireturn, 1) := by decide +kernel
theorem dX5_slack_0 : decode cX5_slack 0 = .ok (.iconst 0, 1) := by decide +kernel
theorem dX5_slack_1 : decode cX5_slack 1 = .ok (.istore_n 1, 1) := by decide +kernel
theorem dX5_slack_2 : decode cX5_slack 2 = .ok (.iconst 0, 1) := by decide +kernel
theorem dX5_slack_3 : decode cX5_slack 3 = .ok (.istore_n 2, 1) := by decide +kernel
theorem dX5_slack_4 : decode cX5_slack 4 = .ok (.iload_n 2, 1) := by decide +kernel
theorem dX5_slack_5 : decode cX5_slack 5 = .ok (.aload_n 0, 1) := by decide +kernel
theorem dX5_slack_6 : decode cX5_slack 6 = .ok (.invokevirtual 35, 3) := by decide +kernel
theorem dX5_slack_9 : decode cX5_slack 9 = .ok (.if_icmp .ge 56, 3) := by decide +kernel
theorem dX5_slack_12 : decode cX5_slack 12 = .ok (.iload_n 1, 1) := by decide +kernel
theorem dX5_slack_13 : decode cX5_slack 13 = .ok (.aload_n 0, 1) := by decide +kernel
theorem dX5_slack_14 : decode cX5_slack 14 = .ok (.bipush 84, 2) := by decide +kernel
theorem dX5_slack_16 : decode cX5_slack 16 = .ok (.iload_n 2, 1) := by decide +kernel
theorem dX5_slack_17 : decode cX5_slack 17 = .ok (.invokevirtual 54, 3) := by decide +kernel
theorem dX5_slack_20 : decode cX5_slack 20 = .ok (.ifCond .ge 7, 3) := by decide +kernel
theorem dX5_slack_23 : decode cX5_slack 23 = .ok (.iconst 0, 1) := by decide +kernel
theorem dX5_slack_24 : decode cX5_slack 24 = .ok (.goto 33, 3) := by decide +kernel
theorem dX5_slack_27 : decode cX5_slack 27 = .ok (.aload_n 0, 1) := by decide +kernel
theorem dX5_slack_28 : decode cX5_slack 28 = .ok (.iconst 0, 1) := by decide +kernel
theorem dX5_slack_29 : decode cX5_slack 29 = .ok (.aload_n 0, 1) := by decide +kernel
theorem dX5_slack_30 : decode cX5_slack 30 = .ok (.bipush 84, 2) := by decide +kernel
theorem dX5_slack_32 : decode cX5_slack 32 = .ok (.iload_n 2, 1) := by decide +kernel
theorem dX5_slack_33 : decode cX5_slack 33 = .ok (.invokevirtual 54, 3) := by decide +kernel
theorem dX5_slack_36 : decode cX5_slack 36 = .ok (.bipush 6, 2) := by decide +kernel
theorem dX5_slack_38 : decode cX5_slack 38 = .ok (.irem, 1) := by decide +kernel
theorem dX5_slack_39 : decode cX5_slack 39 = .ok (.invokevirtual 54, 3) := by decide +kernel
theorem dX5_slack_42 : decode cX5_slack 42 = .ok (.aload_n 0, 1) := by decide +kernel
theorem dX5_slack_43 : decode cX5_slack 43 = .ok (.aload_n 0, 1) := by decide +kernel
theorem dX5_slack_44 : decode cX5_slack 44 = .ok (.bipush 42, 2) := by decide +kernel
theorem dX5_slack_46 : decode cX5_slack 46 = .ok (.iload_n 2, 1) := by decide +kernel
theorem dX5_slack_47 : decode cX5_slack 47 = .ok (.invokevirtual 54, 3) := by decide +kernel
theorem dX5_slack_50 : decode cX5_slack 50 = .ok (.invokevirtual 69, 3) := by decide +kernel
theorem dX5_slack_53 : decode cX5_slack 53 = .ok (.isub, 1) := by decide +kernel
theorem dX5_slack_54 : decode cX5_slack 54 = .ok (.bipush 10, 2) := by decide +kernel
theorem dX5_slack_56 : decode cX5_slack 56 = .ok (.idiv, 1) := by decide +kernel
theorem dX5_slack_57 : decode cX5_slack 57 = .ok (.iadd, 1) := by decide +kernel
theorem dX5_slack_58 : decode cX5_slack 58 = .ok (.istore_n 1, 1) := by decide +kernel
theorem dX5_slack_59 : decode cX5_slack 59 = .ok (.iinc 2 1, 3) := by decide +kernel
theorem dX5_slack_62 : decode cX5_slack 62 = .ok (.goto (-58), 3) := by decide +kernel
theorem dX5_slack_65 : decode cX5_slack 65 = .ok (.iload_n 1, 1) := by decide +kernel
theorem dX5_slack_66 : decode cX5_slack 66 = .ok (.ireturn, 1) := by decide +kernel
theorem dX5_unplaced_0 : decode cX5_unplaced 0 = .ok (.iconst 0, 1) := by decide +kernel
theorem dX5_unplaced_1 : decode cX5_unplaced 1 = .ok (.istore_n 1, 1) := by decide +kernel
theorem dX5_unplaced_2 : decode cX5_unplaced 2 = .ok (.iconst 0, 1) := by decide +kernel
theorem dX5_unplaced_3 : decode cX5_unplaced 3 = .ok (.istore_n 2, 1) := by decide +kernel
theorem dX5_unplaced_4 : decode cX5_unplaced 4 = .ok (.iload_n 2, 1) := by decide +kernel
theorem dX5_unplaced_5 : decode cX5_unplaced 5 = .ok (.aload_n 0, 1) := by decide +kernel
theorem dX5_unplaced_6 : decode cX5_unplaced 6 = .ok (.invokevirtual 35, 3) := by decide +kernel
theorem dX5_unplaced_9 : decode cX5_unplaced 9 = .ok (.if_icmp .ge 27, 3) := by decide +kernel
theorem dX5_unplaced_12 : decode cX5_unplaced 12 = .ok (.iload_n 1, 1) := by decide +kernel
theorem dX5_unplaced_13 : decode cX5_unplaced 13 = .ok (.aload_n 0, 1) := by decide +kernel
theorem dX5_unplaced_14 : decode cX5_unplaced 14 = .ok (.bipush 84, 2) := by decide +kernel
theorem dX5_unplaced_16 : decode cX5_unplaced 16 = .ok (.iload_n 2, 1) := by decide +kernel
theorem dX5_unplaced_17 : decode cX5_unplaced 17 = .ok (.invokevirtual 54, 3) := by decide +kernel
theorem dX5_unplaced_20 : decode cX5_unplaced 20 = .ok (.ifCond .ge 7, 3) := by decide +kernel
theorem dX5_unplaced_23 : decode cX5_unplaced 23 = .ok (.iconst 1, 1) := by decide +kernel
theorem dX5_unplaced_24 : decode cX5_unplaced 24 = .ok (.goto 4, 3) := by decide +kernel
theorem dX5_unplaced_27 : decode cX5_unplaced 27 = .ok (.iconst 0, 1) := by decide +kernel
theorem dX5_unplaced_28 : decode cX5_unplaced 28 = .ok (.iadd, 1) := by decide +kernel
theorem dX5_unplaced_29 : decode cX5_unplaced 29 = .ok (.istore_n 1, 1) := by decide +kernel
theorem dX5_unplaced_30 : decode cX5_unplaced 30 = .ok (.iinc 2 1, 3) := by decide +kernel
theorem dX5_unplaced_33 : decode cX5_unplaced 33 = .ok (.goto (-29), 3) := by decide +kernel
theorem dX5_unplaced_36 : decode cX5_unplaced 36 = .ok (.iload_n 1, 1) := by decide +kernel
theorem dX5_unplaced_37 : decode cX5_unplaced 37 = .ok (.ireturn, 1) := by decide +kernel
theorem dX5_costs_0 : decode cX5_costs 0 = .ok (.aload_n 0, 1) := by decide +kernel
theorem dX5_costs_1 : decode cX5_costs 1 = .ok (.bipush 24, 2) := by decide +kernel
theorem dX5_costs_3 : decode cX5_costs 3 = .ok (.iconst 0, 1) := by decide +kernel
theorem dX5_costs_4 : decode cX5_costs 4 = .ok (.invokevirtual 54, 3) := by decide +kernel
theorem dX5_costs_7 : decode cX5_costs 7 = .ok (.aload_n 0, 1) := by decide +kernel
theorem dX5_costs_8 : decode cX5_costs 8 = .ok (.invokevirtual 187, 3) := by decide +kernel
theorem dX5_costs_11 : decode cX5_costs 11 = .ok (.imul, 1) := by decide +kernel
theorem dX5_costs_12 : decode cX5_costs 12 = .ok (.aload_n 0, 1) := by decide +kernel
theorem dX5_costs_13 : decode cX5_costs 13 = .ok (.bipush 24, 2) := by decide +kernel
theorem dX5_costs_15 : decode cX5_costs 15 = .ok (.iconst 1, 1) := by decide +kernel
theorem dX5_costs_16 : decode cX5_costs 16 = .ok (.invokevirtual 54, 3) := by decide +kernel
theorem dX5_costs_19 : decode cX5_costs 19 = .ok (.aload_n 0, 1) := by decide +kernel
theorem dX5_costs_20 : decode cX5_costs 20 = .ok (.invokevirtual 190, 3) := by decide +kernel
theorem dX5_costs_23 : decode cX5_costs 23 = .ok (.imul, 1) := by decide +kernel
theorem dX5_costs_24 : decode cX5_costs 24 = .ok (.iadd, 1) := by decide +kernel
theorem dX5_costs_25 : decode cX5_costs 25 = .ok (.aload_n 0, 1) := by decide +kernel
theorem dX5_costs_26 : decode cX5_costs 26 = .ok (.bipush 24, 2) := by decide +kernel
theorem dX5_costs_28 : decode cX5_costs 28 = .ok (.iconst 2, 1) := by decide +kernel
theorem dX5_costs_29 : decode cX5_costs 29 = .ok (.invokevirtual 54, 3) := by decide +kernel
theorem dX5_costs_32 : decode cX5_costs 32 = .ok (.aload_n 0, 1) := by decide +kernel
theorem dX5_costs_33 : decode cX5_costs 33 = .ok (.invokevirtual 193, 3) := by decide +kernel
theorem dX5_costs_36 : decode cX5_costs 36 = .ok (.imul, 1) := by decide +kernel
theorem dX5_costs_37 : decode cX5_costs 37 = .ok (.iadd, 1) := by decide +kernel
theorem dX5_costs_38 : decode cX5_costs 38 = .ok (.bipush 100, 2) := by decide +kernel
theorem dX5_costs_40 : decode cX5_costs 40 = .ok (.aload_n 0, 1) := by decide +kernel
theorem dX5_costs_41 : decode cX5_costs 41 = .ok (.invokevirtual 196, 3) := by decide +kernel
theorem dX5_costs_44 : decode cX5_costs 44 = .ok (.imul, 1) := by decide +kernel
theorem dX5_costs_45 : decode cX5_costs 45 = .ok (.iadd, 1) := by decide +kernel
theorem dX5_costs_46 : decode cX5_costs 46 = .ok (.ireturn, 1) := by decide +kernel
theorem dX5_cost_0 : decode cX5_cost 0 = .ok (.aload_n 0, 1) := by decide +kernel
theorem dX5_cost_1 : decode cX5_cost 1 = .ok (.iload_n 1, 1) := by decide +kernel
theorem dX5_cost_2 : decode cX5_cost 2 = .ok (.iconst 0, 1) := by decide +kernel
theorem dX5_cost_3 : decode cX5_cost 3 = .ok (.iconst 4, 1) := by decide +kernel
theorem dX5_cost_4 : decode cX5_cost 4 = .ok (.invokestatic 39, 3) := by decide +kernel
theorem dX5_cost_7 : decode cX5_cost 7 = .ok (.ifCond .eq 7, 3) := by decide +kernel
theorem dX5_cost_10 : decode cX5_cost 10 = .ok (.iconst 0, 1) := by decide +kernel
theorem dX5_cost_11 : decode cX5_cost 11 = .ok (.goto 4, 3) := by decide +kernel
theorem dX5_cost_14 : decode cX5_cost 14 = .ok (.iconst 1, 1) := by decide +kernel
theorem dX5_cost_15 : decode cX5_cost 15 = .ok (.putfield 1, 3) := by decide +kernel
theorem dX5_cost_18 : decode cX5_cost 18 = .ok (.aload_n 0, 1) := by decide +kernel
theorem dX5_cost_19 : decode cX5_cost 19 = .ok (.getfield 1, 3) := by decide +kernel
theorem dX5_cost_22 : decode cX5_cost 22 = .ok (.ifCond .eq 5, 3) := by decide +kernel
theorem dX5_cost_25 : decode cX5_cost 25 = .ok (.iconst 0, 1) := by decide +kernel
theorem dX5_cost_26 : decode cX5_cost 26 = .ok (.ireturn, 1) := by decide +kernel
theorem dX5_cost_27 : decode cX5_cost 27 = .ok (.iload_n 1, 1) := by decide +kernel
theorem dX5_cost_28 : decode cX5_cost 28 = .ok (.ifCond .ne 10, 3) := by decide +kernel
theorem dX5_cost_31 : decode cX5_cost 31 = .ok (.aload_n 0, 1) := by decide +kernel
theorem dX5_cost_32 : decode cX5_cost 32 = .ok (.invokevirtual 187, 3) := by decide +kernel
theorem dX5_cost_35 : decode cX5_cost 35 = .ok (.goto 43, 3) := by decide +kernel
theorem dX5_cost_38 : decode cX5_cost 38 = .ok (.iload_n 1, 1) := by decide +kernel
theorem dX5_cost_39 : decode cX5_cost 39 = .ok (.iconst 1, 1) := by decide +kernel
theorem dX5_cost_40 : decode cX5_cost 40 = .ok (.if_icmp .ne 10, 3) := by decide +kernel
theorem dX5_cost_43 : decode cX5_cost 43 = .ok (.aload_n 0, 1) := by decide +kernel
theorem dX5_cost_44 : decode cX5_cost 44 = .ok (.invokevirtual 190, 3) := by decide +kernel
theorem dX5_cost_47 : decode cX5_cost 47 = .ok (.goto 31, 3) := by decide +kernel
theorem dX5_cost_50 : decode cX5_cost 50 = .ok (.iload_n 1, 1) := by decide +kernel
theorem dX5_cost_51 : decode cX5_cost 51 = .ok (.iconst 2, 1) := by decide +kernel
theorem dX5_cost_52 : decode cX5_cost 52 = .ok (.if_icmp .ne 10, 3) := by decide +kernel
theorem dX5_cost_55 : decode cX5_cost 55 = .ok (.aload_n 0, 1) := by decide +kernel
theorem dX5_cost_56 : decode cX5_cost 56 = .ok (.invokevirtual 193, 3) := by decide +kernel
theorem dX5_cost_59 : decode cX5_cost 59 = .ok (.goto 19, 3) := by decide +kernel
theorem dX5_cost_62 : decode cX5_cost 62 = .ok (.iload_n 1, 1) := by decide +kernel
theorem dX5_cost_63 : decode cX5_cost 63 = .ok (.iconst 3, 1) := by decide +kernel
theorem dX5_cost_64 : decode cX5_cost 64 = .ok (.if_icmp .ne 10, 3) := by decide +kernel
theorem dX5_cost_67 : decode cX5_cost 67 = .ok (.aload_n 0, 1) := by decide +kernel
theorem dX5_cost_68 : decode cX5_cost 68 = .ok (.invokevirtual 196, 3) := by decide +kernel
theorem dX5_cost_71 : decode cX5_cost 71 = .ok (.goto 7, 3) := by decide +kernel
theorem dX5_cost_74 : decode cX5_cost 74 = .ok (.aload_n 0, 1) := by decide +kernel
theorem dX5_cost_75 : decode cX5_cost 75 = .ok (.invokevirtual 199, 3) := by decide +kernel
theorem dX5_cost_78 : decode cX5_cost 78 = .ok (.ireturn, 1) := by decide +kernel
theorem dX5_costsAt_0 : decode cX5_costsAt 0 = .ok (.aload_n 0, 1) := by decide +kernel
theorem dX5_costsAt_1 : decode cX5_costsAt 1 = .ok (.bipush 84, 2) := by decide +kernel
theorem dX5_costsAt_3 : decode cX5_costsAt 3 = .ok (.iload_n 1, 1) := by decide +kernel
theorem dX5_costsAt_4 : decode cX5_costsAt 4 = .ok (.invokevirtual 54, 3) := by decide +kernel
theorem dX5_costsAt_7 : decode cX5_costsAt 7 = .ok (.istore_n 3, 1) := by decide +kernel
theorem dX5_costsAt_8 : decode cX5_costsAt 8 = .ok (.aload_n 0, 1) := by decide +kernel
theorem dX5_costsAt_9 : decode cX5_costsAt 9 = .ok (.iload_n 1, 1) := by decide +kernel
theorem dX5_costsAt_10 : decode cX5_costsAt 10 = .ok (.iload_n 2, 1) := by decide +kernel
theorem dX5_costsAt_11 : decode cX5_costsAt 11 = .ok (.invokevirtual 132, 3) := by decide +kernel
theorem dX5_costsAt_14 : decode cX5_costsAt 14 = .ok (.aload_n 0, 1) := by decide +kernel
theorem dX5_costsAt_15 : decode cX5_costsAt 15 = .ok (.invokevirtual 199, 3) := by decide +kernel
theorem dX5_costsAt_18 : decode cX5_costsAt 18 = .ok (.istore 4, 2) := by decide +kernel
theorem dX5_costsAt_20 : decode cX5_costsAt 20 = .ok (.aload_n 0, 1) := by decide +kernel
theorem dX5_costsAt_21 : decode cX5_costsAt 21 = .ok (.iload_n 1, 1) := by decide +kernel
theorem dX5_costsAt_22 : decode cX5_costsAt 22 = .ok (.iload_n 3, 1) := by decide +kernel
theorem dX5_costsAt_23 : decode cX5_costsAt 23 = .ok (.invokevirtual 132, 3) := by decide +kernel
theorem dX5_costsAt_26 : decode cX5_costsAt 26 = .ok (.iload 4, 2) := by decide +kernel
theorem dX5_costsAt_28 : decode cX5_costsAt 28 = .ok (.ireturn, 1) := by decide +kernel
theorem dX5_costAt_0 : decode cX5_costAt 0 = .ok (.aload_n 0, 1) := by decide +kernel
theorem dX5_costAt_1 : decode cX5_costAt 1 = .ok (.aload_n 0, 1) := by decide +kernel
theorem dX5_costAt_2 : decode cX5_costAt 2 = .ok (.iload_n 1, 1) := by decide +kernel
theorem dX5_costAt_3 : decode cX5_costAt 3 = .ok (.invokevirtual 120, 3) := by decide +kernel
theorem dX5_costAt_6 : decode cX5_costAt 6 = .ok (.ifCond .eq 10, 3) := by decide +kernel
theorem dX5_costAt_9 : decode cX5_costAt 9 = .ok (.iload_n 2, 1) := by decide +kernel
theorem dX5_costAt_10 : decode cX5_costAt 10 = .ok (.invokestatic 129, 3) := by decide +kernel
theorem dX5_costAt_13 : decode cX5_costAt 13 = .ok (.ifCond .ne 7, 3) := by decide +kernel
theorem dX5_costAt_16 : decode cX5_costAt 16 = .ok (.iconst 1, 1) := by decide +kernel
theorem dX5_costAt_17 : decode cX5_costAt 17 = .ok (.goto 17, 3) := by decide +kernel
theorem dX5_costAt_20 : decode cX5_costAt 20 = .ok (.aload_n 0, 1) := by decide +kernel
theorem dX5_costAt_21 : decode cX5_costAt 21 = .ok (.iload_n 1, 1) := by decide +kernel
theorem dX5_costAt_22 : decode cX5_costAt 22 = .ok (.iload_n 2, 1) := by decide +kernel
theorem dX5_costAt_23 : decode cX5_costAt 23 = .ok (.invokevirtual 72, 3) := by decide +kernel
theorem dX5_costAt_26 : decode cX5_costAt 26 = .ok (.ifCond .eq 7, 3) := by decide +kernel
theorem dX5_costAt_29 : decode cX5_costAt 29 = .ok (.iconst 2, 1) := by decide +kernel
theorem dX5_costAt_30 : decode cX5_costAt 30 = .ok (.goto 4, 3) := by decide +kernel
theorem dX5_costAt_33 : decode cX5_costAt 33 = .ok (.iconst 0, 1) := by decide +kernel
theorem dX5_costAt_34 : decode cX5_costAt 34 = .ok (.putfield 1, 3) := by decide +kernel
theorem dX5_costAt_37 : decode cX5_costAt 37 = .ok (.aload_n 0, 1) := by decide +kernel
theorem dX5_costAt_38 : decode cX5_costAt 38 = .ok (.getfield 1, 3) := by decide +kernel
theorem dX5_costAt_41 : decode cX5_costAt 41 = .ok (.ifCond .ne 12, 3) := by decide +kernel
theorem dX5_costAt_44 : decode cX5_costAt 44 = .ok (.aload_n 0, 1) := by decide +kernel
theorem dX5_costAt_45 : decode cX5_costAt 45 = .ok (.iload_n 1, 1) := by decide +kernel
theorem dX5_costAt_46 : decode cX5_costAt 46 = .ok (.iload_n 2, 1) := by decide +kernel
theorem dX5_costAt_47 : decode cX5_costAt 47 = .ok (.invokevirtual 202, 3) := by decide +kernel
theorem dX5_costAt_50 : decode cX5_costAt 50 = .ok (.goto 4, 3) := by decide +kernel
theorem dX5_costAt_53 : decode cX5_costAt 53 = .ok (.iconst 0, 1) := by decide +kernel
theorem dX5_costAt_54 : decode cX5_costAt 54 = .ok (.ireturn, 1) := by decide +kernel
theorem dX5_improves_0 : decode cX5_improves 0 = .ok (.aload_n 0, 1) := by decide +kernel
theorem dX5_improves_1 : decode cX5_improves 1 = .ok (.invokevirtual 199, 3) := by decide +kernel
theorem dX5_improves_4 : decode cX5_improves 4 = .ok (.istore_n 1, 1) := by decide +kernel
theorem dX5_improves_5 : decode cX5_improves 5 = .ok (.iconst (-1), 1) := by decide +kernel
theorem dX5_improves_6 : decode cX5_improves 6 = .ok (.istore_n 2, 1) := by decide +kernel
theorem dX5_improves_7 : decode cX5_improves 7 = .ok (.iconst (-1), 1) := by decide +kernel
theorem dX5_improves_8 : decode cX5_improves 8 = .ok (.istore_n 3, 1) := by decide +kernel
theorem dX5_improves_9 : decode cX5_improves 9 = .ok (.iconst 0, 1) := by decide +kernel
theorem dX5_improves_10 : decode cX5_improves 10 = .ok (.istore 4, 2) := by decide +kernel
theorem dX5_improves_12 : decode cX5_improves 12 = .ok (.iload 4, 2) := by decide +kernel
theorem dX5_improves_14 : decode cX5_improves 14 = .ok (.aload_n 0, 1) := by decide +kernel
theorem dX5_improves_15 : decode cX5_improves 15 = .ok (.invokevirtual 35, 3) := by decide +kernel
theorem dX5_improves_18 : decode cX5_improves 18 = .ok (.if_icmp .ge 93, 3) := by decide +kernel
theorem dX5_improves_21 : decode cX5_improves 21 = .ok (.aload_n 0, 1) := by decide +kernel
theorem dX5_improves_22 : decode cX5_improves 22 = .ok (.bipush 84, 2) := by decide +kernel
theorem dX5_improves_24 : decode cX5_improves 24 = .ok (.iload 4, 2) := by decide +kernel
theorem dX5_improves_26 : decode cX5_improves 26 = .ok (.invokevirtual 54, 3) := by decide +kernel
theorem dX5_improves_29 : decode cX5_improves 29 = .ok (.ifCond .lt 76, 3) := by decide +kernel
theorem dX5_improves_32 : decode cX5_improves 32 = .ok (.aload_n 0, 1) := by decide +kernel
theorem dX5_improves_33 : decode cX5_improves 33 = .ok (.bipush 98, 2) := by decide +kernel
theorem dX5_improves_35 : decode cX5_improves 35 = .ok (.iload 4, 2) := by decide +kernel
theorem dX5_improves_37 : decode cX5_improves 37 = .ok (.invokevirtual 54, 3) := by decide +kernel
theorem dX5_improves_40 : decode cX5_improves 40 = .ok (.iconst 1, 1) := by decide +kernel
theorem dX5_improves_41 : decode cX5_improves 41 = .ok (.if_icmp .ne 6, 3) := by decide +kernel
theorem dX5_improves_44 : decode cX5_improves 44 = .ok (.goto 61, 3) := by decide +kernel
theorem dX5_improves_47 : decode cX5_improves 47 = .ok (.iconst 0, 1) := by decide +kernel
theorem dX5_improves_48 : decode cX5_improves 48 = .ok (.istore 5, 2) := by decide +kernel
theorem dX5_improves_50 : decode cX5_improves 50 = .ok (.iload 5, 2) := by decide +kernel
theorem dX5_improves_52 : decode cX5_improves 52 = .ok (.bipush 60, 2) := by decide +kernel
theorem dX5_improves_54 : decode cX5_improves 54 = .ok (.if_icmp .ge 51, 3) := by decide +kernel
theorem dX5_improves_57 : decode cX5_improves 57 = .ok (.aload_n 0, 1) := by decide +kernel
theorem dX5_improves_58 : decode cX5_improves 58 = .ok (.iload 4, 2) := by decide +kernel
theorem dX5_improves_60 : decode cX5_improves 60 = .ok (.iload 5, 2) := by decide +kernel
theorem dX5_improves_62 : decode cX5_improves 62 = .ok (.invokevirtual 72, 3) := by decide +kernel
theorem dX5_improves_65 : decode cX5_improves 65 = .ok (.ifCond .eq 6, 3) := by decide +kernel
theorem dX5_improves_68 : decode cX5_improves 68 = .ok (.goto 31, 3) := by decide +kernel
theorem dX5_improves_71 : decode cX5_improves 71 = .ok (.aload_n 0, 1) := by decide +kernel
theorem dX5_improves_72 : decode cX5_improves 72 = .ok (.iload 4, 2) := by decide +kernel
theorem dX5_improves_74 : decode cX5_improves 74 = .ok (.iload 5, 2) := by decide +kernel
theorem dX5_improves_76 : decode cX5_improves 76 = .ok (.invokevirtual 202, 3) := by decide +kernel
theorem dX5_improves_79 : decode cX5_improves 79 = .ok (.istore 6, 2) := by decide +kernel
theorem dX5_improves_81 : decode cX5_improves 81 = .ok (.iload 6, 2) := by decide +kernel
theorem dX5_improves_83 : decode cX5_improves 83 = .ok (.iload_n 1, 1) := by decide +kernel
theorem dX5_improves_84 : decode cX5_improves 84 = .ok (.if_icmp .lt 6, 3) := by decide +kernel
theorem dX5_improves_87 : decode cX5_improves 87 = .ok (.goto 12, 3) := by decide +kernel
theorem dX5_improves_90 : decode cX5_improves 90 = .ok (.iload 6, 2) := by decide +kernel
theorem dX5_improves_92 : decode cX5_improves 92 = .ok (.istore_n 1, 1) := by decide +kernel
theorem dX5_improves_93 : decode cX5_improves 93 = .ok (.iload 4, 2) := by decide +kernel
theorem dX5_improves_95 : decode cX5_improves 95 = .ok (.istore_n 2, 1) := by decide +kernel
theorem dX5_improves_96 : decode cX5_improves 96 = .ok (.iload 5, 2) := by decide +kernel
theorem dX5_improves_98 : decode cX5_improves 98 = .ok (.istore_n 3, 1) := by decide +kernel
theorem dX5_improves_99 : decode cX5_improves 99 = .ok (.iinc 5 1, 3) := by decide +kernel
theorem dX5_improves_102 : decode cX5_improves 102 = .ok (.goto (-52), 3) := by decide +kernel
theorem dX5_improves_105 : decode cX5_improves 105 = .ok (.iinc 4 1, 3) := by decide +kernel
theorem dX5_improves_108 : decode cX5_improves 108 = .ok (.goto (-96), 3) := by decide +kernel
theorem dX5_improves_111 : decode cX5_improves 111 = .ok (.iload_n 2, 1) := by decide +kernel
theorem dX5_improves_112 : decode cX5_improves 112 = .ok (.ifCond .lt 9, 3) := by decide +kernel
theorem dX5_improves_115 : decode cX5_improves 115 = .ok (.aload_n 0, 1) := by decide +kernel
theorem dX5_improves_116 : decode cX5_improves 116 = .ok (.iload_n 2, 1) := by decide +kernel
theorem dX5_improves_117 : decode cX5_improves 117 = .ok (.iload_n 3, 1) := by decide +kernel
theorem dX5_improves_118 : decode cX5_improves 118 = .ok (.invokevirtual 132, 3) := by decide +kernel
theorem dX5_improves_121 : decode cX5_improves 121 = .ok (.iload_n 2, 1) := by decide +kernel
theorem dX5_improves_122 : decode cX5_improves 122 = .ok (.ifCond .lt 7, 3) := by decide +kernel
theorem dX5_improves_125 : decode cX5_improves 125 = .ok (.iconst 1, 1) := by decide +kernel
theorem dX5_improves_126 : decode cX5_improves 126 = .ok (.goto 4, 3) := by decide +kernel
theorem dX5_improves_129 : decode cX5_improves 129 = .ok (.iconst 0, 1) := by decide +kernel
theorem dX5_improves_130 : decode cX5_improves 130 = .ok (.ireturn, 1) := by decide +kernel
theorem dX5_improve_0 : decode cX5_improve 0 = .ok (.aload_n 0, 1) := by decide +kernel
theorem dX5_improve_1 : decode cX5_improve 1 = .ok (.iload_n 1, 1) := by decide +kernel
theorem dX5_improve_2 : decode cX5_improve 2 = .ok (.iconst 1, 1) := by decide +kernel
theorem dX5_improve_3 : decode cX5_improve 3 = .ok (.iconst 5, 1) := by decide +kernel
theorem dX5_improve_4 : decode cX5_improve 4 = .ok (.invokestatic 39, 3) := by decide +kernel
theorem dX5_improve_7 : decode cX5_improve 7 = .ok (.ifCond .eq 7, 3) := by decide +kernel
theorem dX5_improve_10 : decode cX5_improve 10 = .ok (.iconst 0, 1) := by decide +kernel
theorem dX5_improve_11 : decode cX5_improve 11 = .ok (.goto 4, 3) := by decide +kernel
theorem dX5_improve_14 : decode cX5_improve 14 = .ok (.iconst 1, 1) := by decide +kernel
theorem dX5_improve_15 : decode cX5_improve 15 = .ok (.putfield 1, 3) := by decide +kernel
theorem dX5_improve_18 : decode cX5_improve 18 = .ok (.aload_n 0, 1) := by decide +kernel
theorem dX5_improve_19 : decode cX5_improve 19 = .ok (.getfield 1, 3) := by decide +kernel
theorem dX5_improve_22 : decode cX5_improve 22 = .ok (.ifCond .eq 5, 3) := by decide +kernel
theorem dX5_improve_25 : decode cX5_improve 25 = .ok (.iconst 0, 1) := by decide +kernel
theorem dX5_improve_26 : decode cX5_improve 26 = .ok (.ireturn, 1) := by decide +kernel
theorem dX5_improve_27 : decode cX5_improve 27 = .ok (.aload_n 0, 1) := by decide +kernel
theorem dX5_improve_28 : decode cX5_improve 28 = .ok (.invokevirtual 83, 3) := by decide +kernel
theorem dX5_improve_31 : decode cX5_improve 31 = .ok (.iconst 0, 1) := by decide +kernel
theorem dX5_improve_32 : decode cX5_improve 32 = .ok (.istore_n 2, 1) := by decide +kernel
theorem dX5_improve_33 : decode cX5_improve 33 = .ok (.iload_n 2, 1) := by decide +kernel
theorem dX5_improve_34 : decode cX5_improve 34 = .ok (.iload_n 1, 1) := by decide +kernel
theorem dX5_improve_35 : decode cX5_improve 35 = .ok (.if_icmp .ge 16, 3) := by decide +kernel
theorem dX5_improve_38 : decode cX5_improve 38 = .ok (.aload_n 0, 1) := by decide +kernel
theorem dX5_improve_39 : decode cX5_improve 39 = .ok (.invokevirtual 205, 3) := by decide +kernel
theorem dX5_improve_42 : decode cX5_improve 42 = .ok (.ifCond .eq 9, 3) := by decide +kernel
theorem dX5_improve_45 : decode cX5_improve 45 = .ok (.iinc 2 1, 3) := by decide +kernel
theorem dX5_improve_48 : decode cX5_improve 48 = .ok (.goto (-15), 3) := by decide +kernel
theorem dX5_improve_51 : decode cX5_improve 51 = .ok (.iload_n 2, 1) := by decide +kernel
theorem dX5_improve_52 : decode cX5_improve 52 = .ok (.ireturn, 1) := by decide +kernel
theorem dX5_mark_0 : decode cX5_mark 0 = .ok (.aload_n 0, 1) := by decide +kernel
theorem dX5_mark_1 : decode cX5_mark 1 = .ok (.iconst 0, 1) := by decide +kernel
theorem dX5_mark_2 : decode cX5_mark 2 = .ok (.putfield 1, 3) := by decide +kernel
theorem dX5_mark_5 : decode cX5_mark 5 = .ok (.aload_n 0, 1) := by decide +kernel
theorem dX5_mark_6 : decode cX5_mark 6 = .ok (.invokevirtual 83, 3) := by decide +kernel
theorem dX5_mark_9 : decode cX5_mark 9 = .ok (.iconst 0, 1) := by decide +kernel
theorem dX5_mark_10 : decode cX5_mark 10 = .ok (.istore_n 1, 1) := by decide +kernel
theorem dX5_mark_11 : decode cX5_mark 11 = .ok (.iload_n 1, 1) := by decide +kernel
theorem dX5_mark_12 : decode cX5_mark 12 = .ok (.aload_n 0, 1) := by decide +kernel
theorem dX5_mark_13 : decode cX5_mark 13 = .ok (.invokevirtual 35, 3) := by decide +kernel
theorem dX5_mark_16 : decode cX5_mark 16 = .ok (.if_icmp .ge 25, 3) := by decide +kernel
theorem dX5_mark_19 : decode cX5_mark 19 = .ok (.aload_n 0, 1) := by decide +kernel
theorem dX5_mark_20 : decode cX5_mark 20 = .ok (.getfield 13, 3) := by decide +kernel
theorem dX5_mark_23 : decode cX5_mark 23 = .ok (.bipush 112, 2) := by decide +kernel
theorem dX5_mark_25 : decode cX5_mark 25 = .ok (.iload_n 1, 1) := by decide +kernel
theorem dX5_mark_26 : decode cX5_mark 26 = .ok (.iadd, 1) := by decide +kernel
theorem dX5_mark_27 : decode cX5_mark 27 = .ok (.aload_n 0, 1) := by decide +kernel
theorem dX5_mark_28 : decode cX5_mark 28 = .ok (.bipush 84, 2) := by decide +kernel
theorem dX5_mark_30 : decode cX5_mark 30 = .ok (.iload_n 1, 1) := by decide +kernel
theorem dX5_mark_31 : decode cX5_mark 31 = .ok (.invokevirtual 54, 3) := by decide +kernel
theorem dX5_mark_34 : decode cX5_mark 34 = .ok (.iastore, 1) := by decide +kernel
theorem dX5_mark_35 : decode cX5_mark 35 = .ok (.iinc 1 1, 3) := by decide +kernel
theorem dX5_mark_38 : decode cX5_mark 38 = .ok (.goto (-27), 3) := by decide +kernel
theorem dX5_mark_41 : decode cX5_mark 41 = .ok (.aload_n 0, 1) := by decide +kernel
theorem dX5_mark_42 : decode cX5_mark 42 = .ok (.invokevirtual 35, 3) := by decide +kernel
theorem dX5_mark_45 : decode cX5_mark 45 = .ok (.aload_n 0, 1) := by decide +kernel
theorem dX5_mark_46 : decode cX5_mark 46 = .ok (.invokevirtual 196, 3) := by decide +kernel
theorem dX5_mark_49 : decode cX5_mark 49 = .ok (.isub, 1) := by decide +kernel
theorem dX5_mark_50 : decode cX5_mark 50 = .ok (.ireturn, 1) := by decide +kernel
theorem dX5_changed_0 : decode cX5_changed 0 = .ok (.aload_n 0, 1) := by decide +kernel
theorem dX5_changed_1 : decode cX5_changed 1 = .ok (.iconst 0, 1) := by decide +kernel
theorem dX5_changed_2 : decode cX5_changed 2 = .ok (.putfield 1, 3) := by decide +kernel
theorem dX5_changed_5 : decode cX5_changed 5 = .ok (.iconst 0, 1) := by decide +kernel
theorem dX5_changed_6 : decode cX5_changed 6 = .ok (.istore_n 1, 1) := by decide +kernel
theorem dX5_changed_7 : decode cX5_changed 7 = .ok (.iconst 0, 1) := by decide +kernel
theorem dX5_changed_8 : decode cX5_changed 8 = .ok (.istore_n 2, 1) := by decide +kernel
theorem dX5_changed_9 : decode cX5_changed 9 = .ok (.iload_n 2, 1) := by decide +kernel
theorem dX5_changed_10 : decode cX5_changed 10 = .ok (.aload_n 0, 1) := by decide +kernel
theorem dX5_changed_11 : decode cX5_changed 11 = .ok (.invokevirtual 35, 3) := by decide +kernel
theorem dX5_changed_14 : decode cX5_changed 14 = .ok (.if_icmp .ge 36, 3) := by decide +kernel
theorem dX5_changed_17 : decode cX5_changed 17 = .ok (.iload_n 1, 1) := by decide +kernel
theorem dX5_changed_18 : decode cX5_changed 18 = .ok (.aload_n 0, 1) := by decide +kernel
theorem dX5_changed_19 : decode cX5_changed 19 = .ok (.bipush 84, 2) := by decide +kernel
theorem dX5_changed_21 : decode cX5_changed 21 = .ok (.iload_n 2, 1) := by decide +kernel
theorem dX5_changed_22 : decode cX5_changed 22 = .ok (.invokevirtual 54, 3) := by decide +kernel
theorem dX5_changed_25 : decode cX5_changed 25 = .ok (.aload_n 0, 1) := by decide +kernel
theorem dX5_changed_26 : decode cX5_changed 26 = .ok (.bipush 112, 2) := by decide +kernel
theorem dX5_changed_28 : decode cX5_changed 28 = .ok (.iload_n 2, 1) := by decide +kernel
theorem dX5_changed_29 : decode cX5_changed 29 = .ok (.invokevirtual 54, 3) := by decide +kernel
theorem dX5_changed_32 : decode cX5_changed 32 = .ok (.if_icmp .eq 9, 3) := by decide +kernel
theorem dX5_changed_35 : decode cX5_changed 35 = .ok (.iconst 1, 1) := by decide +kernel
theorem dX5_changed_36 : decode cX5_changed 36 = .ok (.iload_n 2, 1) := by decide +kernel
theorem dX5_changed_37 : decode cX5_changed 37 = .ok (.ishl, 1) := by decide +kernel
theorem dX5_changed_38 : decode cX5_changed 38 = .ok (.goto 4, 3) := by decide +kernel
theorem dX5_changed_41 : decode cX5_changed 41 = .ok (.iconst 0, 1) := by decide +kernel
theorem dX5_changed_42 : decode cX5_changed 42 = .ok (.ior, 1) := by decide +kernel
theorem dX5_changed_43 : decode cX5_changed 43 = .ok (.istore_n 1, 1) := by decide +kernel
theorem dX5_changed_44 : decode cX5_changed 44 = .ok (.iinc 2 1, 3) := by decide +kernel
theorem dX5_changed_47 : decode cX5_changed 47 = .ok (.goto (-38), 3) := by decide +kernel
theorem dX5_changed_50 : decode cX5_changed 50 = .ok (.iload_n 1, 1) := by decide +kernel
theorem dX5_changed_51 : decode cX5_changed 51 = .ok (.ireturn, 1) := by decide +kernel
theorem dX5_marked_0 : decode cX5_marked 0 = .ok (.aload_n 0, 1) := by decide +kernel
theorem dX5_marked_1 : decode cX5_marked 1 = .ok (.aload_n 0, 1) := by decide +kernel
theorem dX5_marked_2 : decode cX5_marked 2 = .ok (.iload_n 1, 1) := by decide +kernel
theorem dX5_marked_3 : decode cX5_marked 3 = .ok (.invokevirtual 120, 3) := by decide +kernel
theorem dX5_marked_6 : decode cX5_marked 6 = .ok (.ifCond .eq 7, 3) := by decide +kernel
theorem dX5_marked_9 : decode cX5_marked 9 = .ok (.iconst 0, 1) := by decide +kernel
theorem dX5_marked_10 : decode cX5_marked 10 = .ok (.goto 4, 3) := by decide +kernel
theorem dX5_marked_13 : decode cX5_marked 13 = .ok (.iconst 1, 1) := by decide +kernel
theorem dX5_marked_14 : decode cX5_marked 14 = .ok (.putfield 1, 3) := by decide +kernel
theorem dX5_marked_17 : decode cX5_marked 17 = .ok (.aload_n 0, 1) := by decide +kernel
theorem dX5_marked_18 : decode cX5_marked 18 = .ok (.getfield 1, 3) := by decide +kernel
theorem dX5_marked_21 : decode cX5_marked 21 = .ok (.ifCond .ne 13, 3) := by decide +kernel
theorem dX5_marked_24 : decode cX5_marked 24 = .ok (.aload_n 0, 1) := by decide +kernel
theorem dX5_marked_25 : decode cX5_marked 25 = .ok (.bipush 112, 2) := by decide +kernel
theorem dX5_marked_27 : decode cX5_marked 27 = .ok (.iload_n 1, 1) := by decide +kernel
theorem dX5_marked_28 : decode cX5_marked 28 = .ok (.invokevirtual 54, 3) := by decide +kernel
theorem dX5_marked_31 : decode cX5_marked 31 = .ok (.goto 4, 3) := by decide +kernel
theorem dX5_marked_34 : decode cX5_marked 34 = .ok (.iconst 0, 1) := by decide +kernel
theorem dX5_marked_35 : decode cX5_marked 35 = .ok (.ireturn, 1) := by decide +kernel
theorem dX5_count_0 : decode cX5_count 0 = .ok (.aload_n 0, 1) := by decide +kernel
theorem dX5_count_1 : decode cX5_count 1 = .ok (.iload_n 1, 1) := by decide +kernel
theorem dX5_count_2 : decode cX5_count 2 = .ok (.iconst 0, 1) := by decide +kernel
theorem dX5_count_3 : decode cX5_count 3 = .ok (.iconst 4, 1) := by decide +kernel
theorem dX5_count_4 : decode cX5_count 4 = .ok (.invokestatic 39, 3) := by decide +kernel
theorem dX5_count_7 : decode cX5_count 7 = .ok (.ifCond .eq 7, 3) := by decide +kernel
theorem dX5_count_10 : decode cX5_count 10 = .ok (.iconst 0, 1) := by decide +kernel
theorem dX5_count_11 : decode cX5_count 11 = .ok (.goto 4, 3) := by decide +kernel
theorem dX5_count_14 : decode cX5_count 14 = .ok (.iconst 1, 1) := by decide +kernel
theorem dX5_count_15 : decode cX5_count 15 = .ok (.putfield 1, 3) := by decide +kernel
theorem dX5_count_18 : decode cX5_count 18 = .ok (.aload_n 0, 1) := by decide +kernel
theorem dX5_count_19 : decode cX5_count 19 = .ok (.getfield 1, 3) := by decide +kernel
theorem dX5_count_22 : decode cX5_count 22 = .ok (.ifCond .eq 5, 3) := by decide +kernel
theorem dX5_count_25 : decode cX5_count 25 = .ok (.iconst 0, 1) := by decide +kernel
theorem dX5_count_26 : decode cX5_count 26 = .ok (.ireturn, 1) := by decide +kernel
theorem dX5_count_27 : decode cX5_count 27 = .ok (.iconst 0, 1) := by decide +kernel
theorem dX5_count_28 : decode cX5_count 28 = .ok (.istore_n 2, 1) := by decide +kernel
theorem dX5_count_29 : decode cX5_count 29 = .ok (.iconst 0, 1) := by decide +kernel
theorem dX5_count_30 : decode cX5_count 30 = .ok (.istore_n 3, 1) := by decide +kernel
theorem dX5_count_31 : decode cX5_count 31 = .ok (.iload_n 3, 1) := by decide +kernel
theorem dX5_count_32 : decode cX5_count 32 = .ok (.aload_n 0, 1) := by decide +kernel
theorem dX5_count_33 : decode cX5_count 33 = .ok (.invokevirtual 35, 3) := by decide +kernel
theorem dX5_count_36 : decode cX5_count 36 = .ok (.if_icmp .ge 19, 3) := by decide +kernel
theorem dX5_count_39 : decode cX5_count 39 = .ok (.iload_n 2, 1) := by decide +kernel
theorem dX5_count_40 : decode cX5_count 40 = .ok (.aload_n 0, 1) := by decide +kernel
theorem dX5_count_41 : decode cX5_count 41 = .ok (.bipush 98, 2) := by decide +kernel
theorem dX5_count_43 : decode cX5_count 43 = .ok (.iload_n 3, 1) := by decide +kernel
theorem dX5_count_44 : decode cX5_count 44 = .ok (.invokevirtual 54, 3) := by decide +kernel
theorem dX5_count_47 : decode cX5_count 47 = .ok (.iadd, 1) := by decide +kernel
theorem dX5_count_48 : decode cX5_count 48 = .ok (.istore_n 2, 1) := by decide +kernel
theorem dX5_count_49 : decode cX5_count 49 = .ok (.iinc 3 1, 3) := by decide +kernel
theorem dX5_count_52 : decode cX5_count 52 = .ok (.goto (-21), 3) := by decide +kernel
theorem dX5_count_55 : decode cX5_count 55 = .ok (.iload_n 1, 1) := by decide +kernel
theorem dX5_count_56 : decode cX5_count 56 = .ok (.ifCond .ne 10, 3) := by decide +kernel
theorem dX5_count_59 : decode cX5_count 59 = .ok (.aload_n 0, 1) := by decide +kernel
theorem dX5_count_60 : decode cX5_count 60 = .ok (.invokevirtual 35, 3) := by decide +kernel
theorem dX5_count_63 : decode cX5_count 63 = .ok (.goto 45, 3) := by decide +kernel
theorem dX5_count_66 : decode cX5_count 66 = .ok (.iload_n 1, 1) := by decide +kernel
theorem dX5_count_67 : decode cX5_count 67 = .ok (.iconst 1, 1) := by decide +kernel
theorem dX5_count_68 : decode cX5_count 68 = .ok (.if_icmp .ne 15, 3) := by decide +kernel
theorem dX5_count_71 : decode cX5_count 71 = .ok (.aload_n 0, 1) := by decide +kernel
theorem dX5_count_72 : decode cX5_count 72 = .ok (.invokevirtual 35, 3) := by decide +kernel
theorem dX5_count_75 : decode cX5_count 75 = .ok (.aload_n 0, 1) := by decide +kernel
theorem dX5_count_76 : decode cX5_count 76 = .ok (.invokevirtual 196, 3) := by decide +kernel
theorem dX5_count_79 : decode cX5_count 79 = .ok (.isub, 1) := by decide +kernel
theorem dX5_count_80 : decode cX5_count 80 = .ok (.goto 28, 3) := by decide +kernel
theorem dX5_count_83 : decode cX5_count 83 = .ok (.iload_n 1, 1) := by decide +kernel
theorem dX5_count_84 : decode cX5_count 84 = .ok (.iconst 2, 1) := by decide +kernel
theorem dX5_count_85 : decode cX5_count 85 = .ok (.if_icmp .ne 7, 3) := by decide +kernel
theorem dX5_count_88 : decode cX5_count 88 = .ok (.iload_n 2, 1) := by decide +kernel
theorem dX5_count_89 : decode cX5_count 89 = .ok (.goto 19, 3) := by decide +kernel
theorem dX5_count_92 : decode cX5_count 92 = .ok (.iload_n 1, 1) := by decide +kernel
theorem dX5_count_93 : decode cX5_count 93 = .ok (.iconst 3, 1) := by decide +kernel
theorem dX5_count_94 : decode cX5_count 94 = .ok (.if_icmp .ne 10, 3) := by decide +kernel
theorem dX5_count_97 : decode cX5_count 97 = .ok (.aload_n 0, 1) := by decide +kernel
theorem dX5_count_98 : decode cX5_count 98 = .ok (.getfield 89, 3) := by decide +kernel
theorem dX5_count_101 : decode cX5_count 101 = .ok (.goto 7, 3) := by decide +kernel
theorem dX5_count_104 : decode cX5_count 104 = .ok (.aload_n 0, 1) := by decide +kernel
theorem dX5_count_105 : decode cX5_count 105 = .ok (.getfield 43, 3) := by decide +kernel
theorem dX5_count_108 : decode cX5_count 108 = .ok (.ireturn, 1) := by decide +kernel
theorem dX5_undo_0 : decode cX5_undo 0 = .ok (.aload_n 0, 1) := by decide +kernel
theorem dX5_undo_1 : decode cX5_undo 1 = .ok (.aload_n 0, 1) := by decide +kernel
theorem dX5_undo_2 : decode cX5_undo 2 = .ok (.getfield 43, 3) := by decide +kernel
theorem dX5_undo_5 : decode cX5_undo 5 = .ok (.ifCond .ne 7, 3) := by decide +kernel
theorem dX5_undo_8 : decode cX5_undo 8 = .ok (.iconst 1, 1) := by decide +kernel
theorem dX5_undo_9 : decode cX5_undo 9 = .ok (.goto 4, 3) := by decide +kernel
theorem dX5_undo_12 : decode cX5_undo 12 = .ok (.iconst 0, 1) := by decide +kernel
theorem dX5_undo_13 : decode cX5_undo 13 = .ok (.putfield 1, 3) := by decide +kernel
theorem dX5_undo_16 : decode cX5_undo 16 = .ok (.aload_n 0, 1) := by decide +kernel
theorem dX5_undo_17 : decode cX5_undo 17 = .ok (.getfield 1, 3) := by decide +kernel
theorem dX5_undo_20 : decode cX5_undo 20 = .ok (.ifCond .eq 5, 3) := by decide +kernel
theorem dX5_undo_23 : decode cX5_undo 23 = .ok (.iconst 0, 1) := by decide +kernel
theorem dX5_undo_24 : decode cX5_undo 24 = .ok (.ireturn, 1) := by decide +kernel
theorem dX5_undo_25 : decode cX5_undo 25 = .ok (.aload_n 0, 1) := by decide +kernel
theorem dX5_undo_26 : decode cX5_undo 26 = .ok (.aload_n 0, 1) := by decide +kernel
theorem dX5_undo_27 : decode cX5_undo 27 = .ok (.getfield 43, 3) := by decide +kernel
theorem dX5_undo_30 : decode cX5_undo 30 = .ok (.iconst 0, 1) := by decide +kernel
theorem dX5_undo_31 : decode cX5_undo 31 = .ok (.invokevirtual 46, 3) := by decide +kernel
theorem dX5_undo_34 : decode cX5_undo 34 = .ok (.aload_n 0, 1) := by decide +kernel
theorem dX5_undo_35 : decode cX5_undo 35 = .ok (.dup, 1) := by decide +kernel
theorem dX5_undo_36 : decode cX5_undo 36 = .ok (.getfield 43, 3) := by decide +kernel
theorem dX5_undo_39 : decode cX5_undo 39 = .ok (.iconst 1, 1) := by decide +kernel
theorem dX5_undo_40 : decode cX5_undo 40 = .ok (.isub, 1) := by decide +kernel
theorem dX5_undo_41 : decode cX5_undo 41 = .ok (.putfield 43, 3) := by decide +kernel
theorem dX5_undo_44 : decode cX5_undo 44 = .ok (.aload_n 0, 1) := by decide +kernel
theorem dX5_undo_45 : decode cX5_undo 45 = .ok (.getfield 43, 3) := by decide +kernel
theorem dX5_undo_48 : decode cX5_undo 48 = .ok (.ireturn, 1) := by decide +kernel
theorem dX5_save_0 : decode cX5_save 0 = .ok (.aload_n 0, 1) := by decide +kernel
theorem dX5_save_1 : decode cX5_save 1 = .ok (.iconst 0, 1) := by decide +kernel
theorem dX5_save_2 : decode cX5_save 2 = .ok (.putfield 1, 3) := by decide +kernel
theorem dX5_save_5 : decode cX5_save 5 = .ok (.aload_n 0, 1) := by decide +kernel
theorem dX5_save_6 : decode cX5_save 6 = .ok (.iconst 1, 1) := by decide +kernel
theorem dX5_save_7 : decode cX5_save 7 = .ok (.putfield 209, 3) := by decide +kernel
theorem dX5_save_10 : decode cX5_save 10 = .ok (.aload_n 0, 1) := by decide +kernel
theorem dX5_save_11 : decode cX5_save 11 = .ok (.iconst 0, 1) := by decide +kernel
theorem dX5_save_12 : decode cX5_save 12 = .ok (.bipush 7, 2) := by decide +kernel
theorem dX5_save_14 : decode cX5_save 14 = .ok (.invokevirtual 46, 3) := by decide +kernel
theorem dX5_save_17 : decode cX5_save 17 = .ok (.aload_n 0, 1) := by decide +kernel
theorem dX5_save_18 : decode cX5_save 18 = .ok (.invokevirtual 35, 3) := by decide +kernel
theorem dX5_save_21 : decode cX5_save 21 = .ok (.ireturn, 1) := by decide +kernel
theorem dX5_restore_0 : decode cX5_restore 0 = .ok (.aload_n 0, 1) := by decide +kernel
theorem dX5_restore_1 : decode cX5_restore 1 = .ok (.aload_n 0, 1) := by decide +kernel
theorem dX5_restore_2 : decode cX5_restore 2 = .ok (.getfield 209, 3) := by decide +kernel
theorem dX5_restore_5 : decode cX5_restore 5 = .ok (.ifCond .eq 7, 3) := by decide +kernel
theorem dX5_restore_8 : decode cX5_restore 8 = .ok (.iconst 0, 1) := by decide +kernel
theorem dX5_restore_9 : decode cX5_restore 9 = .ok (.goto 4, 3) := by decide +kernel
theorem dX5_restore_12 : decode cX5_restore 12 = .ok (.iconst 1, 1) := by decide +kernel
theorem dX5_restore_13 : decode cX5_restore 13 = .ok (.putfield 1, 3) := by decide +kernel
theorem dX5_restore_16 : decode cX5_restore 16 = .ok (.aload_n 0, 1) := by decide +kernel
theorem dX5_restore_17 : decode cX5_restore 17 = .ok (.getfield 1, 3) := by decide +kernel
theorem dX5_restore_20 : decode cX5_restore 20 = .ok (.ifCond .eq 5, 3) := by decide +kernel
theorem dX5_restore_23 : decode cX5_restore 23 = .ok (.iconst 0, 1) := by decide +kernel
theorem dX5_restore_24 : decode cX5_restore 24 = .ok (.ireturn, 1) := by decide +kernel
theorem dX5_restore_25 : decode cX5_restore 25 = .ok (.aload_n 0, 1) := by decide +kernel
theorem dX5_restore_26 : decode cX5_restore 26 = .ok (.invokevirtual 83, 3) := by decide +kernel
theorem dX5_restore_29 : decode cX5_restore 29 = .ok (.aload_n 0, 1) := by decide +kernel
theorem dX5_restore_30 : decode cX5_restore 30 = .ok (.bipush 7, 2) := by decide +kernel
theorem dX5_restore_32 : decode cX5_restore 32 = .ok (.iconst 0, 1) := by decide +kernel
theorem dX5_restore_33 : decode cX5_restore 33 = .ok (.invokevirtual 46, 3) := by decide +kernel
theorem dX5_restore_36 : decode cX5_restore 36 = .ok (.aload_n 0, 1) := by decide +kernel
theorem dX5_restore_37 : decode cX5_restore 37 = .ok (.invokevirtual 35, 3) := by decide +kernel
theorem dX5_restore_40 : decode cX5_restore 40 = .ok (.ireturn, 1) := by decide +kernel
theorem dJ5_init_d00df_0 : decode cJ5_init_d00df 0 = .ok (.aload_n 0, 1) := by decide +kernel
theorem dJ5_init_d00df_1 : decode cJ5_init_d00df 1 = .ok (.invokespecial 3, 3) := by decide +kernel
theorem dJ5_init_d00df_4 : decode cJ5_init_d00df 4 = .ok (.getstatic 18, 3) := by decide +kernel
theorem dJ5_init_d00df_7 : decode cJ5_init_d00df 7 = .ok (.ifCond .eq 18, 3) := by decide +kernel
theorem dJ5_init_d00df_10 : decode cJ5_init_d00df 10 = .ok (.aload_n 0, 1) := by decide +kernel
theorem dJ5_init_d00df_11 : decode cJ5_init_d00df 11 = .ok (.iload_n 1, 1) := by decide +kernel
theorem dJ5_init_d00df_12 : decode cJ5_init_d00df 12 = .ok (.newarray .byte, 2) := by decide +kernel
theorem dJ5_init_d00df_14 : decode cJ5_init_d00df 14 = .ok (.putfield 15, 3) := by decide +kernel
theorem dJ5_init_d00df_17 : decode cJ5_init_d00df 17 = .ok (.aload_n 0, 1) := by decide +kernel
theorem dJ5_init_d00df_18 : decode cJ5_init_d00df 18 = .ok (.iconst 0, 1) := by decide +kernel
theorem dJ5_init_d00df_19 : decode cJ5_init_d00df 19 = .ok (.putfield 22, 3) := by decide +kernel
theorem dJ5_init_d00df_22 : decode cJ5_init_d00df 22 = .ok (.goto 16, 3) := by decide +kernel
theorem dJ5_init_d00df_25 : decode cJ5_init_d00df 25 = .ok (.aload_n 0, 1) := by decide +kernel
theorem dJ5_init_d00df_26 : decode cJ5_init_d00df 26 = .ok (.iload_n 1, 1) := by decide +kernel
theorem dJ5_init_d00df_27 : decode cJ5_init_d00df 27 = .ok (.invokestatic 26, 3) := by decide +kernel
theorem dJ5_init_d00df_30 : decode cJ5_init_d00df 30 = .ok (.putfield 15, 3) := by decide +kernel
theorem dJ5_init_d00df_33 : decode cJ5_init_d00df 33 = .ok (.aload_n 0, 1) := by decide +kernel
theorem dJ5_init_d00df_34 : decode cJ5_init_d00df 34 = .ok (.iconst 1, 1) := by decide +kernel
theorem dJ5_init_d00df_35 : decode cJ5_init_d00df 35 = .ok (.putfield 22, 3) := by decide +kernel
theorem dJ5_init_d00df_38 : decode cJ5_init_d00df 38 = .ok (.return_, 1) := by decide +kernel
theorem dJ5_length_8abf5_0 : decode cJ5_length_8abf5 0 = .ok (.aload_n 0, 1) := by decide +kernel
theorem dJ5_length_8abf5_1 : decode cJ5_length_8abf5 1 = .ok (.getfield 79, 3) := by decide +kernel
theorem dJ5_length_8abf5_4 : decode cJ5_length_8abf5 4 = .ok (.ireturn, 1) := by decide +kernel
theorem dJ5_ensureCapacityInternal_d00df_0 : decode cJ5_ensureCapacityInternal_d00df 0 = .ok (.aload_n 0, 1) := by decide +kernel
theorem dJ5_ensureCapacityInternal_d00df_1 : decode cJ5_ensureCapacityInternal_d00df 1 = .ok (.getfield 15, 3) := by decide +kernel
theorem dJ5_ensureCapacityInternal_d00df_4 : decode cJ5_ensureCapacityInternal_d00df 4 = .ok (.arraylength, 1) := by decide +kernel
theorem dJ5_ensureCapacityInternal_d00df_5 : decode cJ5_ensureCapacityInternal_d00df 5 = .ok (.aload_n 0, 1) := by decide +kernel
theorem dJ5_ensureCapacityInternal_d00df_6 : decode cJ5_ensureCapacityInternal_d00df 6 = .ok (.getfield 22, 3) := by decide +kernel
theorem dJ5_ensureCapacityInternal_d00df_9 : decode cJ5_ensureCapacityInternal_d00df 9 = .ok (.ishr, 1) := by decide +kernel
theorem dJ5_ensureCapacityInternal_d00df_10 : decode cJ5_ensureCapacityInternal_d00df 10 = .ok (.istore_n 2, 1) := by decide +kernel
theorem dJ5_ensureCapacityInternal_d00df_11 : decode cJ5_ensureCapacityInternal_d00df 11 = .ok (.iload_n 1, 1) := by decide +kernel
theorem dJ5_ensureCapacityInternal_d00df_12 : decode cJ5_ensureCapacityInternal_d00df 12 = .ok (.iload_n 2, 1) := by decide +kernel
theorem dJ5_ensureCapacityInternal_d00df_13 : decode cJ5_ensureCapacityInternal_d00df 13 = .ok (.isub, 1) := by decide +kernel
theorem dJ5_ensureCapacityInternal_d00df_14 : decode cJ5_ensureCapacityInternal_d00df 14 = .ok (.ifCond .le 24, 3) := by decide +kernel
theorem dJ5_ensureCapacityInternal_d00df_17 : decode cJ5_ensureCapacityInternal_d00df 17 = .ok (.aload_n 0, 1) := by decide +kernel
theorem dJ5_ensureCapacityInternal_d00df_18 : decode cJ5_ensureCapacityInternal_d00df 18 = .ok (.aload_n 0, 1) := by decide +kernel
theorem dJ5_ensureCapacityInternal_d00df_19 : decode cJ5_ensureCapacityInternal_d00df 19 = .ok (.getfield 15, 3) := by decide +kernel
theorem dJ5_ensureCapacityInternal_d00df_22 : decode cJ5_ensureCapacityInternal_d00df 22 = .ok (.aload_n 0, 1) := by decide +kernel
theorem dJ5_ensureCapacityInternal_d00df_23 : decode cJ5_ensureCapacityInternal_d00df 23 = .ok (.iload_n 1, 1) := by decide +kernel
theorem dJ5_ensureCapacityInternal_d00df_24 : decode cJ5_ensureCapacityInternal_d00df 24 = .ok (.invokevirtual 104, 3) := by decide +kernel
theorem dJ5_ensureCapacityInternal_d00df_27 : decode cJ5_ensureCapacityInternal_d00df 27 = .ok (.aload_n 0, 1) := by decide +kernel
theorem dJ5_ensureCapacityInternal_d00df_28 : decode cJ5_ensureCapacityInternal_d00df 28 = .ok (.getfield 22, 3) := by decide +kernel
theorem dJ5_ensureCapacityInternal_d00df_31 : decode cJ5_ensureCapacityInternal_d00df 31 = .ok (.ishl, 1) := by decide +kernel
theorem dJ5_ensureCapacityInternal_d00df_32 : decode cJ5_ensureCapacityInternal_d00df 32 = .ok (.invokestatic 108, 3) := by decide +kernel
theorem dJ5_ensureCapacityInternal_d00df_35 : decode cJ5_ensureCapacityInternal_d00df 35 = .ok (.putfield 15, 3) := by decide +kernel
theorem dJ5_ensureCapacityInternal_d00df_38 : decode cJ5_ensureCapacityInternal_d00df 38 = .ok (.return_, 1) := by decide +kernel
theorem dJ5_newCapacity_0f7a4_0 : decode cJ5_newCapacity_0f7a4 0 = .ok (.aload_n 0, 1) := by decide +kernel
theorem dJ5_newCapacity_0f7a4_1 : decode cJ5_newCapacity_0f7a4 1 = .ok (.getfield 15, 3) := by decide +kernel
theorem dJ5_newCapacity_0f7a4_4 : decode cJ5_newCapacity_0f7a4 4 = .ok (.arraylength, 1) := by decide +kernel
theorem dJ5_newCapacity_0f7a4_5 : decode cJ5_newCapacity_0f7a4 5 = .ok (.istore_n 2, 1) := by decide +kernel
theorem dJ5_newCapacity_0f7a4_6 : decode cJ5_newCapacity_0f7a4 6 = .ok (.iload_n 1, 1) := by decide +kernel
theorem dJ5_newCapacity_0f7a4_7 : decode cJ5_newCapacity_0f7a4 7 = .ok (.aload_n 0, 1) := by decide +kernel
theorem dJ5_newCapacity_0f7a4_8 : decode cJ5_newCapacity_0f7a4 8 = .ok (.getfield 22, 3) := by decide +kernel
theorem dJ5_newCapacity_0f7a4_11 : decode cJ5_newCapacity_0f7a4 11 = .ok (.ishl, 1) := by decide +kernel
theorem dJ5_newCapacity_0f7a4_12 : decode cJ5_newCapacity_0f7a4 12 = .ok (.istore_n 3, 1) := by decide +kernel
theorem dJ5_newCapacity_0f7a4_13 : decode cJ5_newCapacity_0f7a4 13 = .ok (.iload_n 3, 1) := by decide +kernel
theorem dJ5_newCapacity_0f7a4_14 : decode cJ5_newCapacity_0f7a4 14 = .ok (.iload_n 2, 1) := by decide +kernel
theorem dJ5_newCapacity_0f7a4_15 : decode cJ5_newCapacity_0f7a4 15 = .ok (.isub, 1) := by decide +kernel
theorem dJ5_newCapacity_0f7a4_16 : decode cJ5_newCapacity_0f7a4 16 = .ok (.istore 4, 2) := by decide +kernel
theorem dJ5_newCapacity_0f7a4_18 : decode cJ5_newCapacity_0f7a4 18 = .ok (.iload_n 2, 1) := by decide +kernel
theorem dJ5_newCapacity_0f7a4_19 : decode cJ5_newCapacity_0f7a4 19 = .ok (.iload 4, 2) := by decide +kernel
theorem dJ5_newCapacity_0f7a4_21 : decode cJ5_newCapacity_0f7a4 21 = .ok (.iload_n 2, 1) := by decide +kernel
theorem dJ5_newCapacity_0f7a4_22 : decode cJ5_newCapacity_0f7a4 22 = .ok (.iconst 2, 1) := by decide +kernel
theorem dJ5_newCapacity_0f7a4_23 : decode cJ5_newCapacity_0f7a4 23 = .ok (.aload_n 0, 1) := by decide +kernel
theorem dJ5_newCapacity_0f7a4_24 : decode cJ5_newCapacity_0f7a4 24 = .ok (.getfield 22, 3) := by decide +kernel
theorem dJ5_newCapacity_0f7a4_27 : decode cJ5_newCapacity_0f7a4 27 = .ok (.ishl, 1) := by decide +kernel
theorem dJ5_newCapacity_0f7a4_28 : decode cJ5_newCapacity_0f7a4 28 = .ok (.iadd, 1) := by decide +kernel
theorem dJ5_newCapacity_0f7a4_29 : decode cJ5_newCapacity_0f7a4 29 = .ok (.invokestatic 114, 3) := by decide +kernel
theorem dJ5_newCapacity_0f7a4_32 : decode cJ5_newCapacity_0f7a4 32 = .ok (.istore 5, 2) := by decide +kernel
theorem dJ5_newCapacity_0f7a4_34 : decode cJ5_newCapacity_0f7a4 34 = .ok (.iload 5, 2) := by decide +kernel
theorem dJ5_newCapacity_0f7a4_36 : decode cJ5_newCapacity_0f7a4 36 = .ok (.ldc 39, 2) := by decide +kernel
theorem dJ5_newCapacity_0f7a4_38 : decode cJ5_newCapacity_0f7a4 38 = .ok (.if_icmp .ne 13, 3) := by decide +kernel
theorem dJ5_newCapacity_0f7a4_41 : decode cJ5_newCapacity_0f7a4 41 = .ok (.new 120, 3) := by decide +kernel
theorem dJ5_newCapacity_0f7a4_44 : decode cJ5_newCapacity_0f7a4 44 = .ok (.dup, 1) := by decide +kernel
theorem dJ5_newCapacity_0f7a4_45 : decode cJ5_newCapacity_0f7a4 45 = .ok (.ldc 122, 2) := by decide +kernel
theorem dJ5_newCapacity_0f7a4_47 : decode cJ5_newCapacity_0f7a4 47 = .ok (.invokespecial 124, 3) := by decide +kernel
theorem dJ5_newCapacity_0f7a4_50 : decode cJ5_newCapacity_0f7a4 50 = .ok (.athrow, 1) := by decide +kernel
theorem dJ5_newCapacity_0f7a4_51 : decode cJ5_newCapacity_0f7a4 51 = .ok (.iload 5, 2) := by decide +kernel
theorem dJ5_newCapacity_0f7a4_53 : decode cJ5_newCapacity_0f7a4 53 = .ok (.aload_n 0, 1) := by decide +kernel
theorem dJ5_newCapacity_0f7a4_54 : decode cJ5_newCapacity_0f7a4 54 = .ok (.getfield 22, 3) := by decide +kernel
theorem dJ5_newCapacity_0f7a4_57 : decode cJ5_newCapacity_0f7a4 57 = .ok (.ishr, 1) := by decide +kernel
theorem dJ5_newCapacity_0f7a4_58 : decode cJ5_newCapacity_0f7a4 58 = .ok (.ireturn, 1) := by decide +kernel
theorem dJ5_inflate_da8c8_0 : decode cJ5_inflate_da8c8 0 = .ok (.aload_n 0, 1) := by decide +kernel
theorem dJ5_inflate_da8c8_1 : decode cJ5_inflate_da8c8 1 = .ok (.invokevirtual 83, 3) := by decide +kernel
theorem dJ5_inflate_da8c8_4 : decode cJ5_inflate_da8c8 4 = .ok (.ifCond .ne 4, 3) := by decide +kernel
theorem dJ5_inflate_da8c8_7 : decode cJ5_inflate_da8c8 7 = .ok (.return_, 1) := by decide +kernel
theorem dJ5_inflate_da8c8_8 : decode cJ5_inflate_da8c8 8 = .ok (.aload_n 0, 1) := by decide +kernel
theorem dJ5_inflate_da8c8_9 : decode cJ5_inflate_da8c8 9 = .ok (.getfield 15, 3) := by decide +kernel
theorem dJ5_inflate_da8c8_12 : decode cJ5_inflate_da8c8 12 = .ok (.arraylength, 1) := by decide +kernel
theorem dJ5_inflate_da8c8_13 : decode cJ5_inflate_da8c8 13 = .ok (.invokestatic 26, 3) := by decide +kernel
theorem dJ5_inflate_da8c8_16 : decode cJ5_inflate_da8c8 16 = .ok (.astore_n 1, 1) := by decide +kernel
theorem dJ5_inflate_da8c8_17 : decode cJ5_inflate_da8c8 17 = .ok (.aload_n 0, 1) := by decide +kernel
theorem dJ5_inflate_da8c8_18 : decode cJ5_inflate_da8c8 18 = .ok (.getfield 15, 3) := by decide +kernel
theorem dJ5_inflate_da8c8_21 : decode cJ5_inflate_da8c8 21 = .ok (.iconst 0, 1) := by decide +kernel
theorem dJ5_inflate_da8c8_22 : decode cJ5_inflate_da8c8 22 = .ok (.aload_n 1, 1) := by decide +kernel
theorem dJ5_inflate_da8c8_23 : decode cJ5_inflate_da8c8 23 = .ok (.iconst 0, 1) := by decide +kernel
theorem dJ5_inflate_da8c8_24 : decode cJ5_inflate_da8c8 24 = .ok (.aload_n 0, 1) := by decide +kernel
theorem dJ5_inflate_da8c8_25 : decode cJ5_inflate_da8c8 25 = .ok (.getfield 79, 3) := by decide +kernel
theorem dJ5_inflate_da8c8_28 : decode cJ5_inflate_da8c8 28 = .ok (.invokestatic 125, 3) := by decide +kernel
theorem dJ5_inflate_da8c8_31 : decode cJ5_inflate_da8c8 31 = .ok (.aload_n 0, 1) := by decide +kernel
theorem dJ5_inflate_da8c8_32 : decode cJ5_inflate_da8c8 32 = .ok (.aload_n 1, 1) := by decide +kernel
theorem dJ5_inflate_da8c8_33 : decode cJ5_inflate_da8c8 33 = .ok (.putfield 15, 3) := by decide +kernel
theorem dJ5_inflate_da8c8_36 : decode cJ5_inflate_da8c8 36 = .ok (.aload_n 0, 1) := by decide +kernel
theorem dJ5_inflate_da8c8_37 : decode cJ5_inflate_da8c8 37 = .ok (.iconst 1, 1) := by decide +kernel
theorem dJ5_inflate_da8c8_38 : decode cJ5_inflate_da8c8 38 = .ok (.putfield 22, 3) := by decide +kernel
theorem dJ5_inflate_da8c8_41 : decode cJ5_inflate_da8c8 41 = .ok (.return_, 1) := by decide +kernel
theorem dJ5_charAt_5068e_0 : decode cJ5_charAt_5068e 0 = .ok (.aload_n 0, 1) := by decide +kernel
theorem dJ5_charAt_5068e_1 : decode cJ5_charAt_5068e 1 = .ok (.getfield 22, 3) := by decide +kernel
theorem dJ5_charAt_5068e_4 : decode cJ5_charAt_5068e 4 = .ok (.istore_n 2, 1) := by decide +kernel
theorem dJ5_charAt_5068e_5 : decode cJ5_charAt_5068e 5 = .ok (.aload_n 0, 1) := by decide +kernel
theorem dJ5_charAt_5068e_6 : decode cJ5_charAt_5068e 6 = .ok (.getfield 15, 3) := by decide +kernel
theorem dJ5_charAt_5068e_9 : decode cJ5_charAt_5068e 9 = .ok (.astore_n 3, 1) := by decide +kernel
theorem dJ5_charAt_5068e_10 : decode cJ5_charAt_5068e 10 = .ok (.aload_n 0, 1) := by decide +kernel
theorem dJ5_charAt_5068e_11 : decode cJ5_charAt_5068e 11 = .ok (.getfield 79, 3) := by decide +kernel
theorem dJ5_charAt_5068e_14 : decode cJ5_charAt_5068e 14 = .ok (.aload_n 3, 1) := by decide +kernel
theorem dJ5_charAt_5068e_15 : decode cJ5_charAt_5068e 15 = .ok (.arraylength, 1) := by decide +kernel
theorem dJ5_charAt_5068e_16 : decode cJ5_charAt_5068e 16 = .ok (.iload_n 2, 1) := by decide +kernel
theorem dJ5_charAt_5068e_17 : decode cJ5_charAt_5068e 17 = .ok (.ishr, 1) := by decide +kernel
theorem dJ5_charAt_5068e_18 : decode cJ5_charAt_5068e 18 = .ok (.invokestatic 138, 3) := by decide +kernel
theorem dJ5_charAt_5068e_21 : decode cJ5_charAt_5068e 21 = .ok (.istore 4, 2) := by decide +kernel
theorem dJ5_charAt_5068e_23 : decode cJ5_charAt_5068e 23 = .ok (.iload_n 1, 1) := by decide +kernel
theorem dJ5_charAt_5068e_24 : decode cJ5_charAt_5068e 24 = .ok (.iload 4, 2) := by decide +kernel
theorem dJ5_charAt_5068e_26 : decode cJ5_charAt_5068e 26 = .ok (.invokestatic 144, 3) := by decide +kernel
theorem dJ5_charAt_5068e_29 : decode cJ5_charAt_5068e 29 = .ok (.iload_n 2, 1) := by decide +kernel
theorem dJ5_charAt_5068e_30 : decode cJ5_charAt_5068e 30 = .ok (.ifCond .ne 12, 3) := by decide +kernel
theorem dJ5_charAt_5068e_33 : decode cJ5_charAt_5068e 33 = .ok (.aload_n 3, 1) := by decide +kernel
theorem dJ5_charAt_5068e_34 : decode cJ5_charAt_5068e 34 = .ok (.iload_n 1, 1) := by decide +kernel
theorem dJ5_charAt_5068e_35 : decode cJ5_charAt_5068e 35 = .ok (.baload, 1) := by decide +kernel
theorem dJ5_charAt_5068e_36 : decode cJ5_charAt_5068e 36 = .ok (.sipush 255, 3) := by decide +kernel
theorem dJ5_charAt_5068e_39 : decode cJ5_charAt_5068e 39 = .ok (.iand, 1) := by decide +kernel
theorem dJ5_charAt_5068e_40 : decode cJ5_charAt_5068e 40 = .ok (.i2c, 1) := by decide +kernel
theorem dJ5_charAt_5068e_41 : decode cJ5_charAt_5068e 41 = .ok (.ireturn, 1) := by decide +kernel
theorem dJ5_charAt_5068e_42 : decode cJ5_charAt_5068e 42 = .ok (.aload_n 3, 1) := by decide +kernel
theorem dJ5_charAt_5068e_43 : decode cJ5_charAt_5068e 43 = .ok (.iload_n 1, 1) := by decide +kernel
theorem dJ5_charAt_5068e_44 : decode cJ5_charAt_5068e 44 = .ok (.invokestatic 148, 3) := by decide +kernel
theorem dJ5_charAt_5068e_47 : decode cJ5_charAt_5068e 47 = .ok (.ireturn, 1) := by decide +kernel
theorem dJ5_append_3fe6f_0 : decode cJ5_append_3fe6f 0 = .ok (.aload_n 0, 1) := by decide +kernel
theorem dJ5_append_3fe6f_1 : decode cJ5_append_3fe6f 1 = .ok (.aload_n 0, 1) := by decide +kernel
theorem dJ5_append_3fe6f_2 : decode cJ5_append_3fe6f 2 = .ok (.getfield 79, 3) := by decide +kernel
theorem dJ5_append_3fe6f_5 : decode cJ5_append_3fe6f 5 = .ok (.iconst 1, 1) := by decide +kernel
theorem dJ5_append_3fe6f_6 : decode cJ5_append_3fe6f 6 = .ok (.iadd, 1) := by decide +kernel
theorem dJ5_append_3fe6f_7 : decode cJ5_append_3fe6f 7 = .ok (.invokevirtual 100, 3) := by decide +kernel
theorem dJ5_append_3fe6f_10 : decode cJ5_append_3fe6f 10 = .ok (.aload_n 0, 1) := by decide +kernel
theorem dJ5_append_3fe6f_11 : decode cJ5_append_3fe6f 11 = .ok (.invokevirtual 83, 3) := by decide +kernel
theorem dJ5_append_3fe6f_14 : decode cJ5_append_3fe6f 14 = .ok (.ifCond .eq 31, 3) := by decide +kernel
theorem dJ5_append_3fe6f_17 : decode cJ5_append_3fe6f 17 = .ok (.iload_n 1, 1) := by decide +kernel
theorem dJ5_append_3fe6f_18 : decode cJ5_append_3fe6f 18 = .ok (.invokestatic 191, 3) := by decide +kernel
theorem dJ5_append_3fe6f_21 : decode cJ5_append_3fe6f 21 = .ok (.ifCond .eq 24, 3) := by decide +kernel
theorem dJ5_append_3fe6f_24 : decode cJ5_append_3fe6f 24 = .ok (.aload_n 0, 1) := by decide +kernel
theorem dJ5_append_3fe6f_25 : decode cJ5_append_3fe6f 25 = .ok (.getfield 15, 3) := by decide +kernel
theorem dJ5_append_3fe6f_28 : decode cJ5_append_3fe6f 28 = .ok (.aload_n 0, 1) := by decide +kernel
theorem dJ5_append_3fe6f_29 : decode cJ5_append_3fe6f 29 = .ok (.dup, 1) := by decide +kernel
theorem dJ5_append_3fe6f_30 : decode cJ5_append_3fe6f 30 = .ok (.getfield 79, 3) := by decide +kernel
theorem dJ5_append_3fe6f_33 : decode cJ5_append_3fe6f 33 = .ok (.dup_x1, 1) := by decide +kernel
theorem dJ5_append_3fe6f_34 : decode cJ5_append_3fe6f 34 = .ok (.iconst 1, 1) := by decide +kernel
theorem dJ5_append_3fe6f_35 : decode cJ5_append_3fe6f 35 = .ok (.iadd, 1) := by decide +kernel
theorem dJ5_append_3fe6f_36 : decode cJ5_append_3fe6f 36 = .ok (.putfield 79, 3) := by decide +kernel
theorem dJ5_append_3fe6f_39 : decode cJ5_append_3fe6f 39 = .ok (.iload_n 1, 1) := by decide +kernel
theorem dJ5_append_3fe6f_40 : decode cJ5_append_3fe6f 40 = .ok (.i2b, 1) := by decide +kernel
theorem dJ5_append_3fe6f_41 : decode cJ5_append_3fe6f 41 = .ok (.bastore, 1) := by decide +kernel
theorem dJ5_append_3fe6f_42 : decode cJ5_append_3fe6f 42 = .ok (.goto 33, 3) := by decide +kernel
theorem dJ5_append_3fe6f_45 : decode cJ5_append_3fe6f 45 = .ok (.aload_n 0, 1) := by decide +kernel
theorem dJ5_append_3fe6f_46 : decode cJ5_append_3fe6f 46 = .ok (.invokevirtual 83, 3) := by decide +kernel
theorem dJ5_append_3fe6f_49 : decode cJ5_append_3fe6f 49 = .ok (.ifCond .eq 7, 3) := by decide +kernel
theorem dJ5_append_3fe6f_52 : decode cJ5_append_3fe6f 52 = .ok (.aload_n 0, 1) := by decide +kernel
theorem dJ5_append_3fe6f_53 : decode cJ5_append_3fe6f 53 = .ok (.invokevirtual 195, 3) := by decide +kernel
theorem dJ5_append_3fe6f_56 : decode cJ5_append_3fe6f 56 = .ok (.aload_n 0, 1) := by decide +kernel
theorem dJ5_append_3fe6f_57 : decode cJ5_append_3fe6f 57 = .ok (.getfield 15, 3) := by decide +kernel
theorem dJ5_append_3fe6f_60 : decode cJ5_append_3fe6f 60 = .ok (.aload_n 0, 1) := by decide +kernel
theorem dJ5_append_3fe6f_61 : decode cJ5_append_3fe6f 61 = .ok (.dup, 1) := by decide +kernel
theorem dJ5_append_3fe6f_62 : decode cJ5_append_3fe6f 62 = .ok (.getfield 79, 3) := by decide +kernel
theorem dJ5_append_3fe6f_65 : decode cJ5_append_3fe6f 65 = .ok (.dup_x1, 1) := by decide +kernel
theorem dJ5_append_3fe6f_66 : decode cJ5_append_3fe6f 66 = .ok (.iconst 1, 1) := by decide +kernel
theorem dJ5_append_3fe6f_67 : decode cJ5_append_3fe6f 67 = .ok (.iadd, 1) := by decide +kernel
theorem dJ5_append_3fe6f_68 : decode cJ5_append_3fe6f 68 = .ok (.putfield 79, 3) := by decide +kernel
theorem dJ5_append_3fe6f_71 : decode cJ5_append_3fe6f 71 = .ok (.iload_n 1, 1) := by decide +kernel
theorem dJ5_append_3fe6f_72 : decode cJ5_append_3fe6f 72 = .ok (.invokestatic 197, 3) := by decide +kernel
theorem dJ5_append_3fe6f_75 : decode cJ5_append_3fe6f 75 = .ok (.aload_n 0, 1) := by decide +kernel
theorem dJ5_append_3fe6f_76 : decode cJ5_append_3fe6f 76 = .ok (.areturn, 1) := by decide +kernel
theorem dJ5_append_c97b9_0 : decode cJ5_append_c97b9 0 = .ok (.aload_n 0, 1) := by decide +kernel
theorem dJ5_append_c97b9_1 : decode cJ5_append_c97b9 1 = .ok (.getfield 79, 3) := by decide +kernel
theorem dJ5_append_c97b9_4 : decode cJ5_append_c97b9 4 = .ok (.istore_n 2, 1) := by decide +kernel
theorem dJ5_append_c97b9_5 : decode cJ5_append_c97b9 5 = .ok (.iload_n 2, 1) := by decide +kernel
theorem dJ5_append_c97b9_6 : decode cJ5_append_c97b9 6 = .ok (.iload_n 1, 1) := by decide +kernel
theorem dJ5_append_c97b9_7 : decode cJ5_append_c97b9 7 = .ok (.invokestatic 245, 3) := by decide +kernel
theorem dJ5_append_c97b9_10 : decode cJ5_append_c97b9 10 = .ok (.iadd, 1) := by decide +kernel
theorem dJ5_append_c97b9_11 : decode cJ5_append_c97b9 11 = .ok (.istore_n 3, 1) := by decide +kernel
theorem dJ5_append_c97b9_12 : decode cJ5_append_c97b9 12 = .ok (.aload_n 0, 1) := by decide +kernel
theorem dJ5_append_c97b9_13 : decode cJ5_append_c97b9 13 = .ok (.iload_n 3, 1) := by decide +kernel
theorem dJ5_append_c97b9_14 : decode cJ5_append_c97b9 14 = .ok (.invokevirtual 100, 3) := by decide +kernel
theorem dJ5_append_c97b9_17 : decode cJ5_append_c97b9 17 = .ok (.aload_n 0, 1) := by decide +kernel
theorem dJ5_append_c97b9_18 : decode cJ5_append_c97b9 18 = .ok (.invokevirtual 83, 3) := by decide +kernel
theorem dJ5_append_c97b9_21 : decode cJ5_append_c97b9 21 = .ok (.ifCond .eq 16, 3) := by decide +kernel
theorem dJ5_append_c97b9_24 : decode cJ5_append_c97b9 24 = .ok (.iload_n 1, 1) := by decide +kernel
theorem dJ5_append_c97b9_25 : decode cJ5_append_c97b9 25 = .ok (.iload_n 3, 1) := by decide +kernel
theorem dJ5_append_c97b9_26 : decode cJ5_append_c97b9 26 = .ok (.aload_n 0, 1) := by decide +kernel
theorem dJ5_append_c97b9_27 : decode cJ5_append_c97b9 27 = .ok (.getfield 15, 3) := by decide +kernel
theorem dJ5_append_c97b9_30 : decode cJ5_append_c97b9 30 = .ok (.invokestatic 248, 3) := by decide +kernel
theorem dJ5_append_c97b9_33 : decode cJ5_append_c97b9 33 = .ok (.pop, 1) := by decide +kernel
theorem dJ5_append_c97b9_34 : decode cJ5_append_c97b9 34 = .ok (.goto 14, 3) := by decide +kernel
theorem dJ5_append_c97b9_37 : decode cJ5_append_c97b9 37 = .ok (.iload_n 1, 1) := by decide +kernel
theorem dJ5_append_c97b9_38 : decode cJ5_append_c97b9 38 = .ok (.iload_n 2, 1) := by decide +kernel
theorem dJ5_append_c97b9_39 : decode cJ5_append_c97b9 39 = .ok (.iload_n 3, 1) := by decide +kernel
theorem dJ5_append_c97b9_40 : decode cJ5_append_c97b9 40 = .ok (.aload_n 0, 1) := by decide +kernel
theorem dJ5_append_c97b9_41 : decode cJ5_append_c97b9 41 = .ok (.getfield 15, 3) := by decide +kernel
theorem dJ5_append_c97b9_44 : decode cJ5_append_c97b9 44 = .ok (.invokestatic 251, 3) := by decide +kernel
theorem dJ5_append_c97b9_47 : decode cJ5_append_c97b9 47 = .ok (.pop, 1) := by decide +kernel
theorem dJ5_append_c97b9_48 : decode cJ5_append_c97b9 48 = .ok (.aload_n 0, 1) := by decide +kernel
theorem dJ5_append_c97b9_49 : decode cJ5_append_c97b9 49 = .ok (.iload_n 3, 1) := by decide +kernel
theorem dJ5_append_c97b9_50 : decode cJ5_append_c97b9 50 = .ok (.putfield 79, 3) := by decide +kernel
theorem dJ5_append_c97b9_53 : decode cJ5_append_c97b9 53 = .ok (.aload_n 0, 1) := by decide +kernel
theorem dJ5_append_c97b9_54 : decode cJ5_append_c97b9 54 = .ok (.areturn, 1) := by decide +kernel
theorem dJ5_isLatin1_aae02_0 : decode cJ5_isLatin1_aae02 0 = .ok (.getstatic 18, 3) := by decide +kernel
theorem dJ5_isLatin1_aae02_3 : decode cJ5_isLatin1_aae02 3 = .ok (.ifCond .eq 14, 3) := by decide +kernel
theorem dJ5_isLatin1_aae02_6 : decode cJ5_isLatin1_aae02 6 = .ok (.aload_n 0, 1) := by decide +kernel
theorem dJ5_isLatin1_aae02_7 : decode cJ5_isLatin1_aae02 7 = .ok (.getfield 22, 3) := by decide +kernel
theorem dJ5_isLatin1_aae02_10 : decode cJ5_isLatin1_aae02 10 = .ok (.ifCond .ne 7, 3) := by decide +kernel
theorem dJ5_isLatin1_aae02_13 : decode cJ5_isLatin1_aae02 13 = .ok (.iconst 1, 1) := by decide +kernel
theorem dJ5_isLatin1_aae02_14 : decode cJ5_isLatin1_aae02 14 = .ok (.goto 4, 3) := by decide +kernel
theorem dJ5_isLatin1_aae02_17 : decode cJ5_isLatin1_aae02 17 = .ok (.iconst 0, 1) := by decide +kernel
theorem dJ5_isLatin1_aae02_18 : decode cJ5_isLatin1_aae02 18 = .ok (.ireturn, 1) := by decide +kernel
theorem dJ6_getChars_ba4f3_0 : decode cJ6_getChars_ba4f3 0 = .ok (.iload_n 1, 1) := by decide +kernel
theorem dJ6_getChars_ba4f3_1 : decode cJ6_getChars_ba4f3 1 = .ok (.istore 5, 2) := by decide +kernel
theorem dJ6_getChars_ba4f3_3 : decode cJ6_getChars_ba4f3 3 = .ok (.iload_n 0, 1) := by decide +kernel
theorem dJ6_getChars_ba4f3_4 : decode cJ6_getChars_ba4f3 4 = .ok (.ifCond .ge 7, 3) := by decide +kernel
theorem dJ6_getChars_ba4f3_7 : decode cJ6_getChars_ba4f3 7 = .ok (.iconst 1, 1) := by decide +kernel
theorem dJ6_getChars_ba4f3_8 : decode cJ6_getChars_ba4f3 8 = .ok (.goto 4, 3) := by decide +kernel
theorem dJ6_getChars_ba4f3_11 : decode cJ6_getChars_ba4f3 11 = .ok (.iconst 0, 1) := by decide +kernel
theorem dJ6_getChars_ba4f3_12 : decode cJ6_getChars_ba4f3 12 = .ok (.istore 6, 2) := by decide +kernel
theorem dJ6_getChars_ba4f3_14 : decode cJ6_getChars_ba4f3 14 = .ok (.iload 6, 2) := by decide +kernel
theorem dJ6_getChars_ba4f3_16 : decode cJ6_getChars_ba4f3 16 = .ok (.ifCond .ne 6, 3) := by decide +kernel
theorem dJ6_getChars_ba4f3_19 : decode cJ6_getChars_ba4f3 19 = .ok (.iload_n 0, 1) := by decide +kernel
theorem dJ6_getChars_ba4f3_20 : decode cJ6_getChars_ba4f3 20 = .ok (.ineg, 1) := by decide +kernel
theorem dJ6_getChars_ba4f3_21 : decode cJ6_getChars_ba4f3 21 = .ok (.istore_n 0, 1) := by decide +kernel
theorem dJ6_getChars_ba4f3_22 : decode cJ6_getChars_ba4f3 22 = .ok (.iload_n 0, 1) := by decide +kernel
theorem dJ6_getChars_ba4f3_23 : decode cJ6_getChars_ba4f3 23 = .ok (.bipush (-100), 2) := by decide +kernel
theorem dJ6_getChars_ba4f3_25 : decode cJ6_getChars_ba4f3 25 = .ok (.if_icmp .gt 47, 3) := by decide +kernel
theorem dJ6_getChars_ba4f3_28 : decode cJ6_getChars_ba4f3 28 = .ok (.iload_n 0, 1) := by decide +kernel
theorem dJ6_getChars_ba4f3_29 : decode cJ6_getChars_ba4f3 29 = .ok (.bipush 100, 2) := by decide +kernel
theorem dJ6_getChars_ba4f3_31 : decode cJ6_getChars_ba4f3 31 = .ok (.idiv, 1) := by decide +kernel
theorem dJ6_getChars_ba4f3_32 : decode cJ6_getChars_ba4f3 32 = .ok (.istore_n 3, 1) := by decide +kernel
theorem dJ6_getChars_ba4f3_33 : decode cJ6_getChars_ba4f3 33 = .ok (.iload_n 3, 1) := by decide +kernel
theorem dJ6_getChars_ba4f3_34 : decode cJ6_getChars_ba4f3 34 = .ok (.bipush 100, 2) := by decide +kernel
theorem dJ6_getChars_ba4f3_36 : decode cJ6_getChars_ba4f3 36 = .ok (.imul, 1) := by decide +kernel
theorem dJ6_getChars_ba4f3_37 : decode cJ6_getChars_ba4f3 37 = .ok (.iload_n 0, 1) := by decide +kernel
theorem dJ6_getChars_ba4f3_38 : decode cJ6_getChars_ba4f3 38 = .ok (.isub, 1) := by decide +kernel
theorem dJ6_getChars_ba4f3_39 : decode cJ6_getChars_ba4f3 39 = .ok (.istore 4, 2) := by decide +kernel
theorem dJ6_getChars_ba4f3_41 : decode cJ6_getChars_ba4f3 41 = .ok (.iload_n 3, 1) := by decide +kernel
theorem dJ6_getChars_ba4f3_42 : decode cJ6_getChars_ba4f3 42 = .ok (.istore_n 0, 1) := by decide +kernel
theorem dJ6_getChars_ba4f3_43 : decode cJ6_getChars_ba4f3 43 = .ok (.aload_n 2, 1) := by decide +kernel
theorem dJ6_getChars_ba4f3_44 : decode cJ6_getChars_ba4f3 44 = .ok (.iinc 5 (-1), 3) := by decide +kernel
theorem dJ6_getChars_ba4f3_47 : decode cJ6_getChars_ba4f3 47 = .ok (.iload 5, 2) := by decide +kernel
theorem dJ6_getChars_ba4f3_49 : decode cJ6_getChars_ba4f3 49 = .ok (.getstatic 83, 3) := by decide +kernel
theorem dJ6_getChars_ba4f3_52 : decode cJ6_getChars_ba4f3 52 = .ok (.iload 4, 2) := by decide +kernel
theorem dJ6_getChars_ba4f3_54 : decode cJ6_getChars_ba4f3 54 = .ok (.baload, 1) := by decide +kernel
theorem dJ6_getChars_ba4f3_55 : decode cJ6_getChars_ba4f3 55 = .ok (.bastore, 1) := by decide +kernel
theorem dJ6_getChars_ba4f3_56 : decode cJ6_getChars_ba4f3 56 = .ok (.aload_n 2, 1) := by decide +kernel
theorem dJ6_getChars_ba4f3_57 : decode cJ6_getChars_ba4f3 57 = .ok (.iinc 5 (-1), 3) := by decide +kernel
theorem dJ6_getChars_ba4f3_60 : decode cJ6_getChars_ba4f3 60 = .ok (.iload 5, 2) := by decide +kernel
theorem dJ6_getChars_ba4f3_62 : decode cJ6_getChars_ba4f3 62 = .ok (.getstatic 87, 3) := by decide +kernel
theorem dJ6_getChars_ba4f3_65 : decode cJ6_getChars_ba4f3 65 = .ok (.iload 4, 2) := by decide +kernel
theorem dJ6_getChars_ba4f3_67 : decode cJ6_getChars_ba4f3 67 = .ok (.baload, 1) := by decide +kernel
theorem dJ6_getChars_ba4f3_68 : decode cJ6_getChars_ba4f3 68 = .ok (.bastore, 1) := by decide +kernel
theorem dJ6_getChars_ba4f3_69 : decode cJ6_getChars_ba4f3 69 = .ok (.goto (-47), 3) := by decide +kernel
theorem dJ6_getChars_ba4f3_72 : decode cJ6_getChars_ba4f3 72 = .ok (.aload_n 2, 1) := by decide +kernel
theorem dJ6_getChars_ba4f3_73 : decode cJ6_getChars_ba4f3 73 = .ok (.iinc 5 (-1), 3) := by decide +kernel
theorem dJ6_getChars_ba4f3_76 : decode cJ6_getChars_ba4f3 76 = .ok (.iload 5, 2) := by decide +kernel
theorem dJ6_getChars_ba4f3_78 : decode cJ6_getChars_ba4f3 78 = .ok (.getstatic 83, 3) := by decide +kernel
theorem dJ6_getChars_ba4f3_81 : decode cJ6_getChars_ba4f3 81 = .ok (.iload_n 0, 1) := by decide +kernel
theorem dJ6_getChars_ba4f3_82 : decode cJ6_getChars_ba4f3 82 = .ok (.ineg, 1) := by decide +kernel
theorem dJ6_getChars_ba4f3_83 : decode cJ6_getChars_ba4f3 83 = .ok (.baload, 1) := by decide +kernel
theorem dJ6_getChars_ba4f3_84 : decode cJ6_getChars_ba4f3 84 = .ok (.bastore, 1) := by decide +kernel
theorem dJ6_getChars_ba4f3_85 : decode cJ6_getChars_ba4f3 85 = .ok (.iload_n 0, 1) := by decide +kernel
theorem dJ6_getChars_ba4f3_86 : decode cJ6_getChars_ba4f3 86 = .ok (.bipush (-9), 2) := by decide +kernel
theorem dJ6_getChars_ba4f3_88 : decode cJ6_getChars_ba4f3 88 = .ok (.if_icmp .ge 16, 3) := by decide +kernel
theorem dJ6_getChars_ba4f3_91 : decode cJ6_getChars_ba4f3 91 = .ok (.aload_n 2, 1) := by decide +kernel
theorem dJ6_getChars_ba4f3_92 : decode cJ6_getChars_ba4f3 92 = .ok (.iinc 5 (-1), 3) := by decide +kernel
theorem dJ6_getChars_ba4f3_95 : decode cJ6_getChars_ba4f3 95 = .ok (.iload 5, 2) := by decide +kernel
theorem dJ6_getChars_ba4f3_97 : decode cJ6_getChars_ba4f3 97 = .ok (.getstatic 87, 3) := by decide +kernel
theorem dJ6_getChars_ba4f3_100 : decode cJ6_getChars_ba4f3 100 = .ok (.iload_n 0, 1) := by decide +kernel
theorem dJ6_getChars_ba4f3_101 : decode cJ6_getChars_ba4f3 101 = .ok (.ineg, 1) := by decide +kernel
theorem dJ6_getChars_ba4f3_102 : decode cJ6_getChars_ba4f3 102 = .ok (.baload, 1) := by decide +kernel
theorem dJ6_getChars_ba4f3_103 : decode cJ6_getChars_ba4f3 103 = .ok (.bastore, 1) := by decide +kernel
theorem dJ6_getChars_ba4f3_104 : decode cJ6_getChars_ba4f3 104 = .ok (.iload 6, 2) := by decide +kernel
theorem dJ6_getChars_ba4f3_106 : decode cJ6_getChars_ba4f3 106 = .ok (.ifCond .eq 12, 3) := by decide +kernel
theorem dJ6_getChars_ba4f3_109 : decode cJ6_getChars_ba4f3 109 = .ok (.aload_n 2, 1) := by decide +kernel
theorem dJ6_getChars_ba4f3_110 : decode cJ6_getChars_ba4f3 110 = .ok (.iinc 5 (-1), 3) := by decide +kernel
theorem dJ6_getChars_ba4f3_113 : decode cJ6_getChars_ba4f3 113 = .ok (.iload 5, 2) := by decide +kernel
theorem dJ6_getChars_ba4f3_115 : decode cJ6_getChars_ba4f3 115 = .ok (.bipush 45, 2) := by decide +kernel
theorem dJ6_getChars_ba4f3_117 : decode cJ6_getChars_ba4f3 117 = .ok (.bastore, 1) := by decide +kernel
theorem dJ6_getChars_ba4f3_118 : decode cJ6_getChars_ba4f3 118 = .ok (.iload 5, 2) := by decide +kernel
theorem dJ6_getChars_ba4f3_120 : decode cJ6_getChars_ba4f3 120 = .ok (.ireturn, 1) := by decide +kernel
theorem dJ6_stringSize_0f7a4_0 : decode cJ6_stringSize_0f7a4 0 = .ok (.iconst 1, 1) := by decide +kernel
theorem dJ6_stringSize_0f7a4_1 : decode cJ6_stringSize_0f7a4 1 = .ok (.istore_n 1, 1) := by decide +kernel
theorem dJ6_stringSize_0f7a4_2 : decode cJ6_stringSize_0f7a4 2 = .ok (.iload_n 0, 1) := by decide +kernel
theorem dJ6_stringSize_0f7a4_3 : decode cJ6_stringSize_0f7a4 3 = .ok (.ifCond .lt 8, 3) := by decide +kernel
theorem dJ6_stringSize_0f7a4_6 : decode cJ6_stringSize_0f7a4 6 = .ok (.iconst 0, 1) := by decide +kernel
theorem dJ6_stringSize_0f7a4_7 : decode cJ6_stringSize_0f7a4 7 = .ok (.istore_n 1, 1) := by decide +kernel
theorem dJ6_stringSize_0f7a4_8 : decode cJ6_stringSize_0f7a4 8 = .ok (.iload_n 0, 1) := by decide +kernel
theorem dJ6_stringSize_0f7a4_9 : decode cJ6_stringSize_0f7a4 9 = .ok (.ineg, 1) := by decide +kernel
theorem dJ6_stringSize_0f7a4_10 : decode cJ6_stringSize_0f7a4 10 = .ok (.istore_n 0, 1) := by decide +kernel
theorem dJ6_stringSize_0f7a4_11 : decode cJ6_stringSize_0f7a4 11 = .ok (.bipush (-10), 2) := by decide +kernel
theorem dJ6_stringSize_0f7a4_13 : decode cJ6_stringSize_0f7a4 13 = .ok (.istore_n 2, 1) := by decide +kernel
theorem dJ6_stringSize_0f7a4_14 : decode cJ6_stringSize_0f7a4 14 = .ok (.iconst 1, 1) := by decide +kernel
theorem dJ6_stringSize_0f7a4_15 : decode cJ6_stringSize_0f7a4 15 = .ok (.istore_n 3, 1) := by decide +kernel
theorem dJ6_stringSize_0f7a4_16 : decode cJ6_stringSize_0f7a4 16 = .ok (.iload_n 3, 1) := by decide +kernel
theorem dJ6_stringSize_0f7a4_17 : decode cJ6_stringSize_0f7a4 17 = .ok (.bipush 10, 2) := by decide +kernel
theorem dJ6_stringSize_0f7a4_19 : decode cJ6_stringSize_0f7a4 19 = .ok (.if_icmp .ge 23, 3) := by decide +kernel
theorem dJ6_stringSize_0f7a4_22 : decode cJ6_stringSize_0f7a4 22 = .ok (.iload_n 0, 1) := by decide +kernel
theorem dJ6_stringSize_0f7a4_23 : decode cJ6_stringSize_0f7a4 23 = .ok (.iload_n 2, 1) := by decide +kernel
theorem dJ6_stringSize_0f7a4_24 : decode cJ6_stringSize_0f7a4 24 = .ok (.if_icmp .le 7, 3) := by decide +kernel
theorem dJ6_stringSize_0f7a4_27 : decode cJ6_stringSize_0f7a4 27 = .ok (.iload_n 3, 1) := by decide +kernel
theorem dJ6_stringSize_0f7a4_28 : decode cJ6_stringSize_0f7a4 28 = .ok (.iload_n 1, 1) := by decide +kernel
theorem dJ6_stringSize_0f7a4_29 : decode cJ6_stringSize_0f7a4 29 = .ok (.iadd, 1) := by decide +kernel
theorem dJ6_stringSize_0f7a4_30 : decode cJ6_stringSize_0f7a4 30 = .ok (.ireturn, 1) := by decide +kernel
theorem dJ6_stringSize_0f7a4_31 : decode cJ6_stringSize_0f7a4 31 = .ok (.bipush 10, 2) := by decide +kernel
theorem dJ6_stringSize_0f7a4_33 : decode cJ6_stringSize_0f7a4 33 = .ok (.iload_n 2, 1) := by decide +kernel
theorem dJ6_stringSize_0f7a4_34 : decode cJ6_stringSize_0f7a4 34 = .ok (.imul, 1) := by decide +kernel
theorem dJ6_stringSize_0f7a4_35 : decode cJ6_stringSize_0f7a4 35 = .ok (.istore_n 2, 1) := by decide +kernel
theorem dJ6_stringSize_0f7a4_36 : decode cJ6_stringSize_0f7a4 36 = .ok (.iinc 3 1, 3) := by decide +kernel
theorem dJ6_stringSize_0f7a4_39 : decode cJ6_stringSize_0f7a4 39 = .ok (.goto (-23), 3) := by decide +kernel
theorem dJ6_stringSize_0f7a4_42 : decode cJ6_stringSize_0f7a4 42 = .ok (.bipush 10, 2) := by decide +kernel
theorem dJ6_stringSize_0f7a4_44 : decode cJ6_stringSize_0f7a4 44 = .ok (.iload_n 1, 1) := by decide +kernel
theorem dJ6_stringSize_0f7a4_45 : decode cJ6_stringSize_0f7a4 45 = .ok (.iadd, 1) := by decide +kernel
theorem dJ6_stringSize_0f7a4_46 : decode cJ6_stringSize_0f7a4 46 = .ok (.ireturn, 1) := by decide +kernel
theorem dJ6_bitCount_0f7a4_0 : decode cJ6_bitCount_0f7a4 0 = .ok (.iload_n 0, 1) := by decide +kernel
theorem dJ6_bitCount_0f7a4_1 : decode cJ6_bitCount_0f7a4 1 = .ok (.iload_n 0, 1) := by decide +kernel
theorem dJ6_bitCount_0f7a4_2 : decode cJ6_bitCount_0f7a4 2 = .ok (.iconst 1, 1) := by decide +kernel
theorem dJ6_bitCount_0f7a4_3 : decode cJ6_bitCount_0f7a4 3 = .ok (.iushr, 1) := by decide +kernel
theorem dJ6_bitCount_0f7a4_4 : decode cJ6_bitCount_0f7a4 4 = .ok (.ldc_w 265, 3) := by decide +kernel
theorem dJ6_bitCount_0f7a4_7 : decode cJ6_bitCount_0f7a4 7 = .ok (.iand, 1) := by decide +kernel
theorem dJ6_bitCount_0f7a4_8 : decode cJ6_bitCount_0f7a4 8 = .ok (.isub, 1) := by decide +kernel
theorem dJ6_bitCount_0f7a4_9 : decode cJ6_bitCount_0f7a4 9 = .ok (.istore_n 0, 1) := by decide +kernel
theorem dJ6_bitCount_0f7a4_10 : decode cJ6_bitCount_0f7a4 10 = .ok (.iload_n 0, 1) := by decide +kernel
theorem dJ6_bitCount_0f7a4_11 : decode cJ6_bitCount_0f7a4 11 = .ok (.ldc_w 266, 3) := by decide +kernel
theorem dJ6_bitCount_0f7a4_14 : decode cJ6_bitCount_0f7a4 14 = .ok (.iand, 1) := by decide +kernel
theorem dJ6_bitCount_0f7a4_15 : decode cJ6_bitCount_0f7a4 15 = .ok (.iload_n 0, 1) := by decide +kernel
theorem dJ6_bitCount_0f7a4_16 : decode cJ6_bitCount_0f7a4 16 = .ok (.iconst 2, 1) := by decide +kernel
theorem dJ6_bitCount_0f7a4_17 : decode cJ6_bitCount_0f7a4 17 = .ok (.iushr, 1) := by decide +kernel
theorem dJ6_bitCount_0f7a4_18 : decode cJ6_bitCount_0f7a4 18 = .ok (.ldc_w 266, 3) := by decide +kernel
theorem dJ6_bitCount_0f7a4_21 : decode cJ6_bitCount_0f7a4 21 = .ok (.iand, 1) := by decide +kernel
theorem dJ6_bitCount_0f7a4_22 : decode cJ6_bitCount_0f7a4 22 = .ok (.iadd, 1) := by decide +kernel
theorem dJ6_bitCount_0f7a4_23 : decode cJ6_bitCount_0f7a4 23 = .ok (.istore_n 0, 1) := by decide +kernel
theorem dJ6_bitCount_0f7a4_24 : decode cJ6_bitCount_0f7a4 24 = .ok (.iload_n 0, 1) := by decide +kernel
theorem dJ6_bitCount_0f7a4_25 : decode cJ6_bitCount_0f7a4 25 = .ok (.iload_n 0, 1) := by decide +kernel
theorem dJ6_bitCount_0f7a4_26 : decode cJ6_bitCount_0f7a4 26 = .ok (.iconst 4, 1) := by decide +kernel
theorem dJ6_bitCount_0f7a4_27 : decode cJ6_bitCount_0f7a4 27 = .ok (.iushr, 1) := by decide +kernel
theorem dJ6_bitCount_0f7a4_28 : decode cJ6_bitCount_0f7a4 28 = .ok (.iadd, 1) := by decide +kernel
theorem dJ6_bitCount_0f7a4_29 : decode cJ6_bitCount_0f7a4 29 = .ok (.ldc_w 267, 3) := by decide +kernel
theorem dJ6_bitCount_0f7a4_32 : decode cJ6_bitCount_0f7a4 32 = .ok (.iand, 1) := by decide +kernel
theorem dJ6_bitCount_0f7a4_33 : decode cJ6_bitCount_0f7a4 33 = .ok (.istore_n 0, 1) := by decide +kernel
theorem dJ6_bitCount_0f7a4_34 : decode cJ6_bitCount_0f7a4 34 = .ok (.iload_n 0, 1) := by decide +kernel
theorem dJ6_bitCount_0f7a4_35 : decode cJ6_bitCount_0f7a4 35 = .ok (.iload_n 0, 1) := by decide +kernel
theorem dJ6_bitCount_0f7a4_36 : decode cJ6_bitCount_0f7a4 36 = .ok (.bipush 8, 2) := by decide +kernel
theorem dJ6_bitCount_0f7a4_38 : decode cJ6_bitCount_0f7a4 38 = .ok (.iushr, 1) := by decide +kernel
theorem dJ6_bitCount_0f7a4_39 : decode cJ6_bitCount_0f7a4 39 = .ok (.iadd, 1) := by decide +kernel
theorem dJ6_bitCount_0f7a4_40 : decode cJ6_bitCount_0f7a4 40 = .ok (.istore_n 0, 1) := by decide +kernel
theorem dJ6_bitCount_0f7a4_41 : decode cJ6_bitCount_0f7a4 41 = .ok (.iload_n 0, 1) := by decide +kernel
theorem dJ6_bitCount_0f7a4_42 : decode cJ6_bitCount_0f7a4 42 = .ok (.iload_n 0, 1) := by decide +kernel
theorem dJ6_bitCount_0f7a4_43 : decode cJ6_bitCount_0f7a4 43 = .ok (.bipush 16, 2) := by decide +kernel
theorem dJ6_bitCount_0f7a4_45 : decode cJ6_bitCount_0f7a4 45 = .ok (.iushr, 1) := by decide +kernel
theorem dJ6_bitCount_0f7a4_46 : decode cJ6_bitCount_0f7a4 46 = .ok (.iadd, 1) := by decide +kernel
theorem dJ6_bitCount_0f7a4_47 : decode cJ6_bitCount_0f7a4 47 = .ok (.istore_n 0, 1) := by decide +kernel
theorem dJ6_bitCount_0f7a4_48 : decode cJ6_bitCount_0f7a4 48 = .ok (.iload_n 0, 1) := by decide +kernel
theorem dJ6_bitCount_0f7a4_49 : decode cJ6_bitCount_0f7a4 49 = .ok (.bipush 63, 2) := by decide +kernel
theorem dJ6_bitCount_0f7a4_51 : decode cJ6_bitCount_0f7a4 51 = .ok (.iand, 1) := by decide +kernel
theorem dJ6_bitCount_0f7a4_52 : decode cJ6_bitCount_0f7a4 52 = .ok (.ireturn, 1) := by decide +kernel
theorem dJ9_max_7cf53_0 : decode cJ9_max_7cf53 0 = .ok (.iload_n 0, 1) := by decide +kernel
theorem dJ9_max_7cf53_1 : decode cJ9_max_7cf53 1 = .ok (.iload_n 1, 1) := by decide +kernel
theorem dJ9_max_7cf53_2 : decode cJ9_max_7cf53 2 = .ok (.if_icmp .lt 7, 3) := by decide +kernel
theorem dJ9_max_7cf53_5 : decode cJ9_max_7cf53 5 = .ok (.iload_n 0, 1) := by decide +kernel
theorem dJ9_max_7cf53_6 : decode cJ9_max_7cf53 6 = .ok (.goto 4, 3) := by decide +kernel
theorem dJ9_max_7cf53_9 : decode cJ9_max_7cf53 9 = .ok (.iload_n 1, 1) := by decide +kernel
theorem dJ9_max_7cf53_10 : decode cJ9_max_7cf53 10 = .ok (.ireturn, 1) := by decide +kernel
theorem dJ9_min_7cf53_0 : decode cJ9_min_7cf53 0 = .ok (.iload_n 0, 1) := by decide +kernel
theorem dJ9_min_7cf53_1 : decode cJ9_min_7cf53 1 = .ok (.iload_n 1, 1) := by decide +kernel
theorem dJ9_min_7cf53_2 : decode cJ9_min_7cf53 2 = .ok (.if_icmp .gt 7, 3) := by decide +kernel
theorem dJ9_min_7cf53_5 : decode cJ9_min_7cf53 5 = .ok (.iload_n 0, 1) := by decide +kernel
theorem dJ9_min_7cf53_6 : decode cJ9_min_7cf53 6 = .ok (.goto 4, 3) := by decide +kernel
theorem dJ9_min_7cf53_9 : decode cJ9_min_7cf53 9 = .ok (.iload_n 1, 1) := by decide +kernel
theorem dJ9_min_7cf53_10 : decode cJ9_min_7cf53 10 = .ok (.ireturn, 1) := by decide +kernel
theorem dJ0_checkIndex_df160_0 : decode cJ0_checkIndex_df160 0 = .ok (.iload_n 0, 1) := by decide +kernel
theorem dJ0_checkIndex_df160_1 : decode cJ0_checkIndex_df160 1 = .ok (.iload_n 1, 1) := by decide +kernel
theorem dJ0_checkIndex_df160_2 : decode cJ0_checkIndex_df160 2 = .ok (.getstatic 1053, 3) := by decide +kernel
theorem dJ0_checkIndex_df160_5 : decode cJ0_checkIndex_df160 5 = .ok (.invokestatic 1059, 3) := by decide +kernel
theorem dJ0_checkIndex_df160_8 : decode cJ0_checkIndex_df160 8 = .ok (.pop, 1) := by decide +kernel
theorem dJ0_checkIndex_df160_9 : decode cJ0_checkIndex_df160 9 = .ok (.return_, 1) := by decide +kernel
theorem dJ0_checkBoundsOffCount_cabcc_0 : decode cJ0_checkBoundsOffCount_cabcc 0 = .ok (.iload_n 0, 1) := by decide +kernel
theorem dJ0_checkBoundsOffCount_cabcc_1 : decode cJ0_checkBoundsOffCount_cabcc 1 = .ok (.iload_n 1, 1) := by decide +kernel
theorem dJ0_checkBoundsOffCount_cabcc_2 : decode cJ0_checkBoundsOffCount_cabcc 2 = .ok (.iload_n 2, 1) := by decide +kernel
theorem dJ0_checkBoundsOffCount_cabcc_3 : decode cJ0_checkBoundsOffCount_cabcc 3 = .ok (.getstatic 1053, 3) := by decide +kernel
theorem dJ0_checkBoundsOffCount_cabcc_6 : decode cJ0_checkBoundsOffCount_cabcc 6 = .ok (.invokestatic 1065, 3) := by decide +kernel
theorem dJ0_checkBoundsOffCount_cabcc_9 : decode cJ0_checkBoundsOffCount_cabcc 9 = .ok (.ireturn, 1) := by decide +kernel
theorem dJ0_checkBoundsBeginEnd_23922_0 : decode cJ0_checkBoundsBeginEnd_23922 0 = .ok (.iload_n 0, 1) := by decide +kernel
theorem dJ0_checkBoundsBeginEnd_23922_1 : decode cJ0_checkBoundsBeginEnd_23922 1 = .ok (.iload_n 1, 1) := by decide +kernel
theorem dJ0_checkBoundsBeginEnd_23922_2 : decode cJ0_checkBoundsBeginEnd_23922 2 = .ok (.iload_n 2, 1) := by decide +kernel
theorem dJ0_checkBoundsBeginEnd_23922_3 : decode cJ0_checkBoundsBeginEnd_23922 3 = .ok (.getstatic 1053, 3) := by decide +kernel
theorem dJ0_checkBoundsBeginEnd_23922_6 : decode cJ0_checkBoundsBeginEnd_23922 6 = .ok (.invokestatic 1062, 3) := by decide +kernel
theorem dJ0_checkBoundsBeginEnd_23922_9 : decode cJ0_checkBoundsBeginEnd_23922 9 = .ok (.pop, 1) := by decide +kernel
theorem dJ0_checkBoundsBeginEnd_23922_10 : decode cJ0_checkBoundsBeginEnd_23922 10 = .ok (.return_, 1) := by decide +kernel
theorem dJ4_init_da8c8_0 : decode cJ4_init_da8c8 0 = .ok (.aload_n 0, 1) := by decide +kernel
theorem dJ4_init_da8c8_1 : decode cJ4_init_da8c8 1 = .ok (.bipush 16, 2) := by decide +kernel
theorem dJ4_init_da8c8_3 : decode cJ4_init_da8c8 3 = .ok (.invokespecial 1, 3) := by decide +kernel
theorem dJ4_init_da8c8_6 : decode cJ4_init_da8c8 6 = .ok (.return_, 1) := by decide +kernel
theorem dJ4_append_cf468_0 : decode cJ4_append_cf468 0 = .ok (.aload_n 0, 1) := by decide +kernel
theorem dJ4_append_cf468_1 : decode cJ4_append_cf468 1 = .ok (.iload_n 1, 1) := by decide +kernel
theorem dJ4_append_cf468_2 : decode cJ4_append_cf468 2 = .ok (.invokespecial 50, 3) := by decide +kernel
theorem dJ4_append_cf468_5 : decode cJ4_append_cf468 5 = .ok (.pop, 1) := by decide +kernel
theorem dJ4_append_cf468_6 : decode cJ4_append_cf468 6 = .ok (.aload_n 0, 1) := by decide +kernel
theorem dJ4_append_cf468_7 : decode cJ4_append_cf468 7 = .ok (.areturn, 1) := by decide +kernel
theorem dJ4_append_bf812_0 : decode cJ4_append_bf812 0 = .ok (.aload_n 0, 1) := by decide +kernel
theorem dJ4_append_bf812_1 : decode cJ4_append_bf812 1 = .ok (.iload_n 1, 1) := by decide +kernel
theorem dJ4_append_bf812_2 : decode cJ4_append_bf812 2 = .ok (.invokespecial 53, 3) := by decide +kernel
theorem dJ4_append_bf812_5 : decode cJ4_append_bf812 5 = .ok (.pop, 1) := by decide +kernel
theorem dJ4_append_bf812_6 : decode cJ4_append_bf812 6 = .ok (.aload_n 0, 1) := by decide +kernel
theorem dJ4_append_bf812_7 : decode cJ4_append_bf812 7 = .ok (.areturn, 1) := by decide +kernel
theorem dJ4_charAt_5068e_0 : decode cJ4_charAt_5068e 0 = .ok (.aload_n 0, 1) := by decide +kernel
theorem dJ4_charAt_5068e_1 : decode cJ4_charAt_5068e 1 = .ok (.iload_n 1, 1) := by decide +kernel
theorem dJ4_charAt_5068e_2 : decode cJ4_charAt_5068e 2 = .ok (.invokespecial 329, 3) := by decide +kernel
theorem dJ4_charAt_5068e_5 : decode cJ4_charAt_5068e 5 = .ok (.ireturn, 1) := by decide +kernel
theorem dJ4_length_8abf5_0 : decode cJ4_length_8abf5 0 = .ok (.aload_n 0, 1) := by decide +kernel
theorem dJ4_length_8abf5_1 : decode cJ4_length_8abf5 1 = .ok (.invokespecial 343, 3) := by decide +kernel
theorem dJ4_length_8abf5_4 : decode cJ4_length_8abf5 4 = .ok (.ireturn, 1) := by decide +kernel
theorem dJ1_canEncode_fc78d_0 : decode cJ1_canEncode_fc78d 0 = .ok (.iload_n 0, 1) := by decide +kernel
theorem dJ1_canEncode_fc78d_1 : decode cJ1_canEncode_fc78d 1 = .ok (.sipush 255, 3) := by decide +kernel
theorem dJ1_canEncode_fc78d_4 : decode cJ1_canEncode_fc78d 4 = .ok (.if_icmp .gt 7, 3) := by decide +kernel
theorem dJ1_canEncode_fc78d_7 : decode cJ1_canEncode_fc78d 7 = .ok (.iconst 1, 1) := by decide +kernel
theorem dJ1_canEncode_fc78d_8 : decode cJ1_canEncode_fc78d 8 = .ok (.goto 4, 3) := by decide +kernel
theorem dJ1_canEncode_fc78d_11 : decode cJ1_canEncode_fc78d 11 = .ok (.iconst 0, 1) := by decide +kernel
theorem dJ1_canEncode_fc78d_12 : decode cJ1_canEncode_fc78d 12 = .ok (.ireturn, 1) := by decide +kernel
theorem dJ1_inflate_0e8fd_0 : decode cJ1_inflate_0e8fd 0 = .ok (.aload_n 0, 1) := by decide +kernel
theorem dJ1_inflate_0e8fd_1 : decode cJ1_inflate_0e8fd 1 = .ok (.iload_n 1, 1) := by decide +kernel
theorem dJ1_inflate_0e8fd_2 : decode cJ1_inflate_0e8fd 2 = .ok (.aload_n 2, 1) := by decide +kernel
theorem dJ1_inflate_0e8fd_3 : decode cJ1_inflate_0e8fd 3 = .ok (.iload_n 3, 1) := by decide +kernel
theorem dJ1_inflate_0e8fd_4 : decode cJ1_inflate_0e8fd 4 = .ok (.iload 4, 2) := by decide +kernel
theorem dJ1_inflate_0e8fd_6 : decode cJ1_inflate_0e8fd 6 = .ok (.invokestatic 240, 3) := by decide +kernel
theorem dJ1_inflate_0e8fd_9 : decode cJ1_inflate_0e8fd 9 = .ok (.return_, 1) := by decide +kernel
theorem dJ2_newBytesFor_77867_0 : decode cJ2_newBytesFor_77867 0 = .ok (.iload_n 0, 1) := by decide +kernel
theorem dJ2_newBytesFor_77867_1 : decode cJ2_newBytesFor_77867 1 = .ok (.invokestatic 11, 3) := by decide +kernel
theorem dJ2_newBytesFor_77867_4 : decode cJ2_newBytesFor_77867 4 = .ok (.newarray .byte, 2) := by decide +kernel
theorem dJ2_newBytesFor_77867_6 : decode cJ2_newBytesFor_77867 6 = .ok (.areturn, 1) := by decide +kernel
theorem dJ2_newBytesLength_0f7a4_0 : decode cJ2_newBytesLength_0f7a4 0 = .ok (.iload_n 0, 1) := by decide +kernel
theorem dJ2_newBytesLength_0f7a4_1 : decode cJ2_newBytesLength_0f7a4 1 = .ok (.ifCond .ge 11, 3) := by decide +kernel
theorem dJ2_newBytesLength_0f7a4_4 : decode cJ2_newBytesLength_0f7a4 4 = .ok (.new 17, 3) := by decide +kernel
theorem dJ2_newBytesLength_0f7a4_7 : decode cJ2_newBytesLength_0f7a4 7 = .ok (.dup, 1) := by decide +kernel
theorem dJ2_newBytesLength_0f7a4_8 : decode cJ2_newBytesLength_0f7a4 8 = .ok (.invokespecial 19, 3) := by decide +kernel
theorem dJ2_newBytesLength_0f7a4_11 : decode cJ2_newBytesLength_0f7a4 11 = .ok (.athrow, 1) := by decide +kernel
theorem dJ2_newBytesLength_0f7a4_12 : decode cJ2_newBytesLength_0f7a4 12 = .ok (.iload_n 0, 1) := by decide +kernel
theorem dJ2_newBytesLength_0f7a4_13 : decode cJ2_newBytesLength_0f7a4 13 = .ok (.ldc 20, 2) := by decide +kernel
theorem dJ2_newBytesLength_0f7a4_15 : decode cJ2_newBytesLength_0f7a4 15 = .ok (.if_icmp .lt 40, 3) := by decide +kernel
theorem dJ2_newBytesLength_0f7a4_18 : decode cJ2_newBytesLength_0f7a4 18 = .ok (.new 21, 3) := by decide +kernel
theorem dJ2_newBytesLength_0f7a4_21 : decode cJ2_newBytesLength_0f7a4 21 = .ok (.dup, 1) := by decide +kernel
theorem dJ2_newBytesLength_0f7a4_22 : decode cJ2_newBytesLength_0f7a4 22 = .ok (.new 23, 3) := by decide +kernel
theorem dJ2_newBytesLength_0f7a4_25 : decode cJ2_newBytesLength_0f7a4 25 = .ok (.dup, 1) := by decide +kernel
theorem dJ2_newBytesLength_0f7a4_26 : decode cJ2_newBytesLength_0f7a4 26 = .ok (.invokespecial 25, 3) := by decide +kernel
theorem dJ2_newBytesLength_0f7a4_29 : decode cJ2_newBytesLength_0f7a4 29 = .ok (.ldc 26, 2) := by decide +kernel
theorem dJ2_newBytesLength_0f7a4_31 : decode cJ2_newBytesLength_0f7a4 31 = .ok (.invokevirtual 28, 3) := by decide +kernel
theorem dJ2_newBytesLength_0f7a4_34 : decode cJ2_newBytesLength_0f7a4 34 = .ok (.iload_n 0, 1) := by decide +kernel
theorem dJ2_newBytesLength_0f7a4_35 : decode cJ2_newBytesLength_0f7a4 35 = .ok (.invokevirtual 32, 3) := by decide +kernel
theorem dJ2_newBytesLength_0f7a4_38 : decode cJ2_newBytesLength_0f7a4 38 = .ok (.ldc 35, 2) := by decide +kernel
theorem dJ2_newBytesLength_0f7a4_40 : decode cJ2_newBytesLength_0f7a4 40 = .ok (.invokevirtual 28, 3) := by decide +kernel
theorem dJ2_newBytesLength_0f7a4_43 : decode cJ2_newBytesLength_0f7a4 43 = .ok (.ldc 20, 2) := by decide +kernel
theorem dJ2_newBytesLength_0f7a4_45 : decode cJ2_newBytesLength_0f7a4 45 = .ok (.invokevirtual 32, 3) := by decide +kernel
theorem dJ2_newBytesLength_0f7a4_48 : decode cJ2_newBytesLength_0f7a4 48 = .ok (.invokevirtual 37, 3) := by decide +kernel
theorem dJ2_newBytesLength_0f7a4_51 : decode cJ2_newBytesLength_0f7a4 51 = .ok (.invokespecial 41, 3) := by decide +kernel
theorem dJ2_newBytesLength_0f7a4_54 : decode cJ2_newBytesLength_0f7a4 54 = .ok (.athrow, 1) := by decide +kernel
theorem dJ2_newBytesLength_0f7a4_55 : decode cJ2_newBytesLength_0f7a4 55 = .ok (.iload_n 0, 1) := by decide +kernel
theorem dJ2_newBytesLength_0f7a4_56 : decode cJ2_newBytesLength_0f7a4 56 = .ok (.iconst 1, 1) := by decide +kernel
theorem dJ2_newBytesLength_0f7a4_57 : decode cJ2_newBytesLength_0f7a4 57 = .ok (.ishl, 1) := by decide +kernel
theorem dJ2_newBytesLength_0f7a4_58 : decode cJ2_newBytesLength_0f7a4 58 = .ok (.ireturn, 1) := by decide +kernel
theorem dJ2_putChar_b72d1_0 : decode cJ2_putChar_b72d1 0 = .ok (.getstatic 44, 3) := by decide +kernel
theorem dJ2_putChar_b72d1_3 : decode cJ2_putChar_b72d1 3 = .ok (.ifCond .ne 25, 3) := by decide +kernel
theorem dJ2_putChar_b72d1_6 : decode cJ2_putChar_b72d1 6 = .ok (.iload_n 1, 1) := by decide +kernel
theorem dJ2_putChar_b72d1_7 : decode cJ2_putChar_b72d1 7 = .ok (.ifCond .lt 11, 3) := by decide +kernel
theorem dJ2_putChar_b72d1_10 : decode cJ2_putChar_b72d1 10 = .ok (.iload_n 1, 1) := by decide +kernel
theorem dJ2_putChar_b72d1_11 : decode cJ2_putChar_b72d1 11 = .ok (.aload_n 0, 1) := by decide +kernel
theorem dJ2_putChar_b72d1_12 : decode cJ2_putChar_b72d1 12 = .ok (.invokestatic 48, 3) := by decide +kernel
theorem dJ2_putChar_b72d1_15 : decode cJ2_putChar_b72d1 15 = .ok (.if_icmp .lt 13, 3) := by decide +kernel
theorem dJ2_putChar_b72d1_18 : decode cJ2_putChar_b72d1 18 = .ok (.new 52, 3) := by decide +kernel
theorem dJ2_putChar_b72d1_21 : decode cJ2_putChar_b72d1 21 = .ok (.dup, 1) := by decide +kernel
theorem dJ2_putChar_b72d1_22 : decode cJ2_putChar_b72d1 22 = .ok (.ldc 54, 2) := by decide +kernel
theorem dJ2_putChar_b72d1_24 : decode cJ2_putChar_b72d1 24 = .ok (.invokespecial 56, 3) := by decide +kernel
theorem dJ2_putChar_b72d1_27 : decode cJ2_putChar_b72d1 27 = .ok (.athrow, 1) := by decide +kernel
theorem dJ2_putChar_b72d1_28 : decode cJ2_putChar_b72d1 28 = .ok (.iload_n 1, 1) := by decide +kernel
theorem dJ2_putChar_b72d1_29 : decode cJ2_putChar_b72d1 29 = .ok (.iconst 1, 1) := by decide +kernel
theorem dJ2_putChar_b72d1_30 : decode cJ2_putChar_b72d1 30 = .ok (.ishl, 1) := by decide +kernel
theorem dJ2_putChar_b72d1_31 : decode cJ2_putChar_b72d1 31 = .ok (.istore_n 1, 1) := by decide +kernel
theorem dJ2_putChar_b72d1_32 : decode cJ2_putChar_b72d1 32 = .ok (.aload_n 0, 1) := by decide +kernel
theorem dJ2_putChar_b72d1_33 : decode cJ2_putChar_b72d1 33 = .ok (.iload_n 1, 1) := by decide +kernel
theorem dJ2_putChar_b72d1_34 : decode cJ2_putChar_b72d1 34 = .ok (.iinc 1 1, 3) := by decide +kernel
theorem dJ2_putChar_b72d1_37 : decode cJ2_putChar_b72d1 37 = .ok (.iload_n 2, 1) := by decide +kernel
theorem dJ2_putChar_b72d1_38 : decode cJ2_putChar_b72d1 38 = .ok (.getstatic 59, 3) := by decide +kernel
theorem dJ2_putChar_b72d1_41 : decode cJ2_putChar_b72d1 41 = .ok (.ishr, 1) := by decide +kernel
theorem dJ2_putChar_b72d1_42 : decode cJ2_putChar_b72d1 42 = .ok (.i2b, 1) := by decide +kernel
theorem dJ2_putChar_b72d1_43 : decode cJ2_putChar_b72d1 43 = .ok (.bastore, 1) := by decide +kernel
theorem dJ2_putChar_b72d1_44 : decode cJ2_putChar_b72d1 44 = .ok (.aload_n 0, 1) := by decide +kernel
theorem dJ2_putChar_b72d1_45 : decode cJ2_putChar_b72d1 45 = .ok (.iload_n 1, 1) := by decide +kernel
theorem dJ2_putChar_b72d1_46 : decode cJ2_putChar_b72d1 46 = .ok (.iload_n 2, 1) := by decide +kernel
theorem dJ2_putChar_b72d1_47 : decode cJ2_putChar_b72d1 47 = .ok (.getstatic 63, 3) := by decide +kernel
theorem dJ2_putChar_b72d1_50 : decode cJ2_putChar_b72d1 50 = .ok (.ishr, 1) := by decide +kernel
theorem dJ2_putChar_b72d1_51 : decode cJ2_putChar_b72d1 51 = .ok (.i2b, 1) := by decide +kernel
theorem dJ2_putChar_b72d1_52 : decode cJ2_putChar_b72d1 52 = .ok (.bastore, 1) := by decide +kernel
theorem dJ2_putChar_b72d1_53 : decode cJ2_putChar_b72d1 53 = .ok (.return_, 1) := by decide +kernel
theorem dJ2_getChar_3b067_0 : decode cJ2_getChar_3b067 0 = .ok (.getstatic 44, 3) := by decide +kernel
theorem dJ2_getChar_3b067_3 : decode cJ2_getChar_3b067 3 = .ok (.ifCond .ne 25, 3) := by decide +kernel
theorem dJ2_getChar_3b067_6 : decode cJ2_getChar_3b067 6 = .ok (.iload_n 1, 1) := by decide +kernel
theorem dJ2_getChar_3b067_7 : decode cJ2_getChar_3b067 7 = .ok (.ifCond .lt 11, 3) := by decide +kernel
theorem dJ2_getChar_3b067_10 : decode cJ2_getChar_3b067 10 = .ok (.iload_n 1, 1) := by decide +kernel
theorem dJ2_getChar_3b067_11 : decode cJ2_getChar_3b067 11 = .ok (.aload_n 0, 1) := by decide +kernel
theorem dJ2_getChar_3b067_12 : decode cJ2_getChar_3b067 12 = .ok (.invokestatic 48, 3) := by decide +kernel
theorem dJ2_getChar_3b067_15 : decode cJ2_getChar_3b067 15 = .ok (.if_icmp .lt 13, 3) := by decide +kernel
theorem dJ2_getChar_3b067_18 : decode cJ2_getChar_3b067 18 = .ok (.new 52, 3) := by decide +kernel
theorem dJ2_getChar_3b067_21 : decode cJ2_getChar_3b067 21 = .ok (.dup, 1) := by decide +kernel
theorem dJ2_getChar_3b067_22 : decode cJ2_getChar_3b067 22 = .ok (.ldc 54, 2) := by decide +kernel
theorem dJ2_getChar_3b067_24 : decode cJ2_getChar_3b067 24 = .ok (.invokespecial 56, 3) := by decide +kernel
theorem dJ2_getChar_3b067_27 : decode cJ2_getChar_3b067 27 = .ok (.athrow, 1) := by decide +kernel
theorem dJ2_getChar_3b067_28 : decode cJ2_getChar_3b067 28 = .ok (.iload_n 1, 1) := by decide +kernel
theorem dJ2_getChar_3b067_29 : decode cJ2_getChar_3b067 29 = .ok (.iconst 1, 1) := by decide +kernel
theorem dJ2_getChar_3b067_30 : decode cJ2_getChar_3b067 30 = .ok (.ishl, 1) := by decide +kernel
theorem dJ2_getChar_3b067_31 : decode cJ2_getChar_3b067 31 = .ok (.istore_n 1, 1) := by decide +kernel
theorem dJ2_getChar_3b067_32 : decode cJ2_getChar_3b067 32 = .ok (.aload_n 0, 1) := by decide +kernel
theorem dJ2_getChar_3b067_33 : decode cJ2_getChar_3b067 33 = .ok (.iload_n 1, 1) := by decide +kernel
theorem dJ2_getChar_3b067_34 : decode cJ2_getChar_3b067 34 = .ok (.iinc 1 1, 3) := by decide +kernel
theorem dJ2_getChar_3b067_37 : decode cJ2_getChar_3b067 37 = .ok (.baload, 1) := by decide +kernel
theorem dJ2_getChar_3b067_38 : decode cJ2_getChar_3b067 38 = .ok (.sipush 255, 3) := by decide +kernel
theorem dJ2_getChar_3b067_41 : decode cJ2_getChar_3b067 41 = .ok (.iand, 1) := by decide +kernel
theorem dJ2_getChar_3b067_42 : decode cJ2_getChar_3b067 42 = .ok (.getstatic 59, 3) := by decide +kernel
theorem dJ2_getChar_3b067_45 : decode cJ2_getChar_3b067 45 = .ok (.ishl, 1) := by decide +kernel
theorem dJ2_getChar_3b067_46 : decode cJ2_getChar_3b067 46 = .ok (.aload_n 0, 1) := by decide +kernel
theorem dJ2_getChar_3b067_47 : decode cJ2_getChar_3b067 47 = .ok (.iload_n 1, 1) := by decide +kernel
theorem dJ2_getChar_3b067_48 : decode cJ2_getChar_3b067 48 = .ok (.baload, 1) := by decide +kernel
theorem dJ2_getChar_3b067_49 : decode cJ2_getChar_3b067 49 = .ok (.sipush 255, 3) := by decide +kernel
theorem dJ2_getChar_3b067_52 : decode cJ2_getChar_3b067 52 = .ok (.iand, 1) := by decide +kernel
theorem dJ2_getChar_3b067_53 : decode cJ2_getChar_3b067 53 = .ok (.getstatic 63, 3) := by decide +kernel
theorem dJ2_getChar_3b067_56 : decode cJ2_getChar_3b067 56 = .ok (.ishl, 1) := by decide +kernel
theorem dJ2_getChar_3b067_57 : decode cJ2_getChar_3b067 57 = .ok (.ior, 1) := by decide +kernel
theorem dJ2_getChar_3b067_58 : decode cJ2_getChar_3b067 58 = .ok (.i2c, 1) := by decide +kernel
theorem dJ2_getChar_3b067_59 : decode cJ2_getChar_3b067 59 = .ok (.ireturn, 1) := by decide +kernel
theorem dJ2_length_9d52b_0 : decode cJ2_length_9d52b 0 = .ok (.aload_n 0, 1) := by decide +kernel
theorem dJ2_length_9d52b_1 : decode cJ2_length_9d52b 1 = .ok (.arraylength, 1) := by decide +kernel
theorem dJ2_length_9d52b_2 : decode cJ2_length_9d52b 2 = .ok (.iconst 1, 1) := by decide +kernel
theorem dJ2_length_9d52b_3 : decode cJ2_length_9d52b 3 = .ok (.ishr, 1) := by decide +kernel
theorem dJ2_length_9d52b_4 : decode cJ2_length_9d52b 4 = .ok (.ireturn, 1) := by decide +kernel
theorem dJ2_putCharSB_b72d1_0 : decode cJ2_putCharSB_b72d1 0 = .ok (.iload_n 1, 1) := by decide +kernel
theorem dJ2_putCharSB_b72d1_1 : decode cJ2_putCharSB_b72d1 1 = .ok (.aload_n 0, 1) := by decide +kernel
theorem dJ2_putCharSB_b72d1_2 : decode cJ2_putCharSB_b72d1 2 = .ok (.invokestatic 67, 3) := by decide +kernel
theorem dJ2_putCharSB_b72d1_5 : decode cJ2_putCharSB_b72d1 5 = .ok (.aload_n 0, 1) := by decide +kernel
theorem dJ2_putCharSB_b72d1_6 : decode cJ2_putCharSB_b72d1 6 = .ok (.iload_n 1, 1) := by decide +kernel
theorem dJ2_putCharSB_b72d1_7 : decode cJ2_putCharSB_b72d1 7 = .ok (.iload_n 2, 1) := by decide +kernel
theorem dJ2_putCharSB_b72d1_8 : decode cJ2_putCharSB_b72d1 8 = .ok (.invokestatic 111, 3) := by decide +kernel
theorem dJ2_putCharSB_b72d1_11 : decode cJ2_putCharSB_b72d1 11 = .ok (.return_, 1) := by decide +kernel
theorem dJ2_getChars_46870_0 : decode cJ2_getChars_46870 0 = .ok (.iload_n 1, 1) := by decide +kernel
theorem dJ2_getChars_46870_1 : decode cJ2_getChars_46870 1 = .ok (.iload_n 2, 1) := by decide +kernel
theorem dJ2_getChars_46870_2 : decode cJ2_getChars_46870 2 = .ok (.aload_n 3, 1) := by decide +kernel
theorem dJ2_getChars_46870_3 : decode cJ2_getChars_46870 3 = .ok (.invokestatic 96, 3) := by decide +kernel
theorem dJ2_getChars_46870_6 : decode cJ2_getChars_46870 6 = .ok (.iload_n 0, 1) := by decide +kernel
theorem dJ2_getChars_46870_7 : decode cJ2_getChars_46870 7 = .ok (.iload_n 2, 1) := by decide +kernel
theorem dJ2_getChars_46870_8 : decode cJ2_getChars_46870 8 = .ok (.aload_n 3, 1) := by decide +kernel
theorem dJ2_getChars_46870_9 : decode cJ2_getChars_46870 9 = .ok (.invokestatic 393, 3) := by decide +kernel
theorem dJ2_getChars_46870_12 : decode cJ2_getChars_46870 12 = .ok (.istore 4, 2) := by decide +kernel
theorem dJ2_getChars_46870_14 : decode cJ2_getChars_46870 14 = .ok (.getstatic 44, 3) := by decide +kernel
theorem dJ2_getChars_46870_17 : decode cJ2_getChars_46870 17 = .ok (.ifCond .ne 17, 3) := by decide +kernel
theorem dJ2_getChars_46870_20 : decode cJ2_getChars_46870 20 = .ok (.iload_n 1, 1) := by decide +kernel
theorem dJ2_getChars_46870_21 : decode cJ2_getChars_46870 21 = .ok (.iload 4, 2) := by decide +kernel
theorem dJ2_getChars_46870_23 : decode cJ2_getChars_46870 23 = .ok (.if_icmp .eq 11, 3) := by decide +kernel
theorem dJ2_getChars_46870_26 : decode cJ2_getChars_46870 26 = .ok (.new 52, 3) := by decide +kernel
theorem dJ2_getChars_46870_29 : decode cJ2_getChars_46870 29 = .ok (.dup, 1) := by decide +kernel
theorem dJ2_getChars_46870_30 : decode cJ2_getChars_46870 30 = .ok (.invokespecial 66, 3) := by decide +kernel
theorem dJ2_getChars_46870_33 : decode cJ2_getChars_46870 33 = .ok (.athrow, 1) := by decide +kernel
theorem dJ2_getChars_46870_34 : decode cJ2_getChars_46870 34 = .ok (.iload 4, 2) := by decide +kernel
theorem dJ2_getChars_46870_36 : decode cJ2_getChars_46870 36 = .ok (.ireturn, 1) := by decide +kernel
theorem dJ2_inflate_0e8fd_0 : decode cJ2_inflate_0e8fd 0 = .ok (.iload_n 3, 1) := by decide +kernel
theorem dJ2_inflate_0e8fd_1 : decode cJ2_inflate_0e8fd 1 = .ok (.iload 4, 2) := by decide +kernel
theorem dJ2_inflate_0e8fd_3 : decode cJ2_inflate_0e8fd 3 = .ok (.aload_n 2, 1) := by decide +kernel
theorem dJ2_inflate_0e8fd_4 : decode cJ2_inflate_0e8fd 4 = .ok (.invokestatic 173, 3) := by decide +kernel
theorem dJ2_inflate_0e8fd_7 : decode cJ2_inflate_0e8fd 7 = .ok (.iconst 0, 1) := by decide +kernel
theorem dJ2_inflate_0e8fd_8 : decode cJ2_inflate_0e8fd 8 = .ok (.istore 5, 2) := by decide +kernel
theorem dJ2_inflate_0e8fd_10 : decode cJ2_inflate_0e8fd 10 = .ok (.iload 5, 2) := by decide +kernel
theorem dJ2_inflate_0e8fd_12 : decode cJ2_inflate_0e8fd 12 = .ok (.iload 4, 2) := by decide +kernel
theorem dJ2_inflate_0e8fd_14 : decode cJ2_inflate_0e8fd 14 = .ok (.if_icmp .ge 27, 3) := by decide +kernel
theorem dJ2_inflate_0e8fd_17 : decode cJ2_inflate_0e8fd 17 = .ok (.aload_n 2, 1) := by decide +kernel
theorem dJ2_inflate_0e8fd_18 : decode cJ2_inflate_0e8fd 18 = .ok (.iload_n 3, 1) := by decide +kernel
theorem dJ2_inflate_0e8fd_19 : decode cJ2_inflate_0e8fd 19 = .ok (.iinc 3 1, 3) := by decide +kernel
theorem dJ2_inflate_0e8fd_22 : decode cJ2_inflate_0e8fd 22 = .ok (.aload_n 0, 1) := by decide +kernel
theorem dJ2_inflate_0e8fd_23 : decode cJ2_inflate_0e8fd 23 = .ok (.iload_n 1, 1) := by decide +kernel
theorem dJ2_inflate_0e8fd_24 : decode cJ2_inflate_0e8fd 24 = .ok (.iinc 1 1, 3) := by decide +kernel
theorem dJ2_inflate_0e8fd_27 : decode cJ2_inflate_0e8fd 27 = .ok (.baload, 1) := by decide +kernel
theorem dJ2_inflate_0e8fd_28 : decode cJ2_inflate_0e8fd 28 = .ok (.sipush 255, 3) := by decide +kernel
theorem dJ2_inflate_0e8fd_31 : decode cJ2_inflate_0e8fd 31 = .ok (.iand, 1) := by decide +kernel
theorem dJ2_inflate_0e8fd_32 : decode cJ2_inflate_0e8fd 32 = .ok (.invokestatic 111, 3) := by decide +kernel
theorem dJ2_inflate_0e8fd_35 : decode cJ2_inflate_0e8fd 35 = .ok (.iinc 5 1, 3) := by decide +kernel
theorem dJ2_inflate_0e8fd_38 : decode cJ2_inflate_0e8fd 38 = .ok (.goto (-28), 3) := by decide +kernel
theorem dJ2_inflate_0e8fd_41 : decode cJ2_inflate_0e8fd 41 = .ok (.return_, 1) := by decide +kernel
theorem dJ2_getChars_ba4f3_0 : decode cJ2_getChars_ba4f3 0 = .ok (.iload_n 1, 1) := by decide +kernel
theorem dJ2_getChars_ba4f3_1 : decode cJ2_getChars_ba4f3 1 = .ok (.istore 5, 2) := by decide +kernel
theorem dJ2_getChars_ba4f3_3 : decode cJ2_getChars_ba4f3 3 = .ok (.iload_n 0, 1) := by decide +kernel
theorem dJ2_getChars_ba4f3_4 : decode cJ2_getChars_ba4f3 4 = .ok (.ifCond .ge 7, 3) := by decide +kernel
theorem dJ2_getChars_ba4f3_7 : decode cJ2_getChars_ba4f3 7 = .ok (.iconst 1, 1) := by decide +kernel
theorem dJ2_getChars_ba4f3_8 : decode cJ2_getChars_ba4f3 8 = .ok (.goto 4, 3) := by decide +kernel
theorem dJ2_getChars_ba4f3_11 : decode cJ2_getChars_ba4f3 11 = .ok (.iconst 0, 1) := by decide +kernel
theorem dJ2_getChars_ba4f3_12 : decode cJ2_getChars_ba4f3 12 = .ok (.istore 6, 2) := by decide +kernel
theorem dJ2_getChars_ba4f3_14 : decode cJ2_getChars_ba4f3 14 = .ok (.iload 6, 2) := by decide +kernel
theorem dJ2_getChars_ba4f3_16 : decode cJ2_getChars_ba4f3 16 = .ok (.ifCond .ne 6, 3) := by decide +kernel
theorem dJ2_getChars_ba4f3_19 : decode cJ2_getChars_ba4f3 19 = .ok (.iload_n 0, 1) := by decide +kernel
theorem dJ2_getChars_ba4f3_20 : decode cJ2_getChars_ba4f3 20 = .ok (.ineg, 1) := by decide +kernel
theorem dJ2_getChars_ba4f3_21 : decode cJ2_getChars_ba4f3 21 = .ok (.istore_n 0, 1) := by decide +kernel
theorem dJ2_getChars_ba4f3_22 : decode cJ2_getChars_ba4f3 22 = .ok (.iload_n 0, 1) := by decide +kernel
theorem dJ2_getChars_ba4f3_23 : decode cJ2_getChars_ba4f3 23 = .ok (.bipush (-100), 2) := by decide +kernel
theorem dJ2_getChars_ba4f3_25 : decode cJ2_getChars_ba4f3 25 = .ok (.if_icmp .gt 51, 3) := by decide +kernel
theorem dJ2_getChars_ba4f3_28 : decode cJ2_getChars_ba4f3 28 = .ok (.iload_n 0, 1) := by decide +kernel
theorem dJ2_getChars_ba4f3_29 : decode cJ2_getChars_ba4f3 29 = .ok (.bipush 100, 2) := by decide +kernel
theorem dJ2_getChars_ba4f3_31 : decode cJ2_getChars_ba4f3 31 = .ok (.idiv, 1) := by decide +kernel
theorem dJ2_getChars_ba4f3_32 : decode cJ2_getChars_ba4f3 32 = .ok (.istore_n 3, 1) := by decide +kernel
theorem dJ2_getChars_ba4f3_33 : decode cJ2_getChars_ba4f3 33 = .ok (.iload_n 3, 1) := by decide +kernel
theorem dJ2_getChars_ba4f3_34 : decode cJ2_getChars_ba4f3 34 = .ok (.bipush 100, 2) := by decide +kernel
theorem dJ2_getChars_ba4f3_36 : decode cJ2_getChars_ba4f3 36 = .ok (.imul, 1) := by decide +kernel
theorem dJ2_getChars_ba4f3_37 : decode cJ2_getChars_ba4f3 37 = .ok (.iload_n 0, 1) := by decide +kernel
theorem dJ2_getChars_ba4f3_38 : decode cJ2_getChars_ba4f3 38 = .ok (.isub, 1) := by decide +kernel
theorem dJ2_getChars_ba4f3_39 : decode cJ2_getChars_ba4f3 39 = .ok (.istore 4, 2) := by decide +kernel
theorem dJ2_getChars_ba4f3_41 : decode cJ2_getChars_ba4f3 41 = .ok (.iload_n 3, 1) := by decide +kernel
theorem dJ2_getChars_ba4f3_42 : decode cJ2_getChars_ba4f3 42 = .ok (.istore_n 0, 1) := by decide +kernel
theorem dJ2_getChars_ba4f3_43 : decode cJ2_getChars_ba4f3 43 = .ok (.aload_n 2, 1) := by decide +kernel
theorem dJ2_getChars_ba4f3_44 : decode cJ2_getChars_ba4f3 44 = .ok (.iinc 5 (-1), 3) := by decide +kernel
theorem dJ2_getChars_ba4f3_47 : decode cJ2_getChars_ba4f3 47 = .ok (.iload 5, 2) := by decide +kernel
theorem dJ2_getChars_ba4f3_49 : decode cJ2_getChars_ba4f3 49 = .ok (.getstatic 403, 3) := by decide +kernel
theorem dJ2_getChars_ba4f3_52 : decode cJ2_getChars_ba4f3 52 = .ok (.iload 4, 2) := by decide +kernel
theorem dJ2_getChars_ba4f3_54 : decode cJ2_getChars_ba4f3 54 = .ok (.baload, 1) := by decide +kernel
theorem dJ2_getChars_ba4f3_55 : decode cJ2_getChars_ba4f3 55 = .ok (.invokestatic 111, 3) := by decide +kernel
theorem dJ2_getChars_ba4f3_58 : decode cJ2_getChars_ba4f3 58 = .ok (.aload_n 2, 1) := by decide +kernel
theorem dJ2_getChars_ba4f3_59 : decode cJ2_getChars_ba4f3 59 = .ok (.iinc 5 (-1), 3) := by decide +kernel
theorem dJ2_getChars_ba4f3_62 : decode cJ2_getChars_ba4f3 62 = .ok (.iload 5, 2) := by decide +kernel
theorem dJ2_getChars_ba4f3_64 : decode cJ2_getChars_ba4f3 64 = .ok (.getstatic 407, 3) := by decide +kernel
theorem dJ2_getChars_ba4f3_67 : decode cJ2_getChars_ba4f3 67 = .ok (.iload 4, 2) := by decide +kernel
theorem dJ2_getChars_ba4f3_69 : decode cJ2_getChars_ba4f3 69 = .ok (.baload, 1) := by decide +kernel
theorem dJ2_getChars_ba4f3_70 : decode cJ2_getChars_ba4f3 70 = .ok (.invokestatic 111, 3) := by decide +kernel
theorem dJ2_getChars_ba4f3_73 : decode cJ2_getChars_ba4f3 73 = .ok (.goto (-51), 3) := by decide +kernel
theorem dJ2_getChars_ba4f3_76 : decode cJ2_getChars_ba4f3 76 = .ok (.aload_n 2, 1) := by decide +kernel
theorem dJ2_getChars_ba4f3_77 : decode cJ2_getChars_ba4f3 77 = .ok (.iinc 5 (-1), 3) := by decide +kernel
theorem dJ2_getChars_ba4f3_80 : decode cJ2_getChars_ba4f3 80 = .ok (.iload 5, 2) := by decide +kernel
theorem dJ2_getChars_ba4f3_82 : decode cJ2_getChars_ba4f3 82 = .ok (.getstatic 403, 3) := by decide +kernel
theorem dJ2_getChars_ba4f3_85 : decode cJ2_getChars_ba4f3 85 = .ok (.iload_n 0, 1) := by decide +kernel
theorem dJ2_getChars_ba4f3_86 : decode cJ2_getChars_ba4f3 86 = .ok (.ineg, 1) := by decide +kernel
theorem dJ2_getChars_ba4f3_87 : decode cJ2_getChars_ba4f3 87 = .ok (.baload, 1) := by decide +kernel
theorem dJ2_getChars_ba4f3_88 : decode cJ2_getChars_ba4f3 88 = .ok (.invokestatic 111, 3) := by decide +kernel
theorem dJ2_getChars_ba4f3_91 : decode cJ2_getChars_ba4f3 91 = .ok (.iload_n 0, 1) := by decide +kernel
theorem dJ2_getChars_ba4f3_92 : decode cJ2_getChars_ba4f3 92 = .ok (.bipush (-9), 2) := by decide +kernel
theorem dJ2_getChars_ba4f3_94 : decode cJ2_getChars_ba4f3 94 = .ok (.if_icmp .ge 18, 3) := by decide +kernel
theorem dJ2_getChars_ba4f3_97 : decode cJ2_getChars_ba4f3 97 = .ok (.aload_n 2, 1) := by decide +kernel
theorem dJ2_getChars_ba4f3_98 : decode cJ2_getChars_ba4f3 98 = .ok (.iinc 5 (-1), 3) := by decide +kernel
theorem dJ2_getChars_ba4f3_101 : decode cJ2_getChars_ba4f3 101 = .ok (.iload 5, 2) := by decide +kernel
theorem dJ2_getChars_ba4f3_103 : decode cJ2_getChars_ba4f3 103 = .ok (.getstatic 407, 3) := by decide +kernel
theorem dJ2_getChars_ba4f3_106 : decode cJ2_getChars_ba4f3 106 = .ok (.iload_n 0, 1) := by decide +kernel
theorem dJ2_getChars_ba4f3_107 : decode cJ2_getChars_ba4f3 107 = .ok (.ineg, 1) := by decide +kernel
theorem dJ2_getChars_ba4f3_108 : decode cJ2_getChars_ba4f3 108 = .ok (.baload, 1) := by decide +kernel
theorem dJ2_getChars_ba4f3_109 : decode cJ2_getChars_ba4f3 109 = .ok (.invokestatic 111, 3) := by decide +kernel
theorem dJ2_getChars_ba4f3_112 : decode cJ2_getChars_ba4f3 112 = .ok (.iload 6, 2) := by decide +kernel
theorem dJ2_getChars_ba4f3_114 : decode cJ2_getChars_ba4f3 114 = .ok (.ifCond .eq 14, 3) := by decide +kernel
theorem dJ2_getChars_ba4f3_117 : decode cJ2_getChars_ba4f3 117 = .ok (.aload_n 2, 1) := by decide +kernel
theorem dJ2_getChars_ba4f3_118 : decode cJ2_getChars_ba4f3 118 = .ok (.iinc 5 (-1), 3) := by decide +kernel
theorem dJ2_getChars_ba4f3_121 : decode cJ2_getChars_ba4f3 121 = .ok (.iload 5, 2) := by decide +kernel
theorem dJ2_getChars_ba4f3_123 : decode cJ2_getChars_ba4f3 123 = .ok (.bipush 45, 2) := by decide +kernel
theorem dJ2_getChars_ba4f3_125 : decode cJ2_getChars_ba4f3 125 = .ok (.invokestatic 111, 3) := by decide +kernel
theorem dJ2_getChars_ba4f3_128 : decode cJ2_getChars_ba4f3 128 = .ok (.iload 5, 2) := by decide +kernel
theorem dJ2_getChars_ba4f3_130 : decode cJ2_getChars_ba4f3 130 = .ok (.ireturn, 1) := by decide +kernel
theorem dJ2_checkIndex_2214a_0 : decode cJ2_checkIndex_2214a 0 = .ok (.iload_n 0, 1) := by decide +kernel
theorem dJ2_checkIndex_2214a_1 : decode cJ2_checkIndex_2214a 1 = .ok (.aload_n 1, 1) := by decide +kernel
theorem dJ2_checkIndex_2214a_2 : decode cJ2_checkIndex_2214a 2 = .ok (.invokestatic 48, 3) := by decide +kernel
theorem dJ2_checkIndex_2214a_5 : decode cJ2_checkIndex_2214a 5 = .ok (.invokestatic 414, 3) := by decide +kernel
theorem dJ2_checkIndex_2214a_8 : decode cJ2_checkIndex_2214a 8 = .ok (.return_, 1) := by decide +kernel
theorem dJ2_checkBoundsBeginEnd_d044e_0 : decode cJ2_checkBoundsBeginEnd_d044e 0 = .ok (.iload_n 0, 1) := by decide +kernel
theorem dJ2_checkBoundsBeginEnd_d044e_1 : decode cJ2_checkBoundsBeginEnd_d044e 1 = .ok (.iload_n 1, 1) := by decide +kernel
theorem dJ2_checkBoundsBeginEnd_d044e_2 : decode cJ2_checkBoundsBeginEnd_d044e 2 = .ok (.aload_n 2, 1) := by decide +kernel
theorem dJ2_checkBoundsBeginEnd_d044e_3 : decode cJ2_checkBoundsBeginEnd_d044e 3 = .ok (.invokestatic 48, 3) := by decide +kernel
theorem dJ2_checkBoundsBeginEnd_d044e_6 : decode cJ2_checkBoundsBeginEnd_d044e 6 = .ok (.invokestatic 241, 3) := by decide +kernel
theorem dJ2_checkBoundsBeginEnd_d044e_9 : decode cJ2_checkBoundsBeginEnd_d044e 9 = .ok (.return_, 1) := by decide +kernel
theorem dJ2_checkBoundsOffCount_d044e_0 : decode cJ2_checkBoundsOffCount_d044e 0 = .ok (.iload_n 0, 1) := by decide +kernel
theorem dJ2_checkBoundsOffCount_d044e_1 : decode cJ2_checkBoundsOffCount_d044e 1 = .ok (.iload_n 1, 1) := by decide +kernel
theorem dJ2_checkBoundsOffCount_d044e_2 : decode cJ2_checkBoundsOffCount_d044e 2 = .ok (.aload_n 2, 1) := by decide +kernel
theorem dJ2_checkBoundsOffCount_d044e_3 : decode cJ2_checkBoundsOffCount_d044e 3 = .ok (.invokestatic 48, 3) := by decide +kernel
theorem dJ2_checkBoundsOffCount_d044e_6 : decode cJ2_checkBoundsOffCount_d044e 6 = .ok (.invokestatic 419, 3) := by decide +kernel
theorem dJ2_checkBoundsOffCount_d044e_9 : decode cJ2_checkBoundsOffCount_d044e 9 = .ok (.pop, 1) := by decide +kernel
theorem dJ2_checkBoundsOffCount_d044e_10 : decode cJ2_checkBoundsOffCount_d044e 10 = .ok (.return_, 1) := by decide +kernel
theorem dJ7_fill_53178_0 : decode cJ7_fill_53178 0 = .ok (.iconst 0, 1) := by decide +kernel
theorem dJ7_fill_53178_1 : decode cJ7_fill_53178 1 = .ok (.istore_n 2, 1) := by decide +kernel
theorem dJ7_fill_53178_2 : decode cJ7_fill_53178 2 = .ok (.aload_n 0, 1) := by decide +kernel
theorem dJ7_fill_53178_3 : decode cJ7_fill_53178 3 = .ok (.arraylength, 1) := by decide +kernel
theorem dJ7_fill_53178_4 : decode cJ7_fill_53178 4 = .ok (.istore_n 3, 1) := by decide +kernel
theorem dJ7_fill_53178_5 : decode cJ7_fill_53178 5 = .ok (.iload_n 2, 1) := by decide +kernel
theorem dJ7_fill_53178_6 : decode cJ7_fill_53178 6 = .ok (.iload_n 3, 1) := by decide +kernel
theorem dJ7_fill_53178_7 : decode cJ7_fill_53178 7 = .ok (.if_icmp .ge 13, 3) := by decide +kernel
theorem dJ7_fill_53178_10 : decode cJ7_fill_53178 10 = .ok (.aload_n 0, 1) := by decide +kernel
theorem dJ7_fill_53178_11 : decode cJ7_fill_53178 11 = .ok (.iload_n 2, 1) := by decide +kernel
theorem dJ7_fill_53178_12 : decode cJ7_fill_53178 12 = .ok (.iload_n 1, 1) := by decide +kernel
theorem dJ7_fill_53178_13 : decode cJ7_fill_53178 13 = .ok (.iastore, 1) := by decide +kernel
theorem dJ7_fill_53178_14 : decode cJ7_fill_53178 14 = .ok (.iinc 2 1, 3) := by decide +kernel
theorem dJ7_fill_53178_17 : decode cJ7_fill_53178 17 = .ok (.goto (-12), 3) := by decide +kernel
theorem dJ7_fill_53178_20 : decode cJ7_fill_53178 20 = .ok (.return_, 1) := by decide +kernel
theorem dJ7_copyOf_9075b_0 : decode cJ7_copyOf_9075b 0 = .ok (.iload_n 1, 1) := by decide +kernel
theorem dJ7_copyOf_9075b_1 : decode cJ7_copyOf_9075b 1 = .ok (.aload_n 0, 1) := by decide +kernel
theorem dJ7_copyOf_9075b_2 : decode cJ7_copyOf_9075b 2 = .ok (.arraylength, 1) := by decide +kernel
theorem dJ7_copyOf_9075b_3 : decode cJ7_copyOf_9075b 3 = .ok (.if_icmp .ne 11, 3) := by decide +kernel
theorem dJ7_copyOf_9075b_6 : decode cJ7_copyOf_9075b 6 = .ok (.aload_n 0, 1) := by decide +kernel
theorem dJ7_copyOf_9075b_7 : decode cJ7_copyOf_9075b 7 = .ok (.invokevirtual 310, 3) := by decide +kernel
theorem dJ7_copyOf_9075b_10 : decode cJ7_copyOf_9075b 10 = .ok (.checkcast 311, 3) := by decide +kernel
theorem dJ7_copyOf_9075b_13 : decode cJ7_copyOf_9075b 13 = .ok (.areturn, 1) := by decide +kernel
theorem dJ7_copyOf_9075b_14 : decode cJ7_copyOf_9075b 14 = .ok (.iload_n 1, 1) := by decide +kernel
theorem dJ7_copyOf_9075b_15 : decode cJ7_copyOf_9075b 15 = .ok (.newarray .byte, 2) := by decide +kernel
theorem dJ7_copyOf_9075b_17 : decode cJ7_copyOf_9075b 17 = .ok (.astore_n 2, 1) := by decide +kernel
theorem dJ7_copyOf_9075b_18 : decode cJ7_copyOf_9075b 18 = .ok (.aload_n 0, 1) := by decide +kernel
theorem dJ7_copyOf_9075b_19 : decode cJ7_copyOf_9075b 19 = .ok (.iconst 0, 1) := by decide +kernel
theorem dJ7_copyOf_9075b_20 : decode cJ7_copyOf_9075b 20 = .ok (.aload_n 2, 1) := by decide +kernel
theorem dJ7_copyOf_9075b_21 : decode cJ7_copyOf_9075b 21 = .ok (.iconst 0, 1) := by decide +kernel
theorem dJ7_copyOf_9075b_22 : decode cJ7_copyOf_9075b 22 = .ok (.aload_n 0, 1) := by decide +kernel
theorem dJ7_copyOf_9075b_23 : decode cJ7_copyOf_9075b 23 = .ok (.arraylength, 1) := by decide +kernel
theorem dJ7_copyOf_9075b_24 : decode cJ7_copyOf_9075b 24 = .ok (.iload_n 1, 1) := by decide +kernel
theorem dJ7_copyOf_9075b_25 : decode cJ7_copyOf_9075b 25 = .ok (.invokestatic 304, 3) := by decide +kernel
theorem dJ7_copyOf_9075b_28 : decode cJ7_copyOf_9075b 28 = .ok (.invokestatic 150, 3) := by decide +kernel
theorem dJ7_copyOf_9075b_31 : decode cJ7_copyOf_9075b 31 = .ok (.aload_n 2, 1) := by decide +kernel
theorem dJ7_copyOf_9075b_32 : decode cJ7_copyOf_9075b 32 = .ok (.areturn, 1) := by decide +kernel
theorem dJ8_newLength_cabcc_0 : decode cJ8_newLength_cabcc 0 = .ok (.iload_n 0, 1) := by decide +kernel
theorem dJ8_newLength_cabcc_1 : decode cJ8_newLength_cabcc 1 = .ok (.iload_n 1, 1) := by decide +kernel
theorem dJ8_newLength_cabcc_2 : decode cJ8_newLength_cabcc 2 = .ok (.iload_n 2, 1) := by decide +kernel
theorem dJ8_newLength_cabcc_3 : decode cJ8_newLength_cabcc 3 = .ok (.invokestatic 194, 3) := by decide +kernel
theorem dJ8_newLength_cabcc_6 : decode cJ8_newLength_cabcc 6 = .ok (.iadd, 1) := by decide +kernel
theorem dJ8_newLength_cabcc_7 : decode cJ8_newLength_cabcc 7 = .ok (.istore_n 3, 1) := by decide +kernel
theorem dJ8_newLength_cabcc_8 : decode cJ8_newLength_cabcc 8 = .ok (.iconst 0, 1) := by decide +kernel
theorem dJ8_newLength_cabcc_9 : decode cJ8_newLength_cabcc 9 = .ok (.iload_n 3, 1) := by decide +kernel
theorem dJ8_newLength_cabcc_10 : decode cJ8_newLength_cabcc 10 = .ok (.if_icmp .ge 11, 3) := by decide +kernel
theorem dJ8_newLength_cabcc_13 : decode cJ8_newLength_cabcc 13 = .ok (.iload_n 3, 1) := by decide +kernel
theorem dJ8_newLength_cabcc_14 : decode cJ8_newLength_cabcc 14 = .ok (.ldc 200, 2) := by decide +kernel
theorem dJ8_newLength_cabcc_16 : decode cJ8_newLength_cabcc 16 = .ok (.if_icmp .gt 5, 3) := by decide +kernel
theorem dJ8_newLength_cabcc_19 : decode cJ8_newLength_cabcc 19 = .ok (.iload_n 3, 1) := by decide +kernel
theorem dJ8_newLength_cabcc_20 : decode cJ8_newLength_cabcc 20 = .ok (.ireturn, 1) := by decide +kernel
theorem dJ8_newLength_cabcc_21 : decode cJ8_newLength_cabcc 21 = .ok (.iload_n 0, 1) := by decide +kernel
theorem dJ8_newLength_cabcc_22 : decode cJ8_newLength_cabcc 22 = .ok (.iload_n 1, 1) := by decide +kernel
theorem dJ8_newLength_cabcc_23 : decode cJ8_newLength_cabcc 23 = .ok (.invokestatic 201, 3) := by decide +kernel
theorem dJ8_newLength_cabcc_26 : decode cJ8_newLength_cabcc 26 = .ok (.ireturn, 1) := by decide +kernel
theorem dJ8_hugeLength_7cf53_0 : decode cJ8_hugeLength_7cf53 0 = .ok (.iload_n 0, 1) := by decide +kernel
theorem dJ8_hugeLength_7cf53_1 : decode cJ8_hugeLength_7cf53 1 = .ok (.iload_n 1, 1) := by decide +kernel
theorem dJ8_hugeLength_7cf53_2 : decode cJ8_hugeLength_7cf53 2 = .ok (.iadd, 1) := by decide +kernel
theorem dJ8_hugeLength_7cf53_3 : decode cJ8_hugeLength_7cf53 3 = .ok (.istore_n 2, 1) := by decide +kernel
theorem dJ8_hugeLength_7cf53_4 : decode cJ8_hugeLength_7cf53 4 = .ok (.iload_n 2, 1) := by decide +kernel
theorem dJ8_hugeLength_7cf53_5 : decode cJ8_hugeLength_7cf53 5 = .ok (.ifCond .ge 44, 3) := by decide +kernel
theorem dJ8_hugeLength_7cf53_8 : decode cJ8_hugeLength_7cf53 8 = .ok (.new 204, 3) := by decide +kernel
theorem dJ8_hugeLength_7cf53_11 : decode cJ8_hugeLength_7cf53 11 = .ok (.dup, 1) := by decide +kernel
theorem dJ8_hugeLength_7cf53_12 : decode cJ8_hugeLength_7cf53 12 = .ok (.new 89, 3) := by decide +kernel
theorem dJ8_hugeLength_7cf53_15 : decode cJ8_hugeLength_7cf53 15 = .ok (.dup, 1) := by decide +kernel
theorem dJ8_hugeLength_7cf53_16 : decode cJ8_hugeLength_7cf53 16 = .ok (.invokespecial 91, 3) := by decide +kernel
theorem dJ8_hugeLength_7cf53_19 : decode cJ8_hugeLength_7cf53 19 = .ok (.ldc 206, 2) := by decide +kernel
theorem dJ8_hugeLength_7cf53_21 : decode cJ8_hugeLength_7cf53 21 = .ok (.invokevirtual 94, 3) := by decide +kernel
theorem dJ8_hugeLength_7cf53_24 : decode cJ8_hugeLength_7cf53 24 = .ok (.iload_n 0, 1) := by decide +kernel
theorem dJ8_hugeLength_7cf53_25 : decode cJ8_hugeLength_7cf53 25 = .ok (.invokevirtual 98, 3) := by decide +kernel
theorem dJ8_hugeLength_7cf53_28 : decode cJ8_hugeLength_7cf53 28 = .ok (.ldc 208, 2) := by decide +kernel
theorem dJ8_hugeLength_7cf53_30 : decode cJ8_hugeLength_7cf53 30 = .ok (.invokevirtual 94, 3) := by decide +kernel
theorem dJ8_hugeLength_7cf53_33 : decode cJ8_hugeLength_7cf53 33 = .ok (.iload_n 1, 1) := by decide +kernel
theorem dJ8_hugeLength_7cf53_34 : decode cJ8_hugeLength_7cf53 34 = .ok (.invokevirtual 98, 3) := by decide +kernel
theorem dJ8_hugeLength_7cf53_37 : decode cJ8_hugeLength_7cf53 37 = .ok (.ldc 210, 2) := by decide +kernel
theorem dJ8_hugeLength_7cf53_39 : decode cJ8_hugeLength_7cf53 39 = .ok (.invokevirtual 94, 3) := by decide +kernel
theorem dJ8_hugeLength_7cf53_42 : decode cJ8_hugeLength_7cf53 42 = .ok (.invokevirtual 101, 3) := by decide +kernel
theorem dJ8_hugeLength_7cf53_45 : decode cJ8_hugeLength_7cf53 45 = .ok (.invokespecial 212, 3) := by decide +kernel
theorem dJ8_hugeLength_7cf53_48 : decode cJ8_hugeLength_7cf53 48 = .ok (.athrow, 1) := by decide +kernel
theorem dJ8_hugeLength_7cf53_49 : decode cJ8_hugeLength_7cf53 49 = .ok (.iload_n 2, 1) := by decide +kernel
theorem dJ8_hugeLength_7cf53_50 : decode cJ8_hugeLength_7cf53 50 = .ok (.ldc 200, 2) := by decide +kernel
theorem dJ8_hugeLength_7cf53_52 : decode cJ8_hugeLength_7cf53 52 = .ok (.if_icmp .gt 6, 3) := by decide +kernel
theorem dJ8_hugeLength_7cf53_55 : decode cJ8_hugeLength_7cf53 55 = .ok (.ldc 200, 2) := by decide +kernel
theorem dJ8_hugeLength_7cf53_57 : decode cJ8_hugeLength_7cf53 57 = .ok (.ireturn, 1) := by decide +kernel
theorem dJ8_hugeLength_7cf53_58 : decode cJ8_hugeLength_7cf53 58 = .ok (.iload_n 2, 1) := by decide +kernel
theorem dJ8_hugeLength_7cf53_59 : decode cJ8_hugeLength_7cf53 59 = .ok (.ireturn, 1) := by decide +kernel
theorem dJ3_checkIndex_8e157_0 : decode cJ3_checkIndex_8e157 0 = .ok (.iload_n 0, 1) := by decide +kernel
theorem dJ3_checkIndex_8e157_1 : decode cJ3_checkIndex_8e157 1 = .ok (.ifCond .lt 8, 3) := by decide +kernel
theorem dJ3_checkIndex_8e157_4 : decode cJ3_checkIndex_8e157 4 = .ok (.iload_n 0, 1) := by decide +kernel
theorem dJ3_checkIndex_8e157_5 : decode cJ3_checkIndex_8e157 5 = .ok (.iload_n 1, 1) := by decide +kernel
theorem dJ3_checkIndex_8e157_6 : decode cJ3_checkIndex_8e157 6 = .ok (.if_icmp .lt 10, 3) := by decide +kernel
theorem dJ3_checkIndex_8e157_9 : decode cJ3_checkIndex_8e157 9 = .ok (.aload_n 2, 1) := by decide +kernel
theorem dJ3_checkIndex_8e157_10 : decode cJ3_checkIndex_8e157 10 = .ok (.iload_n 0, 1) := by decide +kernel
theorem dJ3_checkIndex_8e157_11 : decode cJ3_checkIndex_8e157 11 = .ok (.iload_n 1, 1) := by decide +kernel
theorem dJ3_checkIndex_8e157_12 : decode cJ3_checkIndex_8e157 12 = .ok (.invokestatic 95, 3) := by decide +kernel
theorem dJ3_checkIndex_8e157_15 : decode cJ3_checkIndex_8e157 15 = .ok (.athrow, 1) := by decide +kernel
theorem dJ3_checkIndex_8e157_16 : decode cJ3_checkIndex_8e157 16 = .ok (.iload_n 0, 1) := by decide +kernel
theorem dJ3_checkIndex_8e157_17 : decode cJ3_checkIndex_8e157 17 = .ok (.ireturn, 1) := by decide +kernel
theorem dJ3_checkFromToIndex_8c36e_0 : decode cJ3_checkFromToIndex_8c36e 0 = .ok (.iload_n 0, 1) := by decide +kernel
theorem dJ3_checkFromToIndex_8c36e_1 : decode cJ3_checkFromToIndex_8c36e 1 = .ok (.ifCond .lt 13, 3) := by decide +kernel
theorem dJ3_checkFromToIndex_8c36e_4 : decode cJ3_checkFromToIndex_8c36e 4 = .ok (.iload_n 0, 1) := by decide +kernel
theorem dJ3_checkFromToIndex_8c36e_5 : decode cJ3_checkFromToIndex_8c36e 5 = .ok (.iload_n 1, 1) := by decide +kernel
theorem dJ3_checkFromToIndex_8c36e_6 : decode cJ3_checkFromToIndex_8c36e 6 = .ok (.if_icmp .gt 8, 3) := by decide +kernel
theorem dJ3_checkFromToIndex_8c36e_9 : decode cJ3_checkFromToIndex_8c36e 9 = .ok (.iload_n 1, 1) := by decide +kernel
theorem dJ3_checkFromToIndex_8c36e_10 : decode cJ3_checkFromToIndex_8c36e 10 = .ok (.iload_n 2, 1) := by decide +kernel
theorem dJ3_checkFromToIndex_8c36e_11 : decode cJ3_checkFromToIndex_8c36e 11 = .ok (.if_icmp .le 11, 3) := by decide +kernel
theorem dJ3_checkFromToIndex_8c36e_14 : decode cJ3_checkFromToIndex_8c36e 14 = .ok (.aload_n 3, 1) := by decide +kernel
theorem dJ3_checkFromToIndex_8c36e_15 : decode cJ3_checkFromToIndex_8c36e 15 = .ok (.iload_n 0, 1) := by decide +kernel
theorem dJ3_checkFromToIndex_8c36e_16 : decode cJ3_checkFromToIndex_8c36e 16 = .ok (.iload_n 1, 1) := by decide +kernel
theorem dJ3_checkFromToIndex_8c36e_17 : decode cJ3_checkFromToIndex_8c36e 17 = .ok (.iload_n 2, 1) := by decide +kernel
theorem dJ3_checkFromToIndex_8c36e_18 : decode cJ3_checkFromToIndex_8c36e 18 = .ok (.invokestatic 99, 3) := by decide +kernel
theorem dJ3_checkFromToIndex_8c36e_21 : decode cJ3_checkFromToIndex_8c36e 21 = .ok (.athrow, 1) := by decide +kernel
theorem dJ3_checkFromToIndex_8c36e_22 : decode cJ3_checkFromToIndex_8c36e 22 = .ok (.iload_n 0, 1) := by decide +kernel
theorem dJ3_checkFromToIndex_8c36e_23 : decode cJ3_checkFromToIndex_8c36e 23 = .ok (.ireturn, 1) := by decide +kernel
theorem dJ3_checkFromIndexSize_8c36e_0 : decode cJ3_checkFromIndexSize_8c36e 0 = .ok (.iload_n 2, 1) := by decide +kernel
theorem dJ3_checkFromIndexSize_8c36e_1 : decode cJ3_checkFromIndexSize_8c36e 1 = .ok (.iload_n 0, 1) := by decide +kernel
theorem dJ3_checkFromIndexSize_8c36e_2 : decode cJ3_checkFromIndexSize_8c36e 2 = .ok (.ior, 1) := by decide +kernel
theorem dJ3_checkFromIndexSize_8c36e_3 : decode cJ3_checkFromIndexSize_8c36e 3 = .ok (.iload_n 1, 1) := by decide +kernel
theorem dJ3_checkFromIndexSize_8c36e_4 : decode cJ3_checkFromIndexSize_8c36e 4 = .ok (.ior, 1) := by decide +kernel
theorem dJ3_checkFromIndexSize_8c36e_5 : decode cJ3_checkFromIndexSize_8c36e 5 = .ok (.ifCond .lt 10, 3) := by decide +kernel
theorem dJ3_checkFromIndexSize_8c36e_8 : decode cJ3_checkFromIndexSize_8c36e 8 = .ok (.iload_n 1, 1) := by decide +kernel
theorem dJ3_checkFromIndexSize_8c36e_9 : decode cJ3_checkFromIndexSize_8c36e 9 = .ok (.iload_n 2, 1) := by decide +kernel
theorem dJ3_checkFromIndexSize_8c36e_10 : decode cJ3_checkFromIndexSize_8c36e 10 = .ok (.iload_n 0, 1) := by decide +kernel
theorem dJ3_checkFromIndexSize_8c36e_11 : decode cJ3_checkFromIndexSize_8c36e 11 = .ok (.isub, 1) := by decide +kernel
theorem dJ3_checkFromIndexSize_8c36e_12 : decode cJ3_checkFromIndexSize_8c36e 12 = .ok (.if_icmp .le 11, 3) := by decide +kernel
theorem dJ3_checkFromIndexSize_8c36e_15 : decode cJ3_checkFromIndexSize_8c36e 15 = .ok (.aload_n 3, 1) := by decide +kernel
theorem dJ3_checkFromIndexSize_8c36e_16 : decode cJ3_checkFromIndexSize_8c36e 16 = .ok (.iload_n 0, 1) := by decide +kernel
theorem dJ3_checkFromIndexSize_8c36e_17 : decode cJ3_checkFromIndexSize_8c36e 17 = .ok (.iload_n 1, 1) := by decide +kernel
theorem dJ3_checkFromIndexSize_8c36e_18 : decode cJ3_checkFromIndexSize_8c36e 18 = .ok (.iload_n 2, 1) := by decide +kernel
theorem dJ3_checkFromIndexSize_8c36e_19 : decode cJ3_checkFromIndexSize_8c36e 19 = .ok (.invokestatic 103, 3) := by decide +kernel
theorem dJ3_checkFromIndexSize_8c36e_22 : decode cJ3_checkFromIndexSize_8c36e 22 = .ok (.athrow, 1) := by decide +kernel
theorem dJ3_checkFromIndexSize_8c36e_23 : decode cJ3_checkFromIndexSize_8c36e 23 = .ok (.iload_n 0, 1) := by decide +kernel
theorem dJ3_checkFromIndexSize_8c36e_24 : decode cJ3_checkFromIndexSize_8c36e 24 = .ok (.ireturn, 1) := by decide +kernel
